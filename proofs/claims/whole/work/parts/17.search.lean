/-! the searches over the arrays -/
theorem ns_pl2 {r c b : Nat} (hr : r < 32) (hc : c < 32) (hb : b < 32) : bt (((1 : Int32) <<< (nI r &&& 31)) ||| ((1 : Int32) <<< (nI c &&& 31))) b = true ↔ b = r ∨ b = c := by
  rw [b_or, ns_sh1 hr hb, ns_sh1 hc hb, Bool.or_eq_true, decide_eq_true_eq, decide_eq_true_eq]
section
variable {R C : Nat} {S : Nat → Nat → Prop} {g : Nat → Int32}
theorem ns_ok64 {P : Nat → Int32} (h : ns_ok R C P) : ∀ j, 64 ≤ j → P j = 0 := fun j hj => (h j).2 (fun z => by have := z.1; omega)
theorem ns_pg_cell {x : Nat} {pl : Int32} (hR : R ≤ 8) (hC : C ≤ 8) (hx : ns_cg R C x) (h : ∀ b, b < 32 → (bt pl b = true ↔ b = x / 8 ∨ b = 8 + x % 8)) : ns_pg R C pl := by
  intro b hb z
  obtain ⟨x1, x2, x3⟩ := hx
  rcases (h b hb).mp z with rfl | rfl
  · exact ⟨by omega, fun _ => x2, fun z => by omega⟩
  · exact ⟨by omega, fun z => by omega, fun _ => by omega⟩
def ns_bn (bc : Nat → Int32) : Nat → Nat := fun j => (bc j).toNatClampNeg
def ns_XV (R C : Nat) (S : Nat → Nat → Prop) (g : Nat → Int32) (t f d : Nat) (so ce : Nat → Int32) (pl : Int32) (bc bg : Nat → Int32) : Prop :=
  ∃ A B, so = ns_st f A B ∧ ns_XL R C S g t f A B d (ns_gr bg) (ns_bn bc) ce ∧ ns_pd R C S ce (ns_pb pl) ∧ ns_pg R C pl ∧ ∀ j, j < d → ∃ x, x < 64 ∧ bc j = nI x
theorem ns_XV_depth {t f d x : Nat} {so ce ce' bc bg : Nat → Int32} {pl : Int32} (h : ns_XV R C S g t f d so ce pl bc bg) (hc : ns_cls R C S ce') (hl : ns_le ce ce') (hx : ns_cg R C x) (h0 : ce' x = 0) : d < 64 := by
  obtain ⟨A, B, _, hL, _⟩ := h
  have := ns_XI_depth (ns_XI_settle hL.1 hc.1 hl) hx h0
  have := hx.1
  omega
theorem ns_XV_branch {t f d x : Nat} {so ce ce' bc bg bg' : Nat → Int32} {pl pl' : Int32} (hS : ∀ a p, S a p → p < 256) (hR : R ≤ 8) (hC : C ≤ 8) (h : ns_XV R C S g t f d so ce pl bc bg)
    (hc : ns_cls R C S ce') (hl : ns_le ce ce') (hb : ns_blw R C S ce ce') (hx : ns_cg R C x) (h0 : ce' x = 0) (hq : ∀ q, q < x → ns_cg R C q → ce' q ≠ 0)
    (hbg1 : ∀ q, q < 64 → bg' (d * 64 + q) = ce' q) (hbg2 : ∀ y, (∀ q, q < 64 → y ≠ d * 64 + q) → bg' y = bg y)
    (hpl : ∀ b, b < 32 → (bt pl' b = true ↔ b = x / 8 ∨ b = 8 + x % 8)) : ns_XV R C S g (t + 1) f (d + 1) so (upd ce' x 1) pl' (upd bc d (nI x)) bg' := by
  obtain ⟨A, B, rfl, hL, _, _, hbc⟩ := h
  have x64 := hx.1
  refine ⟨A, B, rfl, ns_XL_branch hS hR hC hL hc hl hb hx h0 hq (fun j hj => ⟨ns_gr_keep (by omega) hbg2, ?_⟩) (ns_gr_put (ns_ok64 hc.1) hbg1) ?_,
    ns_pd_cell hx hR hC hc ((hpl _ (by omega)).mpr (Or.inl rfl)) ((hpl _ (by omega)).mpr (Or.inr rfl)), ns_pg_cell hR hC hx hpl, fun j hj => ?_⟩
  · show (upd bc d (nI x) j).toNatClampNeg = (bc j).toNatClampNeg
    rw [ns_upd_n (by omega)]
  · show (upd bc d (nI x) d).toNatClampNeg = x
    rw [ns_upd_s, nI_clamp (by omega)]
  · by_cases e : j = d
    · subst e; exact ⟨x, x64, ns_upd_s⟩
    · rw [ns_upd_n e]; exact hbc j (by omega)
/-- after the look at the cells -/
def ns_XM (R C : Nat) (S : Nat → Nat → Prop) (g : Nat → Int32) (t f d : Nat) (so bc bg : Nat → Int32) : Prop :=
  ∃ A B f0 A0 B0 P, so = ns_st f A B ∧ ns_inv (ns_sol R C S g) f A B (fun Z => ∃ j, j < d ∧ ns_le (upd (ns_gr bg j) (ns_bn bc j) 2) Z) ∧
    ns_XL R C S g t f0 A0 B0 d (ns_gr bg) (ns_bn bc) P ∧ ∀ j, j < d → ∃ x, x < 64 ∧ bc j = nI x
theorem ns_XM_bad {t f d : Nat} {so ce bc bg : Nat → Int32} {pl : Int32} (hR : R ≤ 8) (hC : C ≤ 8) (h : ns_XV R C S g t f d so ce pl bc bg) (hb : ∀ Q, ns_cls R C S Q → ¬ ns_le ce Q) : ns_XM R C S g t f d so bc bg ∧ f < 2 := by
  obtain ⟨A, B, e, hL, _, _, hbc⟩ := h
  exact ⟨⟨A, B, f, A, B, ce, e, ns_XL_bad hR hC hL hb, hL, hbc⟩, hL.2.1⟩
theorem ns_XM_sol {t f d : Nat} {so so' ce ce' bc bg : Nat → Int32} {pl : Int32} (hR : R ≤ 8) (hC : C ≤ 8) (h : ns_XV R C S g t f d so ce pl bc bg)
    (hc : ns_cls R C S ce') (hl : ns_le ce ce') (hb : ns_blw R C S ce ce') (hf : ∀ j, ns_cg R C j → ce' j ≠ 0)
    (h1 : ∀ q, q < 64 → so' (f * 64 + q) = ce' q) (h2 : ∀ j, (∀ q, q < 64 → j ≠ f * 64 + q) → so' j = so j) : ns_XM R C S g t (f + 1) d so' bc bg := by
  obtain ⟨A, B, e, hL, _, _, hbc⟩ := h
  exact ⟨_, _, f, A, B, ce, ns_st_put hL.2.1 (ns_ok64 hc.1) h1 (fun j hj => by rw [h2 j hj, e]), ns_XL_sol hR hC hL hc hl hb hf, hL, hbc⟩
/-- the outcome -/
def ns_out (R C : Nat) (S : Nat → Nat → Prop) (g : Nat → Int32) (f : Nat) (so : Nat → Int32) : Prop := ∃ A B, so = ns_st f A B ∧ ns_spec (ns_sol R C S g) f A B
theorem ns_XM_end {t f d : Nat} {so bc bg : Nat → Int32} (h : ns_XM R C S g t f d so bc bg) (z : f = 2 ∨ d = 0) : ns_out R C S g f so := by
  obtain ⟨A, B, f0, A0, B0, P, e, hi, _⟩ := h
  refine ⟨A, B, e, ?_⟩
  rcases z with rfl | rfl
  · exact ns_inv_end2 hi
  · exact ns_inv_end hi (fun Z _ ⟨j, hj, _⟩ => by omega)
theorem ns_XM_top {t f d : Nat} {so bc bg : Nat → Int32} (h : ns_XM R C S g t f (d + 1) so bc bg) : ∃ x, ns_cg R C x ∧ bc d = nI x ∧ ns_bn bc d = x := by
  obtain ⟨A, B, f0, A0, B0, P, e, hi, hL, hbc⟩ := h
  obtain ⟨x, hx, ex⟩ := hbc d (by omega)
  have b : ns_bn bc d = x := by show (bc d).toNatClampNeg = x; rw [ex, nI_clamp (by omega)]
  have fr := hL.1.2.2.1 d (by omega)
  rw [b] at fr
  exact ⟨x, fr.2.2.1, ex, b⟩
theorem ns_XM_pop {t f d x : Nat} {so bc bg : Nat → Int32} {pl : Int32} (hS : ∀ a p, S a p → p < 256) (hR : R ≤ 8) (hC : C ≤ 8) (h : ns_XM R C S g t f (d + 1) so bc bg) (hf : f < 2) (hx : bc d = nI x) (hx2 : ns_cg R C x)
    (hpl : ∀ b, b < 32 → (bt pl b = true ↔ b = x / 8 ∨ b = 8 + x % 8)) : ns_XV R C S g (t + 1) f d so (upd (ns_gr bg d) x 2) pl bc bg := by
  obtain ⟨A, B, f0, A0, B0, P, e, hi, hL, hbc⟩ := h
  have x64 := hx2.1
  have b : ns_bn bc d = x := by show (bc d).toNatClampNeg = x; rw [hx, nI_clamp (by omega)]
  have fr := hL.1.2.2.1 d (by omega)
  have := ns_XL_pop hS hR hC hL hf hi
  rw [b] at this
  exact ⟨A, B, e, this, ns_pd_cell hx2 hR hC fr.1 ((hpl _ (by omega)).mpr (Or.inl rfl)) ((hpl _ (by omega)).mpr (Or.inr rfl)), ns_pg_cell hR hC hx2 hpl, fun j hj => hbc j (by omega)⟩
theorem ns_XV_0 {bc bg : Nat → Int32} {pl : Int32} (hR : R ≤ 8) (hg : ns_ok R C g) (hb : ∀ r, r < R → ns_ct (S r) 256 ≤ 30) (pd : ns_pd R C S g (ns_pb pl)) (pg : ns_pg R C pl) : ns_XV R C S g 0 0 0 (fun _ => 0) g pl bc bg :=
  ⟨fun _ => 0, fun _ => 0, (ns_st_0 _ _).symm, ns_XL_0 _ _ _ _ hR hg hb, pd, pg, fun j hj => absurd hj (by omega)⟩
theorem ns_XV_t {t f d : Nat} {so ce bc bg : Nat → Int32} {pl : Int32} (h : ns_XV R C S g t f d so ce pl bc bg) : t ≤ 2 * 30 ^ 8 := by
  obtain ⟨A, B, _, hL, _⟩ := h
  have := hL.2.2.2.2
  omega
/-- Y's search -/
def ns_YV (R C : Nat) (S : Nat → Nat → Prop) (g : Nat → Int32) (t f d : Nat) (so ce cd : Nat → Int32) : Prop :=
  ∃ A B w, so = ns_st f A B ∧ ns_YL R C S g t f A B d w ∧ (∀ r, r ≤ d → cd r + 1 = nI (w r) ∧ w r ≤ 2 ^ C) ∧ ∀ j, ¬ (j / 8 = d ∧ j % 8 < C) → ce j = ns_gd C g d w j
/-- what nextRow finds: the next value of row d -/
def ns_nx (R C : Nat) (S : Nat → Nat → Prop) (g : Nat → Int32) (d : Nat) (w : Nat → Nat) (v : Nat) : Prop :=
  w d ≤ v ∧ v < 2 ^ C ∧ (∀ u, w d ≤ u → u < v → ns_no R C S g d w u) ∧ (∃ p, ns_vp C v p ∧ ns_cons R C S (ns_gd C g d w) d p) ∧
  ∀ a, 8 ≤ a → ns_ing R C a → ∃ q, ns_cons R C S (ns_gd C g (d + 1) (ns_up w d (v + 1))) a q
theorem ns_YV_none {t f d : Nat} {A B so : Nat → Int32} {w : Nat → Nat} (e : so = ns_st f A B) (h : ns_YL R C S g t f A B 0 w) (hn : ∀ u, w 0 ≤ u → u < 2 ^ C → ns_no R C S g 0 w u) : ns_out R C S g f so :=
  ⟨A, B, e, ns_YL_none h hn⟩
theorem ns_YV_up {t f d : Nat} {A B so cd : Nat → Int32} {w : Nat → Nat} (e : so = ns_st f A B) (h : ns_YL R C S g t f A B (d + 1) w) (hcd : ∀ r, r ≤ d + 1 → cd r + 1 = nI (w r) ∧ w r ≤ 2 ^ C)
    (hn : ∀ u, w (d + 1) ≤ u → u < 2 ^ C → ns_no R C S g (d + 1) w u) : ns_YV R C S g (t + 1) f d so (ns_gd C g (d + 1) w) cd := by
  refine ⟨A, B, w, e, ns_YL_up h hn, fun r hr => hcd r (by omega), fun j hj => ?_⟩
  simp only [ns_gd]
  by_cases z : j / 8 < d ∧ j % 8 < C
  · have c1 : j / 8 < d + 1 ∧ j % 8 < C := ⟨by omega, z.2⟩
    rw [if_pos c1, if_pos z]
  · have c1 : ¬ (j / 8 < d + 1 ∧ j % 8 < C) := by omega
    rw [if_neg c1, if_neg z]
theorem ns_YV_down {t f d v : Nat} {A B so cd cd' : Nat → Int32} {w : Nat → Nat} (hR : R ≤ 8) (hC : C ≤ 8) (hC0 : 0 < C) (hP : ∀ r p q, S r p → S r q → ns_pop (fun i => p.testBit i) 9 = ns_pop (fun i => q.testBit i) 9)
    (e : so = ns_st f A B) (h : ns_YL R C S g t f A B d w) (hcd : ∀ r, r ≤ d → cd r + 1 = nI (w r) ∧ w r ≤ 2 ^ C) (hd : d + 1 < R) (hx : ns_nx R C S g d w v)
    (hcd' : cd' = upd (upd cd d (nI v)) (d + 1) (-1)) : ns_YV R C S g (t + 1) f (d + 1) so (ns_gd C g (d + 1) (ns_up w d (v + 1))) cd' := by
  obtain ⟨h1, h2, h3, ⟨p, h4, h5⟩, h6⟩ := hx
  refine ⟨A, B, ns_up (ns_up w d (v + 1)) (d + 1) 0, e,
    ns_YL_down hR hC hC0 hP h hd h1 h2 h3 h4 h5 (fun r hr => by rw [ns_up_n (by omega), ns_up_n (by omega)]) (by rw [ns_up_n (by omega), ns_up_s]) ns_up_s, fun r hr => ?_, fun j hj => ?_⟩
  · rw [hcd']
    by_cases e1 : r = d + 1
    · subst e1; rw [ns_upd_s, ns_up_s]; exact ⟨by decide, by omega⟩
    · rw [ns_upd_n e1, ns_up_n e1]
      by_cases e2 : r = d
      · subst e2; rw [ns_upd_s, ns_up_s, nI_1]; exact ⟨rfl, by omega⟩
      · rw [ns_upd_n e2, ns_up_n e2]; exact hcd r (by omega)
  · rw [ns_gd_eq (w := ns_up w d (v + 1)) (fun r hr => ns_up_n (by omega))]
/-- the last row is found: a solution -/
theorem ns_YV_last {t f d v : Nat} {A B so so' cd cd' : Nat → Int32} {w : Nat → Nat} (hR : R ≤ 8) (hC : C ≤ 8) (hg : ns_ok R C g)
    (e : so = ns_st f A B) (h : ns_YL R C S g t f A B d w) (hcd : ∀ r, r ≤ d → cd r + 1 = nI (w r) ∧ w r ≤ 2 ^ C) (hd : d + 1 = R) (hx : ns_nx R C S g d w v)
    (hcd' : cd' = upd cd d (nI v)) (h1 : ∀ q, q < 64 → so' (f * 64 + q) = ns_gd C g (d + 1) (ns_up w d (v + 1)) q) (h2 : ∀ j, (∀ q, q < 64 → j ≠ f * 64 + q) → so' j = so j) :
    (f = 1 → ns_out R C S g 2 so') ∧ (f = 0 → ns_YV R C S g (t + 1) 1 d so' (ns_gd C g (d + 1) (ns_up w d (v + 1))) cd') := by
  obtain ⟨x1, x2, x3, ⟨p, x4, x5⟩, x6⟩ := hx
  have key := ns_YL_last (w' := ns_up w d (v + 1)) hR hC hg h hd x1 x2 x3 x4 x5 (fun r hr => ns_up_n (by omega)) ns_up_s (by have x7 := x6; rw [hd] at x7; exact x7)
  obtain ⟨k1, k2, k3⟩ := key
  have ok := ns_gd_ok (w := ns_up w d (v + 1)) (d := d + 1) hR (by omega) hg
  have est := ns_st_put (f := f) (A := A) (B := B) h.2.1 (ns_ok64 ok) h1 (fun j hj => by rw [h2 j hj, e])
  rw [hd] at est ⊢
  constructor
  · intro z
    subst z
    exact ⟨_, _, est, ns_inv_end2 k1⟩
  · intro z
    subst z
    refine ⟨_, _, ns_up w d (v + 1), est, ⟨h.1, by omega, k1, k2, k3⟩, fun r hr => ?_, fun j hj => ?_⟩
    · rw [hcd']
      by_cases e2 : r = d
      · subst e2; rw [ns_upd_s, ns_up_s, nI_1]; exact ⟨rfl, by omega⟩
      · rw [ns_upd_n e2, ns_up_n e2]; exact hcd r hr
    · rw [← hd]; simp only [ns_gd]
      by_cases z : j / 8 < d ∧ j % 8 < C
      · have c1 : j / 8 < d + 1 ∧ j % 8 < C := ⟨by omega, z.2⟩
        rw [if_pos c1, if_pos z]
      · have c1 : ¬ (j / 8 < d + 1 ∧ j % 8 < C) := by omega
        rw [if_neg c1, if_neg z]
theorem ns_YV_0 {cd : Nat → Int32} (hR0 : 0 < R) (hR : R ≤ 8) (hC : C ≤ 8) (hC0 : 0 < C) (hP : ∀ r p q, S r p → S r q → ns_pop (fun i => p.testBit i) 9 = ns_pop (fun i => q.testBit i) 9) (hcd : cd 0 = -1) : ns_YV R C S g 0 0 0 (fun _ => 0) g cd := by
  refine ⟨fun _ => 0, fun _ => 0, fun _ => 0, (ns_st_0 _ _).symm, ns_YL_0 hR0 hR hC hC0 hP rfl, fun r hr => ?_, fun j _ => ?_⟩
  · have : r = 0 := by omega
    subst this; rw [hcd]; exact ⟨by decide, Nat.zero_le _⟩
  · rw [ns_gd_out (by omega)]
theorem ns_out_uniq {f f' : Nat} {so so' : Nat → Int32} (h : ns_out R C S g f so) (h' : ns_out R C S g f' so') : f = f' ∧ so = so' := by
  obtain ⟨A, B, e, s⟩ := h
  obtain ⟨A', B', e', s'⟩ := h'
  have := ns_st_uniq s s'
  rw [e, e']; exact this
theorem ns_out_le {f : Nat} {so : Nat → Int32} (h : ns_out R C S g f so) : f ≤ 2 := by
  obtain ⟨A, B, e, s⟩ := h
  rcases s with ⟨z, _⟩ | ⟨z, _⟩ | ⟨z, _⟩ <;> omega
/-- no solution at all -/
theorem ns_out_0 (h : ∀ Z, ¬ ns_sol R C S g Z) : ns_out R C S g 0 (fun _ => 0) := ⟨fun _ => 0, fun _ => 0, (ns_st_0 _ _).symm, Or.inl ⟨rfl, h⟩⟩
end
theorem ns_XV_ok {R C : Nat} {S : Nat → Nat → Prop} {g : Nat → Int32} {t f d : Nat} {so ce bc bg : Nat → Int32} {pl : Int32} (h : ns_XV R C S g t f d so ce pl bc bg) :
    ns_ok R C ce ∧ ns_pd R C S ce (ns_pb pl) ∧ ns_pg R C pl ∧ f < 2 := by
  obtain ⟨A, B, _, hL, pd, pg, _⟩ := h
  exact ⟨hL.1.1, pd, pg, hL.2.1⟩
theorem ns_XM_e {R C : Nat} {S : Nat → Nat → Prop} {g : Nat → Int32} {t f d : Nat} {so bc bg : Nat → Int32} (h : ns_XM R C S g t f (d + 1) so bc bg) : d < 64 := by
  obtain ⟨x, hx, _, hb⟩ := ns_XM_top h
  obtain ⟨A, B, f0, A0, B0, P, e, hi, hL, hbc⟩ := h
  have := ns_XI_idx hL.1 d (by omega)
  rw [hb] at this
  have := hx.1
  omega
