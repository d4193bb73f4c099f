/-! X: settling -/
section
variable {R C : Nat} {st sv pl : Int32} {cn cl gv kn so fc fl ce bc bg : Nat → Int32}
/-- the lists of fillings stand -/
def xw_ls (R C : Nat) (cn cl fl fc : Nat → Int32) : Prop := ∀ a, ns_ing R C a → ∃ m, fc a = nI m ∧ ns_lst (ns_S R C (ns_cc cn) cl) fl a m
theorem xw_round {post : Int32 → SX → Prop} {J : Int32 → Int32 → Int32 → Int32 → Int32 → Int32 → (Nat → Int32) → (Nat → Int32) → (Nat → Int32) → (Nat → Int32) → (Nat → Int32) → (Nat → Int32) → (Nat → Int32) → (Nat → Int32) → (Nat → Int32) → (Nat → Int32) → Prop} (P0 : Nat → Int32) {rd : Nat} (hR : R ≤ 8) (hC : C ≤ 8) (hls : xw_ls R C cn cl fl fc)
    (hJ : ∀ P pl', ns_OR R C (ns_S R C (ns_cc cn) cl) P0 (rd + 1) P pl' → J (nI (rd + 1)) (nI R) (nI C) st sv pl' cn cl gv kn so fc fl P bc bg)
    (h0 : ∀ P pl', ns_ok R C P → (∀ Q, ns_cls R C (ns_S R C (ns_cc cn) cl) Q → ¬ ns_le P0 Q) → post 0 ((nI R), (nI C), st, sv, pl', cn, cl, gv, kn, so, fc, fl, P, bc, bg)) :
    ∀ n a P pl', a ≤ 16 → 16 < n + a → ns_IR R C (ns_S R C (ns_cc cn) cl) P0 rd a P pl' → wX_settle_17 post J (nI rd) n (nI a) (nI R) (nI C) st sv pl' cn cl gv kn so fc fl P bc bg := by
  intro n
  induction n with
  | zero => intro a P pl' h1 h2; omega
  | succ n ih =>
    intro a P pl' h1 h2 hI
    by_cases h : a = 16
    · subst h
      exact br_t (nI_le (a := 16) (b := 16) (by omega) (by omega)) (nm_r (nI_1 rd) (hJ P pl' (ns_IR_end hI)))
    · refine br_f (nI_ge (b := 16) (by omega) (by omega)) ?_
      cases hb : bt pl' a with
      | false => exact br_f (ns_bit_f (by omega) hb) (nm_r (nI_1 a) (ih (a + 1) P pl' (by omega) (by omega) (ns_IR_skip hI hb)))
      | true =>
        have ing := hI.1.2.2.2.2 a (by omega) hb
        obtain ⟨m, hm, hl⟩ := hls a ing
        refine br_t (ns_bit_t (by omega) hb) (xw_step hR hC ing hm hl (fun P' pl'' ex st pc => ?_) (fun pl'' nx => ?_))
        · exact br_f (by decide) (nm_r (nI_1 a) (ih (a + 1) P' pl'' (by omega) (by omega) (ns_IR_step hR hC ing hI st ex pc)))
        · exact br_t rfl (h0 P pl'' hI.1.1 (ns_res_bad ing hI.1.2.2.1 nx))
theorem xw_rounds {post : Int32 → SX → Prop} (P0 : Nat → Int32) (hR : R ≤ 8) (hC : C ≤ 8) (hls : xw_ls R C cn cl fl fc)
    (h1 : ∀ P, ns_cls R C (ns_S R C (ns_cc cn) cl) P → ns_le P0 P → ns_blw R C (ns_S R C (ns_cc cn) cl) P0 P → post 1 ((nI R), (nI C), st, sv, 0, cn, cl, gv, kn, so, fc, fl, P, bc, bg))
    (h0 : ∀ P pl', ns_ok R C P → (∀ Q, ns_cls R C (ns_S R C (ns_cc cn) cl) Q → ¬ ns_le P0 Q) → post 0 ((nI R), (nI C), st, sv, pl', cn, cl, gv, kn, so, fc, fl, P, bc, bg)) :
    ∀ n rd P pl', rd ≤ 65 → 65 < n + rd → ns_OR R C (ns_S R C (ns_cc cn) cl) P0 rd P pl' → wX_settle_2 post n (nI rd) (nI R) (nI C) st sv pl' cn cl gv kn so fc fl P bc bg := by
  intro n
  induction n with
  | zero => intro rd P pl' a1 a2; omega
  | succ n ih =>
    intro rd P pl' a1 a2 hO
    have fin : (pl' = 0 ∨ 65 ≤ rd) → post 1 ((nI R), (nI C), st, sv, pl', cn, cl, gv, kn, so, fc, fl, P, bc, bg) := fun z => by
      obtain ⟨c, l, b, e⟩ := ns_OR_end hO z
      subst e
      exact h1 P c l b
    by_cases h : rd = 65
    · subst h
      exact br_t (nI_lt (a := 64) (b := 65) (by omega) (by omega)) (fin (Or.inr (by omega)))
    · refine br_f (nI_nlt (a := 64) (by omega) (by omega)) ?_
      by_cases e : pl' = 0
      · exact br_t e (fin (Or.inl e))
      · exact br_f e ⟨17, xw_round P0 hR hC hls (fun P pl' hO' => ih (rd + 1) P pl' (by omega) (by omega) hO') h0 17 0 P pl' (by omega) (by omega) (ns_IR_0 hO e)⟩
theorem xw_settle {post : Int32 → SX → Prop} (hR : R ≤ 8) (hC : C ≤ 8) (hls : xw_ls R C cn cl fl fc) (ok : ns_ok R C ce) (pd : ns_pd R C (ns_S R C (ns_cc cn) cl) ce (ns_pb pl)) (pg : ns_pg R C pl)
    (h1 : ∀ P, ns_cls R C (ns_S R C (ns_cc cn) cl) P → ns_le ce P → ns_blw R C (ns_S R C (ns_cc cn) cl) ce P → post 1 ((nI R), (nI C), st, sv, 0, cn, cl, gv, kn, so, fc, fl, P, bc, bg))
    (h0 : ∀ P pl', ns_ok R C P → (∀ Q, ns_cls R C (ns_S R C (ns_cc cn) cl) Q → ¬ ns_le ce Q) → post 0 ((nI R), (nI C), st, sv, pl', cn, cl, gv, kn, so, fc, fl, P, bc, bg)) : wpX_settle post ((nI R), (nI C), st, sv, pl, cn, cl, gv, kn, so, fc, fl, ce, bc, bg) :=
  ⟨66, xw_rounds ce hR hC hls h1 h0 66 0 ce pl (by omega) (by omega) (ns_OR_0 ok pd pg)⟩
/-- the first unknown cell -/
theorem xw_fst_col {post : Int32 → Prop} {J : Int32 → Prop} {r : Nat} (hR : R ≤ 8) (hC : C ≤ 8) (hr : r < R) (hb : ∀ q, q < r * 8 → ns_cg R C q → ce q ≠ 0)
    (hJ : (∀ q, q < (r + 1) * 8 → ns_cg R C q → ce q ≠ 0) → J (nI (r + 1)))
    (hp : ∀ x, ns_cg R C x → ce x = 0 → (∀ q, q < x → ns_cg R C q → ce q ≠ 0) → post (nI x)) :
    ∀ n c, c ≤ C → C < n + c → (∀ q, q < r * 8 + c → ns_cg R C q → ce q ≠ 0) → wX_firstUnknownCell_12 post J (nI r) (nI R) (nI C) st sv pl cn cl gv kn so fc fl ce bc bg n (nI c) := by
  intro n
  induction n with
  | zero => intro c h1 h2; omega
  | succ n ih =>
    intro c h1 h2 hq
    by_cases h : c = C
    · refine br_t (nI_le (by omega) (by omega)) (nm_r (nI_1 r) (hJ (fun q hq1 hq2 => hq q ?_ hq2)))
      obtain ⟨a1, a2, a3⟩ := hq2
      omega
    · refine br_f (nI_ge (by omega) (by omega)) (nm_r (ns_i8 r c) ⟨vp_in_nI (by omega) (by omega), ?_⟩)
      rw [nI_clamp (by omega)]
      by_cases e : ce (r * 8 + c) = 0
      · exact br_t e (hp _ ⟨by omega, by omega, by omega⟩ e hq)
      · refine br_f e (nm_r (nI_1 c) (ih (c + 1) (by omega) (by omega) (fun q h3 h4 => ?_)))
        by_cases z : q = r * 8 + c
        · subst z; exact e
        · exact hq q (by omega) h4
theorem xw_fst_row {post : Int32 → Prop} (hR : R ≤ 8) (hC : C ≤ 8)
    (hp : ∀ x, ns_cg R C x → ce x = 0 → (∀ q, q < x → ns_cg R C q → ce q ≠ 0) → post (nI x)) (h0 : (∀ q, ns_cg R C q → ce q ≠ 0) → post (-1)) :
    ∀ n r, r ≤ R → R < n + r → (∀ q, q < r * 8 → ns_cg R C q → ce q ≠ 0) → wX_firstUnknownCell_2 post (nI R) (nI C) st sv pl cn cl gv kn so fc fl ce bc bg n (nI r) := by
  intro n
  induction n with
  | zero => intro c h1 h2; omega
  | succ n ih =>
    intro r h1 h2 hq
    by_cases h : r = R
    · exact br_t (nI_le (by omega) (by omega)) (h0 (fun q hc => hq q (by have := hc.2.1; omega) hc))
    · exact br_f (nI_ge (by omega) (by omega)) ⟨C + 1, xw_fst_col hR hC (by omega) hq (fun z => ih (r + 1) (by omega) (by omega) z) hp (C + 1) 0 (by omega) (by omega) (by simpa using hq)⟩
theorem xw_fst {post : Int32 → Prop} (hR : R ≤ 8) (hC : C ≤ 8)
    (hp : ∀ x, ns_cg R C x → ce x = 0 → (∀ q, q < x → ns_cg R C q → ce q ≠ 0) → post (nI x)) (h0 : (∀ q, ns_cg R C q → ce q ≠ 0) → post (-1)) : wpX_firstUnknownCell post ((nI R), (nI C), st, sv, pl, cn, cl, gv, kn, so, fc, fl, ce, bc, bg) :=
  ⟨R + 1, xw_fst_row hR hC hp h0 (R + 1) 0 (by omega) (by omega) (fun q hq => absurd hq (by omega))⟩
/-- X starts from the givens -/
def xw_lk (R C : Nat) (cn cl fl fc : Nat → Int32) (n : Nat) : Prop := ∀ a, a < n → ns_ing R C a → ∃ m, fc a = nI m ∧ ns_lst (ns_S R C (ns_cc cn) cl) fl a m
theorem xw_sg_lines {post : SX → Prop} (hR : R ≤ 8) (hC : C ≤ 8) (hcn : ns_cnt R C cn)
    (hp : ∀ fl' fc' pl', xw_ls R C cn cl fl' fc' → (∀ b, b < 32 → (bt pl' b = true ↔ ns_ing R C b)) → post ((nI R), (nI C), st, sv, pl', cn, cl, gv, kn, so, fc', fl', ce, bc, bg)) :
    ∀ n a fl' fc' pl', a ≤ 16 → 16 < n + a → xw_lk R C cn cl fl' fc' a → (∀ b, b < 32 → (bt pl' b = true ↔ b < a ∧ ns_ing R C b)) → wX_startFromGivens_33 post n (nI a) (nI R) (nI C) st sv pl' cn cl gv kn so fc' fl' ce bc bg := by
  intro n
  induction n with
  | zero => intro a fl' fc' pl' h1 h2; omega
  | succ n ih =>
    intro a fl' fc' pl' h1 h2 hl hb
    by_cases h : a = 16
    · subst h
      refine br_t (nI_le (a := 16) (b := 16) (by omega) (by omega)) (hp fl' fc' pl' (fun a ha => hl a ha.1 ha) (fun b h32 => ?_))
      rw [hb b h32]
      exact ⟨fun z => z.2, fun z => ⟨z.1, z⟩⟩
    · refine br_f (nI_ge (b := 16) (by omega) (by omega)) (xw_ing hR hC (by omega) (fun g => ?_) (fun g => ?_))
      · refine br_f (by decide) (xw_list hR hC (by omega) hcn (fun fl2 m hm hk => nm_e (nm_r (nI_1 a) ?_)))
        refine ih (a + 1) _ _ _ (by omega) (by omega) (fun b hb' gb => ?_) (fun b h32 => ?_)
        · by_cases e : b = a
          · subst e; exact ⟨m, ns_upd_s, hm⟩
          · obtain ⟨mb, e1, e2⟩ := hl b (by omega) gb
            refine ⟨mb, by rw [ns_upd_n e]; exact e1, ns_lst_keep e2 (fun k hk' => hk _ (fun q hq => by omega))⟩
        · rw [b_or, ns_sh1 (by omega) h32, Bool.or_eq_true, decide_eq_true_eq, hb b h32]
          constructor
          · rintro (⟨x, y⟩ | rfl)
            · exact ⟨by omega, y⟩
            · exact ⟨by omega, g⟩
          · rintro ⟨x, y⟩
            by_cases e : b = a
            · exact Or.inr e
            · exact Or.inl ⟨by omega, y⟩
      · refine br_t rfl (nm_r (nI_1 a) (ih (a + 1) fl' fc' pl' (by omega) (by omega) (fun b hb' gb => ?_) (fun b h32 => ?_)))
        · by_cases e : b = a
          · subst e; exact absurd gb g
          · exact hl b (by omega) gb
        · rw [hb b h32]
          constructor
          · rintro ⟨x, y⟩; exact ⟨by omega, y⟩
          · rintro ⟨x, y⟩
            by_cases e : b = a
            · subst e; exact absurd y g
            · exact ⟨by omega, y⟩
theorem xw_sg_copy {post : SX → Prop} (hR : R ≤ 8) (hC : C ≤ 8) (hcn : ns_cnt R C cn)
    (hp : ∀ ce' fl' fc' pl', ns_cp gv ce ce' 64 → xw_ls R C cn cl fl' fc' → (∀ b, b < 32 → (bt pl' b = true ↔ ns_ing R C b)) → post ((nI R), (nI C), st, sv, pl', cn, cl, gv, kn, so, fc', fl', ce', bc, bg)) :
    ∀ n i ce', i ≤ 64 → 64 < n + i → ns_cp gv ce ce' i → wX_startFromGivens_2 post (nI R) (nI C) st sv pl n (nI i) cn cl gv kn so fc fl ce' bc bg := by
  intro n
  induction n with
  | zero => intro i ce' h1 h2; omega
  | succ n ih =>
    intro i ce' h1 h2 hc
    by_cases h : i = 64
    · subst h
      refine br_t (nI_le (a := 64) (b := 64) (by omega) (by omega)) ⟨17, ?_⟩
      exact xw_sg_lines hR hC hcn (fun fl' fc' pl' h1 h2 => hp ce' fl' fc' pl' hc h1 h2) 17 0 fl fc 0 (by omega) (by omega) (fun a ha => absurd ha (by omega)) (fun b _ => by rw [b_0]; exact ⟨(fun z => nomatch z), fun z => absurd z.1 (by omega)⟩)
    · refine br_f (nI_ge (b := 64) (by omega) (by omega)) ⟨vp_in_nI (by omega) (by omega), vp_in_nI (by omega) (by omega), nm_r (e' := upd ce' i (gv i)) (by rw [nI_clamp (by omega)]) (nm_r (nI_1 i) ?_)⟩
      exact ih (i + 1) _ (by omega) (by omega) (ns_cp_s hc rfl)
theorem xw_sg {post : SX → Prop} (hR : R ≤ 8) (hC : C ≤ 8) (hcn : ns_cnt R C cn) (hg : ns_ok R C gv) (h64 : ∀ j, 64 ≤ j → ce j = 0)
    (hp : ∀ fl' fc' pl', xw_ls R C cn cl fl' fc' → ns_pd R C (ns_S R C (ns_cc cn) cl) gv (ns_pb pl') → ns_pg R C pl' → post ((nI R), (nI C), st, sv, pl', cn, cl, gv, kn, so, fc', fl', gv, bc, bg)) : wpX_startFromGivens post ((nI R), (nI C), st, sv, pl, cn, cl, gv, kn, so, fc, fl, ce, bc, bg) := by
  refine ⟨65, xw_sg_copy hR hC hcn (fun ce' fl' fc' pl' hc hl hb => ?_) 65 0 ce (by omega) (by omega) ns_cp_0⟩
  have e : ce' = gv := ns_cp_end hc (fun j hj => by rw [h64 j hj, (hg j).2 (fun z => by have := z.1; omega)])
  rw [e]
  exact hp fl' fc' pl' hl (fun a ha => Or.inl ((hb a (by have := ha.1; omega)).mpr ha)) (fun b h32 z => (hb b h32).mp z)
/-- X's propagate -/
theorem xw_pr_loop {post : Int32 → SX → Prop} {x1 : Int32} (hR : R ≤ 8) (hC : C ≤ 8) (f : Nat → Int32) (hx : (x1 = 0 ∧ f = fun _ => 0) ∨ (x1 = 1 ∧ f = ce))
    (hp : ∀ kn', ns_cp f kn kn' 64 → (x1 = 0 → post 4 ((nI R), (nI C), 4, sv, pl, cn, cl, gv, kn', so, fc, fl, ce, bc, bg)) ∧ (x1 = 1 → ((∀ q, ns_cg R C q → ce q ≠ 0) → post 5 ((nI R), (nI C), 5, sv, pl, cn, cl, gv, kn', so, fc, fl, ce, bc, bg)) ∧ (∀ x, ns_cg R C x → ce x = 0 → post 6 ((nI R), (nI C), 6, sv, pl, cn, cl, gv, kn', so, fc, fl, ce, bc, bg)))) :
    ∀ n i kn', i ≤ 64 → 64 < n + i → ns_cp f kn kn' i → wX_propagate_11 post x1 (nI R) (nI C) st sv pl n (nI i) cn cl gv kn' so fc fl ce bc bg := by
  intro n
  induction n with
  | zero => intro i kn' h1 h2; omega
  | succ n ih =>
    intro i kn' h1 h2 hc
    by_cases h : i = 64
    · subst h
      refine br_t (nI_le (a := 64) (b := 64) (by omega) (by omega)) ?_
      rcases hx with ⟨rfl, _⟩ | ⟨rfl, _⟩
      · exact br_t rfl ((hp kn' hc).1 rfl)
      · refine br_f (by decide) (xw_fst hR hC (fun x hx h0 _ => ?_) (fun hn => ?_))
        · exact br_f (fun z => by
            have := hx.1
            have e : (nI x).toInt = (-1 : Int32).toInt := by rw [z]
            rw [nI_toInt (by omega)] at e
            have e2 : (-1 : Int32).toInt = -1 := by decide
            omega) (((hp kn' hc).2 rfl).2 x hx h0)
        · exact br_t rfl (((hp kn' hc).2 rfl).1 hn)
    · have inx : vp_in (nI i) 64 := vp_in_nI (by omega) (by omega)
      refine br_f (nI_ge (b := 64) (by omega) (by omega)) ?_
      rcases hx with ⟨rfl, rfl⟩ | ⟨rfl, rfl⟩
      · exact br_t rfl ⟨inx, nm_r (ns_uc (by omega)) (nm_r (nI_1 i) (ih (i + 1) _ (by omega) (by omega) (ns_cp_s hc rfl)))⟩
      · exact br_f (by decide) ⟨inx, inx, nm_r (e' := upd kn' i (f i)) (by rw [nI_clamp (by omega)]) (nm_r (nI_1 i) (ih (i + 1) _ (by omega) (by omega) (ns_cp_s hc rfl)))⟩
theorem xw_prop {post : Int32 → SX → Prop} (hR : R ≤ 8) (hC : C ≤ 8) (hcn : ns_cnt R C cn) (hg : ns_ok R C gv) (hk : ns_ok R C kn) (h64 : ∀ j, 64 ≤ j → ce j = 0)
    (hp : ∀ st' kn' ce' fl' fc' pl', ns_po R C (ns_S R C (ns_cc cn) cl) gv st' kn' → (∀ j, 64 ≤ j → ce' j = 0) → post st' ((nI R), (nI C), st', sv, pl', cn, cl, gv, kn', so, fc', fl', ce', bc, bg)) : wpX_propagate post ((nI R), (nI C), st, sv, pl, cn, cl, gv, kn, so, fc, fl, ce, bc, bg) := by
  unfold wpX_propagate
  dsimp only
  refine xw_sg hR hC hcn hg h64 (fun fl' fc' pl' hl pd pg => xw_settle hR hC hl hg pd pg (fun P c l b => ⟨65, ?_⟩) (fun P pl2 ok nb => ⟨65, ?_⟩))
  · refine xw_pr_loop hR hC P (Or.inr ⟨rfl, rfl⟩) (fun kn' hc => ⟨fun z => absurd z (by decide), fun _ => ?_⟩) 65 0 kn (by omega) (by omega) ns_cp_0
    have e : kn' = P := ns_cp_end hc (fun j hj => by rw [(hk j).2 (fun z => by have := z.1; omega), (c.1 j).2 (fun z => by have := z.1; omega)])
    rw [e]
    exact ⟨fun f => hp 5 P P fl' fc' 0 (Or.inl ⟨c, l, b, Or.inl ⟨f, rfl⟩⟩) (ns_ok64 c.1), fun x hx h0 => hp 6 P P fl' fc' 0 (Or.inl ⟨c, l, b, Or.inr ⟨⟨x, hx, h0⟩, rfl⟩⟩) (ns_ok64 c.1)⟩
  · refine xw_pr_loop hR hC (fun _ => 0) (Or.inl ⟨rfl, rfl⟩) (fun kn' hc => ⟨fun _ => ?_, fun z => absurd z (by decide)⟩) 65 0 kn (by omega) (by omega) ns_cp_0
    have e : kn' = fun _ => 0 := ns_cp_end hc (fun j hj => (hk j).2 (fun z => by have := z.1; omega))
    rw [e]
    exact hp 4 _ P fl' fc' pl2 (Or.inr ⟨nb, rfl, rfl⟩) (ns_ok64 ok)
end
