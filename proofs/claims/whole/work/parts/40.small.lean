/-! the small methods, each side -/
theorem ns_c4g {A B : Prop} {R C r c : Nat} (hr : r < R) (hc : c < C) (hR : R ≤ 8) (hC : C ≤ 8) (a : A) :
    ((nI r < 0 → B) ∧ (¬ nI r < 0 → (((nI R ≤ nI r → B) ∧ (¬ nI R ≤ nI r → (((nI c < 0 → B) ∧ (¬ nI c < 0 → (((nI c < nI C → A) ∧ (¬ nI c < nI C → B)))))))))))  :=
  br_f (nI_pos (by omega)) (br_f (nI_ge hr (by omega)) (br_f (nI_pos (by omega)) (br_t (nI_lt hc (by omega)) a)))
theorem ns_c4b {A B : Prop} {R C : Nat} {v1 v2 : Int32} (h : ns_nc R C v1 v2) (b : B) :
    ((v1 < 0 → B) ∧ (¬ v1 < 0 → (((nI R ≤ v1 → B) ∧ (¬ nI R ≤ v1 → (((v2 < 0 → B) ∧ (¬ v2 < 0 → (((v2 < nI C → A) ∧ (¬ v2 < nI C → B)))))))))))  :=
  br_c (fun _ => b) (fun h1 => br_c (fun _ => b) (fun h2 => br_c (fun _ => b) (fun h3 => br_c (fun h4 => by
    rcases h with z | z | z | z
    · exact absurd z h1
    · exact absurd z h2
    · exact absurd z h3
    · exact absurd h4 (Int32.not_lt.mpr z)) (fun _ => b))))
theorem ns_kl2 {R C : Nat} (hR : R ≤ 8) (hC : C ≤ 8) (v1 v2 : Int32) :
    (∃ K L, K < 2 ∧ L < 8 ∧ v1 = nI K ∧ v2 = nI L ∧ ns_ing R C (K * 8 + L)) ∨ ns_nl R C v1 v2 := by
  rcases ns_kl hR hC v1 v2 with ⟨L, hL, e1, e2⟩ | ⟨L, hL, e1, e2⟩ | h
  · exact Or.inl ⟨0, L, by omega, by omega, e1, e2, by omega, fun _ => by omega, fun z => by omega⟩
  · exact Or.inl ⟨1, L, by omega, by omega, e1, e2, by omega, fun z => by omega, fun _ => by omega⟩
  · exact Or.inr h
/-- how many cells are known -/
def ns_kc (kn : Nat → Int32) : Nat → Nat
  | 0 => 0
  | n + 1 => ns_kc kn n + (if kn n = 0 then 0 else 1)
theorem ns_kc_z {kn : Nat → Int32} {n : Nat} (h : kn n = 0) : ns_kc kn (n + 1) = ns_kc kn n := by simp [ns_kc, h]
theorem ns_kc_s {kn : Nat → Int32} {n : Nat} (h : ¬ kn n = 0) : ns_kc kn (n + 1) = ns_kc kn n + 1 := by simp [ns_kc, h]
/-- when a number may be appended -/
def ns_ap (R C : Nat) (cn cl : Nat → Int32) (a : Nat) (v : Int32) : Prop :=
  ¬ v < 1 ∧ v ≤ nI (ns_len R C a) ∧ ns_cc cn a < 4 ∧ (ns_sm (fun k => cl (a * 4 + k)) (ns_cc cn a) + v) + nI (ns_cc cn a) ≤ nI (ns_len R C a)
section
variable {R C : Nat} {st sv pl : Int32} {cn cl gv kn so fc fl ce bc bg : Nat → Int32}
theorem xw_li_g {post : Int32 → Prop} {K L : Nat} (hR : R ≤ 8) (hC : C ≤ 8) (hK : K < 2) (hL : L < 8) (g : ns_ing R C (K * 8 + L)) (hp : post (nI (K * 8 + L))) : wpX_lineIndex post ((nI R), (nI C), st, sv, pl, cn, cl, gv, kn, so, fc, fl, ce, bc, bg) (nI K) (nI L) := by
  by_cases h : K = 0
  · subst h
    rw [show 0 * 8 + L = L by omega] at hp g
    exact br_t rfl (br_f (nI_pos (by omega)) (br_f (nI_ge (g.2.1 hL) (by omega)) hp))
  · have e : K = 1 := by omega
    subst e
    have gl := g.2.2 (by omega)
    rw [show 1 * 8 + L = 8 + L by omega, ← ns_8p] at hp
    exact br_f (by decide) (br_t rfl (br_f (nI_pos (by omega)) (br_f (nI_ge (by omega) (by omega)) hp)))
theorem xw_li_b {post : Int32 → Prop} {v1 v2 : Int32} (h : ns_nl R C v1 v2) (hp : post (-1)) : wpX_lineIndex post ((nI R), (nI C), st, sv, pl, cn, cl, gv, kn, so, fc, fl, ce, bc, bg) v1 v2 := by
  have k : wX_lineIndex_18 post v1 v2 (nI R) (nI C) st sv pl cn cl gv kn so fc fl ce bc bg := br_c (fun a => br_c (fun _ => hp) (fun b => br_c (fun _ => hp) (fun c => absurd ⟨a, b, c⟩ h.2))) (fun _ => hp)
  exact br_c (fun a => br_c (fun _ => k) (fun b => br_c (fun _ => k) (fun c => absurd ⟨a, b, c⟩ h.1))) (fun _ => k)
theorem xw_ci_g {post : Int32 → Prop} {r c : Nat} (hR : R ≤ 8) (hC : C ≤ 8) (hr : r < R) (hc : c < C) (hp : post (nI (r * 8 + c))) : wpX_cellIndex post ((nI R), (nI C), st, sv, pl, cn, cl, gv, kn, so, fc, fl, ce, bc, bg) (nI r) (nI c) := by
  rw [← ns_i8] at hp
  exact ns_c4g hr hc hR hC hp
theorem xw_ci_b {post : Int32 → Prop} {v1 v2 : Int32} (h : ns_nc R C v1 v2) (hp : post (-1)) : wpX_cellIndex post ((nI R), (nI C), st, sv, pl, cn, cl, gv, kn, so, fc, fl, ce, bc, bg) v1 v2 := ns_c4b h hp
theorem xw_kc_loop {post : Int32 → Prop} (hp : post (nI (ns_kc kn 64))) : ∀ n i, i ≤ 64 → 64 < n + i → wX_knownCount_4 post (nI R) (nI C) st sv pl cn cl gv kn so fc fl ce bc bg n (nI (ns_kc kn i)) (nI i) := by
  intro n
  induction n with
  | zero => intro i a1 a2; omega
  | succ n ih =>
    intro i a1 a2
    by_cases h : i = 64
    · subst h
      exact br_t (nI_le (a := 64) (b := 64) (by omega) (by omega)) hp
    · refine br_f (nI_ge (b := 64) (by omega) (by omega)) ⟨vp_in_nI (by omega) (by omega), ?_⟩
      rw [nI_clamp (by omega)]
      have nx := ih (i + 1) (by omega) (by omega)
      by_cases e : kn i = 0
      · rw [ns_kc_z e] at nx; exact br_t e (nm_r (nI_1 i) nx)
      · rw [ns_kc_s e] at nx; exact br_f e (nm_r (nI_1 _) (nm_r (nI_1 i) nx))
theorem xw_kc {post : Int32 → Prop} (hp : post (nI (ns_kc kn 64))) : wpX_knownCount post ((nI R), (nI C), st, sv, pl, cn, cl, gv, kn, so, fc, fl, ce, bc, bg) := ⟨65, xw_kc_loop hp 65 0 (by omega) (by omega)⟩
theorem xw_add {post : Int32 → SX → Prop} {K L : Nat} {v : Int32} (hR : R ≤ 8) (hC : C ≤ 8) (hK : K < 2) (hL : L < 8) (g : ns_ing R C (K * 8 + L)) (hcn : ns_cnt R C cn) (hk : ns_ok R C kn) (h128 : ∀ j, 128 ≤ j → so j = 0)
    (h1 : ns_ap R C cn cl (K * 8 + L) v → post 1 ((nI R), (nI C), 3, 3, pl, (upd cn (K * 8 + L) (nI (ns_cc cn (K * 8 + L) + 1))), (upd cl ((K * 8 + L) * 4 + ns_cc cn (K * 8 + L)) v), gv, (fun _ => 0), (fun _ => 0), fc, fl, ce, bc, bg))
    (h0 : ¬ ns_ap R C cn cl (K * 8 + L) v → post 0 ((nI R), (nI C), st, sv, pl, cn, cl, gv, kn, so, fc, fl, ce, bc, bg)) : wpX_addNumber post ((nI R), (nI C), st, sv, pl, cn, cl, gv, kn, so, fc, fl, ce, bc, bg) (nI K) (nI L) v := by
  obtain ⟨c4, ec, _⟩ := hcn (K * 8 + L) (by omega)
  unfold wpX_addNumber
  dsimp only
  refine xw_li_g hR hC hK hL g (br_f (ns_nm1 (by omega)) (xw_len (by omega) ⟨vp_in_nI (by omega) (by omega), nm_r (e' := nI (ns_cc cn (K * 8 + L))) (by rw [nI_clamp (by omega)]; exact ec) ?_⟩))
  refine br_c (fun z => h0 (fun y => y.1 z)) (fun z1 => br_c (fun z => h0 (fun y => Int32.not_lt.mpr y.2.1 z)) (fun z2 => ?_))
  by_cases c3 : ns_cc cn (K * 8 + L) < 4
  · refine br_t (nI_lt (b := 4) c3 (by omega)) (xw_sum (by omega) ec c4 ?_)
    refine br_c (fun z => ?_) (fun z => h0 (fun y => z y.2.2.2))
    refine ⟨pk_in ((K * 8 + L) * 4 + ns_cc cn (K * 8 + L)) 64 (by omega) (ns_i4 _ _), nm_r (ns_ue (ns_i4 _ _) (by omega)) ⟨vp_in_nI (by omega) (by omega), nm_r (e' := upd cn (K * 8 + L) (nI (ns_cc cn (K * 8 + L) + 1))) (by rw [nI_clamp (by omega), nI_1]) ?_⟩⟩
    exact xw_rst hk h128 (h1 ⟨z1, Int32.not_lt.mp z2, c3, z⟩)
  · exact br_f (nI_nlt (b := 4) (by omega) (by omega)) (h0 (fun y => c3 y.2.2.1))
theorem xw_clear {post : Int32 → SX → Prop} {K L : Nat} (hR : R ≤ 8) (hC : C ≤ 8) (hK : K < 2) (hL : L < 8) (g : ns_ing R C (K * 8 + L)) (hk : ns_ok R C kn) (h128 : ∀ j, 128 ≤ j → so j = 0)
    (h1 : post 1 ((nI R), (nI C), 3, 3, pl, (upd cn (K * 8 + L) 0), cl, gv, (fun _ => 0), (fun _ => 0), fc, fl, ce, bc, bg)) : wpX_clearLine post ((nI R), (nI C), st, sv, pl, cn, cl, gv, kn, so, fc, fl, ce, bc, bg) (nI K) (nI L) := by
  unfold wpX_clearLine
  dsimp only
  exact xw_li_g hR hC hK hL g (br_f (ns_nm1 (by omega)) ⟨vp_in_nI (by omega) (by omega), nm_r (ns_uc (by omega)) (xw_rst hk h128 h1)⟩)
theorem xw_setg {post : Int32 → SX → Prop} {r c : Nat} {v : Int32} (hR : R ≤ 8) (hC : C ≤ 8) (hr : r < R) (hc : c < C) (hk : ns_ok R C kn) (h128 : ∀ j, 128 ≤ j → so j = 0)
    (h1 : (v = 0 ∨ v = 1 ∨ v = 2) → post 1 ((nI R), (nI C), 3, 3, pl, cn, cl, (upd gv (r * 8 + c) v), (fun _ => 0), (fun _ => 0), fc, fl, ce, bc, bg)) (h0 : ¬ (v = 0 ∨ v = 1 ∨ v = 2) → post 0 ((nI R), (nI C), st, sv, pl, cn, cl, gv, kn, so, fc, fl, ce, bc, bg)) : wpX_setGiven post ((nI R), (nI C), st, sv, pl, cn, cl, gv, kn, so, fc, fl, ce, bc, bg) (nI r) (nI c) v := by
  have put : (v = 0 ∨ v = 1 ∨ v = 2) → wX_setGiven_30 post v (nI (r * 8 + c)) (nI R) (nI C) st sv pl cn cl gv kn so fc fl ce bc bg := fun z => ⟨vp_in_nI (by omega) (by omega), nm_r (ns_uc (by omega)) (xw_rst hk h128 (h1 z))⟩
  unfold wpX_setGiven
  dsimp only
  exact xw_ci_g hR hC hr hc (br_f (ns_nm1 (by omega)) (br_c (fun z => put (Or.inl z)) (fun n0 => br_c (fun z => put (Or.inr (Or.inl z))) (fun n1 => br_c (fun z => put (Or.inr (Or.inr z))) (fun n2 => h0 (fun y => y.elim n0 (fun y => y.elim n1 n2)))))))
end
section
variable {R C : Nat} {st sv am om : Int32} {cl cn gv kn ce so cd : Nat → Int32}
theorem yw_ok_b {post : Int32 → Prop} {v1 v2 : Int32} (h : ns_nl R C v1 v2) (hp : post 0) : wpY_lineOk post ((nI R), (nI C), st, sv, am, om, cl, cn, gv, kn, ce, so, cd) v1 v2 :=
  br_c (fun a => br_c (fun _ => hp) (fun b => br_c (fun _ => hp) (fun c => absurd ⟨a, b, c⟩ h.1))) (fun _ => br_c (fun a => br_c (fun _ => hp) (fun b => br_c (fun _ => hp) (fun c => absurd ⟨a, b, c⟩ h.2))) (fun _ => hp))
theorem yw_kc_loop {post : Int32 → Prop} (hR : R ≤ 8) (hC : C ≤ 8) (hk : ns_ok R C kn) (hp : post (nI (ns_kc kn 64))) : ∀ n i, i ≤ 64 → 64 < n + i → wY_knownCount_4 post (nI R) (nI C) st sv am om cl cn gv kn ce so cd n (nI (ns_kc kn i)) (nI i) := by
  intro n
  induction n with
  | zero => intro i a1 a2; omega
  | succ n ih =>
    intro i a1 a2
    by_cases h : i = 64
    · subst h
      exact br_t (nI_le (a := 64) (b := 64) (by omega) (by omega)) hp
    · have e1 : nI i / 8 = nI (i / 8) := pk_div (d := 8) (by omega) (by omega) (by omega)
      have e2 : nI i - nI i / 8 * 8 = nI (i % 8) := pk_rem (d := 8) (by omega) (by omega) (by omega)
      have nx := ih (i + 1) (by omega) (by omega)
      have skip : ¬ ns_cg R C i → wY_knownCount_4 post (nI R) (nI C) st sv am om cl cn gv kn ce so cd n (nI (ns_kc kn i)) (nI (i + 1)) := fun z => by rw [ns_kc_z ((hk i).2 z)] at nx; exact nx
      refine br_f (nI_ge (b := 64) (by omega) (by omega)) ⟨by decide, ?_⟩
      rw [e1]
      by_cases r1 : i / 8 < R
      · refine br_f (nI_ge r1 (by omega)) ⟨by decide, ?_⟩
        rw [← e1, e2]
        by_cases r2 : i % 8 < C
        · refine br_f (nI_ge r2 (by omega)) ⟨vp_in_nI (by omega) (by omega), ?_⟩
          rw [nI_clamp (by omega)]
          by_cases e : kn i = 0
          · rw [ns_kc_z e] at nx; exact br_t e (nm_r (nI_1 i) nx)
          · rw [ns_kc_s e] at nx; exact br_f e (nm_r (nI_1 _) (nm_r (nI_1 i) nx))
        · exact br_t (nI_le (by omega) (by omega)) (nm_r (nI_1 i) (skip (fun g => r2 g.2.2)))
      · exact br_t (nI_le (by omega) (by omega)) (nm_r (nI_1 i) (skip (fun g => r1 g.2.1)))
theorem yw_kc {post : Int32 → Prop} (hR : R ≤ 8) (hC : C ≤ 8) (hk : ns_ok R C kn) (hp : post (nI (ns_kc kn 64))) : wpY_knownCount post ((nI R), (nI C), st, sv, am, om, cl, cn, gv, kn, ce, so, cd) := ⟨65, yw_kc_loop hR hC hk hp 65 0 (by omega) (by omega)⟩
theorem ns_b4k (K L k : Nat) : nI K * 32 + nI L * 4 + nI k = nI ((K * 8 + L) * 4 + k) := by rw [ns_b4, nI_add]
theorem yw_add_loop {post : Int32 → SY → Prop} {K L c : Nat} {v len : Int32} (hK : K < 2) (hL : L < 8) (hc : c < 4) (hk : ns_ok R C kn) (h128 : ∀ j, 128 ≤ j → so j = 0)
    (h1 : (ns_sm (fun k => cl ((K * 8 + L) * 4 + k)) c + v) + nI c ≤ len → post 1 ((nI R), (nI C), 3, 3, am, om, (upd cl ((K * 8 + L) * 4 + c) v), (upd cn (K * 8 + L) (nI (c + 1))), gv, (fun _ => 0), ce, (fun _ => 0), cd))
    (h0 : ¬ (ns_sm (fun k => cl ((K * 8 + L) * 4 + k)) c + v) + nI c ≤ len → post 0 ((nI R), (nI C), st, sv, am, om, cl, cn, gv, kn, ce, so, cd)) :
    ∀ n i, i ≤ c → c < n + i → wY_addNumber_58 post (nI K) (nI L) v len (nI c) (nI R) (nI C) st sv am om cl cn gv kn ce so cd n (ns_sm (fun k => cl ((K * 8 + L) * 4 + k)) i) (nI i) := by
  intro n
  induction n with
  | zero => intro i a1 a2; omega
  | succ n ih =>
    intro i a1 a2
    by_cases h : i = c
    · subst h
      refine br_t (nI_le (Nat.le_refl _) (by omega)) (br_c (fun z => ?_) h0)
      refine ⟨pk_in ((K * 8 + L) * 4 + i) 64 (by omega) (ns_b4k _ _ _), nm_r (ns_ue (ns_b4k _ _ _) (by omega)) ⟨pk_in (K * 8 + L) 16 (by omega) (ns_i8 _ _), nm_r (e' := upd cn (K * 8 + L) (nI (i + 1))) (by rw [ns_i8, nI_clamp (by omega), nI_1]) ?_⟩⟩
      exact yw_rst hk h128 (h1 z)
    · refine br_f (nI_ge (by omega) (by omega)) ⟨pk_in ((K * 8 + L) * 4 + i) 64 (by omega) (ns_b4k _ _ _), ?_⟩
      have rd : cl (nI K * 32 + nI L * 4 + nI i).toNatClampNeg = cl ((K * 8 + L) * 4 + i) := by rw [ns_b4k, nI_clamp (by omega)]
      rw [rd]
      exact nm_e (nm_r (nI_1 i) (ih (i + 1) (by omega) (by omega)))
theorem yw_add {post : Int32 → SY → Prop} {K L : Nat} {v : Int32} (hR : R ≤ 8) (hC : C ≤ 8) (hK : K < 2) (hL : L < 8) (g : ns_ing R C (K * 8 + L)) (hcn : ns_cnt R C cn) (hk : ns_ok R C kn) (h128 : ∀ j, 128 ≤ j → so j = 0)
    (h1 : ns_ap R C cn cl (K * 8 + L) v → post 1 ((nI R), (nI C), 3, 3, am, om, (upd cl ((K * 8 + L) * 4 + ns_cc cn (K * 8 + L)) v), (upd cn (K * 8 + L) (nI (ns_cc cn (K * 8 + L) + 1))), gv, (fun _ => 0), ce, (fun _ => 0), cd))
    (h0 : ¬ ns_ap R C cn cl (K * 8 + L) v → post 0 ((nI R), (nI C), st, sv, am, om, cl, cn, gv, kn, ce, so, cd)) : wpY_addNumber post ((nI R), (nI C), st, sv, am, om, cl, cn, gv, kn, ce, so, cd) (nI K) (nI L) v := by
  obtain ⟨c4, ec, _⟩ := hcn (K * 8 + L) (by omega)
  unfold wpY_addNumber
  dsimp only
  refine yw_ok_g hK hL hR hC (fun _ => ?_) (fun z => absurd g z)
  refine br_f (by decide) (yw_len hK hL (br_c (fun z => h0 (fun y => y.1 z)) (fun z1 => br_c (fun z2 => ?_) (fun z => h0 (fun y => z y.2.1)))))
  refine ⟨pk_in (K * 8 + L) 16 (by omega) (ns_i8 _ _), nm_r (e' := nI (ns_cc cn (K * 8 + L))) (by rw [ns_i8, nI_clamp (by omega)]; exact ec) ?_⟩
  by_cases c3 : ns_cc cn (K * 8 + L) < 4
  · refine br_t (nI_lt (b := 4) c3 (by omega)) ⟨ns_cc cn (K * 8 + L) + 1, ?_⟩
    exact yw_add_loop hK hL c3 hk h128 (fun z => h1 ⟨z1, z2, c3, z⟩) (fun z => h0 (fun y => z y.2.2.2)) _ 0 (by omega) (by omega)
  · exact br_f (nI_nlt (b := 4) (by omega) (by omega)) (h0 (fun y => c3 y.2.2.1))
theorem yw_clear {post : Int32 → SY → Prop} {K L : Nat} (hR : R ≤ 8) (hC : C ≤ 8) (hK : K < 2) (hL : L < 8) (g : ns_ing R C (K * 8 + L)) (hk : ns_ok R C kn) (h128 : ∀ j, 128 ≤ j → so j = 0)
    (h1 : post 1 ((nI R), (nI C), 3, 3, am, om, cl, (upd cn (K * 8 + L) 0), gv, (fun _ => 0), ce, (fun _ => 0), cd)) : wpY_clearLine post ((nI R), (nI C), st, sv, am, om, cl, cn, gv, kn, ce, so, cd) (nI K) (nI L) := by
  unfold wpY_clearLine
  dsimp only
  exact yw_ok_g hK hL hR hC (fun _ => br_f (by decide) ⟨pk_in (K * 8 + L) 16 (by omega) (ns_i8 _ _), nm_r (ns_ue (ns_i8 _ _) (by omega)) (yw_rst hk h128 h1)⟩) (fun z => absurd g z)
theorem yw_setg {post : Int32 → SY → Prop} {r c : Nat} {v : Int32} (hR : R ≤ 8) (hC : C ≤ 8) (hr : r < R) (hc : c < C) (hk : ns_ok R C kn) (h128 : ∀ j, 128 ≤ j → so j = 0)
    (h1 : (v = 0 ∨ v = 1 ∨ v = 2) → post 1 ((nI R), (nI C), 3, 3, am, om, cl, cn, (upd gv (r * 8 + c) v), (fun _ => 0), ce, (fun _ => 0), cd)) (h0 : ¬ (v = 0 ∨ v = 1 ∨ v = 2) → post 0 ((nI R), (nI C), st, sv, am, om, cl, cn, gv, kn, ce, so, cd)) : wpY_setGiven post ((nI R), (nI C), st, sv, am, om, cl, cn, gv, kn, ce, so, cd) (nI r) (nI c) v := by
  have put : (v = 0 ∨ v = 1 ∨ v = 2) → wY_setGiven_42 post (nI r) (nI c) v (nI R) (nI C) st sv am om cl cn gv kn ce so cd := fun z => ⟨pk_in (r * 8 + c) 64 (by omega) (ns_i8 _ _), nm_r (ns_ue (ns_i8 _ _) (by omega)) (yw_rst hk h128 (h1 z))⟩
  exact ns_c4g hr hc hR hC (br_c (fun z => put (Or.inl z)) (fun n0 => br_c (fun z => put (Or.inr (Or.inl z))) (fun n1 => br_c (fun z => put (Or.inr (Or.inr z))) (fun n2 => h0 (fun y => y.elim n0 (fun y => y.elim n1 n2))))))
end
