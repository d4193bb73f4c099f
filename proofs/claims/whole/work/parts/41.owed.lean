/-! what is owed -/
theorem ns_cs (x : Int32) : ∃ R, 0 < R ∧ R ≤ 8 ∧ (∀ A : Int32 → Prop, A (nI R) → wpX_clampSize A x) ∧ ∀ A : Int32 → Prop, A (nI R) → (((1 ≤ x → (((x ≤ 8 → (A x)) ∧ (¬ x ≤ 8 → (A 8))))) ∧ (¬ 1 ≤ x → (A 1)))) := by
  by_cases h1 : 1 ≤ x
  · by_cases h8 : x ≤ 8
    · obtain ⟨j, hj, rfl⟩ := nI_of2 (M := 8) (n := 8) (by decide) (Int32.not_lt.mpr (Int32.le_trans (by decide) h1)) h8
      have j1 : 1 ≤ j := (nI_leI (a := 1) (by omega) (by omega)).mp h1
      exact ⟨j, by omega, hj, fun A a => br_t h1 (br_t h8 a), fun A a => br_t h1 (br_t h8 a)⟩
    · exact ⟨8, by omega, by omega, fun A a => br_t h1 (br_f h8 a), fun A a => br_t h1 (br_f h8 a)⟩
  · exact ⟨1, by omega, by omega, fun A a => br_f h1 a, fun A a => br_f h1 a⟩
theorem ns_out_128 {R C f : Nat} {S : Nat → Nat → Prop} {g so : Nat → Int32} (h : ns_out R C S g f so) : ∀ j, 128 ≤ j → so j = 0 := by
  obtain ⟨A, B, e, _⟩ := h
  intro j hj
  rw [e]; simp only [ns_st]
  rw [if_neg (by omega), if_neg (by omega)]
def ns_RL (R C : Nat) (cn gv kn so cx cy : Nat → Int32) : Prop :=
  0 < R ∧ R ≤ 8 ∧ 0 < C ∧ C ≤ 8 ∧ ns_cnt R C cn ∧ ns_ok R C gv ∧ ns_ok R C kn ∧ (∀ j, 128 ≤ j → so j = 0) ∧ (∀ j, 64 ≤ j → cx j = 0) ∧ ∀ j, 64 ≤ j → cy j = 0
def i_Rel (k : Nat) (u : SX) (v : SY) : Prop :=
  ∃ (R C : Nat) (st sv : Int32) (cn cl gv kn so : Nat → Int32) (pl : Int32) (fc fl cx bc bg : Nat → Int32) (am om : Int32) (cy cd : Nat → Int32),
    u = ((nI R), (nI C), st, sv, pl, cn, cl, gv, kn, so, fc, fl, cx, bc, bg) ∧ v = ((nI R), (nI C), st, sv, am, om, cl, cn, gv, kn, cy, so, cd) ∧ ns_RL R C cn gv kn so cx cy
theorem i_up {k : Nat} {u : SX} {v : SY} (h : i_Rel k u v) : i_Rel (k + 4) u v := h
theorem i_vc0 (k0 : Int32) (k1 : Int32) : wpX_init (fun u => wpY_init (fun v => i_Rel 2 u v) k0 k1) k0 k1 := by
  obtain ⟨R, hR0, hR, xR, yR⟩ := ns_cs k0
  obtain ⟨C, hC0, hC, xC, yC⟩ := ns_cs k1
  unfold wpX_init
  refine xR _ (xC _ ?_)
  refine yR (fun z => wY_init_83 _ k1 z 0 0 0 0 0 0 (fun _ => 0) (fun _ => 0) (fun _ => 0) (fun _ => 0) (fun _ => 0) (fun _ => 0) (fun _ => 0)) ?_
  refine yC (fun z => wY_init_108 _ z (nI R) 0 0 0 0 0 (fun _ => 0) (fun _ => 0) (fun _ => 0) (fun _ => 0) (fun _ => 0) (fun _ => 0) (fun _ => 0)) ?_
  unfold wY_init_108
  refine yw_rst (R := R) (C := C) (ns_ok_0 R C) (fun _ _ => rfl) ?_
  exact ⟨R, C, 3, 3, fun _ => 0, fun _ => 0, fun _ => 0, fun _ => 0, fun _ => 0, 0, fun _ => 0, fun _ => 0, fun _ => 0, fun _ => 0, fun _ => 0, 0, 0, fun _ => 0, fun _ => 0, rfl, rfl,
    hR0, hR, hC0, hC, (fun a _ => ⟨by rw [ns_cc_0 rfl]; omega, by rw [ns_cc_0 rfl]; rfl, fun _ => rfl⟩), ns_ok_0 R C, ns_ok_0 R C, (fun _ _ => rfl), (fun _ _ => rfl), (fun _ _ => rfl)⟩
theorem i_vc_rows {k : Nat} {u : SX} {v : SY} (I : i_Rel k u v) (hk : k + 4 ≤ 2050) : wpX_rows (fun r => wpY_rows (fun r' => r' = r ∧ i_Rel (k + 4) u v) v) u := by
  obtain ⟨R, C, st, sv, cn, cl, gv, kn, so, pl, fc, fl, cx, bc, bg, am, om, cy, cd, rfl, rfl, hI⟩ := I
  obtain ⟨hR0, hR, hC0, hC, hcn, hg, hn, h128, hx, hy⟩ := id hI
  exact ⟨rfl, ⟨R, C, st, sv, cn, cl, gv, kn, so, pl, fc, fl, cx, bc, bg, am, om, cy, cd, rfl, rfl, hI⟩⟩
theorem i_vc_cols {k : Nat} {u : SX} {v : SY} (I : i_Rel k u v) (hk : k + 4 ≤ 2050) : wpX_cols (fun r => wpY_cols (fun r' => r' = r ∧ i_Rel (k + 4) u v) v) u := by
  obtain ⟨R, C, st, sv, cn, cl, gv, kn, so, pl, fc, fl, cx, bc, bg, am, om, cy, cd, rfl, rfl, hI⟩ := I
  obtain ⟨hR0, hR, hC0, hC, hcn, hg, hn, h128, hx, hy⟩ := id hI
  exact ⟨rfl, ⟨R, C, st, sv, cn, cl, gv, kn, so, pl, fc, fl, cx, bc, bg, am, om, cy, cd, rfl, rfl, hI⟩⟩
theorem i_vc_addNumber {k : Nat} {u : SX} {v : SY} (I : i_Rel k u v) (hk : k + 4 ≤ 2050) (v1 : Int32) (v2 : Int32) (v3 : Int32) : wpX_addNumber (fun r u' => wpY_addNumber (fun r' v' => r' = r ∧ i_Rel (k + 4) u' v') v v1 v2 v3) u v1 v2 v3 := by
  obtain ⟨R, C, st, sv, cn, cl, gv, kn, so, pl, fc, fl, cx, bc, bg, am, om, cy, cd, rfl, rfl, hI⟩ := I
  obtain ⟨hR0, hR, hC0, hC, hcn, hg, hn, h128, hx, hy⟩ := id hI
  rcases ns_kl2 hR hC v1 v2 with ⟨K, L, hK, hL, rfl, rfl, g⟩ | nl
  · refine xw_add hR hC hK hL g hcn hn h128 (fun ap => yw_add hR hC hK hL g hcn hn h128 (fun _ => ⟨rfl, ?_⟩) (fun na => absurd ap na)) (fun na => yw_add hR hC hK hL g hcn hn h128 (fun ap => absurd ap na) (fun _ => ⟨rfl, ?_⟩))
    · have c3 := ap.2.2.1
      exact ⟨R, C, 3, 3, _, _, gv, _, _, pl, fc, fl, cx, bc, bg, am, om, cy, cd, rfl, rfl, hR0, hR, hC0, hC, ns_cc_upd hcn g (by omega), hg, ns_ok_0 R C, fun _ _ => rfl, hx, hy⟩
    · exact ⟨R, C, st, sv, cn, cl, gv, kn, so, pl, fc, fl, cx, bc, bg, am, om, cy, cd, rfl, rfl, hI⟩
  · unfold wpX_addNumber wpY_addNumber
    dsimp only
    exact xw_li_b nl (br_t rfl (yw_ok_b nl (br_t rfl ⟨rfl, ⟨R, C, st, sv, cn, cl, gv, kn, so, pl, fc, fl, cx, bc, bg, am, om, cy, cd, rfl, rfl, hI⟩⟩)))
theorem i_vc_clearLine {k : Nat} {u : SX} {v : SY} (I : i_Rel k u v) (hk : k + 4 ≤ 2050) (v1 : Int32) (v2 : Int32) : wpX_clearLine (fun r u' => wpY_clearLine (fun r' v' => r' = r ∧ i_Rel (k + 4) u' v') v v1 v2) u v1 v2 := by
  obtain ⟨R, C, st, sv, cn, cl, gv, kn, so, pl, fc, fl, cx, bc, bg, am, om, cy, cd, rfl, rfl, hI⟩ := I
  obtain ⟨hR0, hR, hC0, hC, hcn, hg, hn, h128, hx, hy⟩ := id hI
  rcases ns_kl2 hR hC v1 v2 with ⟨K, L, hK, hL, rfl, rfl, g⟩ | nl
  · refine xw_clear hR hC hK hL g hn h128 (yw_clear hR hC hK hL g hn h128 ⟨rfl, ?_⟩)
    exact ⟨R, C, 3, 3, _, cl, gv, _, _, pl, fc, fl, cx, bc, bg, am, om, cy, cd, rfl, rfl, hR0, hR, hC0, hC, ns_cc_upd (c := 0) hcn g (by omega), hg, ns_ok_0 R C, fun _ _ => rfl, hx, hy⟩
  · unfold wpX_clearLine wpY_clearLine
    dsimp only
    exact xw_li_b nl (br_t rfl (yw_ok_b nl (br_t rfl ⟨rfl, ⟨R, C, st, sv, cn, cl, gv, kn, so, pl, fc, fl, cx, bc, bg, am, om, cy, cd, rfl, rfl, hI⟩⟩)))
theorem i_vc_clueCount {k : Nat} {u : SX} {v : SY} (I : i_Rel k u v) (hk : k + 4 ≤ 2050) (v1 : Int32) (v2 : Int32) : wpX_clueCount (fun r => wpY_clueCount (fun r' => r' = r ∧ i_Rel (k + 4) u v) v v1 v2) u v1 v2 := by
  obtain ⟨R, C, st, sv, cn, cl, gv, kn, so, pl, fc, fl, cx, bc, bg, am, om, cy, cd, rfl, rfl, hI⟩ := I
  obtain ⟨hR0, hR, hC0, hC, hcn, hg, hn, h128, hx, hy⟩ := id hI
  unfold wpX_clueCount wpY_clueCount
  dsimp only
  rcases ns_kl2 hR hC v1 v2 with ⟨K, L, hK, hL, rfl, rfl, g⟩ | nl
  · refine xw_li_g hR hC hK hL g (br_f (ns_nm1 (by omega)) ⟨vp_in_nI (by omega) (by omega), ?_⟩)
    refine yw_ok_g hK hL hR hC (fun _ => br_f (by decide) ⟨pk_in (K * 8 + L) 16 (by omega) (ns_i8 _ _), ?_, ⟨R, C, st, sv, cn, cl, gv, kn, so, pl, fc, fl, cx, bc, bg, am, om, cy, cd, rfl, rfl, hI⟩⟩) (fun z => absurd g z)
    rw [ns_i8]
  · exact xw_li_b nl (br_t rfl (yw_ok_b nl (br_t rfl ⟨rfl, ⟨R, C, st, sv, cn, cl, gv, kn, so, pl, fc, fl, cx, bc, bg, am, om, cy, cd, rfl, rfl, hI⟩⟩)))
theorem i_vc_clueNumber {k : Nat} {u : SX} {v : SY} (I : i_Rel k u v) (hk : k + 4 ≤ 2050) (v1 : Int32) (v2 : Int32) (v3 : Int32) : wpX_clueNumber (fun r => wpY_clueNumber (fun r' => r' = r ∧ i_Rel (k + 4) u v) v v1 v2 v3) u v1 v2 v3 := by
  obtain ⟨R, C, st, sv, cn, cl, gv, kn, so, pl, fc, fl, cx, bc, bg, am, om, cy, cd, rfl, rfl, hI⟩ := I
  obtain ⟨hR0, hR, hC0, hC, hcn, hg, hn, h128, hx, hy⟩ := id hI
  unfold wpX_clueNumber wpY_clueNumber
  dsimp only
  rcases ns_kl2 hR hC v1 v2 with ⟨K, L, hK, hL, rfl, rfl, g⟩ | nl
  · obtain ⟨c4, ec, _⟩ := hcn (K * 8 + L) (by omega)
    have ra : cn (nI (K * 8 + L)).toNatClampNeg = nI (ns_cc cn (K * 8 + L)) := by rw [nI_clamp (by omega)]; exact ec
    have inx : vp_in (nI (K * 8 + L)) 16 := vp_in_nI (by omega) (by omega)
    have fin : i_Rel (k + 4) ((nI R), (nI C), st, sv, pl, cn, cl, gv, kn, so, fc, fl, cx, bc, bg) ((nI R), (nI C), st, sv, am, om, cl, cn, gv, kn, cy, so, cd) := ⟨R, C, st, sv, cn, cl, gv, kn, so, pl, fc, fl, cx, bc, bg, am, om, cy, cd, rfl, rfl, hI⟩
    have yy : ∀ (A : Prop), (vp_in (nI K * 8 + nI L) 16 ∧ A) ↔ A := fun A => ⟨fun z => z.2, fun z => ⟨pk_in (K * 8 + L) 16 (by omega) (ns_i8 _ _), z⟩⟩
    by_cases n3 : v3 < 0
    · exact xw_li_g hR hC hK hL g (br_f (ns_nm1 (by omega)) (br_t n3 (yw_ok_g hK hL hR hC (fun _ => br_f (by decide) (br_t n3 ⟨rfl, fin⟩)) (fun z => absurd g z))))
    · obtain ⟨j, hj, rfl⟩ := nI_of n3
      by_cases jc : j < ns_cc cn (K * 8 + L)
      · have lt : nI j < cn (nI (K * 8 + L)).toNatClampNeg := by rw [ra]; exact nI_lt jc (by omega)
        refine xw_li_g hR hC hK hL g (br_f (ns_nm1 (by omega)) (br_f n3 ⟨inx, br_t lt ⟨pk_in ((K * 8 + L) * 4 + j) 64 (by omega) (ns_i4 _ _), ?_⟩⟩))
        refine yw_ok_g hK hL hR hC (fun _ => br_f (by decide) (br_f n3 ((yy _).mpr (br_t (by rw [ns_i8]; exact lt) ⟨pk_in ((K * 8 + L) * 4 + j) 64 (by omega) (ns_b4k _ _ _), ?_, fin⟩)))) (fun z => absurd g z)
        rw [ns_b4k, ns_i4]
      · have nlt : ¬ nI j < cn (nI (K * 8 + L)).toNatClampNeg := by rw [ra]; exact nI_nlt (by omega) (by omega)
        refine xw_li_g hR hC hK hL g (br_f (ns_nm1 (by omega)) (br_f n3 ⟨inx, br_f nlt ?_⟩))
        exact yw_ok_g hK hL hR hC (fun _ => br_f (by decide) (br_f n3 ((yy _).mpr (br_f (by rw [ns_i8]; exact nlt) ⟨rfl, fin⟩)))) (fun z => absurd g z)
  · exact xw_li_b nl (br_t rfl (yw_ok_b nl (br_t rfl ⟨rfl, ⟨R, C, st, sv, cn, cl, gv, kn, so, pl, fc, fl, cx, bc, bg, am, om, cy, cd, rfl, rfl, hI⟩⟩)))
theorem i_vc_setGiven {k : Nat} {u : SX} {v : SY} (I : i_Rel k u v) (hk : k + 4 ≤ 2050) (v1 : Int32) (v2 : Int32) (v3 : Int32) : wpX_setGiven (fun r u' => wpY_setGiven (fun r' v' => r' = r ∧ i_Rel (k + 4) u' v') v v1 v2 v3) u v1 v2 v3 := by
  obtain ⟨R, C, st, sv, cn, cl, gv, kn, so, pl, fc, fl, cx, bc, bg, am, om, cy, cd, rfl, rfl, hI⟩ := I
  obtain ⟨hR0, hR, hC0, hC, hcn, hg, hn, h128, hx, hy⟩ := id hI
  rcases ns_rcx hR hC v1 v2 with ⟨r, c, hr, hc, rfl, rfl⟩ | nc
  · refine xw_setg hR hC hr hc hn h128 (fun ap => yw_setg hR hC hr hc hn h128 (fun _ => ⟨rfl, ?_⟩) (fun na => absurd ap na)) (fun na => yw_setg hR hC hr hc hn h128 (fun ap => absurd ap na) (fun _ => ⟨rfl, ?_⟩))
    · exact ⟨R, C, 3, 3, cn, cl, _, _, _, pl, fc, fl, cx, bc, bg, am, om, cy, cd, rfl, rfl, hR0, hR, hC0, hC, hcn, ns_ok_upd hg ⟨by omega, by omega, by omega⟩ ap, ns_ok_0 R C, fun _ _ => rfl, hx, hy⟩
    · exact ⟨R, C, st, sv, cn, cl, gv, kn, so, pl, fc, fl, cx, bc, bg, am, om, cy, cd, rfl, rfl, hI⟩
  · unfold wpX_setGiven
    dsimp only
    exact xw_ci_b nc (br_t rfl (ns_c4b nc ⟨rfl, ⟨R, C, st, sv, cn, cl, gv, kn, so, pl, fc, fl, cx, bc, bg, am, om, cy, cd, rfl, rfl, hI⟩⟩))
theorem i_vc_given {k : Nat} {u : SX} {v : SY} (I : i_Rel k u v) (hk : k + 4 ≤ 2050) (v1 : Int32) (v2 : Int32) : wpX_given (fun r => wpY_given (fun r' => r' = r ∧ i_Rel (k + 4) u v) v v1 v2) u v1 v2 := by
  obtain ⟨R, C, st, sv, cn, cl, gv, kn, so, pl, fc, fl, cx, bc, bg, am, om, cy, cd, rfl, rfl, hI⟩ := I
  obtain ⟨hR0, hR, hC0, hC, hcn, hg, hn, h128, hx, hy⟩ := id hI
  unfold wpX_given
  dsimp only
  rcases ns_rcx hR hC v1 v2 with ⟨r, c, hr, hc, rfl, rfl⟩ | nc
  · refine xw_ci_g hR hC hr hc (br_f (ns_nm1 (by omega)) ⟨vp_in_nI (by omega) (by omega), ?_⟩)
    refine ns_c4g hr hc hR hC ⟨pk_in (r * 8 + c) 64 (by omega) (ns_i8 _ _), ?_, ⟨R, C, st, sv, cn, cl, gv, kn, so, pl, fc, fl, cx, bc, bg, am, om, cy, cd, rfl, rfl, hI⟩⟩
    rw [ns_i8]
  · exact xw_ci_b nc (br_t rfl (ns_c4b nc ⟨rfl, ⟨R, C, st, sv, cn, cl, gv, kn, so, pl, fc, fl, cx, bc, bg, am, om, cy, cd, rfl, rfl, hI⟩⟩))
theorem i_vc_propagate {k : Nat} {u : SX} {v : SY} (I : i_Rel k u v) (hk : k + 4 ≤ 2050) : wpX_propagate (fun r u' => wpY_propagate (fun r' v' => r' = r ∧ i_Rel (k + 4) u' v') v) u := by
  obtain ⟨R, C, st, sv, cn, cl, gv, kn, so, pl, fc, fl, cx, bc, bg, am, om, cy, cd, rfl, rfl, hI⟩ := I
  obtain ⟨hR0, hR, hC0, hC, hcn, hg, hn, h128, hx, hy⟩ := id hI
  refine xw_prop hR hC hcn hg hn hx (fun st' kn' ce' fl' fc' pl' po h64 => yw_prop hR hC hcn hg hn hy (fun st2 kn2 ce2 am2 om2 po2 h642 => ?_))
  obtain ⟨e1, e2⟩ := ns_po_uniq po2 po
  subst e1
  subst e2
  exact ⟨rfl, R, C, _, sv, cn, cl, gv, _, so, pl', fc', fl', ce', bc, bg, am2, om2, ce2, cd, rfl, rfl, hR0, hR, hC0, hC, hcn, hg, ns_po_ok po, h128, h64, h642⟩
theorem i_vc_propagateStatus {k : Nat} {u : SX} {v : SY} (I : i_Rel k u v) (hk : k + 4 ≤ 2050) : wpX_propagateStatus (fun r => wpY_propagateStatus (fun r' => r' = r ∧ i_Rel (k + 4) u v) v) u := by
  obtain ⟨R, C, st, sv, cn, cl, gv, kn, so, pl, fc, fl, cx, bc, bg, am, om, cy, cd, rfl, rfl, hI⟩ := I
  obtain ⟨hR0, hR, hC0, hC, hcn, hg, hn, h128, hx, hy⟩ := id hI
  exact ⟨rfl, ⟨R, C, st, sv, cn, cl, gv, kn, so, pl, fc, fl, cx, bc, bg, am, om, cy, cd, rfl, rfl, hI⟩⟩
theorem i_vc_known {k : Nat} {u : SX} {v : SY} (I : i_Rel k u v) (hk : k + 4 ≤ 2050) (v1 : Int32) (v2 : Int32) : wpX_known (fun r => wpY_known (fun r' => r' = r ∧ i_Rel (k + 4) u v) v v1 v2) u v1 v2 := by
  obtain ⟨R, C, st, sv, cn, cl, gv, kn, so, pl, fc, fl, cx, bc, bg, am, om, cy, cd, rfl, rfl, hI⟩ := I
  obtain ⟨hR0, hR, hC0, hC, hcn, hg, hn, h128, hx, hy⟩ := id hI
  unfold wpX_known
  dsimp only
  rcases ns_rcx hR hC v1 v2 with ⟨r, c, hr, hc, rfl, rfl⟩ | nc
  · refine xw_ci_g hR hC hr hc (br_f (ns_nm1 (by omega)) ⟨vp_in_nI (by omega) (by omega), ?_⟩)
    refine ns_c4g hr hc hR hC ⟨pk_in (r * 8 + c) 64 (by omega) (ns_i8 _ _), ?_, ⟨R, C, st, sv, cn, cl, gv, kn, so, pl, fc, fl, cx, bc, bg, am, om, cy, cd, rfl, rfl, hI⟩⟩
    rw [ns_i8]
  · exact xw_ci_b nc (br_t rfl (ns_c4b nc ⟨rfl, ⟨R, C, st, sv, cn, cl, gv, kn, so, pl, fc, fl, cx, bc, bg, am, om, cy, cd, rfl, rfl, hI⟩⟩))
theorem i_vc_knownCount {k : Nat} {u : SX} {v : SY} (I : i_Rel k u v) (hk : k + 4 ≤ 2050) : wpX_knownCount (fun r => wpY_knownCount (fun r' => r' = r ∧ i_Rel (k + 4) u v) v) u := by
  obtain ⟨R, C, st, sv, cn, cl, gv, kn, so, pl, fc, fl, cx, bc, bg, am, om, cy, cd, rfl, rfl, hI⟩ := I
  obtain ⟨hR0, hR, hC0, hC, hcn, hg, hn, h128, hx, hy⟩ := id hI
  exact xw_kc (yw_kc hR hC hn ⟨rfl, ⟨R, C, st, sv, cn, cl, gv, kn, so, pl, fc, fl, cx, bc, bg, am, om, cy, cd, rfl, rfl, hI⟩⟩)
theorem i_vc_solve {k : Nat} {u : SX} {v : SY} (I : i_Rel k u v) (hk : k + 4 ≤ 2050) : wpX_solve (fun r u' => wpY_solve (fun r' v' => r' = r ∧ i_Rel (k + 4) u' v') v) u := by
  obtain ⟨R, C, st, sv, cn, cl, gv, kn, so, pl, fc, fl, cx, bc, bg, am, om, cy, cd, rfl, rfl, hI⟩ := I
  obtain ⟨hR0, hR, hC0, hC, hcn, hg, hn, h128, hx, hy⟩ := id hI
  refine xw_solve hR hC hcn hg hx h128 (fun f so' ce' pl' fl' fc' bc' bg' o h64 => yw_solve hR hC hR0 hC0 hcn hg hy h128 (fun f2 so2 ce2 cd2 am2 om2 o2 h642 => ?_))
  obtain ⟨e1, e2⟩ := ns_out_uniq o2 o
  subst e1
  subst e2
  exact ⟨rfl, R, C, st, _, cn, cl, gv, kn, _, pl', fc', fl', ce', bc', bg', am2, om2, ce2, cd2, rfl, rfl, hR0, hR, hC0, hC, hcn, hg, hn, ns_out_128 o, h64, h642⟩
theorem i_vc_verdict {k : Nat} {u : SX} {v : SY} (I : i_Rel k u v) (hk : k + 4 ≤ 2050) : wpX_verdict (fun r => wpY_verdict (fun r' => r' = r ∧ i_Rel (k + 4) u v) v) u := by
  obtain ⟨R, C, st, sv, cn, cl, gv, kn, so, pl, fc, fl, cx, bc, bg, am, om, cy, cd, rfl, rfl, hI⟩ := I
  obtain ⟨hR0, hR, hC0, hC, hcn, hg, hn, h128, hx, hy⟩ := id hI
  exact ⟨rfl, ⟨R, C, st, sv, cn, cl, gv, kn, so, pl, fc, fl, cx, bc, bg, am, om, cy, cd, rfl, rfl, hI⟩⟩
theorem i_vc_solutionCell {k : Nat} {u : SX} {v : SY} (I : i_Rel k u v) (hk : k + 4 ≤ 2050) (v1 : Int32) (v2 : Int32) (v3 : Int32) : wpX_solutionCell (fun r => wpY_solutionCell (fun r' => r' = r ∧ i_Rel (k + 4) u v) v v1 v2 v3) u v1 v2 v3 := by
  obtain ⟨R, C, st, sv, cn, cl, gv, kn, so, pl, fc, fl, cx, bc, bg, am, om, cy, cd, rfl, rfl, hI⟩ := I
  obtain ⟨hR0, hR, hC0, hC, hcn, hg, hn, h128, hx, hy⟩ := id hI
  have fin : i_Rel (k + 4) ((nI R), (nI C), st, sv, pl, cn, cl, gv, kn, so, fc, fl, cx, bc, bg) ((nI R), (nI C), st, sv, am, om, cl, cn, gv, kn, cy, so, cd) := ⟨R, C, st, sv, cn, cl, gv, kn, so, pl, fc, fl, cx, bc, bg, am, om, cy, cd, rfl, rfl, hI⟩
  unfold wpX_solutionCell
  dsimp only
  by_cases n0 : v1 < 0
  · have a0 : ¬ v1 = 0 := fun z => by rw [z] at n0; exact absurd n0 (by decide)
    have a1 : ¬ v1 = 1 := fun z => by rw [z] at n0; exact absurd n0 (by decide)
    rcases ns_rcx hR hC v2 v3 with ⟨r, c, hr, hc, rfl, rfl⟩ | nc
    · exact xw_ci_g hR hC hr hc (br_t n0 (br_f a0 (br_f a1 ⟨rfl, fin⟩)))
    · exact xw_ci_b nc (br_t n0 (br_f a0 (br_f a1 ⟨rfl, fin⟩)))
  · by_cases n2 : (2 : Int32) ≤ v1
    · have a0 : ¬ v1 = 0 := fun z => by rw [z] at n2; exact absurd n2 (by decide)
      have a1 : ¬ v1 = 1 := fun z => by rw [z] at n2; exact absurd n2 (by decide)
      rcases ns_rcx hR hC v2 v3 with ⟨r, c, hr, hc, rfl, rfl⟩ | nc
      · exact xw_ci_g hR hC hr hc (br_f n0 (br_t n2 (br_f a0 (br_f a1 ⟨rfl, fin⟩))))
      · exact xw_ci_b nc (br_f n0 (br_t n2 (br_f a0 (br_f a1 ⟨rfl, fin⟩))))
    · obtain ⟨q, hq, rfl⟩ := nI_of n0
      have q2 : q < 2 := by
        have := n2
        rw [show (2 : Int32) = nI 2 from rfl, nI_leI (by omega) hq] at this
        omega
      have go : ∀ {Q : Int32 → Prop}, wY_solutionCell_11 Q (nI q) v2 v3 (nI R) (nI C) st sv am om cl cn gv kn cy so cd → wpY_solutionCell Q ((nI R), (nI C), st, sv, am, om, cl, cn, gv, kn, cy, so, cd) (nI q) v2 v3 := fun w => br_c (fun _ => w) (fun z0 => br_c (fun _ => w) (fun z1 => by
        rcases (show q = 0 ∨ q = 1 by omega) with e | e
        · subst e; exact absurd rfl z0
        · subst e; exact absurd rfl z1))
      rcases ns_rcx hR hC v2 v3 with ⟨r, c, hr, hc, rfl, rfl⟩ | nc
      · have ix : nI q * 64 + nI r * 8 + nI c = nI (q * 64 + (r * 8 + c)) := by
          show nI q * nI 64 + nI r * nI 8 + nI c = _
          rw [pk_mul, pk_mul, nI_add, nI_add]; congr 1; omega
        refine xw_ci_g hR hC hr hc (br_f n0 (br_f n2 (br_f (ns_nm1 (by omega)) ⟨pk_in (q * 64 + (r * 8 + c)) 128 (by omega) (ns_i64 _ _), ?_⟩)))
        refine go (ns_c4g hr hc hR hC ⟨pk_in (q * 64 + (r * 8 + c)) 128 (by omega) ix, ?_, fin⟩)
        rw [ix, ns_i64]
      · exact xw_ci_b nc (br_f n0 (br_f n2 (br_t rfl (go (ns_c4b nc ⟨rfl, fin⟩)))))
