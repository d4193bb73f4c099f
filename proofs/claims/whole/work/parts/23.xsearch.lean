/-! X: start, search -/
section
variable {R C : Nat} {st sv pl : Int32} {cn cl gv kn so fc fl ce bc bg : Nat → Int32}
theorem xw_keep_loop {post : SX → Prop} {d : Nat} (hd : d < 64) (bc' : Nat → Int32) (hp : ∀ bg', ns_cq ce bg bg' (d * 64) 64 → post ((nI R), (nI C), st, sv, pl, cn, cl, gv, kn, so, fc, fl, ce, bc', bg')) :
    ∀ n i bg', i ≤ 64 → 64 < n + i → ns_cq ce bg bg' (d * 64) i → wX_keepBranch_9 post (nI d) (nI R) (nI C) st sv pl n (nI i) cn cl gv kn so fc fl ce bc' bg' := by
  intro n
  induction n with
  | zero => intro i bg' h1 h2; omega
  | succ n ih =>
    intro i bg' h1 h2 hq
    by_cases h : i = 64
    · subst h
      exact br_t (nI_le (a := 64) (b := 64) (by omega) (by omega)) (hp bg' hq)
    · refine br_f (nI_ge (b := 64) (by omega) (by omega)) ⟨vp_in_nI (by omega) (by omega), pk_in (d * 64 + i) 4096 (by omega) (ns_i64 d i), nm_r (by rw [ns_i64, nI_clamp (by omega), nI_clamp (by omega)]) (nm_r (nI_1 i) ?_)⟩
      exact ih (i + 1) _ (by omega) (by omega) (ns_cq_s hq rfl)
theorem xw_keep {post : SX → Prop} {d x : Nat} (hd : d < 64) (hp : ∀ bg', ns_cq ce bg bg' (d * 64) 64 → post ((nI R), (nI C), st, sv, pl, cn, cl, gv, kn, so, fc, fl, ce, (upd bc d (nI x)), bg')) : wpX_keepBranch post ((nI R), (nI C), st, sv, pl, cn, cl, gv, kn, so, fc, fl, ce, bc, bg) (nI d) (nI x) :=
  ⟨vp_in_nI hd (by omega), nm_r (ns_uc (by omega)) ⟨65, xw_keep_loop hd _ hp 65 0 bg (by omega) (by omega) ns_cq_0⟩⟩
theorem xw_back_loop {post : SX → Prop} {d : Nat} (hd : d < 64) (hp : ∀ ce', ns_cp (ns_gr bg d) ce ce' 64 → post ((nI R), (nI C), st, sv, pl, cn, cl, gv, kn, so, fc, fl, ce', bc, bg)) :
    ∀ n i ce', i ≤ 64 → 64 < n + i → ns_cp (ns_gr bg d) ce ce' i → wX_takeBackBranch_2 post (nI d) (nI R) (nI C) st sv pl n (nI i) cn cl gv kn so fc fl ce' bc bg := by
  intro n
  induction n with
  | zero => intro i ce' h1 h2; omega
  | succ n ih =>
    intro i ce' h1 h2 hq
    by_cases h : i = 64
    · subst h
      exact br_t (nI_le (a := 64) (b := 64) (by omega) (by omega)) (hp ce' hq)
    · refine br_f (nI_ge (b := 64) (by omega) (by omega)) ⟨pk_in (d * 64 + i) 4096 (by omega) (ns_i64 d i), vp_in_nI (by omega) (by omega), nm_r (by rw [ns_i64, nI_clamp (by omega), nI_clamp (by omega)]) (nm_r (nI_1 i) ?_)⟩
      exact ih (i + 1) _ (by omega) (by omega) (ns_cp_s hq (by simp [ns_gr, show i < 64 by omega]))
theorem xw_back {post : SX → Prop} {d : Nat} (hd : d < 64) (h64 : ∀ j, 64 ≤ j → ce j = 0) (hp : post ((nI R), (nI C), st, sv, pl, cn, cl, gv, kn, so, fc, fl, (ns_gr bg d), bc, bg)) : wpX_takeBackBranch post ((nI R), (nI C), st, sv, pl, cn, cl, gv, kn, so, fc, fl, ce, bc, bg) (nI d) :=
  ⟨65, xw_back_loop hd (fun ce' h => by rw [ns_cp_end h (fun j hj => by rw [h64 j hj]; simp [ns_gr, show ¬ j < 64 by omega])]; exact hp) 65 0 ce (by omega) (by omega) ns_cp_0⟩
theorem xw_asm {post : SX → Prop} {x : Nat} {v : Int32} (hx : x < 64) (hp : ∀ pl', (∀ b, b < 32 → (bt pl' b = true ↔ b = x / 8 ∨ b = 8 + x % 8)) → post ((nI R), (nI C), st, sv, pl', cn, cl, gv, kn, so, fc, fl, (upd ce x v), bc, bg)) : wpX_assumeCell post ((nI R), (nI C), st, sv, pl, cn, cl, gv, kn, so, fc, fl, ce, bc, bg) (nI x) v := by
  have e1 : nI x / 8 = nI (x / 8) := pk_div (d := 8) (by omega) (by omega) (by omega)
  have e2 : nI x - nI x / 8 * 8 = nI (x % 8) := pk_rem (d := 8) (by omega) (by omega) (by omega)
  refine ⟨vp_in_nI hx (by omega), nm_r (ns_uc (by omega)) ⟨by decide, nm_r e1 ⟨by decide, nm_r e2 (nm_r (by rw [ns_8p]) ?_)⟩⟩⟩
  exact hp _ (fun b hb => ns_pl2 (by omega) (by omega) hb)
theorem xw_sto_loop {post : SX → Prop} {f : Nat} (hf : f < 2) (hp : ∀ so', ns_cq ce so so' (f * 64) 64 → post ((nI R), (nI C), st, sv, pl, cn, cl, gv, kn, so', fc, fl, ce, bc, bg)) :
    ∀ n i so', i ≤ 64 → 64 < n + i → ns_cq ce so so' (f * 64) i → wX_storeSolution_2 post (nI f) (nI R) (nI C) st sv pl n (nI i) cn cl gv kn so' fc fl ce bc bg := by
  intro n
  induction n with
  | zero => intro i so' h1 h2; omega
  | succ n ih =>
    intro i so' h1 h2 hq
    by_cases h : i = 64
    · subst h
      exact br_t (nI_le (a := 64) (b := 64) (by omega) (by omega)) (hp so' hq)
    · refine br_f (nI_ge (b := 64) (by omega) (by omega)) ⟨vp_in_nI (by omega) (by omega), pk_in (f * 64 + i) 128 (by omega) (ns_i64 f i), nm_r (by rw [ns_i64, nI_clamp (by omega), nI_clamp (by omega)]) (nm_r (nI_1 i) ?_)⟩
      exact ih (i + 1) _ (by omega) (by omega) (ns_cq_s hq rfl)
theorem xw_sto {post : SX → Prop} {f : Nat} (hf : f < 2) (hp : ∀ so', ns_cq ce so so' (f * 64) 64 → post ((nI R), (nI C), st, sv, pl, cn, cl, gv, kn, so', fc, fl, ce, bc, bg)) : wpX_storeSolution post ((nI R), (nI C), st, sv, pl, cn, cl, gv, kn, so, fc, fl, ce, bc, bg) (nI f) :=
  ⟨65, xw_sto_loop hf hp 65 0 so (by omega) (by omega) ns_cq_0⟩
theorem xw_clr_loop {post : SX → Prop} (hp : ∀ so', ns_cp (fun _ => 0) so so' 128 → post ((nI R), (nI C), st, sv, pl, cn, cl, gv, kn, so', fc, fl, ce, bc, bg)) :
    ∀ n i so', i ≤ 128 → 128 < n + i → ns_cp (fun _ => 0) so so' i → wX_clearStoredGrids_2 post (nI R) (nI C) st sv pl n (nI i) cn cl gv kn so' fc fl ce bc bg := by
  intro n
  induction n with
  | zero => intro i so' h1 h2; omega
  | succ n ih =>
    intro i so' h1 h2 hq
    by_cases h : i = 128
    · subst h
      exact br_t (nI_le (a := 128) (b := 128) (by omega) (by omega)) (hp so' hq)
    · refine br_f (nI_ge (b := 128) (by omega) (by omega)) ⟨vp_in_nI (by omega) (by omega), nm_r (ns_uc (by omega)) (nm_r (nI_1 i) ?_)⟩
      exact ih (i + 1) _ (by omega) (by omega) (ns_cp_s hq rfl)
theorem xw_clr {post : SX → Prop} (h128 : ∀ j, 128 ≤ j → so j = 0) (hp : post ((nI R), (nI C), st, sv, pl, cn, cl, gv, kn, (fun _ => 0), fc, fl, ce, bc, bg)) : wpX_clearStoredGrids post ((nI R), (nI C), st, sv, pl, cn, cl, gv, kn, so, fc, fl, ce, bc, bg) :=
  ⟨129, xw_clr_loop (fun so' h => by rw [ns_cp_end h (fun j hj => h128 j hj)]; exact hp) 129 0 so (by omega) (by omega) ns_cp_0⟩
theorem xw_s80 {post : Int32 → SX → Prop} {J : Int32 → Int32 → Int64 → Int32 → Int32 → Int32 → Int32 → Int32 → (Nat → Int32) → (Nat → Int32) → (Nat → Int32) → (Nat → Int32) → (Nat → Int32) → (Nat → Int32) → (Nat → Int32) → (Nat → Int32) → (Nat → Int32) → (Nat → Int32) → Prop} {t f d : Nat} (hR : R ≤ 8) (hC : C ≤ 8) (hM : ns_XM R C (ns_S R C (ns_cc cn) cl) gv t f d so bc bg) (hf : f ≤ 2) (h64 : ∀ j, 64 ≤ j → ce j = 0)
    (hp : ns_out R C (ns_S R C (ns_cc cn) cl) gv f so → post (nI f) ((nI R), (nI C), st, sv, pl, cn, cl, gv, kn, so, fc, fl, ce, bc, bg))
    (hJ : ∀ e ce' pl', d = e + 1 → ns_XV R C (ns_S R C (ns_cc cn) cl) gv (t + 1) f e so ce' pl' bc bg → J (nI f) (nI e) (lN (t + 1)) (nI R) (nI C) st sv pl' cn cl gv kn so fc fl ce' bc bg) :
    wX_storeFirstSolutions_80 post J (nI f) (nI d) (lN t) (nI R) (nI C) st sv pl cn cl gv kn so fc fl ce bc bg := by
  by_cases f2 : f = 2
  · exact br_t (by rw [f2]; rfl) (hp (ns_XM_end hM (Or.inl f2)))
  · refine br_f (fun z => f2 ((nI_eq (b := 2) (by omega) (by omega)).mp z)) ?_
    cases d with
    | zero => exact br_t rfl (hp (ns_XM_end hM (Or.inr rfl)))
    | succ e =>
      have e64 := ns_XM_e hM
      obtain ⟨x, hx, ex, eb⟩ := ns_XM_top hM
      refine br_f (nI_ne0 (by omega) (by omega)) (nm_r (pk_m1 e) (xw_back e64 h64 ⟨vp_in_nI e64 (by omega), ?_⟩))
      have rd : bc (nI e).toNatClampNeg = nI x := by rw [nI_clamp (by omega)]; exact ex
      rw [rd]
      exact xw_asm hx.1 (fun pl' hpl => nm_r (lN_1 t) (hJ e _ pl' rfl (ns_XM_pop (ns_S_lt hR hC) hR hC hM (by omega) ex hx hpl)))
theorem xw_srch {post : Int32 → SX → Prop} (hR : R ≤ 8) (hC : C ≤ 8) (hls : xw_ls R C cn cl fl fc)
    (hp : ∀ f so' ce' pl' bc' bg', ns_out R C (ns_S R C (ns_cc cn) cl) gv f so' → (∀ j, 64 ≤ j → ce' j = 0) → post (nI f) ((nI R), (nI C), st, sv, pl', cn, cl, gv, kn, so', fc, fl, ce', bc', bg')) :
    ∀ n t f d so' ce' pl' bc' bg', 2 * 30 ^ 8 < n + t → ns_XV R C (ns_S R C (ns_cc cn) cl) gv t f d so' ce' pl' bc' bg' →
      wX_storeFirstSolutions_6 post n (nI f) (nI d) (lN t) (nI R) (nI C) st sv pl' cn cl gv kn so' fc fl ce' bc' bg' := by
  have hS := ns_S_lt (cc := ns_cc cn) (cl := cl) hR hC
  intro n
  induction n with
  | zero => intro t f d so' ce' pl' bc' bg' h1 h2; have := ns_XV_t h2; omega
  | succ n ih =>
    intro t f d so' ce' pl' bc' bg' h1 hV
    have tb := ns_XV_t hV
    have e30 : 2 * 30 ^ 8 < 281474976710656 := by decide
    have hb : ¬ (281474976710656 : Int64) ≤ lN t := by
      show ¬ lN 281474976710656 ≤ lN t
      rw [pk_lLE (by decide) (by omega)]; omega
    obtain ⟨ok, pd, pg, f2⟩ := ns_XV_ok hV
    refine br_f hb (xw_settle hR hC hls ok pd pg (fun P c l b => ?_) (fun P pl2 okP nb => ?_))
    · refine br_f (by decide) (xw_fst hR hC (fun x hx h0 hq => ?_) (fun hn => ?_))
      · have d64 := ns_XV_depth hV c l hx h0
        have x64 := hx.1
        refine br_f (ns_nm1 (by omega)) (br_f (nI_ge (b := 64) d64 (by omega)) (xw_keep d64 (fun bg2 hcq => nm_r (nI_1 d) (xw_asm x64 (fun pl2 hpl => nm_r (lN_1 t) ?_)))))
        exact ih (t + 1) f (d + 1) _ _ _ _ _ (by omega) (ns_XV_branch hS hR hC hV c l b hx h0 hq hcq.1 hcq.2 hpl)
      · refine br_t rfl (br_f (by decide) (xw_sto f2 (fun so2 hcq => nm_r (nI_1 f) ?_)))
        refine xw_s80 hR hC (ns_XM_sol hR hC hV c l b hn hcq.1 hcq.2) (by omega) (ns_ok64 c.1) (fun o => hp (f + 1) so2 P 0 bc' bg' o (ns_ok64 c.1)) (fun e ce2 pl2 _ hV2 => ?_)
        exact ih (t + 1) (f + 1) e so2 ce2 pl2 bc' bg' (by omega) hV2
    · obtain ⟨hM, _⟩ := ns_XM_bad hR hC hV nb
      refine br_t rfl (br_t rfl (br_t rfl (xw_s80 hR hC hM (by omega) (ns_ok64 okP) (fun o => hp f so' P pl2 bc' bg' o (ns_ok64 okP)) (fun e ce2 pl3 _ hV2 => ?_))))
      exact ih (t + 1) f e so' ce2 pl3 bc' bg' (by omega) hV2
theorem xw_tot_loop {post : Int32 → Prop} (hcn : ns_cnt R C cn) (h1 : post 1) (h0 : ns_df (ns_cc cn) cl 16 ≠ 0 → post 0) :
    ∀ n a, a ≤ 16 → 16 < n + a → wX_clueTotalsAgree_4 post (nI R) (nI C) st sv pl cn cl gv kn so fc fl ce bc bg n (ns_df (ns_cc cn) cl a) (nI a) := by
  intro n
  induction n with
  | zero => intro a a1 a2; omega
  | succ n ih =>
    intro a a1 a2
    by_cases h : a = 16
    · subst h
      exact br_t (nI_le (a := 16) (b := 16) (by omega) (by omega)) (br_c (fun _ => h1) h0)
    · obtain ⟨c4, ec, _⟩ := hcn a (by omega)
      refine br_f (nI_ge (b := 16) (by omega) (by omega)) (xw_sum (by omega) ec c4 ?_)
      have nx := ih (a + 1) (by omega) (by omega)
      simp only [ns_df] at nx
      by_cases a8 : a < 8
      · rw [if_pos a8] at nx
        exact br_f (ns_nge8 a8) (nm_e (nm_r (nI_1 a) nx))
      · rw [if_neg a8] at nx
        exact br_t (ns_ge8 (by omega) (by omega)) (nm_e (nm_r (nI_1 a) nx))
theorem xw_tot {post : Int32 → Prop} (hcn : ns_cnt R C cn) (h1 : post 1) (h0 : ns_df (ns_cc cn) cl 16 ≠ 0 → post 0) : wpX_clueTotalsAgree post ((nI R), (nI C), st, sv, pl, cn, cl, gv, kn, so, fc, fl, ce, bc, bg) :=
  ⟨17, xw_tot_loop hcn h1 h0 17 0 (by omega) (by omega)⟩
theorem xw_s23 {post : Int32 → SX → Prop} {f : Nat} (hf : f ≤ 2) (hp : post (nI f) ((nI R), (nI C), st, (nI f), pl, cn, cl, gv, kn, so, fc, fl, ce, bc, bg)) : wX_solve_23 post (nI f) (nI R) (nI C) st sv pl cn cl gv kn so fc fl ce bc bg := by
  by_cases e0 : f = 0
  · subst e0; exact br_t rfl hp
  · by_cases e1 : f = 1
    · subst e1; exact br_f (by decide) (br_t rfl hp)
    · have e2 : f = 2 := by omega
      subst e2; exact br_f (by decide) (br_f (by decide) hp)
theorem xw_solve {post : Int32 → SX → Prop} (hR : R ≤ 8) (hC : C ≤ 8) (hcn : ns_cnt R C cn) (hg : ns_ok R C gv) (h64 : ∀ j, 64 ≤ j → ce j = 0) (h128 : ∀ j, 128 ≤ j → so j = 0)
    (hp : ∀ f so' ce' pl' fl' fc' bc' bg', ns_out R C (ns_S R C (ns_cc cn) cl) gv f so' → (∀ j, 64 ≤ j → ce' j = 0) → post (nI f) ((nI R), (nI C), st, (nI f), pl', cn, cl, gv, kn, so', fc', fl', ce', bc', bg')) : wpX_solve post ((nI R), (nI C), st, sv, pl, cn, cl, gv, kn, so, fc, fl, ce, bc, bg) := by
  unfold wpX_solve
  dsimp only
  refine xw_clr h128 (xw_sg hR hC hcn hg h64 (fun fl' fc' pl' hl pd pg => xw_tot hcn ?_ (fun nz => ?_)))
  · refine br_f (by decide) ⟨2 * 30 ^ 8 + 1, ?_⟩
    exact xw_srch hR hC hl (fun f so' ce' pl' bc' bg' o h => xw_s23 (ns_out_le o) (hp f so' ce' pl' fl' fc' bc' bg' o h)) _ 0 0 0 _ gv pl' bc bg (by omega) (ns_XV_0 hR hg (fun r _ => ns_S_few hR hC r) pd pg)
  · refine br_t rfl (xw_s23 (f := 0) (by omega) (hp 0 _ gv pl' fl' fc' bc bg (ns_out_0 (fun Z hZ => nz (ns_df_0 hR hC hZ (fun a ha n => ns_cc_0 ((hcn a ha).2.2 n))))) (ns_ok64 hg)))
theorem xw_rst_loop {post : SX → Prop} (h128 : ∀ j, 128 ≤ j → so j = 0) (hp : ∀ kn', ns_cp (fun _ => 0) kn kn' 64 → post ((nI R), (nI C), st, 3, pl, cn, cl, gv, kn', (fun _ => 0), fc, fl, ce, bc, bg)) :
    ∀ n i kn', i ≤ 64 → 64 < n + i → ns_cp (fun _ => 0) kn kn' i → wX_resetResults_7 post (nI R) (nI C) st sv pl n (nI i) cn cl gv kn' so fc fl ce bc bg := by
  intro n
  induction n with
  | zero => intro i kn' h1 h2; omega
  | succ n ih =>
    intro i kn' h1 h2 hc
    by_cases h : i = 64
    · subst h
      exact br_t (nI_le (a := 64) (b := 64) (by omega) (by omega)) (xw_clr h128 (hp kn' hc))
    · exact br_f (nI_ge (b := 64) (by omega) (by omega)) ⟨vp_in_nI (by omega) (by omega), nm_r (ns_uc (by omega)) (nm_r (nI_1 i) (ih (i + 1) _ (by omega) (by omega) (ns_cp_s hc rfl)))⟩
theorem xw_rst {post : SX → Prop} (hk : ns_ok R C kn) (h128 : ∀ j, 128 ≤ j → so j = 0) (hp : post ((nI R), (nI C), 3, 3, pl, cn, cl, gv, (fun _ => 0), (fun _ => 0), fc, fl, ce, bc, bg)) : wpX_resetResults post ((nI R), (nI C), st, sv, pl, cn, cl, gv, kn, so, fc, fl, ce, bc, bg) :=
  ⟨65, xw_rst_loop h128 (fun kn' h => by rw [ns_cp_end h (fun j hj => (hk j).2 (fun z => by have := z.1; omega))]; exact hp) 65 0 kn (by omega) (by omega) ns_cp_0⟩
end
