/-! Y: search -/
section
variable {R C : Nat} {st sv am om : Int32} {cl cn gv kn ce so cd : Nat → Int32}
theorem yw_cols_loop {post : Int32 → SY → Prop} (hR : R ≤ 8) (hC : C ≤ 8) (hcn : ns_cnt R C cn)
    (h1 : ∀ am om, (∀ a, 8 ≤ a → ns_ing R C a → ∃ q, ns_cons R C (ns_S R C (ns_cc cn) cl) ce a q) → post 1 ((nI R), (nI C), st, sv, am, om, cl, cn, gv, kn, ce, so, cd))
    (h0 : ∀ am om a, 8 ≤ a → ns_ing R C a → (¬ ∃ q, ns_cons R C (ns_S R C (ns_cc cn) cl) ce a q) → post 0 ((nI R), (nI C), st, sv, am, om, cl, cn, gv, kn, ce, so, cd)) :
    ∀ n c am om, c ≤ C → C < n + c → (∀ q, q < c → ∃ p, ns_cons R C (ns_S R C (ns_cc cn) cl) ce (8 + q) p) → wY_colsOk_2 post n (nI c) (nI R) (nI C) st sv am om cl cn gv kn ce so cd := by
  intro n
  induction n with
  | zero => intro c am om a1 a2; omega
  | succ n ih =>
    intro c am om a1 a2 hq
    by_cases h : c = C
    · refine br_t (nI_le (by omega) (by omega)) (h1 am om (fun a a8 g => ?_))
      have ga := g.2.2 a8
      have := hq (a - 8) (by omega)
      rw [show 8 + (a - 8) = a by omega] at this
      exact this
    · refine br_f (nI_ge (by omega) (by omega)) (yw_scan (K := 1) (L := c) hR hC (by omega) (by omega) hcn (fun x am2 om2 _ _ hx => ?_))
      rw [show 1 * 8 + c = 8 + c by omega] at hx
      rcases hx with ⟨rfl, nx⟩ | ⟨x0, ex⟩
      · exact br_t rfl (h0 am2 om2 (8 + c) (by omega) ⟨by omega, fun z => by omega, fun _ => by omega⟩ nx)
      · refine br_f x0 (nm_r (nI_1 c) (ih (c + 1) am2 om2 (by omega) (by omega) (fun q hq' => ?_)))
        by_cases e : q = c
        · subst e; exact ex
        · exact hq q (by omega)
theorem yw_cols {post : Int32 → SY → Prop} (hR : R ≤ 8) (hC : C ≤ 8) (hcn : ns_cnt R C cn)
    (h1 : ∀ am om, (∀ a, 8 ≤ a → ns_ing R C a → ∃ q, ns_cons R C (ns_S R C (ns_cc cn) cl) ce a q) → post 1 ((nI R), (nI C), st, sv, am, om, cl, cn, gv, kn, ce, so, cd))
    (h0 : ∀ am om a, 8 ≤ a → ns_ing R C a → (¬ ∃ q, ns_cons R C (ns_S R C (ns_cc cn) cl) ce a q) → post 0 ((nI R), (nI C), st, sv, am, om, cl, cn, gv, kn, ce, so, cd)) : wpY_colsOk post ((nI R), (nI C), st, sv, am, om, cl, cn, gv, kn, ce, so, cd) :=
  ⟨C + 1, yw_cols_loop hR hC hcn h1 h0 (C + 1) 0 am om (by omega) (by omega) (fun q hq => absurd hq (by omega))⟩
theorem yw_next_loop {post : Int32 → SY → Prop} {d : Nat} {w : Nat → Nat} (hR : R ≤ 8) (hC : C ≤ 8) (hcn : ns_cnt R C cn) (hd : d < R)
    (h0 : ∀ am om, (∀ u, w d ≤ u → u < 2 ^ C → ns_no R C (ns_S R C (ns_cc cn) cl) gv d w u) → post (-1) ((nI R), (nI C), st, sv, am, om, cl, cn, gv, kn, (ns_gd C gv d w), so, cd))
    (h1 : ∀ v am om, ns_nx R C (ns_S R C (ns_cc cn) cl) gv d w v → post (nI v) ((nI R), (nI C), st, sv, am, om, cl, cn, gv, kn, (ns_gd C gv (d + 1) (ns_up w d (v + 1))), so, cd)) :
    ∀ n v am om, w d ≤ v → v ≤ 2 ^ C → 2 ^ C < n + v → (∀ u, w d ≤ u → u < v → ns_no R C (ns_S R C (ns_cc cn) cl) gv d w u) →
      wY_nextRow_21 post (nI d) (nI (2 ^ C)) n (nI v) (nI R) (nI C) st sv am om cl cn gv kn (ns_gd C gv d w) so cd := by
  have pw := ns_pw_le hC
  have hS : ∀ a x, ns_S R C (ns_cc cn) cl a x → x < 2 ^ ns_len R C a := fun a x h => h.1
  have hlen : ns_len R C (0 * 8 + d) = C := by simp [ns_len, show d < 8 by omega]
  intro n
  induction n with
  | zero => intro v am om a0 a1 a2; omega
  | succ n ih =>
    intro v am om a0 a1 a2 hn
    by_cases h : v = 2 ^ C
    · exact br_t (by rw [h]; exact nI_le (Nat.le_refl _) (by omega)) (h0 am om (fun u h2 h3 => hn u h2 (by omega)))
    · have step : ns_no R C (ns_S R C (ns_cc cn) cl) gv d w v → ∀ u, w d ≤ u → u < v + 1 → ns_no R C (ns_S R C (ns_cc cn) cl) gv d w u := fun z u h2 h3 => by
        by_cases e : u = v
        · subst e; exact z
        · exact hn u h2 (by omega)
      refine br_f (nI_ge (by omega) (by omega)) (yw_rev hC (by omega) (fun p hp => ?_))
      have p256 : p < 256 := Nat.lt_of_lt_of_le hp.1 pw
      refine yw_fits (K := 0) (L := d) hR hC (by omega) (by omega) hcn hlen.symm hp.1 (fun hc => ?_) (fun hc => ?_)
      · rw [show 0 * 8 + d = d by omega] at hc
        refine br_f (by decide) (yw_wr hC (by omega) p256 (fun ce1 hq1 => ?_))
        have e1 : ce1 = ns_gd C gv (d + 1) (ns_up w d (v + 1)) := ns_gd_write hC hp (fun j hj => hq1.2 j (ns_row_out hC hj)) hq1.1
        rw [e1]
        refine yw_cols hR hC hcn (fun am2 om2 hk => ?_) (fun am2 om2 a a8 g nx => ?_)
        · exact br_f (by decide) (h1 v am2 om2 ⟨a0, by omega, hn, ⟨p, hp, hc⟩, hk⟩)
        · refine br_t rfl (yw_rs hC (by omega) (fun ce2 hq2 => nm_r (nI_1 v) ?_))
          have e2 : ce2 = ns_gd C gv d w := by
            refine ns_gd_restore hC (fun j hj => ?_) hq2.1
            rw [hq2.2 j (ns_row_out hC hj)]
            simp only [ns_gd]
            by_cases z : j / 8 < d ∧ j % 8 < C
            · have c1 : j / 8 < d + 1 ∧ j % 8 < C := ⟨by omega, z.2⟩
              rw [if_pos c1, if_pos z, ns_up_n (by omega)]
            · have c1 : ¬ (j / 8 < d + 1 ∧ j % 8 < C) := by omega
              rw [if_neg c1, if_neg z]
          rw [e2]
          exact ih (v + 1) am2 om2 (by omega) (by omega) (by omega) (step (ns_no_col (w' := ns_up w d (v + 1)) g (fun r hr => ns_up_n (by omega)) ns_up_s nx))
      · rw [show 0 * 8 + d = d by omega] at hc
        exact br_t rfl (nm_r (nI_1 v) (ih (v + 1) am om (by omega) (by omega) (by omega) (step (ns_no_row hd hR hS hp hc))))
theorem yw_next {post : Int32 → SY → Prop} {d : Nat} {w : Nat → Nat} (hR : R ≤ 8) (hC : C ≤ 8) (hcn : ns_cnt R C cn) (hd : d < R) (hcd : cd d + 1 = nI (w d)) (hw : w d ≤ 2 ^ C) (hce : ∀ j, ¬ (j / 8 = d ∧ j % 8 < C) → ce j = ns_gd C gv d w j)
    (h0 : ∀ am om, (∀ u, w d ≤ u → u < 2 ^ C → ns_no R C (ns_S R C (ns_cc cn) cl) gv d w u) → post (-1) ((nI R), (nI C), st, sv, am, om, cl, cn, gv, kn, (ns_gd C gv d w), so, cd))
    (h1 : ∀ v am om, ns_nx R C (ns_S R C (ns_cc cn) cl) gv d w v → post (nI v) ((nI R), (nI C), st, sv, am, om, cl, cn, gv, kn, (ns_gd C gv (d + 1) (ns_up w d (v + 1))), so, cd)) : wpY_nextRow post ((nI R), (nI C), st, sv, am, om, cl, cn, gv, kn, ce, so, cd) (nI d) := by
  unfold wpY_nextRow
  dsimp only
  refine yw_rs hC (by omega) (fun ce1 hq1 => ?_)
  have e1 : ce1 = ns_gd C gv d w := ns_gd_restore hC (fun j hj => by rw [hq1.2 j (ns_row_out hC hj)]; exact hce j hj) hq1.1
  rw [e1]
  refine nm_r (ns_pw hC) ⟨vp_in_nI (by omega) (by omega), nm_r (e' := nI (w d)) (by rw [nI_clamp (by omega)]; exact hcd) ⟨2 ^ C + 1, ?_⟩⟩
  exact yw_next_loop hR hC hcn hd h0 h1 _ (w d) am om (Nat.le_refl _) hw (by omega) (fun u h2 h3 => by omega)
theorem yw_sto_loop {post : SY → Prop} {f : Nat} (hR : R ≤ 8) (hC : C ≤ 8) (hf : f < 2) (ok : ns_ok R C ce) (hz : ∀ q, q < 64 → so (f * 64 + q) = 0) (hp : ∀ so', ns_cq ce so so' (f * 64) 64 → post ((nI R), (nI C), st, sv, am, om, cl, cn, gv, kn, ce, so', cd)) :
    ∀ n i so', i ≤ 64 → 64 < n + i → ns_cq ce so so' (f * 64) i → wY_store_2 post (nI f) (nI R) (nI C) st sv am om n (nI i) cl cn gv kn ce so' cd := by
  intro n
  induction n with
  | zero => intro i so' a1 a2; omega
  | succ n ih =>
    intro i so' a1 a2 hq
    by_cases h : i = 64
    · subst h
      exact br_t (nI_le (a := 64) (b := 64) (by omega) (by omega)) (hp so' hq)
    · have e1 : nI i / 8 = nI (i / 8) := pk_div (d := 8) (by omega) (by omega) (by omega)
      have e2 : nI i - nI i / 8 * 8 = nI (i % 8) := pk_rem (d := 8) (by omega) (by omega) (by omega)
      have skip : ¬ ns_cg R C i → wY_store_2 post (nI f) (nI R) (nI C) st sv am om n (nI (i + 1)) cl cn gv kn ce so' cd := fun z =>
        ih (i + 1) so' (by omega) (by omega) (ns_cq_k hq (by rw [hz i (by omega), (ok i).2 z]))
      refine br_f (nI_ge (b := 64) (by omega) (by omega)) ⟨by decide, ?_⟩
      rw [e1]
      by_cases r1 : i / 8 < R
      · refine br_f (nI_ge r1 (by omega)) ⟨by decide, ?_⟩
        rw [← e1, e2]
        by_cases r2 : i % 8 < C
        · exact br_f (nI_ge r2 (by omega)) ⟨vp_in_nI (by omega) (by omega), pk_in (f * 64 + i) 128 (by omega) (ns_i64 f i), nm_r (e' := upd so' (f * 64 + i) (ce i)) (by rw [ns_i64, nI_clamp (by omega), nI_clamp (by omega)]) (nm_r (nI_1 i) (ih (i + 1) _ (by omega) (by omega) (ns_cq_s hq rfl)))⟩
        · exact br_t (nI_le (by omega) (by omega)) (nm_r (nI_1 i) (skip (fun g => r2 g.2.2)))
      · exact br_t (nI_le (by omega) (by omega)) (nm_r (nI_1 i) (skip (fun g => r1 g.2.1)))
theorem yw_sto {post : SY → Prop} {f : Nat} (hR : R ≤ 8) (hC : C ≤ 8) (hf : f < 2) (ok : ns_ok R C ce) (hz : ∀ q, q < 64 → so (f * 64 + q) = 0) (hp : ∀ so', ns_cq ce so so' (f * 64) 64 → post ((nI R), (nI C), st, sv, am, om, cl, cn, gv, kn, ce, so', cd)) : wpY_store post ((nI R), (nI C), st, sv, am, om, cl, cn, gv, kn, ce, so, cd) (nI f) :=
  ⟨65, yw_sto_loop hR hC hf ok hz hp 65 0 so (by omega) (by omega) ns_cq_0⟩
theorem yw_s142 {post : Int32 → SY → Prop} {f : Nat} (hf : f ≤ 2) (hp : post (nI f) ((nI R), (nI C), st, (nI f), am, om, cl, cn, gv, kn, ce, so, cd)) : wY_solve_142 post (nI f) (nI R) (nI C) st sv am om cl cn gv kn ce so cd := by
  by_cases e0 : f = 0
  · subst e0; exact br_t rfl hp
  · by_cases e1 : f = 1
    · subst e1; exact br_f (by decide) (br_t rfl hp)
    · have e2 : f = 2 := by omega
      subst e2; exact br_f (by decide) (br_f (by decide) hp)
theorem yw_srch {post : Int32 → SY → Prop} (hR : R ≤ 8) (hC : C ≤ 8) (hC0 : 0 < C) (hcn : ns_cnt R C cn) (hg : ns_ok R C gv)
    (hp : ∀ f so' ce' cd' am om, ns_out R C (ns_S R C (ns_cc cn) cl) gv f so' → (∀ j, 64 ≤ j → ce' j = 0) → post (nI f) ((nI R), (nI C), st, (nI f), am, om, cl, cn, gv, kn, ce', so', cd')) :
    ∀ n t f d so' ce' cd' am om, 130 ^ 8 < n + t → ns_YV R C (ns_S R C (ns_cc cn) cl) gv t f d so' ce' cd' →
      wY_solve_61 post (n + 1) (nI f) (nI d) (lN t) (nI R) (nI C) st sv am om cl cn gv kn ce' so' cd' := by
  have e130 : 130 ^ 8 < 4611686018427387904 := by decide
  have hP : ∀ r p q, ns_S R C (ns_cc cn) cl r p → ns_S R C (ns_cc cn) cl r q → ns_pop (fun i => p.testBit i) 9 = ns_pop (fun i => q.testBit i) 9 := fun r p q h k => ns_S_pop_eq hR hC h k
  intro n
  induction n with
  | zero =>
    intro t f d so' ce' cd' am om a1 hV
    obtain ⟨A, B, w, _, hL, _⟩ := hV
    have := hL.2.2.2.2
    omega
  | succ n ih =>
    intro t f d so' ce' cd' am om a1 hV
    obtain ⟨A, B, w, est, hL, hcd, hce⟩ := hV
    have tb := hL.2.2.2.2
    have dR := hL.1
    have f2 := hL.2.1
    have hb : ∀ t', t' ≤ 130 ^ 8 + 1 → ¬ (4611686018427387904 : Int64) ≤ lN t' := fun t' ht => by
      show ¬ lN 4611686018427387904 ≤ lN t'
      rw [pk_lLE (by decide) (by omega)]; omega
    obtain ⟨hcd1, hw1⟩ := hcd d (Nat.le_refl _)
    refine br_f (hb t (by omega)) (br_f (nI_pos (by omega)) (br_f (nI_ge (b := 2) f2 (by omega)) (yw_next hR hC hcn dR hcd1 hw1 hce (fun am2 om2 hn => ?_) (fun v am2 om2 hx => ?_))))
    · refine br_f (by decide) ?_
      cases d with
      | zero =>
        have o := ns_YV_none (d := 0) est hL hn
        refine nm_e (nm_r (lN_1 t) ?_)
        exact br_f (hb (t + 1) (by omega)) (br_t (by decide) (yw_s142 (ns_out_le o) (hp f so' _ cd' am2 om2 o (ns_ok64 (ns_gd_ok hR (by omega) hg)))))
      | succ e => exact nm_r (pk_m1 e) (nm_r (lN_1 t) (ih (t + 1) f e so' _ cd' am2 om2 (by omega) (ns_YV_up est hL hcd hn)))
    · have v256 : v < 256 := Nat.lt_of_lt_of_le hx.2.1 (ns_pw_le hC)
      have er : nI R - 1 = nI (R - 1) := pk_sub (b := 1) (by omega)
      refine br_t (nI_pos' (by omega)) ⟨vp_in_nI (by omega) (by omega), nm_r (ns_uc (by omega)) ?_⟩
      rw [er]
      by_cases dl : d + 1 = R
      · have ok := ns_gd_ok (w := ns_up w d (v + 1)) (d := d + 1) hR (by omega) hg
        refine br_t (by congr 1; omega) (yw_sto hR hC f2 ok (fun q hq => by rw [est]; exact ns_st_at f A B q hq f2) (fun so2 hq2 => nm_r (nI_1 f) (nm_r (lN_1 t) ?_)))
        have last := ns_YV_last hR hC hg est hL hcd dl hx rfl hq2.1 hq2.2
        by_cases f0 : f = 0
        · subst f0
          exact ih (t + 1) 1 d so2 _ _ am2 om2 (by omega) (last.2 rfl)
        · have f1 : f = 1 := by omega
          subst f1
          have o := last.1 rfl
          exact br_f (hb (t + 1) (by omega)) (br_f (nI_pos (by omega)) (br_t (nI_le (a := 2) (b := 2) (by omega) (by omega)) (yw_s142 (f := 2) (by omega) (hp 2 so2 _ _ am2 om2 o (ns_ok64 ok)))))
      · refine br_f (fun z => dl (by have := (nI_eq (by omega) (by omega)).mp z; omega)) (nm_r (nI_1 d) ⟨vp_in_nI (by omega) (by omega), nm_r (ns_uc (by omega)) (nm_r (lN_1 t) ?_)⟩)
        exact ih (t + 1) f (d + 1) so' _ _ am2 om2 (by omega) (ns_YV_down hR hC hC0 hP est hL hcd (by omega) hx rfl)
theorem yw_scopy {post : Int32 → SY → Prop} (hp : ∀ ce', ns_cp gv ce ce' 64 → ∃ n, wY_solve_61 post n 0 0 0 (nI R) (nI C) st sv am om cl cn gv kn ce' so (upd cd 0 (-1))) :
    ∀ n i ce', i ≤ 64 → 64 < n + i → ns_cp gv ce ce' i → wY_solve_24 post (nI R) (nI C) st sv am om n (nI i) cl cn gv kn ce' so cd := by
  intro n
  induction n with
  | zero => intro i ce' a1 a2; omega
  | succ n ih =>
    intro i ce' a1 a2 hc
    by_cases h : i = 64
    · subst h
      exact br_t (nI_le (a := 64) (b := 64) (by omega) (by omega)) (nm_e (hp ce' hc))
    · exact br_f (nI_ge (b := 64) (by omega) (by omega)) ⟨vp_in_nI (by omega) (by omega), vp_in_nI (by omega) (by omega), nm_r (e' := upd ce' i (gv i)) (by rw [nI_clamp (by omega)]) (nm_r (nI_1 i) (ih (i + 1) _ (by omega) (by omega) (ns_cp_s hc rfl)))⟩
theorem yw_sclr {post : Int32 → SY → Prop} (hp : ∀ so', ns_cp (fun _ => 0) so so' 128 → ∃ n, wY_solve_24 post (nI R) (nI C) st sv am om n 0 cl cn gv kn ce so' cd) :
    ∀ n i so', i ≤ 128 → 128 < n + i → ns_cp (fun _ => 0) so so' i → wY_solve_2 post (nI R) (nI C) st sv am om n (nI i) cl cn gv kn ce so' cd := by
  intro n
  induction n with
  | zero => intro i so' a1 a2; omega
  | succ n ih =>
    intro i so' a1 a2 hc
    by_cases h : i = 128
    · subst h
      exact br_t (nI_le (a := 128) (b := 128) (by omega) (by omega)) (hp so' hc)
    · exact br_f (nI_ge (b := 128) (by omega) (by omega)) ⟨vp_in_nI (by omega) (by omega), nm_r (ns_uc (by omega)) (nm_r (nI_1 i) (ih (i + 1) _ (by omega) (by omega) (ns_cp_s hc rfl)))⟩
theorem yw_solve {post : Int32 → SY → Prop} (hR : R ≤ 8) (hC : C ≤ 8) (hR0 : 0 < R) (hC0 : 0 < C) (hcn : ns_cnt R C cn) (hg : ns_ok R C gv) (h64 : ∀ j, 64 ≤ j → ce j = 0) (h128 : ∀ j, 128 ≤ j → so j = 0)
    (hp : ∀ f so' ce' cd' am om, ns_out R C (ns_S R C (ns_cc cn) cl) gv f so' → (∀ j, 64 ≤ j → ce' j = 0) → post (nI f) ((nI R), (nI C), st, (nI f), am, om, cl, cn, gv, kn, ce', so', cd')) : wpY_solve post ((nI R), (nI C), st, sv, am, om, cl, cn, gv, kn, ce, so, cd) := by
  have hP : ∀ r p q, ns_S R C (ns_cc cn) cl r p → ns_S R C (ns_cc cn) cl r q → ns_pop (fun i => p.testBit i) 9 = ns_pop (fun i => q.testBit i) 9 := fun r p q h k => ns_S_pop_eq hR hC h k
  refine ⟨129, yw_sclr (fun so1 hc1 => ⟨65, yw_scopy (fun ce1 hc => ?_) 65 0 ce (by omega) (by omega) ns_cp_0⟩) 129 0 so (by omega) (by omega) ns_cp_0⟩
  have e1 : so1 = fun _ => 0 := ns_cp_end hc1 (fun j hj => h128 j hj)
  have e : ce1 = gv := ns_cp_end hc (fun j hj => by rw [h64 j hj, (hg j).2 (fun z => by have := z.1; omega)])
  rw [e1, e]
  obtain ⟨N, hN⟩ : ∃ N, N = 130 ^ 8 + 1 := ⟨_, rfl⟩
  exact ⟨N + 1, yw_srch hR hC hC0 hcn hg hp N 0 0 0 _ gv _ am om (by omega) (ns_YV_0 hR0 hR hC hC0 hP ns_upd_s)⟩
theorem yw_r33 {post : SY → Prop} (hp : ∀ so', ns_cp (fun _ => 0) so so' 128 → post ((nI R), (nI C), st, sv, am, om, cl, cn, gv, kn, ce, so', cd)) :
    ∀ n i so', i ≤ 128 → 128 < n + i → ns_cp (fun _ => 0) so so' i → wY_reset_33 post (nI R) (nI C) st sv am om n (nI i) cl cn gv kn ce so' cd := by
  intro n
  induction n with
  | zero => intro i so' a1 a2; omega
  | succ n ih =>
    intro i so' a1 a2 hc
    by_cases h : i = 128
    · subst h
      exact br_t (nI_le (a := 128) (b := 128) (by omega) (by omega)) (hp so' hc)
    · exact br_f (nI_ge (b := 128) (by omega) (by omega)) ⟨vp_in_nI (by omega) (by omega), nm_r (ns_uc (by omega)) (nm_r (nI_1 i) (ih (i + 1) _ (by omega) (by omega) (ns_cp_s hc rfl)))⟩
theorem yw_r12 {post : SY → Prop} (hp : ∀ kn' so', ns_cp (fun _ => 0) kn kn' 64 → ns_cp (fun _ => 0) so so' 128 → post ((nI R), (nI C), st, sv, am, om, cl, cn, gv, kn', ce, so', cd)) :
    ∀ n i kn', i ≤ 64 → 64 < n + i → ns_cp (fun _ => 0) kn kn' i → wY_reset_12 post (nI R) (nI C) st sv am om n (nI i) cl cn gv kn' ce so cd := by
  intro n
  induction n with
  | zero => intro i kn' a1 a2; omega
  | succ n ih =>
    intro i kn' a1 a2 hc
    by_cases h : i = 64
    · subst h
      exact br_t (nI_le (a := 64) (b := 64) (by omega) (by omega)) ⟨129, yw_r33 (fun so' hc2 => hp kn' so' hc hc2) 129 0 so (by omega) (by omega) ns_cp_0⟩
    · exact br_f (nI_ge (b := 64) (by omega) (by omega)) ⟨vp_in_nI (by omega) (by omega), nm_r (ns_uc (by omega)) (nm_r (nI_1 i) (ih (i + 1) _ (by omega) (by omega) (ns_cp_s hc rfl)))⟩
theorem yw_rst {post : SY → Prop} (hk : ns_ok R C kn) (h128 : ∀ j, 128 ≤ j → so j = 0) (hp : post ((nI R), (nI C), 3, 3, am, om, cl, cn, gv, (fun _ => 0), ce, (fun _ => 0), cd)) : wpY_reset post ((nI R), (nI C), st, sv, am, om, cl, cn, gv, kn, ce, so, cd) :=
  ⟨65, yw_r12 (fun kn' so' h h' => by rw [ns_cp_end h (fun j hj => (hk j).2 (fun z => by have := z.1; omega)), ns_cp_end h' (fun j hj => h128 j hj)]; exact hp) 65 0 kn (by omega) (by omega) ns_cp_0⟩
end
