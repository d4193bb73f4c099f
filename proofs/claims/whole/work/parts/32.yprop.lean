/-! Y: a step, propagate -/
section
variable {R C : Nat} {st sv am om : Int32} {cl cn gv kn ce so cd : Nat → Int32}
theorem yw_stp_loop {post : Int32 → SY → Prop} {K L len : Nat} {Q : Nat → Prop} (hR : R ≤ 8) (hC : C ≤ 8) (hK : K < 2) (hL : L < 8) (el : len = ns_len R C (K * 8 + L)) (ham : ns_an Q true am) (hom : ns_or Q true om) (P : Nat → Int32)
    (hp : ∀ x P', ns_wr Q P (K * 8 + L) len P' →
      ((x = 0 ∧ ∀ i, i < len → P (ns_lc (K * 8 + L) i) = 0 → P' (ns_lc (K * 8 + L) i) = 0) ∨ (x = 1 ∧ ∃ i, i < len ∧ P (ns_lc (K * 8 + L) i) = 0 ∧ P' (ns_lc (K * 8 + L) i) ≠ 0)) → post x ((nI R), (nI C), st, sv, am, om, cl, cn, gv, kn, P', so, cd)) :
    ∀ n i x P', i ≤ len → len < n + i → ns_wr Q P (K * 8 + L) i P' →
      ((x = 0 ∧ ∀ k, k < i → P (ns_lc (K * 8 + L) k) = 0 → P' (ns_lc (K * 8 + L) k) = 0) ∨ (x = 1 ∧ ∃ k, k < i ∧ P (ns_lc (K * 8 + L) k) = 0 ∧ P' (ns_lc (K * 8 + L) k) ≠ 0)) →
      wY_stepLine_23 post (nI K) (nI L) (nI len) (nI R) (nI C) st sv am om n x (nI i) cl cn gv kn P' so cd := by
  have hl8 : len ≤ 8 := by rw [el]; exact ns_len_le hR hC
  intro n
  induction n with
  | zero => intro i x P' a1 a2; omega
  | succ n ih =>
    intro i x P' a1 a2 hw hx
    by_cases h : i = len
    · exact br_t (nI_le (by omega) (by omega)) (hp x P' (by rw [← h]; exact hw) (by rw [← h]; exact hx))
    · have l64 := ns_lc64 (a := K * 8 + L) (i := i) (by omega) (by omega)
      have inl : vp_in (nI (ns_lc (K * 8 + L) i)) 64 := vp_in_nI l64 (by omega)
      have at' := ns_wr_at (by omega) hw
      have rd : P' (nI (ns_lc (K * 8 + L) i)).toNatClampNeg = P (ns_lc (K * 8 + L) i) := by rw [nI_clamp (by omega)]; exact at'
      have keep : (P (ns_lc (K * 8 + L) i) ≠ 0 ∨ ((¬ ∀ p, Q p → p.testBit i = true) ∧ ¬ ∀ p, Q p → p.testBit i = false)) → wY_stepLine_23 post (nI K) (nI L) (nI len) (nI R) (nI C) st sv am om n x (nI (i + 1)) cl cn gv kn P' so cd := fun k => by
        refine ih (i + 1) x P' (by omega) (by omega) (ns_wr_keep (by omega) hw k) (hx.imp (fun z => ⟨z.1, fun q hq z0 => ?_⟩) (fun ⟨z, q, hq, y⟩ => ⟨z, q, by omega, y⟩))
        by_cases e : q = i
        · subst e; rw [at']; exact z0
        · exact z.2 q (by omega) z0
      have put : ∀ y : Int32, y ≠ 0 → P (ns_lc (K * 8 + L) i) = 0 → ((y = 2 ∧ ∀ p, Q p → p.testBit i = true) ∨ (y = 1 ∧ ∀ p, Q p → p.testBit i = false)) →
          wY_stepLine_23 post (nI K) (nI L) (nI len) (nI R) (nI C) st sv am om n 1 (nI (i + 1)) cl cn gv kn (upd P' (ns_lc (K * 8 + L) i) y) so cd := fun y hy z k =>
        ih (i + 1) 1 _ (by omega) (by omega) (ns_wr_put (by omega) hw z k) (Or.inr ⟨rfl, i, by omega, z, by rw [ns_upd_s]; exact hy⟩)
      refine br_f (nI_ge (by omega) (by omega)) (yw_idx hK hL ⟨inl, ?_⟩)
      rw [rd]
      refine br_c (fun z => ?_) (fun z => nm_r (nI_1 i) (keep (Or.inl z)))
      cases ha : bt am i with
      | true => exact br_t (ns_bit_t (by omega) ha) ⟨inl, nm_r (ns_uc (by omega)) (nm_r (nI_1 i) (put 2 (by decide) z (Or.inl ⟨rfl, (ham i (by omega)).mp ha⟩)))⟩
      | false =>
        have n1 : ¬ ∀ p, Q p → p.testBit i = true := fun y => by rw [(ham i (by omega)).mpr y] at ha; exact nomatch ha
        refine br_f (ns_bit_f (by omega) ha) ?_
        cases ho : bt om i with
        | true =>
          have n0 : ¬ ∀ p, Q p → p.testBit i = false := fun y => by
            obtain ⟨p, hq, ht⟩ := (hom i (by omega)).mp ho
            rw [y p hq] at ht; exact nomatch ht
          exact br_f (by rw [ns_bit (by omega), ho]; decide) (nm_r (nI_1 i) (keep (Or.inr ⟨n1, n0⟩)))
        | false =>
          have off : ∀ p, Q p → p.testBit i = false := fun p hq => by
            cases t : p.testBit i with
            | false => rfl
            | true => rw [(hom i (by omega)).mpr ⟨p, hq, t⟩] at ho; exact nomatch ho
          exact br_t (by rw [ns_bit (by omega), ho]; decide) ⟨inl, nm_r (ns_uc (by omega)) (nm_r (nI_1 i) (put 1 (by decide) z (Or.inr ⟨rfl, off⟩)))⟩
theorem yw_step {post : Int32 → SY → Prop} {K L : Nat} (hR : R ≤ 8) (hC : C ≤ 8) (hK : K < 2) (hL : L < 8) (hcn : ns_cnt R C cn)
    (hb : ∀ am om, (¬ ∃ p, ns_cons R C (ns_S R C (ns_cc cn) cl) ce (K * 8 + L) p) → post (-1) ((nI R), (nI C), st, sv, am, om, cl, cn, gv, kn, ce, so, cd))
    (h0 : ∀ am om P', (∃ p, ns_cons R C (ns_S R C (ns_cc cn) cl) ce (K * 8 + L) p) → ns_step R C (ns_S R C (ns_cc cn) cl) ce (K * 8 + L) P' →
      (∀ i, i < ns_len R C (K * 8 + L) → ce (ns_lc (K * 8 + L) i) = 0 → P' (ns_lc (K * 8 + L) i) = 0) → post 0 ((nI R), (nI C), st, sv, am, om, cl, cn, gv, kn, P', so, cd))
    (h1 : ∀ am om P', (∃ p, ns_cons R C (ns_S R C (ns_cc cn) cl) ce (K * 8 + L) p) → ns_step R C (ns_S R C (ns_cc cn) cl) ce (K * 8 + L) P' →
      (∃ i, i < ns_len R C (K * 8 + L) ∧ ce (ns_lc (K * 8 + L) i) = 0 ∧ P' (ns_lc (K * 8 + L) i) ≠ 0) → post 1 ((nI R), (nI C), st, sv, am, om, cl, cn, gv, kn, P', so, cd)) : wpY_stepLine post ((nI R), (nI C), st, sv, am, om, cl, cn, gv, kn, ce, so, cd) (nI K) (nI L) := by
  unfold wpY_stepLine
  dsimp only
  refine yw_scan hR hC hK hL hcn (fun x am om han hor hx => ?_)
  rcases hx with ⟨rfl, nx⟩ | ⟨x0, ex⟩
  · exact br_t rfl (hb am om nx)
  · refine br_f x0 (yw_len hK hL ⟨ns_len R C (K * 8 + L) + 1, ?_⟩)
    refine yw_stp_loop hR hC hK hL rfl han hor ce (fun y P' hw hy => ?_) _ 0 0 ce (Nat.zero_le _) (by omega) ns_wr_0 (Or.inl ⟨rfl, fun k hk => absurd hk (by omega)⟩)
    rcases hy with ⟨rfl, hy⟩ | ⟨rfl, hy⟩
    · exact h0 am om P' ex (ns_wr_step hw) hy
    · exact h1 am om P' ex (ns_wr_step hw) hy
theorem yw_ok_g {post : Int32 → Prop} {K L : Nat} (hK : K < 2) (hL : L < 8) (hR : R ≤ 8) (hC : C ≤ 8) (h1 : ns_ing R C (K * 8 + L) → post 1) (h0 : ¬ ns_ing R C (K * 8 + L) → post 0) : wpY_lineOk post ((nI R), (nI C), st, sv, am, om, cl, cn, gv, kn, ce, so, cd) (nI K) (nI L) := by
  by_cases h : K = 0
  · subst h
    refine br_t rfl (br_f (nI_pos (by omega)) ?_)
    by_cases k : L < R
    · exact br_f (nI_ge k (by omega)) (h1 ⟨by omega, fun _ => by omega, fun z => by omega⟩)
    · exact br_t (nI_le (by omega) (by omega)) (h0 (fun z => k (by have := z.2.1 (by omega); omega)))
  · have e : K = 1 := by omega
    subst e
    refine br_f (by decide) (br_t rfl (br_f (nI_pos (by omega)) ?_))
    by_cases k : L < C
    · exact br_f (nI_ge k (by omega)) (h1 ⟨by omega, fun z => by omega, fun _ => by omega⟩)
    · exact br_t (nI_le (by omega) (by omega)) (h0 (fun z => k (by have := z.2.2 (by omega); omega)))
theorem yw_pass {post : Int32 → SY → Prop} {J : Int32 → Int32 → Int32 → Int32 → Int32 → Int32 → Int32 → Int32 → Int32 → (Nat → Int32) → (Nat → Int32) → (Nat → Int32) → (Nat → Int32) → (Nat → Int32) → (Nat → Int32) → (Nat → Int32) → Prop} (P0 : Nat → Int32) {ps : Nat} (hR : R ≤ 8) (hC : C ≤ 8) (hcn : ns_cnt R C cn)
    (hJ : ∀ ch P am om, (ch = 0 ∨ ch = 1) → ns_OY R C (ns_S R C (ns_cc cn) cl) P0 (ps + 1) (ch = 1) P → J 0 ch (nI (ps + 1)) (nI R) (nI C) st sv am om cl cn gv kn P so cd)
    (hB : ∀ ch P am om, ns_ok R C P → (∀ Q, ns_cls R C (ns_S R C (ns_cc cn) cl) Q → ¬ ns_le P0 Q) → J 1 ch (nI (ps + 1)) (nI R) (nI C) st sv am om cl cn gv kn P so cd) :
    ∀ n li ch P am om, li ≤ 16 → 17 < n + li → (ch = 0 ∨ ch = 1) → ns_IY R C (ns_S R C (ns_cc cn) cl) P0 ps li (ch = 1) P → wY_propagate_51 post J (nI ps) n 0 ch (nI li) (nI R) (nI C) st sv am om cl cn gv kn P so cd := by
  intro n
  induction n with
  | zero => intro li ch P am om a1 a2; omega
  | succ n ih =>
    intro li ch P am om a1 a2 hch hI
    by_cases h : li = 16
    · subst h
      exact br_t (nI_le (a := 16) (b := 16) (by omega) (by omega)) (nm_r (nI_1 ps) (hJ ch P am om hch (ns_IY_end hI)))
    · have e1 : nI li / 8 = nI (li / 8) := pk_div (d := 8) (by omega) (by omega) (by omega)
      have e2 : nI li - nI li / 8 * 8 = nI (li % 8) := pk_rem (d := 8) (by omega) (by omega) (by omega)
      have ea : li / 8 * 8 + li % 8 = li := by omega
      refine br_f (nI_ge (b := 16) (by omega) (by omega)) (br_t rfl ⟨by decide, nm_r e1 ⟨by decide, nm_r e2 ?_⟩⟩)
      refine yw_ok_g (by omega) (by omega) hR hC (fun g => ?_) (fun g => ?_)
      · have g' : ns_ing R C li := by rw [ea] at g; exact g
        refine br_f (by decide) (yw_step (K := li / 8) (L := li % 8) hR hC (by omega) (by omega) hcn (fun am2 om2 nx => ?_) (fun am2 om2 P' ex st d => ?_) (fun am2 om2 P' ex st d => ?_))
        · rw [ea] at nx
          refine br_f (by decide) (br_t (by decide) (nm_r (nI_1 li) ?_))
          obtain ⟨n', rfl⟩ : ∃ n', n = n' + 1 := ⟨n - 1, by omega⟩
          have fin := hB ch P am2 om2 hI.1 (ns_res_bad g' hI.2.2.1 nx)
          exact br_c (fun _ => nm_r (nI_1 ps) fin) (fun _ => br_f (by decide) (nm_r (nI_1 ps) fin))
        · rw [ea] at ex st d
          exact br_t (by decide) (br_t (by decide) (nm_r (nI_1 li) (ih (li + 1) ch P' am2 om2 (by omega) (by omega) hch (ns_IY_none hI st ex d))))
        · rw [ea] at ex st d
          have hI2 := ns_IY_some hR hC g' hI st d
          refine br_t (by decide) (br_f (by decide) (nm_r (nI_1 li) (ih (li + 1) 1 P' am2 om2 (by omega) (by omega) (Or.inr rfl) ?_)))
          have et : ((1 : Int32) = 1) = True := eq_true rfl
          rw [et]; exact hI2
      · have g' : ¬ ns_ing R C li := by rw [ea] at g; exact g
        exact br_t rfl (nm_r (nI_1 li) (ih (li + 1) ch P am om (by omega) (by omega) hch (ns_IY_skip hI g')))
theorem yw_fin_loop {post : Int32 → SY → Prop} (hR : R ≤ 8) (hC : C ≤ 8)
    (hp : ∀ x kn', ns_cp ce kn kn' 64 → ((x = 5 ∧ ∀ q, ns_cg R C q → ce q ≠ 0) ∨ (x = 6 ∧ ∃ q, ns_cg R C q ∧ ce q = 0)) → post x ((nI R), (nI C), x, sv, am, om, cl, cn, gv, kn', ce, so, cd)) :
    ∀ n i x kn', i ≤ 64 → 64 < n + i → ns_cp ce kn kn' i → ((x = 5 ∧ ∀ q, q < i → ns_cg R C q → ce q ≠ 0) ∨ (x = 6 ∧ ∃ q, ns_cg R C q ∧ ce q = 0)) →
      wY_propagate_165 post (nI R) (nI C) sv am om n (nI i) x cl cn gv kn' ce so cd := by
  intro n
  induction n with
  | zero => intro i x kn' a1 a2; omega
  | succ n ih =>
    intro i x kn' a1 a2 hc hx
    by_cases h : i = 64
    · subst h
      exact br_t (nI_le (a := 64) (b := 64) (by omega) (by omega)) (hp x kn' hc (hx.imp (fun z => ⟨z.1, fun q hq => z.2 q hq.1 hq⟩) id))
    · have e1 : nI i / 8 = nI (i / 8) := pk_div (d := 8) (by omega) (by omega) (by omega)
      have e2 : nI i - nI i / 8 * 8 = nI (i % 8) := pk_rem (d := 8) (by omega) (by omega) (by omega)
      have inx : vp_in (nI i) 64 := vp_in_nI (by omega) (by omega)
      have hc' : ns_cp ce kn (upd kn' i (ce i)) (i + 1) := ns_cp_s hc rfl
      have keep : (ns_cg R C i → ce i ≠ 0) → wY_propagate_165 post (nI R) (nI C) sv am om n (nI (i + 1)) x cl cn gv (upd kn' i (ce i)) ce so cd := fun k =>
        ih (i + 1) x _ (by omega) (by omega) hc' (hx.imp (fun z => ⟨z.1, fun q hq g => by
          by_cases e : q = i
          · subst e; exact k g
          · exact z.2 q (by omega) g⟩) id)
      refine br_f (nI_ge (b := 64) (by omega) (by omega)) ⟨inx, inx, nm_r (e' := upd kn' i (ce i)) (by rw [nI_clamp (by omega)]) ⟨by decide, ?_⟩⟩
      rw [e1]
      by_cases r1 : i / 8 < R
      · refine br_f (nI_ge r1 (by omega)) ⟨by decide, ?_⟩
        rw [← e1, e2]
        by_cases r2 : i % 8 < C
        · refine br_f (nI_ge r2 (by omega)) ⟨inx, ?_⟩
          rw [nI_clamp (by omega)]
          by_cases z : ce i = 0
          · exact br_t z (nm_r (nI_1 i) (ih (i + 1) 6 _ (by omega) (by omega) hc' (Or.inr ⟨rfl, i, ⟨by omega, r1, r2⟩, z⟩)))
          · exact br_f z (nm_r (nI_1 i) (keep (fun _ => z)))
        · exact br_t (nI_le (by omega) (by omega)) (nm_r (nI_1 i) (keep (fun g => absurd g.2.2 r2)))
      · exact br_t (nI_le (by omega) (by omega)) (nm_r (nI_1 i) (keep (fun g => absurd g.2.1 r1)))
theorem yw_bad_loop {post : Int32 → SY → Prop} (hp : ∀ kn', ns_cp (fun _ => 0) kn kn' 64 → post 4 ((nI R), (nI C), 4, sv, am, om, cl, cn, gv, kn', ce, so, cd)) :
    ∀ n i kn', i ≤ 64 → 64 < n + i → ns_cp (fun _ => 0) kn kn' i → wY_propagate_129 post (nI R) (nI C) st sv am om n (nI i) cl cn gv kn' ce so cd := by
  intro n
  induction n with
  | zero => intro i kn' a1 a2; omega
  | succ n ih =>
    intro i kn' a1 a2 hc
    by_cases h : i = 64
    · subst h
      exact br_t (nI_le (a := 64) (b := 64) (by omega) (by omega)) (hp kn' hc)
    · exact br_f (nI_ge (b := 64) (by omega) (by omega)) ⟨vp_in_nI (by omega) (by omega), nm_r (ns_uc (by omega)) (nm_r (nI_1 i) (ih (i + 1) _ (by omega) (by omega) (ns_cp_s hc rfl)))⟩
theorem yw_rounds {post : Int32 → SY → Prop} (P0 : Nat → Int32) (hR : R ≤ 8) (hC : C ≤ 8) (hcn : ns_cnt R C cn)
    (h1 : ∀ P am om, ns_cls R C (ns_S R C (ns_cc cn) cl) P → ns_le P0 P → ns_blw R C (ns_S R C (ns_cc cn) cl) P0 P → wY_propagate_123 post 0 (nI R) (nI C) st sv am om cl cn gv kn P so cd)
    (h0 : ∀ P am om, ns_ok R C P → (∀ Q, ns_cls R C (ns_S R C (ns_cc cn) cl) Q → ¬ ns_le P0 Q) → wY_propagate_123 post 1 (nI R) (nI C) st sv am om cl cn gv kn P so cd) :
    ∀ n ps ch P am om, ps ≤ 66 → 67 < n + ps → (ch = 0 ∨ ch = 1) → ns_OY R C (ns_S R C (ns_cc cn) cl) P0 ps (ch = 1) P → wY_propagate_32 post n 0 ch (nI ps) (nI R) (nI C) st sv am om cl cn gv kn P so cd := by
  intro n
  induction n with
  | zero => intro ps ch P am om a1 a2; omega
  | succ n ih =>
    intro ps ch P am om a1 a2 hch hO
    rcases hch with rfl | rfl
    · have fin := h1 P am om (ns_OY_end hO (Or.inl (by decide))) hO.2.1 hO.2.2.1
      exact br_c (fun _ => fin) (fun _ => br_t rfl fin)
    · have pb := hO.2.2.2.1 rfl
      refine br_f (nI_ge (b := 70) (by omega) (by omega)) (br_f (by decide) (br_t rfl ⟨18, ?_⟩))
      have hI := ns_IY_0 hO rfl
      have ef : ((0 : Int32) = 1) = False := eq_false (by decide)
      refine yw_pass P0 hR hC hcn (fun ch P am om hch hO' => ih (ps + 1) ch P am om (by omega) (by omega) hch hO') (fun ch P am om ok nb => ?_) 18 0 0 P am om (by omega) (by omega) (Or.inl rfl) (by rw [ef]; exact hI)
      obtain ⟨n', rfl⟩ : ∃ n', n = n' + 1 := ⟨n - 1, by omega⟩
      have fin := h0 P am om ok nb
      exact br_c (fun _ => fin) (fun _ => br_c (fun _ => fin) (fun _ => br_f (by decide) fin))
theorem yw_pcopy {post : Int32 → SY → Prop} (hp : ∀ ce', ns_cp gv ce ce' 64 → ∃ n, wY_propagate_32 post n 0 1 0 (nI R) (nI C) st sv am om cl cn gv kn ce' so cd) :
    ∀ n i ce', i ≤ 64 → 64 < n + i → ns_cp gv ce ce' i → wY_propagate_2 post (nI R) (nI C) st sv am om n (nI i) cl cn gv kn ce' so cd := by
  intro n
  induction n with
  | zero => intro i ce' a1 a2; omega
  | succ n ih =>
    intro i ce' a1 a2 hc
    by_cases h : i = 64
    · subst h
      exact br_t (nI_le (a := 64) (b := 64) (by omega) (by omega)) (hp ce' hc)
    · exact br_f (nI_ge (b := 64) (by omega) (by omega)) ⟨vp_in_nI (by omega) (by omega), vp_in_nI (by omega) (by omega), nm_r (e' := upd ce' i (gv i)) (by rw [nI_clamp (by omega)]) (nm_r (nI_1 i) (ih (i + 1) _ (by omega) (by omega) (ns_cp_s hc rfl)))⟩
theorem yw_prop {post : Int32 → SY → Prop} (hR : R ≤ 8) (hC : C ≤ 8) (hcn : ns_cnt R C cn) (hg : ns_ok R C gv) (hk : ns_ok R C kn) (h64 : ∀ j, 64 ≤ j → ce j = 0)
    (hp : ∀ st' kn' ce' am om, ns_po R C (ns_S R C (ns_cc cn) cl) gv st' kn' → (∀ j, 64 ≤ j → ce' j = 0) → post st' ((nI R), (nI C), st', sv, am, om, cl, cn, gv, kn', ce', so, cd)) : wpY_propagate post ((nI R), (nI C), st, sv, am, om, cl, cn, gv, kn, ce, so, cd) := by
  refine ⟨65, yw_pcopy (fun ce' hc => ⟨68, ?_⟩) 65 0 ce (by omega) (by omega) ns_cp_0⟩
  have e : ce' = gv := ns_cp_end hc (fun j hj => by rw [h64 j hj, (hg j).2 (fun z => by have := z.1; omega)])
  rw [e]
  have et : ((1 : Int32) = 1) = True := eq_true rfl
  refine yw_rounds gv hR hC hcn (fun P am om c l b => ?_) (fun P am om ok nb => ?_) 68 0 1 gv am om (by omega) (by omega) (Or.inr rfl) (by rw [et]; exact ns_OY_0 hg)
  · refine br_t rfl ⟨65, yw_fin_loop hR hC (fun x kn' hc hx => ?_) 65 0 5 kn (by omega) (by omega) ns_cp_0 (Or.inl ⟨rfl, fun q hq => absurd hq (by omega)⟩)⟩
    have e : kn' = P := ns_cp_end hc (fun j hj => by rw [(hk j).2 (fun z => by have := z.1; omega), (c.1 j).2 (fun z => by have := z.1; omega)])
    rw [e]
    refine hp x P P am om (Or.inl ⟨c, l, b, ?_⟩) (ns_ok64 c.1)
    exact hx.imp (fun z => ⟨z.2, z.1⟩) (fun z => ⟨z.2, z.1⟩)
  · refine br_f (by decide) ⟨65, yw_bad_loop (fun kn' hc => ?_) 65 0 kn (by omega) (by omega) ns_cp_0⟩
    have e : kn' = fun _ => 0 := ns_cp_end hc (fun j hj => (hk j).2 (fun z => by have := z.1; omega))
    rw [e]
    exact hp 4 _ P am om (Or.inr ⟨nb, rfl, rfl⟩) (ns_ok64 ok)
end
