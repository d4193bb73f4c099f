/-! X: a step on a line -/
section
variable {R C : Nat} {st sv pl : Int32} {cn cl gv kn so fc fl ce bc bg : Nat → Int32}
theorem xw_mask_loop {post : Int32 → Prop} {a : Nat} {v : Int32} (hR : R ≤ 8) (hC : C ≤ 8) (ha : a < 16) (hp : ∀ x, ns_mb ce a v (ns_len R C a) x → post x) :
    ∀ n i x, i ≤ ns_len R C a → ns_len R C a < n + i → ns_mb ce a v i x → wX_lineCellsOf_12 post (nI a) v (nI (ns_len R C a)) (nI R) (nI C) st sv pl cn cl gv kn so fc fl ce bc bg n x (nI i) := by
  have hl := ns_len_le hR hC (a := a)
  intro n
  induction n with
  | zero => intro i x h1 h2; omega
  | succ n ih =>
    intro i x h1 h2 hm
    by_cases h : i = ns_len R C a
    · exact br_t (nI_le (by omega) (by omega)) (hp x (by rw [← h]; exact hm))
    · have l64 := ns_lc64 (i := i) ha (by omega)
      refine br_f (nI_ge (by omega) (by omega)) (xw_lc ha (by omega) ⟨vp_in_nI l64 (by omega), ?_⟩)
      rw [nI_clamp (by omega)]
      by_cases e : ce (ns_lc a i) = v
      · exact br_t e (nm_e (nm_r (nI_1 i) (ih (i + 1) _ (by omega) (by omega) (ns_mb_t (by omega) hm e))))
      · exact br_f e (nm_r (nI_1 i) (ih (i + 1) x (by omega) (by omega) (ns_mb_f hm e)))
theorem xw_mask {post : Int32 → Prop} {a : Nat} {v : Int32} (hR : R ≤ 8) (hC : C ≤ 8) (ha : a < 16) (hp : ∀ x, ns_mb ce a v (ns_len R C a) x → post x) : wpX_lineCellsOf post ((nI R), (nI C), st, sv, pl, cn, cl, gv, kn, so, fc, fl, ce, bc, bg) (nI a) v := by
  unfold wpX_lineCellsOf
  dsimp only
  exact xw_len ha ⟨ns_len R C a + 1, xw_mask_loop hR hC ha hp (ns_len R C a + 1) 0 0 (by omega) (by omega) ns_mb_0⟩
theorem xw_dec_loop {post : SX → Prop} {a : Nat} {Q : Nat → Prop} {af ae : Int32} (hR : R ≤ 8) (hC : C ≤ 8) (ha : a < 16) (haf : ns_an Q true af) (hae : ns_an Q false ae) (P : Nat → Int32) (p0 : Int32)
    (hp : ∀ P' pl', ns_wr Q P a (ns_len R C a) P' → ns_pk a (ns_len R C a) P p0 P' pl' → post ((nI R), (nI C), st, sv, pl', cn, cl, gv, kn, so, fc, fl, P', bc, bg)) :
    ∀ n i P' pl', i ≤ ns_len R C a → ns_len R C a < n + i → ns_wr Q P a i P' → ns_pk a i P p0 P' pl' → wX_decideCells_10 post (nI a) af ae (nI (ns_len R C a)) (nI R) (nI C) st sv n (nI i) pl' cn cl gv kn so fc fl P' bc bg := by
  have hl := ns_len_le hR hC (a := a)
  intro n
  induction n with
  | zero => intro i P' pl' h1 h2; omega
  | succ n ih =>
    intro i P' pl' h1 h2 hw hk
    by_cases h : i = ns_len R C a
    · exact br_t (nI_le (by omega) (by omega)) (hp P' pl' (by rw [← h]; exact hw) (by rw [← h]; exact hk))
    · have l64 := ns_lc64 (i := i) ha (by omega)
      have at' := ns_wr_at (by omega) hw
      have inl : vp_in (nI (ns_lc a i)) 64 := vp_in_nI l64 (by omega)
      have rd : P' (nI (ns_lc a i)).toNatClampNeg = P (ns_lc a i) := by rw [nI_clamp (by omega)]; exact at'
      have keep : (P (ns_lc a i) ≠ 0 ∨ ((¬ ∀ p, Q p → p.testBit i = true) ∧ ¬ ∀ p, Q p → p.testBit i = false)) →
          wX_decideCells_10 post (nI a) af ae (nI (ns_len R C a)) (nI R) (nI C) st sv n (nI (i + 1)) pl' cn cl gv kn so fc fl P' bc bg :=
        fun k => ih (i + 1) P' pl' (by omega) (by omega) (ns_wr_keep (by omega) hw k) (ns_pk_keep hk at')
      have put : ∀ x : Int32, x ≠ 0 → P (ns_lc a i) = 0 → ((x = 2 ∧ ∀ p, Q p → p.testBit i = true) ∨ (x = 1 ∧ ∀ p, Q p → p.testBit i = false)) →
          wX_decideCells_10 post (nI a) af ae (nI (ns_len R C a)) (nI R) (nI C) st sv n (nI (i + 1)) (pl' ||| ((1 : Int32) <<< (nI (ns_xl a i) &&& 31))) cn cl gv kn so fc fl (upd P' (ns_lc a i) x) bc bg :=
        fun x hx z k => ih (i + 1) _ _ (by omega) (by omega) (ns_wr_put (by omega) hw z k) (ns_pk_put (by omega) ha hk z hx)
      refine br_f (nI_ge (by omega) (by omega)) (xw_lc ha (by omega) ?_)
      cases hf : bt af i with
      | true =>
        have on := (haf i (by omega)).mp hf
        refine br_t (ns_bit_t (by omega) (by rw [b_or, hf]; rfl)) ⟨inl, ?_⟩
        rw [rd]
        exact br_c (fun z => br_f (by decide) (br_t (ns_bit_t (by omega) hf) ⟨inl, nm_r (ns_uc (by omega)) (xw_xl ha (nm_e (nm_r (nI_1 i) (put 2 (by decide) z (Or.inl ⟨rfl, on⟩)))))⟩))
          (fun z => nm_r (nI_1 i) (keep (Or.inl z)))
      | false =>
        cases he : bt ae i with
        | true =>
          have off := (hae i (by omega)).mp he
          refine br_t (ns_bit_t (by omega) (by rw [b_or, he, hf]; rfl)) ⟨inl, ?_⟩
          rw [rd]
          exact br_c (fun z => br_f (by decide) (br_f (ns_bit_f (by omega) hf) ⟨inl, nm_r (ns_uc (by omega)) (xw_xl ha (nm_e (nm_r (nI_1 i) (put 1 (by decide) z (Or.inr ⟨rfl, off⟩)))))⟩))
            (fun z => nm_r (nI_1 i) (keep (Or.inl z)))
        | false =>
          have n1 : ¬ ∀ p, Q p → p.testBit i = true := fun y => by rw [(haf i (by omega)).mpr y] at hf; exact nomatch hf
          have n0 : ¬ ∀ p, Q p → p.testBit i = false := fun y => by rw [(hae i (by omega)).mpr y] at he; exact nomatch he
          refine br_f (ns_bit_f (by omega) (by rw [b_or, he, hf]; rfl)) ⟨inl, ?_⟩
          rw [rd]
          exact br_c (fun z => br_t rfl (nm_r (nI_1 i) (keep (Or.inr ⟨n1, n0⟩)))) (fun z => nm_r (nI_1 i) (keep (Or.inl z)))
theorem xw_dec {post : SX → Prop} {a : Nat} {Q : Nat → Prop} {af ae : Int32} (hR : R ≤ 8) (hC : C ≤ 8) (ha : a < 16) (haf : ns_an Q true af) (hae : ns_an Q false ae)
    (hp : ∀ P' pl', ns_wr Q ce a (ns_len R C a) P' → ns_pk a (ns_len R C a) ce pl P' pl' → post ((nI R), (nI C), st, sv, pl', cn, cl, gv, kn, so, fc, fl, P', bc, bg)) : wpX_decideCells post ((nI R), (nI C), st, sv, pl, cn, cl, gv, kn, so, fc, fl, ce, bc, bg) (nI a) af ae := by
  unfold wpX_decideCells
  dsimp only
  exact xw_len ha ⟨ns_len R C a + 1, xw_dec_loop hR hC ha haf hae ce pl hp (ns_len R C a + 1) 0 ce pl (by omega) (by omega) ns_wr_0 ns_pk_0⟩
theorem xw_stp_loop {post : Int32 → SX → Prop} {a m : Nat} {mf me : Int32} (hR : R ≤ 8) (hC : C ≤ 8) (ha : a < 16) (hm : fc a = nI m) (hl : ns_lst (ns_S R C (ns_cc cn) cl) fl a m)
    (hmf : ns_mb ce a 2 (ns_len R C a) mf) (hme : ns_mb ce a 1 (ns_len R C a) me)
    (h1 : ∀ P' pl', (∃ p, ns_cons R C (ns_S R C (ns_cc cn) cl) ce a p) → ns_wr (ns_cons R C (ns_S R C (ns_cc cn) cl) ce a) ce a (ns_len R C a) P' → ns_pk a (ns_len R C a) ce pl P' pl' → post 1 ((nI R), (nI C), st, sv, pl', cn, cl, gv, kn, so, fc, fl, P', bc, bg))
    (h0 : (¬ ∃ p, ns_cons R C (ns_S R C (ns_cc cn) cl) ce a p) → post 0 ((nI R), (nI C), st, sv, pl, cn, cl, gv, kn, so, fc, fl, ce, bc, bg)) :
    ∀ n k cf ct cs, k ≤ m → m < n + k → ns_or (ns_sn R C (ns_S R C (ns_cc cn) cl) ce fl a k) true cf → ns_or (ns_sn R C (ns_S R C (ns_cc cn) cl) ce fl a k) false ct →
      ((cs = 0 ∧ ∀ p, ¬ ns_sn R C (ns_S R C (ns_cc cn) cl) ce fl a k p) ∨ (cs = 1 ∧ ∃ p, ns_sn R C (ns_S R C (ns_cc cn) cl) ce fl a k p)) →
      wX_stepLine_40 post (nI a) mf me (nI R) (nI C) st sv pl cn cl gv kn so fc fl ce bc bg n cf ct cs (nI k) := by
  have hlen := ns_len_le hR hC (a := a)
  have hS : ∀ p, ns_S R C (ns_cc cn) cl a p → p < 256 := fun p => ns_S_lt hR hC a p
  have m256 := hl.1
  intro n
  induction n with
  | zero => intro k cf ct cs a1 a2; omega
  | succ n ih =>
    intro k cf ct cs a1 a2 hcf hct hcs
    have ina : vp_in (nI a) 16 := vp_in_nI ha (by omega)
    have rdm : fc (nI a).toNatClampNeg = nI m := by rw [nI_clamp (by omega)]; exact hm
    refine ⟨ina, ?_⟩
    rw [rdm]
    by_cases h : k = m
    · subst h
      have en := ns_sn_end (R := R) (C := C) (P := ce) hl
      refine br_t (nI_le (Nat.le_refl _) (by omega)) ?_
      rcases hcs with ⟨rfl, nx⟩ | ⟨rfl, p, hp⟩
      · exact br_t rfl ⟨rfl, h0 (fun ⟨p, hp⟩ => nx p ((en p).mp hp))⟩
      · refine br_f (by decide) (xw_dec (Q := ns_cons R C (ns_S R C (ns_cc cn) cl) ce a) hR hC ha (ns_or_an (ns_or_eq hct en)) (ns_or_an (ns_or_eq hcf en)) (fun P' pl' hw hk => ⟨rfl, h1 P' pl' ⟨p, (en p).mpr hp⟩ hw hk⟩))
    · obtain ⟨p, hf, hs⟩ := hl.2.1 k (by omega)
      have p256 := hS p hs
      refine br_f (nI_ge (by omega) (by omega)) ⟨pk_in (a * 256 + k) 4096 (by omega) (ns_i256 a k), nm_r (e' := nI p) (by rw [ns_i256, nI_clamp (by omega)]; exact hf) ?_⟩
      have skip : ¬ ns_ag R C ce a p → wX_stepLine_40 post (nI a) mf me (nI R) (nI C) st sv pl cn cl gv kn so fc fl ce bc bg n cf ct cs (nI (k + 1)) := fun na => by
        have en := ns_sn_f (R := R) (C := C) (P := ce) hS hf hs na
        refine ih (k + 1) cf ct cs (by omega) (by omega) (ns_or_eq hcf en) (ns_or_eq hct en) (hcs.imp (fun z => ⟨z.1, fun q hq => z.2 q ((en q).mp hq)⟩) (fun ⟨z, q, hq⟩ => ⟨z, q, (en q).mpr hq⟩))
      by_cases e1 : (mf &&& (nI p ^^^ (-1))) = 0
      · have f1 := (ns_mf0 hlen hmf (by omega)).mp e1
        by_cases e2 : (me &&& nI p) = 0
        · have f2 := (ns_me0 hlen hme (by omega)).mp e2
          have ag : ns_ag R C ce a p := fun i hi => ⟨f1 i hi, f2 i hi⟩
          have en := ns_sn_t (R := R) (C := C) (P := ce) hS hf ⟨hs, ag⟩
          exact br_t e1 (br_t e2 (nm_e (nm_e (nm_r (nI_1 k) (ih (k + 1) _ _ 1 (by omega) (by omega) (ns_or_add hcf en (ns_hyt (by omega))) (ns_or_add hct en (ns_hyf (by omega))) (Or.inr ⟨rfl, p, (en p).mpr (Or.inr rfl)⟩))))))
        · exact br_t e1 (br_f e2 (nm_r (nI_1 k) (skip (fun ag => e2 ((ns_me0 hlen hme (by omega)).mpr (fun i hi => (ag i hi).2))))))
      · exact br_f e1 (nm_r (nI_1 k) (skip (fun ag => e1 ((ns_mf0 hlen hmf (by omega)).mpr (fun i hi => (ag i hi).1)))))
theorem xw_step {post : Int32 → SX → Prop} {a m : Nat} (hR : R ≤ 8) (hC : C ≤ 8) (ha : ns_ing R C a) (hm : fc a = nI m) (hl : ns_lst (ns_S R C (ns_cc cn) cl) fl a m)
    (h1 : ∀ P' pl', (∃ p, ns_cons R C (ns_S R C (ns_cc cn) cl) ce a p) → ns_step R C (ns_S R C (ns_cc cn) cl) ce a P' → ns_pc R C a ce pl P' pl' → post 1 ((nI R), (nI C), st, sv, pl', cn, cl, gv, kn, so, fc, fl, P', bc, bg))
    (h0 : ∀ pl', (¬ ∃ p, ns_cons R C (ns_S R C (ns_cc cn) cl) ce a p) → post 0 ((nI R), (nI C), st, sv, pl', cn, cl, gv, kn, so, fc, fl, ce, bc, bg)) : wpX_stepLine post ((nI R), (nI C), st, sv, pl, cn, cl, gv, kn, so, fc, fl, ce, bc, bg) (nI a) := by
  refine nm_e (xw_mask hR hC ha.1 (fun mf hmf => xw_mask hR hC ha.1 (fun me hme => ⟨m + 1, ?_⟩)))
  exact xw_stp_loop hR hC ha.1 hm hl hmf hme (fun P' pl' ex hw hk => h1 P' pl' ex (ns_wr_step hw) (ns_pk_end ha.1 hk)) (fun nx => h0 _ nx) (m + 1) 0 0 0 0 (by omega) (by omega) (ns_or_0 ns_sn_0) (ns_or_0 ns_sn_0) (Or.inl ⟨rfl, ns_sn_0⟩)
end
