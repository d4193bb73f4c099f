/-! Y: a line -/
theorem ns_b4 (K L : Nat) : nI K * 32 + nI L * 4 = nI ((K * 8 + L) * 4) := by
  show nI K * nI 32 + nI L * nI 4 = _
  rw [pk_mul, pk_mul, nI_add]; congr 1; omega
section
variable {R C : Nat} {st sv am om : Int32} {cl cn gv kn ce so cd : Nat → Int32}
theorem yw_idx {post : Int32 → Prop} {K L i : Nat} (hK : K < 2) (hL : L < 8) (hp : post (nI (ns_lc (K * 8 + L) i))) : wpY_idx post ((nI R), (nI C), st, sv, am, om, cl, cn, gv, kn, ce, so, cd) (nI K) (nI L) (nI i) := by
  by_cases h : K = 0
  · subst h
    rw [ns_lc_row (by omega), show 0 * 8 + L = L by omega, ← ns_i8] at hp
    exact br_t rfl hp
  · have e : K = 1 := by omega
    subst e
    rw [ns_lc_col (by omega), show 1 * 8 + L - 8 = L by omega, ← ns_i8] at hp
    exact br_f (by decide) hp
theorem yw_len {post : Int32 → Prop} {K L : Nat} (hK : K < 2) (hL : L < 8) (hp : post (nI (ns_len R C (K * 8 + L)))) : wpY_lenOf post ((nI R), (nI C), st, sv, am, om, cl, cn, gv, kn, ce, so, cd) (nI K) := by
  by_cases h : K = 0
  · subst h
    have : ns_len R C (0 * 8 + L) = C := by simp [ns_len, hL]
    rw [this] at hp
    exact br_t rfl hp
  · have e : K = 1 := by omega
    subst e
    have : ns_len R C (1 * 8 + L) = R := by
      have n : ¬ 1 * 8 + L < 8 := by omega
      unfold ns_len; rw [if_neg n]
    rw [this] at hp
    exact br_f (by decide) hp
theorem yw_fits_loop {post : Int32 → Prop} {K L p c len : Nat} (hR : R ≤ 8) (hC : C ≤ 8) (hK : K < 2) (hL : L < 8) (el : len = ns_len R C (K * 8 + L)) (hp : p < 2 ^ len) (hc : c ≤ 4)
    (h1 : ns_sat c (fun k => cl ((K * 8 + L) * 4 + k)) (fun i => p.testBit i) len → ns_ag R C ce (K * 8 + L) p → post 1)
    (h0 : ¬ (ns_sat c (fun k => cl ((K * 8 + L) * 4 + k)) (fun i => p.testBit i) len ∧ ns_ag R C ce (K * 8 + L) p) → post 0) :
    ∀ n i k r, i ≤ len + 1 → len + 1 < n + i → ns_au c (fun k => cl ((K * 8 + L) * 4 + k)) (fun i => p.testBit i) i = some (k, r) →
      (∀ q, q < i → q < len → (ce (ns_lc (K * 8 + L) q) = 2 → p.testBit q = true) ∧ (ce (ns_lc (K * 8 + L) q) = 1 → p.testBit q = false)) →
      wY_fits_32 post (nI K) (nI L) (nI len) (nI p) (nI ((K * 8 + L) * 4)) (nI c) (nI R) (nI C) st sv am om cl cn gv kn ce so cd n (nI r) (nI k) (nI i) := by
  have hl8 : len ≤ 8 := by rw [el]; exact ns_len_le hR hC
  have p256 : p < 256 := Nat.lt_of_lt_of_le hp (ns_pw_le hl8)
  intro n
  induction n with
  | zero => intro i k r a1 a2; omega
  | succ n ih =>
    intro i k r a1 a2 e hag
    have le := ns_au_le _ _ _ e
    by_cases hi : i = len + 1
    · subst hi
      have r0 : r = 0 := ns_end (ns_off hp len (Nat.le_refl _)) e
      subst r0
      refine br_t (nI_lt (by omega) (by omega)) ?_
      by_cases hk : k = c
      · subst hk; exact br_t rfl (h1 e (fun q hq => hag q (by omega) (by omega)))
      · exact br_f (fun z => hk ((nI_eq (by omega) (by omega)).mp z)) (h0 (fun z => by
          have z1 : ns_au c _ _ (len + 1) = some (c, 0) := z.1
          rw [e] at z1; cases z1; exact hk rfl))
    · refine br_f (nI_nlt (by omega) (by omega)) ?_
      have bad : ns_au c (fun k => cl ((K * 8 + L) * 4 + k)) (fun i => p.testBit i) (i + 1) = none → post 0 := fun z => h0 (fun y => by
        have y1 : ns_au c _ _ (len + 1) = some (c, 0) := y.1
        rw [show len + 1 = i + 1 + (len - i) by omega, ns_au_n z] at y1; exact nomatch y1)
      have nxt : (i < len → (ce (ns_lc (K * 8 + L) i) = 2 → p.testBit i = true) ∧ (ce (ns_lc (K * 8 + L) i) = 1 → p.testBit i = false)) →
          ∀ q, q < i + 1 → q < len → (ce (ns_lc (K * 8 + L) q) = 2 → p.testBit q = true) ∧ (ce (ns_lc (K * 8 + L) q) = 1 → p.testBit q = false) := fun z q h2 h3 => by
        by_cases eq : q = i
        · subst eq; exact z h3
        · exact hag q (by omega) h3
      have tt : p.testBit i = true → (i < len → (ce (ns_lc (K * 8 + L) i) = 2 → p.testBit i = true) ∧ (ce (ns_lc (K * 8 + L) i) = 1 → p.testBit i = false)) →
          wY_fits_105 post (wY_fits_32 post (nI K) (nI L) (nI len) (nI p) (nI ((K * 8 + L) * 4)) (nI c) (nI R) (nI C) st sv am om cl cn gv kn ce so cd n) (nI K) (nI L) (nI len) (nI p) (nI ((K * 8 + L) * 4)) (nI c) (nI r) (nI k) (nI i) 1 (nI R) (nI C) st sv am om cl cn gv kn ce so cd := fun hb z =>
        br_t rfl (nm_r (nI_1 r) (nm_r (nI_1 i) (ih (i + 1) k (r + 1) (by omega) (by omega) (ns_au_t e hb) (nxt z))))
      have tf : p.testBit i = false → (i < len → (ce (ns_lc (K * 8 + L) i) = 2 → p.testBit i = true) ∧ (ce (ns_lc (K * 8 + L) i) = 1 → p.testBit i = false)) →
          wY_fits_105 post (wY_fits_32 post (nI K) (nI L) (nI len) (nI p) (nI ((K * 8 + L) * 4)) (nI c) (nI R) (nI C) st sv am om cl cn gv kn ce so cd n) (nI K) (nI L) (nI len) (nI p) (nI ((K * 8 + L) * 4)) (nI c) (nI r) (nI k) (nI i) 0 (nI R) (nI C) st sv am om cl cn gv kn ce so cd := fun hb z => by
        refine br_f (by decide) ?_
        by_cases hr : r = 0
        · subst hr; exact br_t (by decide) (nm_r (nI_1 i) (ih (i + 1) k 0 (by omega) (by omega) (ns_au_z e hb) (nxt z)))
        · refine br_f (nI_nle (by omega) (by omega)) ?_
          by_cases hk : k < c
          · refine br_f (nI_ge hk (by omega)) ⟨pk_in ((K * 8 + L) * 4 + k) 64 (by omega) (nI_add _ _), ?_⟩
            have rd : cl (nI ((K * 8 + L) * 4) + nI k).toNatClampNeg = cl ((K * 8 + L) * 4 + k) := by rw [nI_add, nI_clamp (by omega)]
            rw [rd]
            by_cases hq : cl ((K * 8 + L) * 4 + k) = nI r
            · exact br_t hq (nm_r (nI_1 k) (nm_r (nI_1 i) (ih (i + 1) (k + 1) 0 (by omega) (by omega) (ns_au_e e hb hr ⟨hk, hq⟩) (nxt z))))
            · exact br_f hq (bad (ns_au_x e hb hr (fun y => hq y.2)))
          · exact br_t (nI_le (by omega) (by omega)) (bad (ns_au_x e hb hr (fun y => hk y.1)))
      by_cases il : i = len
      · have hb : p.testBit i = false := ns_off hp i (by omega)
        exact br_t (nI_le (by omega) (by omega)) (br_t (nI_le (by omega) (by omega)) (tf hb (fun z => absurd z (by omega))))
      · have l64 := ns_lc64 (a := K * 8 + L) (i := i) (by omega) (by omega)
        have na : ¬ ((ce (ns_lc (K * 8 + L) i) = 2 → p.testBit i = true) ∧ (ce (ns_lc (K * 8 + L) i) = 1 → p.testBit i = false)) → post 0 := fun z => h0 (fun y => z (y.2 i (by rw [← el]; omega)))
        refine br_f (nI_ge (by omega) (by omega)) ?_
        rw [ns_bit (by omega) (nI p), ns_btN (by omega)]
        refine br_f (nI_ge (by omega) (by omega)) (yw_idx hK hL ⟨vp_in_nI l64 (by omega), nm_r (e' := ce (ns_lc (K * 8 + L) i)) (by rw [nI_clamp (by omega)]) ?_⟩)
        cases hb : p.testBit i with
        | true =>
          rw [if_pos rfl]
          by_cases e1 : ce (ns_lc (K * 8 + L) i) = 1
          · exact br_t e1 (br_t rfl (na (fun z => by have := z.2 e1; rw [hb] at this; exact nomatch this)))
          · refine br_f e1 ?_
            have ok := tt hb (fun _ => ⟨fun _ => hb, fun z => absurd z e1⟩)
            by_cases e2 : ce (ns_lc (K * 8 + L) i) = 2
            · exact br_t e2 (br_f (by decide) ok)
            · exact br_f e2 ok
        | false =>
          rw [if_neg (by decide)]
          by_cases e2 : ce (ns_lc (K * 8 + L) i) = 2
          · exact br_f (by rw [e2]; decide) (br_t e2 (br_t rfl (na (fun z => by have := z.1 e2; rw [hb] at this; exact nomatch this))))
          · have ok := tf hb (fun _ => ⟨fun z => absurd z e2, fun _ => hb⟩)
            by_cases e1 : ce (ns_lc (K * 8 + L) i) = 1
            · exact br_t e1 (br_f (by decide) (br_f e2 ok))
            · exact br_f e1 (br_f e2 ok)
theorem yw_fits {post : Int32 → Prop} {K L p len : Nat} (hR : R ≤ 8) (hC : C ≤ 8) (hK : K < 2) (hL : L < 8) (hcn : ns_cnt R C cn) (el : len = ns_len R C (K * 8 + L)) (hp : p < 2 ^ len)
    (h1 : ns_cons R C (ns_S R C (ns_cc cn) cl) ce (K * 8 + L) p → post 1) (h0 : ¬ ns_cons R C (ns_S R C (ns_cc cn) cl) ce (K * 8 + L) p → post 0) : wpY_fits post ((nI R), (nI C), st, sv, am, om, cl, cn, gv, kn, ce, so, cd) (nI K) (nI L) (nI len) (nI p) := by
  obtain ⟨c4, ec, _⟩ := hcn (K * 8 + L) (by omega)
  refine nm_r (ns_b4 K L) ⟨pk_in (K * 8 + L) 16 (by omega) (ns_i8 K L), nm_r (e' := nI (ns_cc cn (K * 8 + L))) (by rw [ns_i8, nI_clamp (by omega)]; exact ec) ⟨len + 2, ?_⟩⟩
  refine yw_fits_loop hR hC hK hL el hp c4 (fun s ag => h1 ⟨⟨by rw [← el]; exact hp, by rw [← el]; exact s⟩, ag⟩) (fun z => h0 (fun y => z ⟨by rw [el]; exact y.1.2, y.2⟩)) (len + 2) 0 0 0 (by omega) (by omega) rfl (fun q hq => absurd hq (by omega))
theorem yw_scan_loop {post : Int32 → SY → Prop} {K L len : Nat} (hR : R ≤ 8) (hC : C ≤ 8) (hK : K < 2) (hL : L < 8) (hcn : ns_cnt R C cn) (el : len = ns_len R C (K * 8 + L))
    (hp : ∀ x am om, ns_an (ns_cons R C (ns_S R C (ns_cc cn) cl) ce (K * 8 + L)) true am → ns_or (ns_cons R C (ns_S R C (ns_cc cn) cl) ce (K * 8 + L)) true om →
      ((x = 0 ∧ ¬ ∃ p, ns_cons R C (ns_S R C (ns_cc cn) cl) ce (K * 8 + L) p) ∨ (x ≠ 0 ∧ ∃ p, ns_cons R C (ns_S R C (ns_cc cn) cl) ce (K * 8 + L) p)) → post x ((nI R), (nI C), st, sv, am, om, cl, cn, gv, kn, ce, so, cd)) :
    ∀ n p k am om, p ≤ 2 ^ len → 2 ^ len < n + p → k ≤ p → ns_an (ns_sl R C (ns_S R C (ns_cc cn) cl) ce (K * 8 + L) p) true am → ns_or (ns_sl R C (ns_S R C (ns_cc cn) cl) ce (K * 8 + L) p) true om →
      ((k = 0 ∧ ∀ q, ¬ ns_sl R C (ns_S R C (ns_cc cn) cl) ce (K * 8 + L) p q) ∨ (0 < k ∧ ∃ q, ns_sl R C (ns_S R C (ns_cc cn) cl) ce (K * 8 + L) p q)) →
      wY_scan_27 post (nI K) (nI L) (nI len) (nI (2 ^ len)) (nI R) (nI C) st sv cl cn gv kn ce so cd n (nI k) (nI p) am om := by
  have hl8 : len ≤ 8 := by rw [el]; exact ns_len_le hR hC
  have pw := ns_pw_le hl8
  intro n
  induction n with
  | zero => intro p k am om a1 a2; omega
  | succ n ih =>
    intro p k am om a1 a2 kp han hor hk
    by_cases h : p = 2 ^ len
    · have en := ns_sl_end (R := R) (C := C) (S := ns_S R C (ns_cc cn) cl) (P := ce) (a := K * 8 + L) (m := p) (fun q hq => by rw [h, el]; exact hq.1)
      refine br_t (by rw [h]; exact nI_le (Nat.le_refl _) (by omega)) (hp _ am om (ns_an_eq han en) (ns_or_eq hor en) ?_)
      rcases hk with ⟨rfl, nx⟩ | ⟨k0, q, hq⟩
      · exact Or.inl ⟨rfl, fun ⟨q, hq⟩ => nx q ((en q).mp hq)⟩
      · exact Or.inr ⟨nI_ne0 k0 (by omega), q, (en q).mpr hq⟩
    · refine br_f (nI_ge (by omega) (by omega)) (yw_fits hR hC hK hL hcn el (by omega) (fun hc => ?_) (fun hc => ?_))
      · have en := ns_sl_t hc
        exact br_f (by decide) (nm_r (nI_1 k) (nm_e (nm_e (nm_r (nI_1 p) (ih (p + 1) (k + 1) _ _ (by omega) (by omega) (by omega) (ns_an_add (by omega) han en) (ns_or_add hor en (ns_hyt (by omega))) (Or.inr ⟨by omega, p, (en p).mpr (Or.inr rfl)⟩))))))
      · have en := ns_sl_f hc
        exact br_t rfl (nm_r (nI_1 p) (ih (p + 1) k am om (by omega) (by omega) (by omega) (ns_an_eq han en) (ns_or_eq hor en) (hk.imp (fun z => ⟨z.1, fun q hq => z.2 q ((en q).mp hq)⟩) (fun ⟨z, q, hq⟩ => ⟨z, q, (en q).mpr hq⟩))))
theorem yw_scan {post : Int32 → SY → Prop} {K L : Nat} (hR : R ≤ 8) (hC : C ≤ 8) (hK : K < 2) (hL : L < 8) (hcn : ns_cnt R C cn)
    (hp : ∀ x am om, ns_an (ns_cons R C (ns_S R C (ns_cc cn) cl) ce (K * 8 + L)) true am → ns_or (ns_cons R C (ns_S R C (ns_cc cn) cl) ce (K * 8 + L)) true om →
      ((x = 0 ∧ ¬ ∃ p, ns_cons R C (ns_S R C (ns_cc cn) cl) ce (K * 8 + L) p) ∨ (x ≠ 0 ∧ ∃ p, ns_cons R C (ns_S R C (ns_cc cn) cl) ce (K * 8 + L) p)) → post x ((nI R), (nI C), st, sv, am, om, cl, cn, gv, kn, ce, so, cd)) : wpY_scan post ((nI R), (nI C), st, sv, am, om, cl, cn, gv, kn, ce, so, cd) (nI K) (nI L) := by
  have hl8 : ns_len R C (K * 8 + L) ≤ 8 := ns_len_le hR hC
  unfold wpY_scan
  dsimp only
  refine yw_len hK hL (nm_r (ns_pw hl8) ⟨2 ^ ns_len R C (K * 8 + L) + 1, ?_⟩)
  exact yw_scan_loop hR hC hK hL hcn rfl hp _ 0 0 (-1) 0 (Nat.zero_le _) (by omega) (by omega) (ns_an_0 ns_sl_0) (ns_or_0 ns_sl_0) (Or.inl ⟨rfl, ns_sl_0⟩)
end
