/-! Y's search, one step -/
/-- the grid with rows below d as chosen, the others as given -/
def ns_gd (C : Nat) (g : Nat → Int32) (d : Nat) (w : Nat → Nat) : Nat → Int32 := fun j =>
  if j / 8 < d ∧ j % 8 < C then (if (w (j / 8) - 1).testBit (C - 1 - j % 8) = true then 2 else 1) else g j
/-- value v of row r stands for filling p -/
def ns_vp (C v p : Nat) : Prop := p < 2 ^ C ∧ ∀ c, c < C → p.testBit c = v.testBit (C - 1 - c)
theorem ns_gd_in {C d r c : Nat} {g : Nat → Int32} {w : Nat → Nat} (hC : C ≤ 8) (hr : r < d) (hc : c < C) : ns_gd C g d w (r * 8 + c) = if (w r - 1).testBit (C - 1 - c) = true then 2 else 1 := by
  have e1 : (r * 8 + c) / 8 = r := by omega
  have e2 : (r * 8 + c) % 8 = c := by omega
  simp only [ns_gd, e1, e2]
  rw [if_pos ⟨hr, hc⟩]
theorem ns_gd_out {C d j : Nat} {g : Nat → Int32} {w : Nat → Nat} (h : ¬ (j / 8 < d ∧ j % 8 < C)) : ns_gd C g d w j = g j := by
  simp only [ns_gd]; rw [if_neg h]
theorem ns_gd_rm {C d r : Nat} {g : Nat → Int32} {w : Nat → Nat} (hC : C ≤ 8) (hr : r < d) : ns_rm C (ns_gd C g d w) r (w r - 1) := fun _ hc => ns_gd_in hC hr hc
theorem ns_gd_le {C d : Nat} {g Z : Nat → Int32} {w : Nat → Nat} (h : ns_le g Z) (k : ∀ r, r < d → ns_rm C Z r (w r - 1)) : ns_le (ns_gd C g d w) Z := by
  intro j hj
  by_cases e : j / 8 < d ∧ j % 8 < C
  · have := k (j / 8) e.1 (j % 8) e.2
    rw [show j / 8 * 8 + j % 8 = j by omega] at this
    rw [this]; simp only [ns_gd]; rw [if_pos e]
  · rw [ns_gd_out e] at hj ⊢; exact h j hj
theorem ns_gd_eq {C d : Nat} {g : Nat → Int32} {w w' : Nat → Nat} (h : ∀ r, r < d → w' r = w r) : ns_gd C g d w' = ns_gd C g d w := by
  funext j
  simp only [ns_gd]
  by_cases e : j / 8 < d ∧ j % 8 < C
  · rw [if_pos e, if_pos e, h _ e.1]
  · rw [if_neg e, if_neg e]
theorem ns_gd_ok {R C d : Nat} {g : Nat → Int32} {w : Nat → Nat} (hR : R ≤ 8) (hd : d ≤ R) (hg : ns_ok R C g) : ns_ok R C (ns_gd C g d w) := by
  intro j
  by_cases e : j / 8 < d ∧ j % 8 < C
  · refine ⟨?_, fun z => absurd ⟨by omega, by omega, e.2⟩ z⟩
    simp only [ns_gd]; rw [if_pos e]; split
    · exact Or.inr (Or.inr rfl)
    · exact Or.inr (Or.inl rfl)
  · rw [ns_gd_out e]; exact hg j
theorem ns_vp_ex (C v : Nat) : ∃ p, ns_vp C v p := by
  obtain ⟨p, hp, hb⟩ := ns_mk (fun c => v.testBit (C - 1 - c)) C
  exact ⟨p, hp, hb⟩
theorem ns_vp_uq {C v p q : Nat} (h : ns_vp C v p) (k : ns_vp C v q) : p = q := by
  refine Nat.eq_of_testBit_eq (fun i => ?_)
  by_cases hi : i < C
  · rw [h.2 i hi, k.2 i hi]
  · rw [ns_off h.1 i (by omega), ns_off k.1 i (by omega)]
section
variable {R C : Nat} {S : Nat → Nat → Prop} {g : Nat → Int32}
/-- the filling of row d of a grid whose row d has value v -/
theorem ns_rm_cons {Z : Nat → Int32} {d v p q : Nat} (hd : d < 8) (hS : ∀ a x, S a x → x < 2 ^ ns_len R C a) (hm : ns_rm C Z d v) (hp : ns_vp C v p) (hq : ns_cons R C S Z d q) : q = p := by
  have hlen : ns_len R C d = C := by simp [ns_len, hd]
  refine Nat.eq_of_testBit_eq (fun i => ?_)
  by_cases hi : i < C
  · rw [hp.2 i hi]
    have a := hq.2 i (by rw [hlen]; exact hi)
    rw [ns_lc_row hd, hm i hi] at a
    cases e : v.testBit (C - 1 - i) with
    | true => rw [e] at a; exact a.1 (by simp)
    | false => rw [e] at a; exact a.2 (by simp)
  · have l := hS d q hq.1
    rw [hlen] at l
    rw [ns_off l i (by omega), ns_off hp.1 i (by omega)]
/-- a value is refused: its filling doesn't fit the row, or a column has no filling left -/
theorem ns_no_row {d v p : Nat} {w : Nat → Nat} (hd : d < R) (hR : R ≤ 8) (hS : ∀ a x, S a x → x < 2 ^ ns_len R C a) (hp : ns_vp C v p) (h : ¬ ns_cons R C S (ns_gd C g d w) d p) : ns_no R C S g d w v := by
  intro Z hZ hr hm
  obtain ⟨q, hq⟩ := hZ.2.2.2 d ⟨by omega, fun _ => hd, fun z => by omega⟩
  have := ns_rm_cons (by omega) hS hm hp hq
  subst this
  exact h (ns_cons_le (ns_gd_le hZ.2.2.1 hr) hq)
theorem ns_no_col {d v a : Nat} {w w' : Nat → Nat} (ha : ns_ing R C a) (hw : ∀ r, r < d → w' r = w r) (hwd : w' d = v + 1) (h : ¬ ∃ q, ns_cons R C S (ns_gd C g (d + 1) w') a q) : ns_no R C S g d w v := by
  intro Z hZ hr hm
  obtain ⟨q, hq⟩ := hZ.2.2.2 a ha
  refine h ⟨q, ns_cons_le (ns_gd_le hZ.2.2.1 (fun r hrd => ?_)) hq⟩
  by_cases e : r = d
  · subst e; rw [hwd]; exact hm
  · rw [hw r (by omega)]; exact hr r (by omega)
/-- the fillings of row r by value, from x on -/
def ns_sv (C : Nat) (S : Nat → Nat → Prop) (r x v : Nat) : Prop := x ≤ v ∧ ∃ p, ns_vp C v p ∧ S r p
noncomputable def ns_Kv (C : Nat) (S : Nat → Nat → Prop) (r x : Nat) : Nat := ns_ct (ns_sv C S r x) (2 ^ C)
theorem ns_ct_pair {Q : Nat → Prop} : ∀ m, (∀ i, i < m → Q (2 * i) → ¬ Q (2 * i + 1)) → ns_ct Q (2 * m) ≤ m := by
  intro m
  induction m with
  | zero => intro _; exact Nat.le_refl _
  | succ m ih =>
    intro h
    have := ih (fun i hi => h i (by omega))
    rw [show 2 * (m + 1) = 2 * m + 1 + 1 by omega]
    by_cases e1 : Q (2 * m + 1)
    · by_cases e0 : Q (2 * m)
      · exact absurd e1 (h m (by omega) e0)
      · rw [ns_ct_t e1, ns_ct_f e0]; omega
    · rw [ns_ct_f e1]
      by_cases e0 : Q (2 * m)
      · rw [ns_ct_t e0]; omega
      · rw [ns_ct_f e0]; omega
theorem ns_Kv_128 {r x : Nat} (hC : C ≤ 8) (hC0 : 0 < C) (hp : ∀ p q, S r p → S r q → ns_pop (fun i => p.testBit i) 9 = ns_pop (fun i => q.testBit i) 9) : ns_Kv C S r x ≤ 128 := by
  have e2 : 2 ^ C = 2 * 2 ^ (C - 1) := by
    rw [show C = C - 1 + 1 by omega, Nat.pow_succ]; simp; omega
  unfold ns_Kv
  rw [e2]
  refine Nat.le_trans (ns_ct_pair _ (fun i _ h0 h1 => ?_)) (Nat.pow_le_pow_right (n := 2) (by omega) (by omega : C - 1 ≤ 7))
  obtain ⟨_, p, hp0, s0⟩ := h0
  obtain ⟨_, q, hq0, s1⟩ := h1
  have e := hp p q s0 s1
  rw [show (9 : Nat) = C + (9 - C) by omega, ns_pop_tail (ns_off hp0.1), ns_pop_tail (ns_off hq0.1)] at e
  rw [show C = C - 1 + 1 by omega] at e
  simp only [ns_pop] at e
  have same : ∀ n, n ≤ C - 1 → ns_pop (fun i => p.testBit i) n = ns_pop (fun i => q.testBit i) n := by
    intro n
    induction n with
    | zero => intro _; rfl
    | succ n ih =>
      intro hn
      simp only [ns_pop]
      have a := hp0.2 n (by omega)
      have b := hq0.2 n (by omega)
      rw [show C - 1 - n = (C - 1 - n - 1) + 1 by omega, Nat.testBit_succ] at a b
      rw [show 2 * i / 2 = i by omega] at a
      rw [show (2 * i + 1) / 2 = i by omega] at b
      have ab : p.testBit n = q.testBit n := a.trans b.symm
      rw [ih (by omega)]; simp only [ab]
  have a := hp0.2 (C - 1) (by omega)
  have b := hq0.2 (C - 1) (by omega)
  rw [show C - 1 - (C - 1) = 0 by omega, Nat.testBit_zero] at a b
  have a' : p.testBit (C - 1) = false := by rw [a]; simp
  have b' : q.testBit (C - 1) = true := by rw [b]; simp
  have sm : ns_pop p.testBit (C - 1) = ns_pop q.testBit (C - 1) := same (C - 1) (Nat.le_refl _)
  simp [a', b'] at e
  omega
noncomputable def ns_Ps (R C : Nat) (S : Nat → Nat → Prop) (w : Nat → Nat) : Nat → Nat
  | 0 => 0
  | d + 1 => ns_Ps R C S w d + 1 + ns_Kv C S d (w d) * 130 ^ (R - 1 - d)
theorem ns_Ps_eq {w w' : Nat → Nat} : ∀ d, (∀ r, r < d → w' r = w r) → ns_Ps R C S w' d = ns_Ps R C S w d := by
  intro d
  induction d with
  | zero => intro _; rfl
  | succ d ih => intro h; simp only [ns_Ps]; rw [ih (fun r hr => h r (by omega)), h d (by omega)]
theorem ns_Kv_lt {r x v p : Nat} (hx : x ≤ v) (hv : v < 2 ^ C) (hp : ns_vp C v p) (hs : S r p) : ns_Kv C S r (v + 1) < ns_Kv C S r x :=
  ns_ct_lt (p := v) ⟨hx, p, hp, hs⟩ (fun z => by have := z.1; omega) _ hv (fun q _ z => ⟨by have := z.1; omega, z.2⟩)
theorem ns_Ps_last {d v p : Nat} {w w' : Nat → Nat} (hv : w d ≤ v) (hv2 : v < 2 ^ C) (hp : ns_vp C v p) (hs : S d p) (hw : ∀ r, r < d → w' r = w r) (hwd : w' d = v + 1) :
    ns_Ps R C S w' (d + 1) + 1 ≤ ns_Ps R C S w (d + 1) := by
  have k := ns_Kv_lt (r := d) hv hv2 hp hs
  simp only [ns_Ps]
  rw [ns_Ps_eq d hw, hwd]
  have pos : 0 < 130 ^ (R - 1 - d) := Nat.pow_pos (by omega)
  generalize 130 ^ (R - 1 - d) = X at pos ⊢
  have m := Nat.mul_le_mul_right X (show ns_Kv C S d (v + 1) + 1 ≤ ns_Kv C S d (w d) from k)
  rw [Nat.succ_mul] at m
  omega
theorem ns_Ps_down {d v p : Nat} {w w' : Nat → Nat} (hC : C ≤ 8) (hC0 : 0 < C) (hP : ∀ r p q, S r p → S r q → ns_pop (fun i => p.testBit i) 9 = ns_pop (fun i => q.testBit i) 9)
    (hd : d + 1 < R) (hv : w d ≤ v) (hv2 : v < 2 ^ C) (hp : ns_vp C v p) (hs : S d p) (hw : ∀ r, r < d → w' r = w r) (hwd : w' d = v + 1) (hw1 : w' (d + 1) = 0) :
    ns_Ps R C S w' (d + 2) + 1 ≤ ns_Ps R C S w (d + 1) := by
  have k := ns_Kv_lt (r := d) hv hv2 hp hs
  have k2 := ns_Kv_128 (r := d + 1) (x := 0) hC hC0 (hP (d + 1))
  show ns_Ps R C S w' (d + 1) + 1 + ns_Kv C S (d + 1) (w' (d + 1)) * 130 ^ (R - 1 - (d + 1)) + 1 ≤ _
  simp only [ns_Ps]
  rw [ns_Ps_eq d hw, hwd, hw1]
  have eX : 130 ^ (R - 1 - d) = 130 ^ (R - 1 - (d + 1)) * 130 := by
    rw [← Nat.pow_succ]; congr 1; omega
  rw [eX]
  have pos : 0 < 130 ^ (R - 1 - (d + 1)) := Nat.pow_pos (by omega)
  generalize 130 ^ (R - 1 - (d + 1)) = X at pos ⊢
  have m := Nat.mul_le_mul_right (X * 130) (show ns_Kv C S d (v + 1) + 1 ≤ ns_Kv C S d (w d) from k)
  rw [Nat.succ_mul] at m
  have m2 := Nat.mul_le_mul_right X k2
  omega
theorem ns_Ps_0 {w : Nat → Nat} (hR : R ≤ 8) (hC : C ≤ 8) (hC0 : 0 < C) (hP : ∀ r p q, S r p → S r q → ns_pop (fun i => p.testBit i) 9 = ns_pop (fun i => q.testBit i) 9) : ns_Ps R C S w 1 ≤ 130 ^ 8 := by
  have k := ns_Kv_128 (r := 0) (x := w 0) hC hC0 (hP 0)
  have p7 : 130 ^ (R - 1 - 0) ≤ 130 ^ 7 := Nat.pow_le_pow_right (by omega) (by omega)
  have m := Nat.mul_le_mul k p7
  have e : 128 * 130 ^ 7 + 1 ≤ 130 ^ 8 := by decide
  simp only [ns_Ps]
  omega
end
