/-! Y's search, purely: rows by their value, the first cell the highest bit -/
/-- row r of Z has value v -/
def ns_rm (C : Nat) (Z : Nat → Int32) (r v : Nat) : Prop := ∀ c, c < C → Z (r * 8 + c) = if v.testBit (C - 1 - c) = true then 2 else 1
/-- any bits are those of a number -/
theorem ns_mk (f : Nat → Bool) : ∀ n, ∃ v, v < 2 ^ n ∧ ∀ i, i < n → v.testBit i = f i := by
  intro n
  induction n with
  | zero => exact ⟨0, by decide, fun i hi => absurd hi (by omega)⟩
  | succ n ih =>
    obtain ⟨v, hv, hb⟩ := ih
    have e2 : 2 ^ (n + 1) = 2 * 2 ^ n := by rw [Nat.pow_succ]; omega
    cases hf : f n with
    | false =>
      refine ⟨v, by omega, fun i hi => ?_⟩
      by_cases e : i = n
      · subst e; rw [hf]; exact Nat.testBit_lt_two_pow hv
      · exact hb i (by omega)
    | true =>
      refine ⟨2 ^ n + v, by omega, fun i hi => ?_⟩
      by_cases e : i = n
      · subst e; rw [Nat.testBit_two_pow_add_eq, Nat.testBit_lt_two_pow hv, hf]; rfl
      · rw [Nat.testBit_two_pow_add_gt (by omega)]; exact hb i (by omega)
theorem ns_rm_ex {C r : Nat} {Z : Nat → Int32} (h : ∀ c, c < C → Z (r * 8 + c) = 1 ∨ Z (r * 8 + c) = 2) : ∃ v, v < 2 ^ C ∧ ns_rm C Z r v := by
  obtain ⟨v, hv, hb⟩ := ns_mk (fun i => decide (Z (r * 8 + (C - 1 - i)) = 2)) C
  refine ⟨v, hv, fun c hc => ?_⟩
  have := hb (C - 1 - c) (by omega)
  rw [show C - 1 - (C - 1 - c) = c by omega] at this
  rcases h c hc with e | e
  · rw [e] at this; rw [this, e]; decide
  · rw [e] at this; rw [this, e]; decide
theorem ns_rm_inj {C r v w : Nat} {Z : Nat → Int32} (hv : v < 2 ^ C) (hw : w < 2 ^ C) (h : ns_rm C Z r v) (k : ns_rm C Z r w) : v = w := by
  refine Nat.eq_of_testBit_eq (fun i => ?_)
  by_cases hi : i < C
  · have a := h (C - 1 - i) (by omega)
    have b := k (C - 1 - i) (by omega)
    rw [show C - 1 - (C - 1 - i) = i by omega] at a b
    rw [a] at b
    cases hv' : v.testBit i <;> cases hw' : w.testBit i <;> rw [hv', hw'] at b <;> first | rfl | exact absurd b (by decide)
  · rw [ns_off hv i (by omega), ns_off hw i (by omega)]
theorem ns_ltb : ∀ (i v w : Nat), w.testBit i = false → v.testBit i = true → (∀ j, i < j → w.testBit j = v.testBit j) → w < v := by
  intro i
  induction i with
  | zero =>
    intro v w hw hv h
    rw [Nat.testBit_zero] at hw hv
    have e : w / 2 = v / 2 := Nat.eq_of_testBit_eq (fun j => by
      have := h (j + 1) (by omega)
      rw [Nat.testBit_succ, Nat.testBit_succ] at this; exact this)
    have a : ¬ w % 2 = 1 := of_decide_eq_false hw
    have b : v % 2 = 1 := of_decide_eq_true hv
    omega
  | succ i ih =>
    intro v w hw hv h
    rw [Nat.testBit_succ] at hw hv
    have := ih (v / 2) (w / 2) hw hv (fun j hj => by
      have := h (j + 1) (by omega)
      rw [Nat.testBit_succ, Nat.testBit_succ] at this; exact this)
    omega
/-- the lesser value has EMPTY at the first cell where they differ -/
theorem ns_bits {C v w : Nat} (hv : v < 2 ^ C) (hw : w < 2 ^ C) (h : v < w) : ∃ c, c < C ∧ (∀ q, q < c → v.testBit (C - 1 - q) = w.testBit (C - 1 - q)) ∧ v.testBit (C - 1 - c) = false ∧ w.testBit (C - 1 - c) = true := by
  have ex : ∃ c, c < C ∧ v.testBit (C - 1 - c) ≠ w.testBit (C - 1 - c) := by
    by_cases e : ∃ c, c < C ∧ v.testBit (C - 1 - c) ≠ w.testBit (C - 1 - c)
    · exact e
    · have : v = w := by
        refine Nat.eq_of_testBit_eq (fun i => ?_)
        by_cases hi : i < C
        · by_cases z : v.testBit i = w.testBit i
          · exact z
          · exact absurd ⟨C - 1 - i, by omega, by rw [show C - 1 - (C - 1 - i) = i by omega]; exact z⟩ e
        · rw [ns_off hv i (by omega), ns_off hw i (by omega)]
      omega
  obtain ⟨c, ⟨hc, hd⟩, hm⟩ := pk_least _ ex
  have hq : ∀ q, q < c → v.testBit (C - 1 - q) = w.testBit (C - 1 - q) := by
    intro q hqc
    by_cases z : v.testBit (C - 1 - q) = w.testBit (C - 1 - q)
    · exact z
    · exact absurd ⟨by omega, z⟩ (hm q hqc)
  refine ⟨c, hc, hq, ?_⟩
  have hi : ∀ j, C - 1 - c < j → w.testBit j = v.testBit j := by
    intro j hj
    by_cases hjC : j < C
    · have := hq (C - 1 - j) (by omega)
      rw [show C - 1 - (C - 1 - j) = j by omega] at this; exact this.symm
    · rw [ns_off hv j (by omega), ns_off hw j (by omega)]
  cases a : v.testBit (C - 1 - c) with
  | false =>
    cases b : w.testBit (C - 1 - c) with
    | false => rw [a, b] at hd; exact absurd rfl hd
    | true => exact ⟨rfl, rfl⟩
  | true =>
    cases b : w.testBit (C - 1 - c) with
    | false => have := ns_ltb (C - 1 - c) v w b a hi; omega
    | true => rw [a, b] at hd; exact absurd rfl hd
/-- rows alike before j, row j of lesser value: before in grid order -/
theorem ns_rm_lt {R C j v w : Nat} {A Z : Nat → Int32} (hA : ns_ok R C A) (hZ : ns_ok R C Z) (hC : C ≤ 8) (hv : v < 2 ^ C) (hw : w < 2 ^ C)
    (u : Nat → Nat) (ha : ∀ r, r < j → ns_rm C A r (u r)) (hz : ∀ r, r < j → ns_rm C Z r (u r)) (ka : ns_rm C A j v) (kz : ns_rm C Z j w) (h : v < w) : ns_lt A Z := by
  obtain ⟨c, hc, hq, b0, b1⟩ := ns_bits hv hw h
  refine ⟨j * 8 + c, fun q hqq => ?_, by rw [ka c hc, b0]; rfl, by rw [kz c hc, b1]; rfl⟩
  by_cases e : q % 8 < C
  · have eq : q / 8 * 8 + q % 8 = q := by omega
    by_cases l : q / 8 < j
    · have a := ha (q / 8) l (q % 8) e
      have b := hz (q / 8) l (q % 8) e
      rw [eq] at a b; rw [a, b]
    · have l' : q / 8 = j := by omega
      have a := ka (q % 8) e
      have b := kz (q % 8) e
      rw [← l', eq] at a b
      rw [a, b, hq (q % 8) (by omega)]
  · have n : ¬ ns_cg R C q := fun z => e z.2.2
    rw [(hA q).2 n, (hZ q).2 n]
/-- what remains: rows below j as chosen, row j at w j or beyond -/
def ns_YR (C d : Nat) (w : Nat → Nat) (Z : Nat → Int32) : Prop :=
  ∃ j, j ≤ d ∧ (∀ r, r < j → ns_rm C Z r (w r - 1)) ∧ ∃ v, w j ≤ v ∧ v < 2 ^ C ∧ ns_rm C Z j v
section
variable {R C : Nat} {S : Nat → Nat → Prop} {g : Nat → Int32}
theorem ns_sol_rm {Z : Nat → Int32} {r : Nat} (hR : R ≤ 8) (hC : C ≤ 8) (h : ns_sol R C S g Z) (hr : r < R) : ∃ v, v < 2 ^ C ∧ ns_rm C Z r v := by
  refine ns_rm_ex (fun c hc => ?_)
  rcases (h.1 (r * 8 + c)).1 with z | z | z
  · exact absurd z (h.2.1 _ ⟨by omega, by omega, by omega⟩)
  · exact Or.inl z
  · exact Or.inr z
/-- no solution has the chosen rows and value v in row d -/
def ns_no (R C : Nat) (S : Nat → Nat → Prop) (g : Nat → Int32) (d : Nat) (w : Nat → Nat) (v : Nat) : Prop :=
  ∀ Z, ns_sol R C S g Z → (∀ r, r < d → ns_rm C Z r (w r - 1)) → ¬ ns_rm C Z d v
/-- a value is found in a row that isn't the last -/
theorem ns_YR_down {d v : Nat} {w w' : Nat → Nat} {Z : Nat → Int32} (hR : R ≤ 8) (hC : C ≤ 8) (hZ : ns_sol R C S g Z) (hd : d + 1 < R)
    (hv : w d ≤ v) (hv2 : v < 2 ^ C) (hn : ∀ u, w d ≤ u → u < v → ns_no R C S g d w u)
    (hw : ∀ r, r < d → w' r = w r) (hwd : w' d = v + 1) (hw1 : w' (d + 1) = 0) : ns_YR C d w Z ↔ ns_YR C (d + 1) w' Z := by
  constructor
  · rintro ⟨j, hj, hr, u, hu, hu2, hm⟩
    by_cases e : j = d
    · subst e
      by_cases l : u < v
      · exact absurd hm (hn u hu l Z hZ hr)
      · by_cases l' : u = v
        · subst l'
          obtain ⟨x, hx, hxm⟩ := ns_sol_rm hR hC hZ hd
          refine ⟨j + 1, by omega, fun r hrj => ?_, x, by omega, hx, hxm⟩
          by_cases er : r = j
          · subst er; rw [hwd]; exact hm
          · rw [hw r (by omega)]; exact hr r (by omega)
        · exact ⟨j, by omega, fun r hrj => by rw [hw r hrj]; exact hr r hrj, u, by omega, hu2, hm⟩
    · exact ⟨j, by omega, fun r hrj => by rw [hw r (by omega)]; exact hr r hrj, u, by rw [hw j (by omega)]; exact hu, hu2, hm⟩
  · rintro ⟨j, hj, hr, u, hu, hu2, hm⟩
    by_cases e : j = d + 1
    · subst e
      refine ⟨d, by omega, fun r hrd => by rw [← hw r hrd]; exact hr r (by omega), v, hv, hv2, ?_⟩
      have := hr d (by omega)
      rw [hwd] at this; exact this
    · by_cases e' : j = d
      · subst e'
        exact ⟨j, by omega, fun r hrj => by rw [← hw r hrj]; exact hr r hrj, u, by omega, hu2, hm⟩
      · exact ⟨j, by omega, fun r hrj => by rw [← hw r (by omega)]; exact hr r hrj, u, by rw [← hw j (by omega)]; exact hu, hu2, hm⟩
/-- row d has no further value -/
theorem ns_YR_up {d : Nat} {w : Nat → Nat} {Z : Nat → Int32} (hZ : ns_sol R C S g Z) (hn : ∀ u, w (d + 1) ≤ u → u < 2 ^ C → ns_no R C S g (d + 1) w u) : ns_YR C (d + 1) w Z ↔ ns_YR C d w Z := by
  constructor
  · rintro ⟨j, hj, hr, u, hu, hu2, hm⟩
    by_cases e : j = d + 1
    · subst e; exact absurd hm (hn u hu hu2 Z hZ hr)
    · exact ⟨j, by omega, hr, u, hu, hu2, hm⟩
  · rintro ⟨j, hj, hr, u, hu, hu2, hm⟩
    exact ⟨j, by omega, hr, u, hu, hu2, hm⟩
theorem ns_YR_none {w : Nat → Nat} {Z : Nat → Int32} (hZ : ns_sol R C S g Z) (hn : ∀ u, w 0 ≤ u → u < 2 ^ C → ns_no R C S g 0 w u) : ¬ ns_YR C 0 w Z := by
  rintro ⟨j, hj, hr, u, hu, hu2, hm⟩
  have : j = 0 := by omega
  subst this
  exact hn u hu hu2 Z hZ hr hm
end
