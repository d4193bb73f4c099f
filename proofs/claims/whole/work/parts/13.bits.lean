/-! bits ( the kit's rows of the family bt go before it) -/
theorem ns_btN {p : Nat} (h : p < 2 ^ 32) (i : Nat) : bt (nI p) i = p.testBit i := by
  show (nI p).toBitVec.getLsbD i = _
  rw [BitVec.getLsbD, pk_tn h]
theorem ns_bt1 : ∀ i, i < 32 → bt 1 i = decide (i = 0) := by decide
theorem ns_not (x : Int32) {i : Nat} (hi : i < 32) : bt (x ^^^ (-1)) i = !bt x i := by
  rw [b_xor, b_m1 i hi]; cases bt x i <;> rfl
theorem ns_zero {x : Int32} : x = 0 ↔ ∀ i, i < 32 → bt x i = false :=
  ⟨fun e i _ => by rw [e]; exact b_0 i, fun h => b_ext (fun i hi => by rw [h i hi, b_0])⟩
theorem ns_sh1 {n : Nat} (hn : n < 32) {i : Nat} (hi : i < 32) : bt ((1 : Int32) <<< (nI n &&& 31)) i = decide (i = n) := by
  rw [b_shl n hn 1 hi, ns_bt1 (i - n) (by omega)]
  by_cases e : n ≤ i
  · by_cases e' : i = n
    · subst e'; simp
    · have : ¬ i - n = 0 := by omega
      simp [e', this]
  · have : ¬ i = n := by omega
    simp [e, this]
/-- (x >> i) & 1 -/
theorem ns_bit {n : Nat} (hn : n < 32) (x : Int32) : (x >>> (nI n &&& 31)) &&& 1 = if bt x n = true then 1 else 0 := by
  refine b_ext (fun i hi => ?_)
  rw [b_and, b_sshr n hn x hi, ns_bt1 i hi]
  by_cases e : i = 0
  · subst e
    rw [if_pos (by omega : n + 0 < 32)]
    cases h : bt x n with
    | true => simp [h, ns_bt1]
    | false => simp [h, b_0]
  · cases h : bt x n with
    | true => simp [e, ns_bt1 i hi]
    | false => simp [e, b_0]
theorem ns_bit_t {n : Nat} (hn : n < 32) {x : Int32} (h : bt x n = true) : (x >>> (nI n &&& 31)) &&& 1 = 1 := by rw [ns_bit hn, h]; rfl
theorem ns_bit_f {n : Nat} (hn : n < 32) {x : Int32} (h : bt x n = false) : ¬ (x >>> (nI n &&& 31)) &&& 1 = 1 := by rw [ns_bit hn, h]; decide
/-- a number of few bits -/
theorem ns_ofbits (x : Int32) {n : Nat} (hn : n ≤ 31) (h : ∀ i, i < 32 → n ≤ i → bt x i = false) : ∃ p, p < 2 ^ n ∧ x = nI p := by
  refine ⟨x.toBitVec.toNat, Nat.lt_pow_two_of_testBit _ (fun i hi => ?_), ?_⟩
  · by_cases e : i < 32
    · exact h i e hi
    · exact Nat.testBit_lt_two_pow (Nat.lt_of_lt_of_le x.toBitVec.isLt (Nat.pow_le_pow_right (by omega) (by omega)))
  · refine b_ext (fun i hi => ?_)
    rw [ns_btN x.toBitVec.isLt]; rfl
