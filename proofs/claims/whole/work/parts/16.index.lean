/-! indices, small facts that the walks want -/
theorem ns_i4 (a k : Nat) : nI a * 4 + nI k = nI (a * 4 + k) := by
  show nI a * nI 4 + nI k = _
  rw [pk_mul, nI_add]
theorem ns_i8 (a k : Nat) : nI a * 8 + nI k = nI (a * 8 + k) := by
  show nI a * nI 8 + nI k = _
  rw [pk_mul, nI_add]
theorem ns_i64 (a k : Nat) : nI a * 64 + nI k = nI (a * 64 + k) := by
  show nI a * nI 64 + nI k = _
  rw [pk_mul, nI_add]
theorem ns_i256 (a k : Nat) : nI a * 256 + nI k = nI (a * 256 + k) := by
  show nI a * nI 256 + nI k = _
  rw [pk_mul, nI_add]
theorem ns_8p (k : Nat) : (8 : Int32) + nI k = nI (8 + k) := by
  show nI 8 + nI k = _
  rw [nI_add]
theorem ns_m8 {a : Nat} (h : 8 ≤ a) : nI a - 8 = nI (a - 8) := pk_sub (b := 8) h
theorem ns_lt8 {a : Nat} (h : a < 8) : nI a < 8 := nI_lt (b := 8) h (by decide)
theorem ns_nlt8 {a : Nat} (h : 8 ≤ a) (ha : a < 2 ^ 31) : ¬ nI a < 8 := nI_nlt (b := 8) h ha
theorem ns_ge8 {a : Nat} (h : 8 ≤ a) (ha : a < 2 ^ 31) : (8 : Int32) ≤ nI a := nI_le (a := 8) h ha
theorem ns_nge8 {a : Nat} (h : a < 8) : ¬ (8 : Int32) ≤ nI a := nI_ge (b := 8) h (by decide)
theorem ns_au_le {c : Nat} {cl : Nat → Int32} {f : Nat → Bool} : ∀ i k r, ns_au c cl f i = some (k, r) → k ≤ c ∧ r ≤ i := by
  intro i
  induction i with
  | zero =>
    intro k r h
    simp only [ns_au, Option.some.injEq, Prod.mk.injEq] at h
    omega
  | succ i ih =>
    intro k r h
    refine ⟨(ns_au_inv _ _ _ h).1, ?_⟩
    cases e : ns_au c cl f i with
    | none => rw [ns_au_n e 1] at h; exact nomatch h
    | some s =>
      obtain ⟨k0, r0⟩ := s
      have := (ih k0 r0 e).2
      cases hf : f i with
      | true =>
        rw [ns_au_t e hf] at h
        simp only [Option.some.injEq, Prod.mk.injEq] at h
        omega
      | false =>
        by_cases hr : r0 = 0
        · subst hr
          rw [ns_au_z e hf] at h
          simp only [Option.some.injEq, Prod.mk.injEq] at h
          omega
        · by_cases hk : k0 < c ∧ cl k0 = nI r0
          · rw [ns_au_e e hf hr hk] at h
            simp only [Option.some.injEq, Prod.mk.injEq] at h
            omega
          · rw [ns_au_x e hf hr hk] at h; exact nomatch h
/-- the test of a bit of a number -/
theorem ns_tb_t {p i : Nat} (hp : p < 256) (hi : i < 32) (h : p.testBit i = true) : (nI p >>> (nI i &&& 31)) &&& 1 = 1 := ns_bit_t hi (by rw [ns_btN (by omega)]; exact h)
theorem ns_tb_f {p i : Nat} (hp : p < 256) (hi : i < 32) (h : p.testBit i = false) : ¬ (nI p >>> (nI i &&& 31)) &&& 1 = 1 := ns_bit_f hi (by rw [ns_btN (by omega)]; exact h)
theorem ns_pw {n : Nat} (hn : n ≤ 8) : (1 : Int32) <<< (nI n &&& 31) = nI (2 ^ n) := by
  have e : ∀ m, m < 9 → (1 : Int32) <<< (nI m &&& 31) = nI (2 ^ m) := by decide
  exact e n (by omega)
theorem ns_pw_le {n : Nat} (hn : n ≤ 8) : 2 ^ n ≤ 256 := Nat.pow_le_pow_right (n := 2) (by omega) hn
theorem ns_uc {f : Nat → Int32} {k : Nat} {x : Int32} (h : k < 2 ^ 31) : upd f (nI k).toNatClampNeg x = upd f k x := by rw [nI_clamp h]
theorem ns_ue {f : Nat → Int32} {e : Int32} {k : Nat} {x : Int32} (he : e = nI k) (h : k < 2 ^ 31) : upd f e.toNatClampNeg x = upd f k x := by rw [he, nI_clamp h]
theorem ns_lc64 {a i : Nat} (ha : a < 16) (hi : i < 8) : ns_lc a i < 64 := by unfold ns_lc; split <;> omega
theorem ns_nm1 {x : Nat} (h : x < 2 ^ 31) : ¬ nI x = -1 := fun z => by
  have e : (nI x).toInt = (-1 : Int32).toInt := by rw [z]
  rw [nI_toInt h] at e
  have e2 : (-1 : Int32).toInt = -1 := by decide
  omega
