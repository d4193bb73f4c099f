/-! lines, runs, the run automaton -/
def ns_len (R C a : Nat) : Nat := if a < 8 then C else R
def ns_ing (R C a : Nat) : Prop := a < 16 ∧ (a < 8 → a < R) ∧ (8 ≤ a → a < 8 + C)
def ns_lc (a i : Nat) : Nat := if a < 8 then a * 8 + i else i * 8 + (a - 8)
def ns_xl (a i : Nat) : Nat := if a < 8 then 8 + i else i
/-- cell j lies in the grid -/
def ns_cg (R C j : Nat) : Prop := j < 64 ∧ j / 8 < R ∧ j % 8 < C
theorem ns_len_le {R C a : Nat} (hR : R ≤ 8) (hC : C ≤ 8) : ns_len R C a ≤ 8 := by
  unfold ns_len; split <;> omega
theorem ns_lc_row {a i : Nat} (h : a < 8) : ns_lc a i = a * 8 + i := by simp [ns_lc, h]
theorem ns_lc_col {a i : Nat} (h : 8 ≤ a) : ns_lc a i = i * 8 + (a - 8) := by
  have : ¬ a < 8 := by omega
  simp [ns_lc, this]
theorem ns_lc_cg {R C a i : Nat} (hR : R ≤ 8) (hC : C ≤ 8) (ha : ns_ing R C a) (hi : i < ns_len R C a) : ns_cg R C (ns_lc a i) := by
  obtain ⟨h1, h2, h3⟩ := ha
  by_cases h : a < 8
  · have := h2 h
    simp only [ns_len, h, if_true] at hi
    rw [ns_lc_row h]; unfold ns_cg; omega
  · have := h3 (by omega)
    simp only [ns_len, h, if_false] at hi
    rw [ns_lc_col (by omega)]; unfold ns_cg; omega
/-- a cell of line a at i lies on a and on the line that crosses there, and on no other -/
theorem ns_lc_on {a b i k : Nat} (ha : a < 16) (hb : b < 16) (hi : i < 8) (hk : k < 8) (h : ns_lc a i = ns_lc b k) : b = a ∨ b = ns_xl a i := by
  unfold ns_lc at h; unfold ns_xl
  split at h <;> split at h <;> (split <;> omega)
theorem ns_lc_inj {a i k : Nat} (hi : i < 8) (hk : k < 8) (h : ns_lc a i = ns_lc a k) : i = k := by
  unfold ns_lc at h; split at h <;> omega
theorem ns_xl_ing {R C a i : Nat} (ha : ns_ing R C a) (hR : R ≤ 8) (hC : C ≤ 8) (hi : i < ns_len R C a) : ns_ing R C (ns_xl a i) := by
  obtain ⟨h1, h2, h3⟩ := ha
  unfold ns_len at hi; unfold ns_xl ns_ing
  split at hi
  · rw [if_pos (by assumption)]; omega
  · rw [if_neg (by assumption)]; omega
def ns_au (c : Nat) (cl : Nat → Int32) (f : Nat → Bool) : Nat → Option (Nat × Nat)
  | 0 => some (0, 0)
  | i + 1 => match ns_au c cl f i with
    | none => none
    | some (k, r) => if f i = true then some (k, r + 1) else if r = 0 then some (k, 0) else if k < c ∧ cl k = nI r then some (k + 1, 0) else none
def ns_lb (f : Nat → Bool) : Nat → Bool
  | 0 => false
  | i + 1 => f i
def ns_rn (f : Nat → Bool) : Nat → Nat
  | 0 => 0
  | i + 1 => ns_rn f i + (if ns_lb f i = true ∧ f i = false then 1 else 0)
def ns_pop (f : Nat → Bool) : Nat → Nat
  | 0 => 0
  | i + 1 => ns_pop f i + (if f i = true then 1 else 0)
def ns_sm (cl : Nat → Int32) : Nat → Int32
  | 0 => 0
  | k + 1 => ns_sm cl k + cl k
section
variable {c : Nat} {cl : Nat → Int32} {f : Nat → Bool}
theorem ns_au_t {i k r : Nat} (e : ns_au c cl f i = some (k, r)) (hf : f i = true) : ns_au c cl f (i + 1) = some (k, r + 1) := by
  simp [ns_au, e, hf]
theorem ns_au_z {i k : Nat} (e : ns_au c cl f i = some (k, 0)) (hf : f i = false) : ns_au c cl f (i + 1) = some (k, 0) := by
  simp [ns_au, e, hf]
theorem ns_au_e {i k r : Nat} (e : ns_au c cl f i = some (k, r)) (hf : f i = false) (hr : r ≠ 0) (hk : k < c ∧ cl k = nI r) : ns_au c cl f (i + 1) = some (k + 1, 0) := by
  simp [ns_au, e, hf, hr, hk]
theorem ns_au_x {i k r : Nat} (e : ns_au c cl f i = some (k, r)) (hf : f i = false) (hr : r ≠ 0) (hk : ¬ (k < c ∧ cl k = nI r)) : ns_au c cl f (i + 1) = none := by
  simp [ns_au, e, hf, hr]
  exact fun a b => hk ⟨a, b⟩
theorem ns_au_n {i : Nat} (e : ns_au c cl f i = none) : ∀ m, ns_au c cl f (i + m) = none := by
  intro m
  induction m with
  | zero => exact e
  | succ m ih => rw [← Nat.add_assoc]; simp [ns_au, ih]
theorem ns_au_inv : ∀ i k r, ns_au c cl f i = some (k, r) → k ≤ c ∧ k = ns_rn f i ∧ ns_sm cl k + nI r = nI (ns_pop f i) ∧ (r = 0 ↔ ns_lb f i = false) := by
  intro i
  induction i with
  | zero =>
    intro k r h
    simp only [ns_au, Option.some.injEq, Prod.mk.injEq] at h
    obtain ⟨rfl, rfl⟩ := h
    exact ⟨Nat.zero_le _, rfl, (by decide : (0 : Int32) + nI 0 = nI 0), by simp [ns_lb]⟩
  | succ i ih =>
    intro k r h
    cases e : ns_au c cl f i with
    | none => rw [ns_au_n e 1] at h; exact nomatch h
    | some s =>
      obtain ⟨k0, r0⟩ := s
      obtain ⟨h1, h2, h3, h4⟩ := ih k0 r0 e
      cases hf : f i with
      | true =>
        rw [ns_au_t e hf] at h
        simp only [Option.some.injEq, Prod.mk.injEq] at h
        obtain ⟨rfl, rfl⟩ := h
        refine ⟨h1, ?_, ?_, ?_⟩
        · simp [ns_rn, hf]; exact h2
        · have hp : ns_pop f (i + 1) = ns_pop f i + 1 := by simp [ns_pop, hf]
          rw [hp, nI_succ, nI_succ, ← h3, Int32.add_assoc]
        · simp [ns_lb, hf]
      | false =>
        have hp : ns_pop f (i + 1) = ns_pop f i := by simp [ns_pop, hf]
        by_cases hr : r0 = 0
        · subst hr
          rw [ns_au_z e hf] at h
          simp only [Option.some.injEq, Prod.mk.injEq] at h
          obtain ⟨rfl, rfl⟩ := h
          have hl := h4.mp rfl
          refine ⟨h1, ?_, ?_, ?_⟩
          · simp [ns_rn, hl]; exact h2
          · rw [hp]; exact h3
          · simp [ns_lb, hf]
        · by_cases hk : k0 < c ∧ cl k0 = nI r0
          · rw [ns_au_e e hf hr hk] at h
            simp only [Option.some.injEq, Prod.mk.injEq] at h
            obtain ⟨rfl, rfl⟩ := h
            have hl : ns_lb f i = true := by
              cases hb : ns_lb f i with
              | true => rfl
              | false => exact absurd (h4.mpr hb) hr
            refine ⟨hk.1, ?_, ?_, ?_⟩
            · simp [ns_rn, hf, hl]; exact h2
            · rw [hp, ← h3, ← hk.2]; show ns_sm cl k0 + cl k0 + nI 0 = _
              rw [nI_0, Int32.add_zero]
            · simp [ns_lb, hf]
          · rw [ns_au_x e hf hr hk] at h; exact nomatch h
def ns_sat (c : Nat) (cl : Nat → Int32) (f : Nat → Bool) (n : Nat) : Prop := ns_au c cl f (n + 1) = some (c, 0)
theorem ns_tail {n k : Nat} (hf : ∀ j, n ≤ j → f j = false) (h : ns_au c cl f (n + 1) = some (k, 0)) : ∀ m, ns_au c cl f (n + 1 + m) = some (k, 0) := by
  intro m
  induction m with
  | zero => exact h
  | succ m ih => rw [← Nat.add_assoc]; exact ns_au_z ih (hf _ (by omega))
theorem ns_end {n k r : Nat} (hf : f n = false) (h : ns_au c cl f (n + 1) = some (k, r)) : r = 0 :=
  ((ns_au_inv (n + 1) k r h).2.2.2).mpr hf
/-- X reads nine cells, Y one more than the line has -/
theorem ns_sat9 {n : Nat} (hn : n ≤ 8) (hf : ∀ j, n ≤ j → f j = false) : ns_sat c cl f n ↔ ns_au c cl f 9 = some (c, 0) := by
  have e9 : 9 = n + 1 + (8 - n) := by omega
  constructor
  · intro h; rw [e9]; exact ns_tail hf h _
  · intro h
    unfold ns_sat
    cases e : ns_au c cl f (n + 1) with
    | none => rw [e9, ns_au_n e] at h; exact nomatch h
    | some s =>
      obtain ⟨k, r⟩ := s
      have := ns_end (hf n (Nat.le_refl n)) e
      subst this
      rw [e9, ns_tail hf e] at h
      exact h
theorem ns_sat_rn {n : Nat} (h : ns_sat c cl f n) : ns_rn f (n + 1) = c := ((ns_au_inv _ _ _ h).2.1).symm
theorem ns_sat_sm {n : Nat} (hf : f n = false) (h : ns_sat c cl f n) : ns_sm cl c = nI (ns_pop f n) := by
  have := (ns_au_inv _ _ _ h).2.2.1
  rw [nI_0, Int32.add_zero] at this
  rw [this]; simp [ns_pop, hf]
end
theorem ns_pop_le (f : Nat → Bool) : ∀ n, ns_pop f n ≤ n := by
  intro n
  induction n with
  | zero => exact Nat.le_refl _
  | succ n ih => simp only [ns_pop]; split <;> omega
theorem ns_rn_le (f : Nat → Bool) : ∀ n, ns_rn f n ≤ n := by
  intro n
  induction n with
  | zero => exact Nat.le_refl _
  | succ n ih => simp only [ns_rn]; split <;> omega
/-- runs and popcount of nine cells are those of the line, the cells behind it being off -/
theorem ns_pop_tail {f : Nat → Bool} {n : Nat} (hf : ∀ j, n ≤ j → f j = false) : ∀ m, ns_pop f (n + m) = ns_pop f n := by
  intro m
  induction m with
  | zero => rfl
  | succ m ih => rw [← Nat.add_assoc]; simp [ns_pop, hf (n + m) (by omega), ih]
theorem ns_rn_tail {f : Nat → Bool} {n : Nat} (hf : ∀ j, n ≤ j → f j = false) : ∀ m, ns_rn f (n + 1 + m) = ns_rn f (n + 1) := by
  intro m
  induction m with
  | zero => rfl
  | succ m ih =>
    have : ns_lb f (n + 1 + m) = false := by
      rw [show n + 1 + m = (n + m) + 1 by omega]; exact hf _ (by omega)
    rw [← Nat.add_assoc]; simp [ns_rn, this, ih]
