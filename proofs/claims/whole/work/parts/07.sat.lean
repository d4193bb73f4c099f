/-! the clue's fillings: few, and with one number of FILLED cells -/
def ns_S (R C : Nat) (cc : Nat → Nat) (cl : Nat → Int32) (a p : Nat) : Prop :=
  p < 2 ^ ns_len R C a ∧ ns_sat (cc a) (fun k => cl (a * 4 + k)) (fun i => p.testBit i) (ns_len R C a)
theorem ns_off {p n : Nat} (h : p < 2 ^ n) : ∀ j, n ≤ j → p.testBit j = false := fun j hj =>
  Nat.testBit_lt_two_pow (Nat.lt_of_lt_of_le h (Nat.pow_le_pow_right (by omega) hj))
section
variable {R C : Nat} {cc : Nat → Nat} {cl : Nat → Int32}
theorem ns_S_lt (hR : R ≤ 8) (hC : C ≤ 8) : ∀ a p, ns_S R C cc cl a p → p < 256 := fun a p h =>
  Nat.lt_of_lt_of_le h.1 (Nat.pow_le_pow_right (n := 2) (by omega) (ns_len_le hR hC (a := a)))
theorem ns_S_rn {a p : Nat} (hR : R ≤ 8) (hC : C ≤ 8) (h : ns_S R C cc cl a p) : ns_rn (fun i => p.testBit i) 9 = cc a := by
  have hl := ns_len_le hR hC (a := a)
  have e9 : 9 = ns_len R C a + 1 + (8 - ns_len R C a) := by omega
  rw [e9, ns_rn_tail (ns_off h.1)]; exact ns_sat_rn h.2
theorem ns_S_pop {a p : Nat} (hR : R ≤ 8) (hC : C ≤ 8) (h : ns_S R C cc cl a p) : ns_sm (fun k => cl (a * 4 + k)) (cc a) = nI (ns_pop (fun i => p.testBit i) 9) := by
  have hl := ns_len_le hR hC (a := a)
  have e9 : 9 = ns_len R C a + (9 - ns_len R C a) := by omega
  rw [e9, ns_pop_tail (ns_off h.1)]; exact ns_sat_sm (ns_off h.1 _ (Nat.le_refl _)) h.2
theorem ns_S_pop_eq {a p q : Nat} (hR : R ≤ 8) (hC : C ≤ 8) (h : ns_S R C cc cl a p) (k : ns_S R C cc cl a q) : ns_pop (fun i => p.testBit i) 9 = ns_pop (fun i => q.testBit i) 9 := by
  have e := (ns_S_pop hR hC h).symm.trans (ns_S_pop hR hC k)
  have h1 := ns_pop_le (fun i => p.testBit i) 9
  have h2 := ns_pop_le (fun i => q.testBit i) 9
  exact (nI_eq (by omega) (by omega)).mp e
theorem ns_S_few (hR : R ≤ 8) (hC : C ≤ 8) (a : Nat) : ns_ct (ns_S R C cc cl a) 256 ≤ 30 := by
  by_cases e : ∃ p0, ns_S R C cc cl a p0
  · obtain ⟨p0, h0⟩ := e
    have hs := ns_pop_le (fun i => p0.testBit i) 9
    have hc := ns_rn_le (fun i => p0.testBit i) 9
    have h0c := ns_S_rn hR hC h0
    refine Nat.le_trans (ns_ct_cb (q := ns_key (cc a) (ns_pop (fun i => p0.testBit i) 9)) 256 (fun p _ hp => ?_)) (ns_key30 _ (by omega) _ (by omega))
    simp only [ns_key, Bool.and_eq_true, beq_iff_eq]
    exact ⟨ns_S_rn hR hC hp, ns_S_pop_eq hR hC hp h0⟩
  · exact Nat.le_trans (ns_ct_cb (q := ns_key 0 0) 256 (fun p _ hp => absurd ⟨p, hp⟩ e)) (ns_key30 0 (by omega) 0 (by omega))
end
/-- the FILLED cells of a line of a full grid are those of its filling -/
def ns_fc (Z : Nat → Int32) (a : Nat) : Nat → Nat
  | 0 => 0
  | n + 1 => ns_fc Z a n + (if Z (ns_lc a n) = 2 then 1 else 0)
theorem ns_fc_pop {Z : Nat → Int32} {a p : Nat} : ∀ n, (∀ i, i < n → (p.testBit i = true ↔ Z (ns_lc a i) = 2)) → ns_fc Z a n = ns_pop (fun i => p.testBit i) n := by
  intro n
  induction n with
  | zero => intro _; rfl
  | succ n ih =>
    intro h
    simp only [ns_fc, ns_pop]
    rw [ih (fun i hi => h i (by omega))]
    by_cases e : Z (ns_lc a n) = 2
    · rw [if_pos e, if_pos ((h n (by omega)).mpr e)]
    · rw [if_neg e, if_neg (fun z => e ((h n (by omega)).mp z))]
/-- a sum over rows of sums over columns, and the other way round -/
def ns_s1 (h : Nat → Nat) : Nat → Nat
  | 0 => 0
  | n + 1 => ns_s1 h n + h n
theorem ns_s1_add {h k : Nat → Nat} : ∀ n, ns_s1 (fun i => h i + k i) n = ns_s1 h n + ns_s1 k n := by
  intro n
  induction n with
  | zero => rfl
  | succ n ih => simp only [ns_s1]; rw [ih]; omega
theorem ns_s1_0 : ∀ n, ns_s1 (fun _ => 0) n = 0 := by
  intro n
  induction n with
  | zero => rfl
  | succ n ih => simp only [ns_s1]; rw [ih]
theorem ns_s1_eq {h k : Nat → Nat} : ∀ n, (∀ i, i < n → h i = k i) → ns_s1 h n = ns_s1 k n := by
  intro n
  induction n with
  | zero => intro _; rfl
  | succ n ih => intro e; simp only [ns_s1]; rw [ih (fun i hi => e i (by omega)), e n (by omega)]
theorem ns_fub (x : Nat → Nat → Nat) (C : Nat) : ∀ R, ns_s1 (fun r => ns_s1 (fun c => x r c) C) R = ns_s1 (fun c => ns_s1 (fun r => x r c) R) C := by
  intro R
  induction R with
  | zero => simp only [ns_s1]; exact (ns_s1_0 C).symm
  | succ R ih => simp only [ns_s1]; rw [ih, ns_s1_add]
