/-! the totals of rows and columns agree in a solution -/
section
variable {R C : Nat} {cc : Nat → Nat} {cl g Z : Nat → Int32}
/-- a line's clue sum is the number of its FILLED cells -/
theorem ns_sol_fc {a : Nat} (hR : R ≤ 8) (hC : C ≤ 8) (h : ns_sol R C (ns_S R C cc cl) g Z) (ha : ns_ing R C a) : ns_sm (fun k => cl (a * 4 + k)) (cc a) = nI (ns_fc Z a (ns_len R C a)) := by
  obtain ⟨p, hp⟩ := h.2.2.2 a ha
  have e : ns_fc Z a (ns_len R C a) = ns_pop (fun i => p.testBit i) (ns_len R C a) := by
    refine ns_fc_pop _ (fun i hi => ?_)
    have k := hp.2 i hi
    have cgi := ns_lc_cg hR hC ha hi
    constructor
    · intro t
      rcases (h.1 (ns_lc a i)).1 with z | z | z
      · exact absurd z (h.2.1 _ cgi)
      · rw [k.2 z] at t; exact nomatch t
      · exact z
    · exact k.1
  rw [e]
  exact ns_sat_sm (ns_off hp.1.1 _ (Nat.le_refl _)) hp.1.2
theorem ns_fc_row {r : Nat} (hr : r < 8) : ∀ n, ns_fc Z r n = ns_s1 (fun c => if Z (r * 8 + c) = 2 then 1 else 0) n := by
  intro n
  induction n with
  | zero => rfl
  | succ n ih => simp only [ns_fc, ns_s1]; rw [ih, ns_lc_row hr]
theorem ns_fc_col {c : Nat} : ∀ n, ns_fc Z (8 + c) n = ns_s1 (fun r => if Z (r * 8 + c) = 2 then 1 else 0) n := by
  intro n
  induction n with
  | zero => rfl
  | succ n ih =>
    simp only [ns_fc, ns_s1]
    rw [ih, ns_lc_col (by omega), show 8 + c - 8 = c by omega]
/-- the difference that X reckons, line by line: lines outside the grid have no numbers -/
def ns_df (cc : Nat → Nat) (cl : Nat → Int32) : Nat → Int32
  | 0 => 0
  | a + 1 => ns_df cc cl a + (if a < 8 then ns_sm (fun k => cl (a * 4 + k)) (cc a) else - ns_sm (fun k => cl (a * 4 + k)) (cc a))
theorem ns_df_row (hR : R ≤ 8) (hC : C ≤ 8) (h : ns_sol R C (ns_S R C cc cl) g Z) (h0 : ∀ a, a < 16 → ¬ ns_ing R C a → cc a = 0) :
    ∀ n, n ≤ 8 → ns_df cc cl n = nI (ns_s1 (fun r => if r < R then ns_fc Z r C else 0) n) := by
  intro n
  induction n with
  | zero => intro _; rfl
  | succ n ih =>
    intro hn
    simp only [ns_df, ns_s1]
    rw [ih (by omega), if_pos (by omega), ← nI_add]
    congr 1
    by_cases e : n < R
    · have := ns_sol_fc (a := n) hR hC h ⟨by omega, fun _ => e, fun z => by omega⟩
      rw [this, if_pos e]; simp [ns_len, show n < 8 by omega]
    · rw [if_neg e, h0 n (by omega) (fun z => e (z.2.1 (by omega)))]; exact nI_0.symm
theorem ns_df_col (hR : R ≤ 8) (hC : C ≤ 8) (h : ns_sol R C (ns_S R C cc cl) g Z) (h0 : ∀ a, a < 16 → ¬ ns_ing R C a → cc a = 0) :
    ∀ n, n ≤ 8 → ns_df cc cl (8 + n) + nI (ns_s1 (fun c => if c < C then ns_fc Z (8 + c) R else 0) n) = ns_df cc cl 8 := by
  intro n
  induction n with
  | zero => intro _; show ns_df cc cl 8 + nI 0 = _; rw [nI_0, Int32.add_zero]
  | succ n ih =>
    intro hn
    have e1 : ns_df cc cl (8 + (n + 1)) = ns_df cc cl (8 + n) + - ns_sm (fun k => cl ((8 + n) * 4 + k)) (cc (8 + n)) := by
      show ns_df cc cl (8 + n) + (if 8 + n < 8 then ns_sm (fun k => cl ((8 + n) * 4 + k)) (cc (8 + n)) else - ns_sm (fun k => cl ((8 + n) * 4 + k)) (cc (8 + n))) = _
      rw [if_neg (by omega)]
    have e2 : ns_sm (fun k => cl ((8 + n) * 4 + k)) (cc (8 + n)) = nI (if n < C then ns_fc Z (8 + n) R else 0) := by
      by_cases e : n < C
      · have := ns_sol_fc (a := 8 + n) hR hC h ⟨by omega, fun z => by omega, fun _ => by omega⟩
        rw [this, if_pos e]; simp [ns_len, show ¬ 8 + n < 8 by omega]
      · rw [if_neg e, h0 (8 + n) (by omega) (fun z => e (by have := z.2.2 (by omega); omega))]; exact nI_0.symm
    simp only [ns_s1]
    rw [e1, e2, ← nI_add, ← ih (by omega)]
    generalize ns_df cc cl (8 + n) = x
    generalize nI (ns_s1 (fun c => if c < C then ns_fc Z (8 + c) R else 0) n) = y
    generalize nI (if n < C then ns_fc Z (8 + n) R else 0) = z
    grind
theorem ns_df_0 (hR : R ≤ 8) (hC : C ≤ 8) (h : ns_sol R C (ns_S R C cc cl) g Z) (h0 : ∀ a, a < 16 → ¬ ns_ing R C a → cc a = 0) : ns_df cc cl 16 = 0 := by
  have a := ns_df_row hR hC h h0 8 (by omega)
  have b := ns_df_col hR hC h h0 8 (by omega)
  have cut : ∀ (x : Nat → Nat) (m : Nat), m ≤ 8 → ∀ n, m ≤ n → ns_s1 (fun i => if i < m then x i else 0) n = ns_s1 x m := by
    intro x m _ n
    induction n with
    | zero => intro hm; have : m = 0 := by omega
              subst this; rfl
    | succ n ih =>
      intro hm
      by_cases e : m = n + 1
      · subst e; exact ns_s1_eq _ (fun i hi => by rw [if_pos hi])
      · simp only [ns_s1]; rw [ih (by omega), if_neg (by omega)]; rfl
  rw [cut _ R hR 8 hR] at a
  rw [cut _ C hC 8 hC] at b
  have e : ns_s1 (fun r => ns_fc Z r C) R = ns_s1 (fun c => ns_fc Z (8 + c) R) C := by
    rw [ns_s1_eq (h := fun r => ns_fc Z r C) (k := fun r => ns_s1 (fun c => if Z (r * 8 + c) = 2 then 1 else 0) C) R (fun r hr => ns_fc_row (by omega) C)]
    rw [ns_fub (fun r c => if Z (r * 8 + c) = 2 then 1 else 0) C R]
    exact ns_s1_eq C (fun c _ => (ns_fc_col R).symm)
  rw [a, e] at b
  have b' : ns_df cc cl 16 + nI (ns_s1 (fun c => ns_fc Z (8 + c) R) C) = nI (ns_s1 (fun c => ns_fc Z (8 + c) R) C) := b
  generalize nI (ns_s1 (fun c => ns_fc Z (8 + c) R) C) = y at b'
  grind
end
