/-! settling: pending lines, rounds -/
section
variable {R C : Nat} {S : Nat → Nat → Prop}
/-- a line of the grid is pending or settled -/
def ns_pd (R C : Nat) (S : Nat → Nat → Prop) (P : Nat → Int32) (pb : Nat → Prop) : Prop := ∀ a, ns_ing R C a → pb a ∨ ns_stl R C S P a
theorem ns_pd_step {P P' : Nat → Int32} {pb pb' : Nat → Prop} {a : Nat} (hR : R ≤ 8) (hC : C ≤ 8) (ha : ns_ing R C a) (h : ns_step R C S P a P') (k : ∃ p, ns_cons R C S P a p) (hp : ns_pd R C S P pb)
    (hb : ∀ b, b < 16 → b ≠ a → pb b → pb' b) (hx : ∀ i, i < ns_len R C a → P (ns_lc a i) = 0 → P' (ns_lc a i) ≠ 0 → pb' (ns_xl a i)) : ns_pd R C S P' pb' := by
  intro b hbi
  by_cases e : b = a
  · subst e; exact Or.inr (ns_step_stl h k)
  · rcases hp b hbi with z | z
    · exact Or.inl (hb b hbi.1 e z)
    · by_cases c : ∃ i, i < ns_len R C a ∧ P (ns_lc a i) = 0 ∧ P' (ns_lc a i) ≠ 0 ∧ b = ns_xl a i
      · obtain ⟨i, hi, h0, h1, rfl⟩ := c
        exact Or.inl (hx i hi h0 h1)
      · refine Or.inr (ns_stl_eq (fun q hq => ?_) z)
        by_cases z0 : P (ns_lc b q) = 0
        · by_cases on : ∃ i, i < ns_len R C a ∧ ns_lc b q = ns_lc a i
          · obtain ⟨i, hi, ei⟩ := on
            have l8 := ns_len_le (a := a) hR hC
            have l8' := ns_len_le (a := b) hR hC
            rcases ns_lc_on ha.1 hbi.1 (by omega) (by omega) ei.symm with y | y
            · exact absurd y e
            · by_cases z1 : P' (ns_lc b q) = 0
              · rw [z0, z1]
              · exact absurd ⟨i, hi, by rw [← ei]; exact z0, by rw [← ei]; exact z1, y⟩ c
          · exact h.2.1 _ (fun i hi ei => on ⟨i, hi, ei⟩)
        · exact h.1 _ z0
theorem ns_pd_end {P : Nat → Int32} {pb : Nat → Prop} (ok : ns_ok R C P) (h : ns_pd R C S P pb) (n : ∀ a, a < 16 → ¬ pb a) : ns_cls R C S P :=
  ⟨ok, fun a ha => (h a ha).elim (fun z => absurd z (n a ha.1)) id⟩
theorem ns_step_same {P P' : Nat → Int32} {a : Nat} (h : ns_step R C S P a P') (n : ∀ i, i < ns_len R C a → P (ns_lc a i) = 0 → P' (ns_lc a i) = 0) : P' = P := by
  funext j
  by_cases e : P j = 0
  · by_cases on : ∃ i, i < ns_len R C a ∧ j = ns_lc a i
    · obtain ⟨i, hi, rfl⟩ := on
      rw [n i hi e, e]
    · exact h.2.1 _ (fun i hi ei => on ⟨i, hi, ei⟩)
  · exact h.1 j e
theorem ns_step_unk {P P' : Nat → Int32} {a i : Nat} (hR : R ≤ 8) (hC : C ≤ 8) (ha : ns_ing R C a) (h : ns_step R C S P a P') (hi : i < ns_len R C a) (h0 : P (ns_lc a i) = 0) (h1 : P' (ns_lc a i) ≠ 0) : ns_unk P' 64 < ns_unk P 64 :=
  ns_unk_lt h.1 h0 h1 64 (ns_lc_cg hR hC ha hi).1
/-- after an assumed cell only its two lines are pending -/
theorem ns_pd_cell {G : Nat → Int32} {x : Nat} {v : Int32} {pb : Nat → Prop} (hx : ns_cg R C x) (hR : R ≤ 8) (hC : C ≤ 8) (h : ns_cls R C S G) (hr : pb (x / 8)) (hc : pb (8 + x % 8)) : ns_pd R C S (upd G x v) pb := by
  intro a ha
  by_cases e1 : a = x / 8
  · subst e1; exact Or.inl hr
  · by_cases e2 : a = 8 + x % 8
    · subst e2; exact Or.inl hc
    · refine Or.inr (ns_stl_eq (fun i hi => ns_upd_n (fun z => ?_)) (h.2 a ha))
      have l8 := ns_len_le (a := a) hR hC
      by_cases a8 : a < 8
      · rw [ns_lc_row a8] at z; omega
      · rw [ns_lc_col (by omega)] at z; have := ha.1; omega
end
