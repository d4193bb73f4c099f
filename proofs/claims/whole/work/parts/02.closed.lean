/-! grids part by part, consistent fillings, settled lines, closed grids, steps
 S a p: filling p of line a satisfies its clue (and p < 2 ^ len a) -/
def ns_ag (R C : Nat) (P : Nat → Int32) (a p : Nat) : Prop := ∀ i, i < ns_len R C a → (P (ns_lc a i) = 2 → p.testBit i = true) ∧ (P (ns_lc a i) = 1 → p.testBit i = false)
def ns_cons (R C : Nat) (S : Nat → Nat → Prop) (P : Nat → Int32) (a p : Nat) : Prop := S a p ∧ ns_ag R C P a p
def ns_stl (R C : Nat) (S : Nat → Nat → Prop) (P : Nat → Int32) (a : Nat) : Prop :=
  (∃ p, ns_cons R C S P a p) ∧ ∀ i, i < ns_len R C a → P (ns_lc a i) = 0 → (∃ p, ns_cons R C S P a p ∧ p.testBit i = true) ∧ (∃ p, ns_cons R C S P a p ∧ p.testBit i = false)
/-- values are 0, 1, 2, and 0 outside the grid -/
def ns_ok (R C : Nat) (P : Nat → Int32) : Prop := ∀ j, (P j = 0 ∨ P j = 1 ∨ P j = 2) ∧ (¬ ns_cg R C j → P j = 0)
def ns_cls (R C : Nat) (S : Nat → Nat → Prop) (P : Nat → Int32) : Prop := ns_ok R C P ∧ ∀ a, ns_ing R C a → ns_stl R C S P a
def ns_le (P Q : Nat → Int32) : Prop := ∀ j, P j ≠ 0 → Q j = P j
theorem ns_le_rfl (P : Nat → Int32) : ns_le P P := fun _ _ => rfl
theorem ns_le_tr {P Q T : Nat → Int32} (h : ns_le P Q) (k : ns_le Q T) : ns_le P T := fun j hj => by
  have e := h j hj
  rw [← e]; exact k j (by rw [e]; exact hj)
theorem ns_le_anti {P Q : Nat → Int32} (h : ns_le P Q) (k : ns_le Q P) : P = Q := by
  funext j
  by_cases e : P j = 0
  · by_cases e' : Q j = 0
    · rw [e, e']
    · rw [k j e']
  · rw [h j e]
section
variable {R C : Nat} {S : Nat → Nat → Prop}
theorem ns_ag_le {P Q : Nat → Int32} {a p : Nat} (h : ns_le P Q) (k : ns_ag R C Q a p) : ns_ag R C P a p := fun i hi =>
  ⟨fun e => (k i hi).1 (by rw [h (ns_lc a i) (by rw [e]; decide), e]), fun e => (k i hi).2 (by rw [h (ns_lc a i) (by rw [e]; decide), e])⟩
theorem ns_cons_le {P Q : Nat → Int32} {a p : Nat} (h : ns_le P Q) (k : ns_cons R C S Q a p) : ns_cons R C S P a p := ⟨k.1, ns_ag_le h k.2⟩
/-- a grid with the same values on line a has the same consistent fillings there -/
theorem ns_cons_eq {P Q : Nat → Int32} {a p : Nat} (h : ∀ i, i < ns_len R C a → Q (ns_lc a i) = P (ns_lc a i)) (k : ns_cons R C S P a p) : ns_cons R C S Q a p :=
  ⟨k.1, fun i hi => by rw [h i hi]; exact k.2 i hi⟩
theorem ns_stl_eq {P Q : Nat → Int32} {a : Nat} (h : ∀ i, i < ns_len R C a → Q (ns_lc a i) = P (ns_lc a i)) (k : ns_stl R C S P a) : ns_stl R C S Q a := by
  obtain ⟨⟨p, hp⟩, h2⟩ := k
  refine ⟨⟨p, ns_cons_eq h hp⟩, fun i hi e => ?_⟩
  rw [h i hi] at e
  obtain ⟨⟨p1, h1, b1⟩, ⟨p0, h0, b0⟩⟩ := h2 i hi e
  exact ⟨⟨p1, ns_cons_eq h h1, b1⟩, ⟨p0, ns_cons_eq h h0, b0⟩⟩
/-- what a step on line a makes of P -/
def ns_step (R C : Nat) (S : Nat → Nat → Prop) (P : Nat → Int32) (a : Nat) (P' : Nat → Int32) : Prop :=
  (∀ j, P j ≠ 0 → P' j = P j) ∧ (∀ j, (∀ i, i < ns_len R C a → j ≠ ns_lc a i) → P' j = P j) ∧
  ∀ i, i < ns_len R C a → P (ns_lc a i) = 0 →
    (P' (ns_lc a i) = 2 ∧ ∀ p, ns_cons R C S P a p → p.testBit i = true) ∨
    (P' (ns_lc a i) = 1 ∧ ∀ p, ns_cons R C S P a p → p.testBit i = false) ∨
    (P' (ns_lc a i) = 0 ∧ (∃ p, ns_cons R C S P a p ∧ p.testBit i = true) ∧ (∃ p, ns_cons R C S P a p ∧ p.testBit i = false))
theorem ns_step_le {P P' : Nat → Int32} {a : Nat} (h : ns_step R C S P a P') : ns_le P P' := h.1
/-- a step stays below every closed grid above -/
theorem ns_step_below {P P' Q : Nat → Int32} {a : Nat} (ha : ns_ing R C a) (h : ns_step R C S P a P') (hq : ns_cls R C S Q) (hl : ns_le P Q) : ns_le P' Q := by
  intro j hj
  obtain ⟨h1, h2, h3⟩ := h
  by_cases e : P j = 0
  · by_cases hon : ∃ i, i < ns_len R C a ∧ j = ns_lc a i
    · obtain ⟨i, hi, rfl⟩ := hon
      obtain ⟨⟨p, hp⟩, hb⟩ := hq.2 a ha
      have hpP := ns_cons_le (S := S) hl hp
      rcases (hq.1 (ns_lc a i)).1 with q | q | q
      · obtain ⟨⟨p1, c1, b1⟩, ⟨p0, c0, b0⟩⟩ := hb i hi q
        rcases h3 i hi e with ⟨_, k⟩ | ⟨_, k⟩ | ⟨k, _⟩
        · rw [k p0 (ns_cons_le hl c0)] at b0; exact nomatch b0
        · rw [k p1 (ns_cons_le hl c1)] at b1; exact nomatch b1
        · exact absurd k hj
      · have b := (hp.2 i hi).2 q
        rcases h3 i hi e with ⟨_, k⟩ | ⟨k', k⟩ | ⟨k, _⟩
        · rw [k p hpP] at b; exact nomatch b
        · rw [q, k']
        · exact absurd k hj
      · have b := (hp.2 i hi).1 q
        rcases h3 i hi e with ⟨k', k⟩ | ⟨_, k⟩ | ⟨k, _⟩
        · rw [q, k']
        · rw [k p hpP] at b; exact nomatch b
        · exact absurd k hj
    · have := h2 j (fun i hi he => hon ⟨i, hi, he⟩)
      rw [this] at hj; exact absurd e hj
  · rw [h1 j e]; exact hl j e
theorem ns_step_cons {P P' : Nat → Int32} {a p : Nat} (h : ns_step R C S P a P') (k : ns_cons R C S P a p) : ns_cons R C S P' a p := by
  refine ⟨k.1, fun i hi => ?_⟩
  by_cases e : P (ns_lc a i) = 0
  · rcases h.2.2 i hi e with ⟨e', k'⟩ | ⟨e', k'⟩ | ⟨e', _⟩
    · exact ⟨fun _ => k' p k, fun z => by rw [e'] at z; exact absurd z (by decide)⟩
    · exact ⟨fun z => by rw [e'] at z; exact absurd z (by decide), fun _ => k' p k⟩
    · exact ⟨fun z => by rw [e'] at z; exact absurd z (by decide), fun z => by rw [e'] at z; exact absurd z (by decide)⟩
  · rw [h.1 _ e]; exact k.2 i hi
theorem ns_step_stl {P P' : Nat → Int32} {a : Nat} (h : ns_step R C S P a P') (k : ∃ p, ns_cons R C S P a p) : ns_stl R C S P' a := by
  obtain ⟨p, hp⟩ := k
  refine ⟨⟨p, ns_step_cons h hp⟩, fun i hi e' => ?_⟩
  by_cases e : P (ns_lc a i) = 0
  · rcases h.2.2 i hi e with ⟨z, _⟩ | ⟨z, _⟩ | ⟨_, ⟨p1, c1, b1⟩, ⟨p0, c0, b0⟩⟩
    · rw [e'] at z; exact absurd z (by decide)
    · rw [e'] at z; exact absurd z (by decide)
    · exact ⟨⟨p1, ns_step_cons h c1, b1⟩, ⟨p0, ns_step_cons h c0, b0⟩⟩
  · exact absurd ((h.1 _ e).symm.trans e') e
theorem ns_step_ok {P P' : Nat → Int32} {a : Nat} (hR : R ≤ 8) (hC : C ≤ 8) (ha : ns_ing R C a) (h : ns_step R C S P a P') (k : ns_ok R C P) : ns_ok R C P' := by
  intro j
  by_cases hon : ∃ i, i < ns_len R C a ∧ j = ns_lc a i
  · obtain ⟨i, hi, rfl⟩ := hon
    refine ⟨?_, fun z => absurd (ns_lc_cg hR hC ha hi) z⟩
    by_cases e : P (ns_lc a i) = 0
    · rcases h.2.2 i hi e with ⟨z, _⟩ | ⟨z, _⟩ | ⟨z, _⟩
      · exact Or.inr (Or.inr z)
      · exact Or.inr (Or.inl z)
      · exact Or.inl z
    · rw [h.1 _ e]; exact (k _).1
  · rw [h.2.1 j (fun i hi he => hon ⟨i, hi, he⟩)]; exact k j
/-- P lies below every closed grid above P0 -/
def ns_blw (R C : Nat) (S : Nat → Nat → Prop) (P0 P : Nat → Int32) : Prop := ∀ Q, ns_cls R C S Q → ns_le P0 Q → ns_le P Q
theorem ns_blw_0 (P : Nat → Int32) : ns_blw R C S P P := fun _ _ h => h
theorem ns_blw_step {P0 P P' : Nat → Int32} {a : Nat} (ha : ns_ing R C a) (k : ns_blw R C S P0 P) (h : ns_step R C S P a P') : ns_blw R C S P0 P' :=
  fun Q hq hl => ns_step_below ha h hq (k Q hq hl)
/-- the outcome of settling P0: b tells a contradiction -/
def ns_res (R C : Nat) (S : Nat → Nat → Prop) (P0 : Nat → Int32) (good : Prop) (P : Nat → Int32) : Prop :=
  (good → ns_cls R C S P ∧ ns_le P0 P ∧ ns_blw R C S P0 P) ∧ (¬ good → ∀ Q, ns_cls R C S Q → ¬ ns_le P0 Q)
theorem ns_res_bad {P0 P : Nat → Int32} {a : Nat} (ha : ns_ing R C a) (k : ns_blw R C S P0 P) (h : ¬ ∃ p, ns_cons R C S P a p) : ∀ Q, ns_cls R C S Q → ¬ ns_le P0 Q := by
  intro Q hq hl
  obtain ⟨p, hp⟩ := (hq.2 a ha).1
  exact h ⟨p, ns_cons_le (k Q hq hl) hp⟩
theorem ns_res_uniq {P0 P P' : Nat → Int32} {g g' : Prop} (h : ns_res R C S P0 g P) (h' : ns_res R C S P0 g' P') : (g ↔ g') ∧ (g → P = P') := by
  have e : ∀ {g g' : Prop} {P P' : Nat → Int32}, ns_res R C S P0 g P → ns_res R C S P0 g' P' → g → g' := by
    intro g g' P P' h h' hg
    by_cases hg' : g'
    · exact hg'
    · exact absurd (h.1 hg).2.1 (h'.2 hg' _ (h.1 hg).1)
  refine ⟨⟨e h h', e h' h⟩, fun hg => ?_⟩
  have hg' := e h h' hg
  exact ns_le_anti ((h.1 hg).2.2 _ (h'.1 hg').1 (h'.1 hg').2.1) ((h'.1 hg').2.2 _ (h.1 hg).1 (h.1 hg).2.1)
/-- solutions -/
def ns_sol (R C : Nat) (S : Nat → Nat → Prop) (g Z : Nat → Int32) : Prop :=
  ns_ok R C Z ∧ (∀ j, ns_cg R C j → Z j ≠ 0) ∧ ns_le g Z ∧ ∀ a, ns_ing R C a → ∃ p, ns_cons R C S Z a p
theorem ns_sol_cls {g Z : Nat → Int32} (hR : R ≤ 8) (hC : C ≤ 8) (h : ns_sol R C S g Z) : ns_cls R C S Z :=
  ⟨h.1, fun a ha => ⟨h.2.2.2 a ha, fun i hi e => absurd e (h.2.1 _ (ns_lc_cg hR hC ha hi))⟩⟩
theorem ns_cls_sol {g P : Nat → Int32} (h : ns_cls R C S P) (hg : ns_le g P) (hf : ∀ j, ns_cg R C j → P j ≠ 0) : ns_sol R C S g P :=
  ⟨h.1, hf, hg, fun a ha => (h.2 a ha).1⟩
/-- a full grid has nothing above it but itself -/
theorem ns_full_le {P Z : Nat → Int32} (hf : ∀ j, ns_cg R C j → P j ≠ 0) (hz : ns_ok R C Z) (h : ns_le P Z) (hP : ns_ok R C P) : Z = P := by
  funext j
  by_cases hj : ns_cg R C j
  · exact h j (hf j hj)
  · rw [(hz j).2 hj, (hP j).2 hj]
end
/-- the number of unknown cells below n -/
def ns_unk (P : Nat → Int32) : Nat → Nat
  | 0 => 0
  | n + 1 => ns_unk P n + (if P n = 0 then 1 else 0)
theorem ns_unk_le (P : Nat → Int32) : ∀ n, ns_unk P n ≤ n := by
  intro n
  induction n with
  | zero => exact Nat.le_refl _
  | succ n ih => simp only [ns_unk]; split <;> omega
theorem ns_unk_mono {P Q : Nat → Int32} (h : ns_le P Q) : ∀ n, ns_unk Q n ≤ ns_unk P n := by
  intro n
  induction n with
  | zero => exact Nat.le_refl _
  | succ n ih =>
    simp only [ns_unk]
    by_cases e : P n = 0
    · rw [if_pos e]; split <;> omega
    · rw [if_neg e, if_neg (by rw [h n e]; exact e)]; omega
theorem ns_unk_lt {P Q : Nat → Int32} (h : ns_le P Q) {j : Nat} (h0 : P j = 0) (h1 : Q j ≠ 0) : ∀ n, j < n → ns_unk Q n < ns_unk P n := by
  intro n
  induction n with
  | zero => intro hj; omega
  | succ n ih =>
    intro hj
    simp only [ns_unk]
    by_cases e : j = n
    · subst e
      have := ns_unk_mono h j
      rw [if_pos h0, if_neg h1]; omega
    · have := ih (by omega)
      by_cases e' : P n = 0
      · rw [if_pos e']; split <;> omega
      · rw [if_neg e', if_neg (by rw [h n e']; exact e')]; omega
