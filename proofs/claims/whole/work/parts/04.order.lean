/-! grid order, the first two solutions -/
def ns_lt (A B : Nat → Int32) : Prop := ∃ j, (∀ i, i < j → A i = B i) ∧ A j = 1 ∧ B j = 2
theorem ns_lt_ir {A : Nat → Int32} (h : ns_lt A A) : False := by
  obtain ⟨j, _, h1, h2⟩ := h
  rw [h1] at h2; exact absurd h2 (by decide)
theorem ns_lt_tr {A B D : Nat → Int32} (h : ns_lt A B) (k : ns_lt B D) : ns_lt A D := by
  obtain ⟨i, hi, a1, b2⟩ := h
  obtain ⟨j, hj, b1, d2⟩ := k
  by_cases e : i < j
  · exact ⟨i, fun q hq => (hi q hq).trans (hj q (by omega)), a1, by rw [← hj i e]; exact b2⟩
  · by_cases e' : j < i
    · exact ⟨j, fun q hq => (hi q (by omega)).trans (hj q hq), by rw [hi j e']; exact b1, d2⟩
    · have : i = j := by omega
      subst this
      rw [b2] at b1; exact absurd b1 (by decide)
theorem ns_lt_as {A B : Nat → Int32} (h : ns_lt A B) (k : ns_lt B A) : False := ns_lt_ir (ns_lt_tr h k)
/-- the first two of the grids that Sl holds of: f of them, A, B -/
def ns_spec (Sl : (Nat → Int32) → Prop) (f : Nat) (A B : Nat → Int32) : Prop :=
  (f = 0 ∧ ∀ Z, ¬ Sl Z) ∨ (f = 1 ∧ Sl A ∧ ∀ Z, Sl Z → Z = A) ∨ (f = 2 ∧ Sl A ∧ Sl B ∧ ns_lt A B ∧ ∀ Z, Sl Z → Z = A ∨ Z = B ∨ ns_lt B Z)
theorem ns_spec_uniq {Sl : (Nat → Int32) → Prop} {f f' : Nat} {A B A' B' : Nat → Int32} (h : ns_spec Sl f A B) (h' : ns_spec Sl f' A' B') :
    f = f' ∧ (1 ≤ f → A = A') ∧ (2 ≤ f → B = B') := by
  rcases h with ⟨rfl, n⟩ | ⟨rfl, sA, u⟩ | ⟨rfl, sA, sB, l, u⟩
  · rcases h' with ⟨rfl, _⟩ | ⟨rfl, sA', _⟩ | ⟨rfl, sA', _⟩
    · exact ⟨rfl, fun z => absurd z (by omega), fun z => absurd z (by omega)⟩
    · exact absurd sA' (n _)
    · exact absurd sA' (n _)
  · rcases h' with ⟨rfl, n'⟩ | ⟨rfl, sA', _⟩ | ⟨rfl, sA', sB', l', _⟩
    · exact absurd sA (n' _)
    · exact ⟨rfl, fun _ => (u _ sA').symm, fun z => absurd z (by omega)⟩
    · rw [u _ sA', u _ sB'] at l'; exact (ns_lt_ir l').elim
  · rcases h' with ⟨rfl, n'⟩ | ⟨rfl, _, u'⟩ | ⟨rfl, sA', sB', l', u'⟩
    · exact absurd sA (n' _)
    · rw [u' _ sA, u' _ sB] at l; exact (ns_lt_ir l).elim
    · have eA : A = A' := by
        have k1 : A' = A ∨ ns_lt A A' := by
          rcases u _ sA' with z | z | z
          · exact Or.inl z
          · rw [z]; exact Or.inr l
          · exact Or.inr (ns_lt_tr l z)
        have k2 : A = A' ∨ ns_lt A' A := by
          rcases u' _ sA with z | z | z
          · exact Or.inl z
          · rw [z]; exact Or.inr l'
          · exact Or.inr (ns_lt_tr l' z)
        rcases k1 with z | z
        · exact z.symm
        · rcases k2 with y | y
          · exact y
          · exact (ns_lt_as z y).elim
      subst eA
      refine ⟨rfl, fun _ => rfl, fun _ => ?_⟩
      rcases u _ sB' with z | z | z
      · rw [z] at l'; exact (ns_lt_ir l').elim
      · exact z.symm
      · rcases u' _ sB with y | y | y
        · rw [y] at l; exact (ns_lt_ir l).elim
        · exact y
        · exact (ns_lt_as z y).elim
/-- what a search keeps: all that Sl holds of is found or remains; the found lie before what remains -/
def ns_inv (Sl : (Nat → Int32) → Prop) (f : Nat) (A B : Nat → Int32) (Rem : (Nat → Int32) → Prop) : Prop :=
  f ≤ 2 ∧ (∀ Z, Sl Z → (1 ≤ f ∧ Z = A) ∨ (2 ≤ f ∧ Z = B) ∨ Rem Z) ∧
  (1 ≤ f → Sl A ∧ ∀ Z, Sl Z → Rem Z → ns_lt A Z) ∧ (2 ≤ f → Sl B ∧ ns_lt A B ∧ ∀ Z, Sl Z → Rem Z → ns_lt B Z)
theorem ns_inv_0 {Sl Rem : (Nat → Int32) → Prop} (A B : Nat → Int32) (h : ∀ Z, Sl Z → Rem Z) : ns_inv Sl 0 A B Rem :=
  ⟨by omega, fun Z hZ => Or.inr (Or.inr (h Z hZ)), fun z => absurd z (by omega), fun z => absurd z (by omega)⟩
/-- what remains may be said otherwise -/
theorem ns_inv_to {Sl Rem Rem' : (Nat → Int32) → Prop} {f : Nat} {A B : Nat → Int32} (h : ns_inv Sl f A B Rem) (k : ∀ Z, Sl Z → (Rem Z ↔ Rem' Z)) : ns_inv Sl f A B Rem' :=
  ⟨h.1, fun Z hZ => (h.2.1 Z hZ).imp id (fun x => x.imp id (k Z hZ).mp), fun z => ⟨(h.2.2.1 z).1, fun Z hZ r => (h.2.2.1 z).2 Z hZ ((k Z hZ).mpr r)⟩,
    fun z => ⟨(h.2.2.2 z).1, (h.2.2.2 z).2.1, fun Z hZ r => (h.2.2.2 z).2.2 Z hZ ((k Z hZ).mpr r)⟩⟩
/-- the first that remains is found: as A -/
theorem ns_inv_A {Sl Rem Rem' : (Nat → Int32) → Prop} {A B D : Nat → Int32} (h : ns_inv Sl 0 A B Rem) (hD : Sl D)
    (k : ∀ Z, Sl Z → Rem Z → Z = D ∨ Rem' Z) (o : ∀ Z, Sl Z → Rem' Z → ns_lt D Z) : ns_inv Sl 1 D B Rem' :=
  ⟨by omega, fun Z hZ => by
      rcases h.2.1 Z hZ with ⟨z, _⟩ | ⟨z, _⟩ | z
      · omega
      · omega
      · exact (k Z hZ z).elim (fun e => Or.inl ⟨by omega, e⟩) (fun r => Or.inr (Or.inr r)),
    fun _ => ⟨hD, o⟩, fun z => absurd z (by omega)⟩
/-- .. as B -/
theorem ns_inv_B {Sl Rem Rem' : (Nat → Int32) → Prop} {A B D : Nat → Int32} (h : ns_inv Sl 1 A B Rem) (hD : Sl D) (rD : Rem D)
    (k : ∀ Z, Sl Z → Rem Z → Z = D ∨ Rem' Z) (o : ∀ Z, Sl Z → Rem' Z → ns_lt D Z) : ns_inv Sl 2 A D Rem' := by
  have l := (h.2.2.1 (by omega)).2 D hD rD
  exact ⟨by omega, fun Z hZ => by
      rcases h.2.1 Z hZ with ⟨_, z⟩ | ⟨z, _⟩ | z
      · exact Or.inl ⟨by omega, z⟩
      · omega
      · exact (k Z hZ z).elim (fun e => Or.inr (Or.inl ⟨by omega, e⟩)) (fun r => Or.inr (Or.inr r)),
    fun _ => ⟨(h.2.2.1 (by omega)).1, fun Z hZ r => ns_lt_tr l (o Z hZ r)⟩, fun _ => ⟨hD, l, o⟩⟩
theorem ns_inv_end2 {Sl Rem : (Nat → Int32) → Prop} {A B : Nat → Int32} (h : ns_inv Sl 2 A B Rem) : ns_spec Sl 2 A B := by
  obtain ⟨_, h1, h2, h3⟩ := h
  obtain ⟨sB, l, o⟩ := h3 (by omega)
  refine Or.inr (Or.inr ⟨rfl, (h2 (by omega)).1, sB, l, fun Z hZ => ?_⟩)
  rcases h1 Z hZ with ⟨_, z⟩ | ⟨_, z⟩ | z
  · exact Or.inl z
  · exact Or.inr (Or.inl z)
  · exact Or.inr (Or.inr (o Z hZ z))
theorem ns_inv_end {Sl Rem : (Nat → Int32) → Prop} {f : Nat} {A B : Nat → Int32} (h : ns_inv Sl f A B Rem) (n : ∀ Z, Sl Z → ¬ Rem Z) : ns_spec Sl f A B := by
  by_cases e2 : f = 2
  · subst e2; exact ns_inv_end2 h
  · by_cases e1 : f = 1
    · subst e1
      refine Or.inr (Or.inl ⟨rfl, (h.2.2.1 (by omega)).1, fun Z hZ => ?_⟩)
      rcases h.2.1 Z hZ with ⟨_, z⟩ | ⟨z, _⟩ | z
      · exact z
      · omega
      · exact absurd z (n Z hZ)
    · have e0 : f = 0 := by have := h.1; omega
      subst e0
      refine Or.inl ⟨rfl, fun Z hZ => ?_⟩
      rcases h.2.1 Z hZ with ⟨z, _⟩ | ⟨z, _⟩ | z
      · omega
      · omega
      · exact n Z hZ z
