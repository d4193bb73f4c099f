/-! the outcome of propagate; filling and copying loops -/
section
variable {R C : Nat} {S : Nat → Nat → Prop} {g : Nat → Int32}
def ns_po (R C : Nat) (S : Nat → Nat → Prop) (g : Nat → Int32) (st : Int32) (kn : Nat → Int32) : Prop :=
  (ns_cls R C S kn ∧ ns_le g kn ∧ ns_blw R C S g kn ∧ (((∀ j, ns_cg R C j → kn j ≠ 0) ∧ st = 5) ∨ ((∃ j, ns_cg R C j ∧ kn j = 0) ∧ st = 6))) ∨
  ((∀ Q, ns_cls R C S Q → ¬ ns_le g Q) ∧ kn = (fun _ => 0) ∧ st = 4)
theorem ns_po_uniq {st st' : Int32} {kn kn' : Nat → Int32} (h : ns_po R C S g st kn) (h' : ns_po R C S g st' kn') : st = st' ∧ kn = kn' := by
  rcases h with ⟨c, l, b, e⟩ | ⟨n, z, e⟩
  · rcases h' with ⟨c', l', b', e'⟩ | ⟨n', _⟩
    · have ek : kn = kn' := ns_le_anti (b _ c' l') (b' _ c l)
      subst ek
      refine ⟨?_, rfl⟩
      rcases e with ⟨f, e⟩ | ⟨⟨j, hj, z⟩, e⟩
      · rcases e' with ⟨_, e'⟩ | ⟨⟨j, hj, z⟩, _⟩
        · rw [e, e']
        · exact absurd z (f j hj)
      · rcases e' with ⟨f', _⟩ | ⟨_, e'⟩
        · exact absurd z (f' j hj)
        · rw [e, e']
    · exact absurd l (n' _ c)
  · rcases h' with ⟨c', l', _⟩ | ⟨_, z', e'⟩
    · exact absurd l' (n _ c')
    · rw [z, z', e, e']; exact ⟨rfl, rfl⟩
theorem ns_po_ok {st : Int32} {kn : Nat → Int32} (h : ns_po R C S g st kn) : ns_ok R C kn := by
  rcases h with ⟨c, _⟩ | ⟨_, z, _⟩
  · exact c.1
  · rw [z]; exact ns_ok_0 R C
end
/-- f is copied into a below n -/
def ns_cp (f a a' : Nat → Int32) (n : Nat) : Prop := (∀ j, j < n → a' j = f j) ∧ ∀ j, n ≤ j → a' j = a j
theorem ns_cp_0 {f a : Nat → Int32} : ns_cp f a a 0 := ⟨fun j hj => absurd hj (by omega), fun _ _ => rfl⟩
theorem ns_cp_s {f a a' : Nat → Int32} {n : Nat} {x : Int32} (h : ns_cp f a a' n) (e : x = f n) : ns_cp f a (upd a' n x) (n + 1) :=
  ⟨fun j hj => by
    by_cases z : j = n
    · subst z; rw [ns_upd_s, e]
    · rw [ns_upd_n z]; exact h.1 j (by omega),
   fun j hj => by rw [ns_upd_n (by omega)]; exact h.2 j (by omega)⟩
theorem ns_cp_end {f a a' : Nat → Int32} {n : Nat} (h : ns_cp f a a' n) (k : ∀ j, n ≤ j → a j = f j) : a' = f := by
  funext j
  by_cases z : j < n
  · exact h.1 j z
  · rw [h.2 j (by omega)]; exact k j (by omega)
/-- f is copied to place o of a below n -/
def ns_cq (f a a' : Nat → Int32) (o n : Nat) : Prop := (∀ q, q < n → a' (o + q) = f q) ∧ ∀ j, (∀ q, q < n → j ≠ o + q) → a' j = a j
theorem ns_cq_0 {f a : Nat → Int32} {o : Nat} : ns_cq f a a o 0 := ⟨fun j hj => absurd hj (by omega), fun _ _ => rfl⟩
theorem ns_cq_s {f a a' : Nat → Int32} {o n : Nat} {x : Int32} (h : ns_cq f a a' o n) (e : x = f n) : ns_cq f a (upd a' (o + n) x) o (n + 1) :=
  ⟨fun j hj => by
    by_cases z : j = n
    · subst z; rw [ns_upd_s, e]
    · rw [ns_upd_n (by omega)]; exact h.1 j (by omega),
   fun j hj => by rw [ns_upd_n (hj n (by omega))]; exact h.2 j (fun q hq => hj q (by omega))⟩
/-- a line named by kind and number, or none -/
def ns_nl (R C : Nat) (v1 v2 : Int32) : Prop := ¬ (v1 = 0 ∧ ¬ v2 < 0 ∧ ¬ nI R ≤ v2) ∧ ¬ (v1 = 1 ∧ ¬ v2 < 0 ∧ ¬ nI C ≤ v2)
theorem ns_kl {R C : Nat} (hR : R ≤ 8) (hC : C ≤ 8) (v1 v2 : Int32) :
    (∃ L, L < R ∧ v1 = 0 ∧ v2 = nI L) ∨ (∃ L, L < C ∧ v1 = 1 ∧ v2 = nI L) ∨ ns_nl R C v1 v2 := by
  by_cases h1 : v1 = 0 ∧ ¬ v2 < 0 ∧ ¬ nI R ≤ v2
  · obtain ⟨e, a, b⟩ := h1
    obtain ⟨j, hj, rfl⟩ := nI_of a
    refine Or.inl ⟨j, ?_, e, rfl⟩
    rw [nI_leI (by omega) hj] at b; omega
  · by_cases h2 : v1 = 1 ∧ ¬ v2 < 0 ∧ ¬ nI C ≤ v2
    · obtain ⟨e, a, b⟩ := h2
      obtain ⟨j, hj, rfl⟩ := nI_of a
      refine Or.inr (Or.inl ⟨j, ?_, e, rfl⟩)
      rw [nI_leI (by omega) hj] at b; omega
    · exact Or.inr (Or.inr ⟨h1, h2⟩)
def ns_nc (R C : Nat) (v1 v2 : Int32) : Prop := v1 < 0 ∨ nI R ≤ v1 ∨ v2 < 0 ∨ nI C ≤ v2
theorem ns_rcx {R C : Nat} (hR : R ≤ 8) (hC : C ≤ 8) (v1 v2 : Int32) : (∃ r c, r < R ∧ c < C ∧ v1 = nI r ∧ v2 = nI c) ∨ ns_nc R C v1 v2 := by
  by_cases h1 : v1 < 0
  · exact Or.inr (Or.inl h1)
  · by_cases h2 : nI R ≤ v1
    · exact Or.inr (Or.inr (Or.inl h2))
    · by_cases h3 : v2 < 0
      · exact Or.inr (Or.inr (Or.inr (Or.inl h3)))
      · by_cases h4 : nI C ≤ v2
        · exact Or.inr (Or.inr (Or.inr (Or.inr h4)))
        · obtain ⟨r, hr, rfl⟩ := nI_of h1
          obtain ⟨c, hc, rfl⟩ := nI_of h3
          rw [nI_leI (by omega) hr] at h2
          rw [nI_leI (by omega) hc] at h4
          exact Or.inl ⟨r, c, by omega, by omega, rfl, rfl⟩
theorem ns_cq_k {f a a' : Nat → Int32} {o n : Nat} (h : ns_cq f a a' o n) (e : a (o + n) = f n) : ns_cq f a a' o (n + 1) :=
  ⟨fun j hj => by
    by_cases z : j = n
    · subst z; rw [h.2 _ (fun q hq => by omega)]; exact e
    · exact h.1 j (by omega),
   fun j hj => h.2 j (fun q hq => hj q (by omega))⟩
theorem ns_st_at (f : Nat) (A B : Nat → Int32) (q : Nat) (hq : q < 64) (hf : f < 2) : ns_st f A B (f * 64 + q) = 0 := by
  by_cases e : f = 0
  · subst e; simp [ns_st, hq]
  · have e1 : f = 1 := by omega
    subst e1
    have h1 : ¬ 1 * 64 + q < 64 := by omega
    have h2 : 1 * 64 + q < 128 := by omega
    simp only [ns_st]
    rw [if_neg h1, if_pos h2, if_neg (by omega)]
/-- the bits of v turned round -/
def ns_rv (C v n : Nat) (x : Int32) : Prop := ∀ k, k < 32 → (bt x k = true ↔ k < n ∧ v.testBit (C - 1 - k) = true)
theorem ns_rv_0 {C v : Nat} : ns_rv C v 0 0 := fun k _ => by
  rw [b_0]; exact ⟨(fun z => nomatch z), fun z => absurd z.1 (by omega)⟩
theorem ns_rv_t {C v n : Nat} {x : Int32} (hn : n < 32) (h : ns_rv C v n x) (e : v.testBit (C - 1 - n) = true) : ns_rv C v (n + 1) (x ||| ((1 : Int32) <<< (nI n &&& 31))) := by
  intro k hk
  rw [b_or, ns_sh1 hn hk, Bool.or_eq_true, decide_eq_true_eq, h k hk]
  constructor
  · rintro (⟨a, b⟩ | rfl)
    · exact ⟨by omega, b⟩
    · exact ⟨by omega, e⟩
  · rintro ⟨a, b⟩
    by_cases z : k = n
    · exact Or.inr z
    · exact Or.inl ⟨by omega, b⟩
theorem ns_rv_f {C v n : Nat} {x : Int32} (h : ns_rv C v n x) (e : ¬ v.testBit (C - 1 - n) = true) : ns_rv C v (n + 1) x := by
  intro k hk
  rw [h k hk]
  constructor
  · rintro ⟨a, b⟩; exact ⟨by omega, b⟩
  · rintro ⟨a, b⟩
    by_cases z : k = n
    · subst z; exact absurd b e
    · exact ⟨by omega, b⟩
theorem ns_rv_end {C v : Nat} {x : Int32} (hC : C ≤ 8) (h : ns_rv C v C x) : ∃ p, ns_vp C v p ∧ x = nI p := by
  obtain ⟨p, hp, e⟩ := ns_ofbits x (n := C) (by omega) (fun i hi hc => by
    cases t : bt x i with
    | false => rfl
    | true => have := ((h i hi).mp t).1; omega)
  refine ⟨p, ⟨hp, fun c hc => ?_⟩, e⟩
  have p256 : p < 256 := Nat.lt_of_lt_of_le hp (ns_pw_le hC)
  have k := h c (by omega)
  rw [e, ns_btN (by omega)] at k
  cases t : v.testBit (C - 1 - c) with
  | true => exact k.mpr ⟨hc, t⟩
  | false =>
    cases s : p.testBit c with
    | false => rfl
    | true => have := (k.mp s).2; rw [t] at this; exact nomatch this
theorem ns_c1c {C c : Nat} (h : c < C) : nI C - 1 - nI c = nI (C - 1 - c) := by
  show nI C - nI 1 - nI c = _
  rw [pk_sub (by omega), pk_sub (by omega)]
theorem ns_row_out {C d j : Nat} (hC : C ≤ 8) (h : ¬ (j / 8 = d ∧ j % 8 < C)) : ∀ q, q < C → j ≠ d * 8 + q := fun q hq e => h ⟨by omega, by omega⟩
