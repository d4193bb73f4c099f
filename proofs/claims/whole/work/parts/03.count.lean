/-! counting fillings; the measure of the search -/
noncomputable def ns_ct (Q : Nat → Prop) : Nat → Nat
  | 0 => 0
  | n + 1 => ns_ct Q n + @ite Nat (Q n) (Classical.propDecidable (Q n)) 1 0
theorem ns_ct_t {Q : Nat → Prop} {n : Nat} (h : Q n) : ns_ct Q (n + 1) = ns_ct Q n + 1 := by
  show ns_ct Q n + @ite Nat (Q n) (Classical.propDecidable (Q n)) 1 0 = _
  rw [if_pos h]
theorem ns_ct_f {Q : Nat → Prop} {n : Nat} (h : ¬ Q n) : ns_ct Q (n + 1) = ns_ct Q n := by
  show ns_ct Q n + @ite Nat (Q n) (Classical.propDecidable (Q n)) 1 0 = _
  rw [if_neg h]; rfl
theorem ns_ct_mono {Q Q' : Nat → Prop} : ∀ n, (∀ p, p < n → Q p → Q' p) → ns_ct Q n ≤ ns_ct Q' n := by
  intro n
  induction n with
  | zero => intro _; exact Nat.le_refl _
  | succ n ih =>
    intro h
    have := ih (fun p hp => h p (by omega))
    by_cases e : Q n
    · rw [ns_ct_t e, ns_ct_t (h n (by omega) e)]; omega
    · rw [ns_ct_f e]
      by_cases e' : Q' n
      · rw [ns_ct_t e']; omega
      · rw [ns_ct_f e']; exact this
theorem ns_ct_eq {Q Q' : Nat → Prop} (n : Nat) (h : ∀ p, p < n → (Q p ↔ Q' p)) : ns_ct Q n = ns_ct Q' n :=
  Nat.le_antisymm (ns_ct_mono n (fun p hp => (h p hp).mp)) (ns_ct_mono n (fun p hp => (h p hp).mpr))
theorem ns_ct_pos {Q : Nat → Prop} {p : Nat} (h : Q p) : ∀ n, p < n → 0 < ns_ct Q n := by
  intro n
  induction n with
  | zero => intro hp; omega
  | succ n ih =>
    intro hp
    by_cases e : p = n
    · subst e; rw [ns_ct_t h]; omega
    · have := ih (by omega)
      by_cases e' : Q n
      · rw [ns_ct_t e']; omega
      · rw [ns_ct_f e']; exact this
/-- Q split by B -/
theorem ns_ct_split {Q Q1 Q0 : Nat → Prop} : ∀ n, (∀ p, p < n → (Q p ↔ Q1 p ∨ Q0 p)) → (∀ p, p < n → Q1 p → ¬ Q0 p) → ns_ct Q n = ns_ct Q1 n + ns_ct Q0 n := by
  intro n
  induction n with
  | zero => intro _ _; rfl
  | succ n ih =>
    intro h d
    have := ih (fun p hp => h p (by omega)) (fun p hp => d p (by omega))
    by_cases e1 : Q1 n
    · rw [ns_ct_t e1, ns_ct_f (d n (by omega) e1), ns_ct_t ((h n (by omega)).mpr (Or.inl e1))]; omega
    · by_cases e0 : Q0 n
      · rw [ns_ct_f e1, ns_ct_t e0, ns_ct_t ((h n (by omega)).mpr (Or.inr e0))]; omega
      · have e : ¬ Q n := fun z => ((h n (by omega)).mp z).elim e1 e0
        rw [ns_ct_f e1, ns_ct_f e0, ns_ct_f e]; exact this
/-- those at v or beyond: one less when v itself counts -/
theorem ns_ct_lt {Q Q' : Nat → Prop} {p : Nat} (h : Q' p) (hn : ¬ Q p) : ∀ n, p < n → (∀ q, q < n → Q q → Q' q) → ns_ct Q n < ns_ct Q' n := by
  intro n
  induction n with
  | zero => intro hp; omega
  | succ n ih =>
    intro hp hm
    by_cases e : p = n
    · subst e
      have := ns_ct_mono p (fun q hq => hm q (by omega))
      rw [ns_ct_t h, ns_ct_f hn]; omega
    · have := ih (by omega) (fun q hq => hm q (by omega))
      by_cases e1 : Q n
      · rw [ns_ct_t e1, ns_ct_t (hm n (by omega) e1)]; omega
      · rw [ns_ct_f e1]
        by_cases e2 : Q' n
        · rw [ns_ct_t e2]; omega
        · rw [ns_ct_f e2]; exact this
theorem ns_ct_up (Q : Nat → Prop) {m n : Nat} (h : m ≤ n) : ns_ct Q m ≤ ns_ct Q n := by
  induction n with
  | zero => have : m = 0 := by omega
            subst this; exact Nat.le_refl _
  | succ n ih =>
    by_cases e : m = n + 1
    · subst e; exact Nat.le_refl _
    · have := ih (by omega)
      by_cases e' : Q n
      · rw [ns_ct_t e']; omega
      · rw [ns_ct_f e']; exact this
/-- the computed count -/
def ns_cb (q : Nat → Bool) : Nat → Nat
  | 0 => 0
  | n + 1 => ns_cb q n + (if q n = true then 1 else 0)
theorem ns_ct_cb {Q : Nat → Prop} {q : Nat → Bool} : ∀ n, (∀ p, p < n → Q p → q p = true) → ns_ct Q n ≤ ns_cb q n := by
  intro n
  induction n with
  | zero => intro _; exact Nat.le_refl _
  | succ n ih =>
    intro h
    have := ih (fun p hp => h p (by omega))
    simp only [ns_cb]
    by_cases e : Q n
    · rw [ns_ct_t e, if_pos (h n (by omega) e)]; omega
    · rw [ns_ct_f e]; omega
def ns_key (c s p : Nat) : Bool := ns_rn (fun i => p.testBit i) 9 == c && ns_pop (fun i => p.testBit i) 9 == s
/-- fillings with a given number of runs and of FILLED cells are few -/
theorem ns_key30 : ∀ c, c < 10 → ∀ s, s < 10 → ns_cb (ns_key c s) 256 ≤ 30 := by decide +kernel
def ns_pr (f : Nat → Nat) : Nat → Nat
  | 0 => 1
  | n + 1 => ns_pr f n * f n
theorem ns_pr_eq {f g : Nat → Nat} : ∀ n, (∀ r, r < n → f r = g r) → ns_pr f n = ns_pr g n := by
  intro n
  induction n with
  | zero => intro _; rfl
  | succ n ih => intro h; simp only [ns_pr]; rw [ih (fun r hr => h r (by omega)), h n (by omega)]
theorem ns_pr_mono {f g : Nat → Nat} : ∀ n, (∀ r, r < n → f r ≤ g r) → ns_pr f n ≤ ns_pr g n := by
  intro n
  induction n with
  | zero => intro _; exact Nat.le_refl _
  | succ n ih => intro h; exact Nat.mul_le_mul (ih (fun r hr => h r (by omega))) (h n (by omega))
theorem ns_pr_pos {f : Nat → Nat} : ∀ n, (∀ r, r < n → 0 < f r) → 0 < ns_pr f n := by
  intro n
  induction n with
  | zero => intro _; exact Nat.one_pos
  | succ n ih => intro h; exact Nat.mul_pos (ih (fun r hr => h r (by omega))) (h n (by omega))
theorem ns_pr_le {f : Nat → Nat} {M : Nat} : ∀ n, (∀ r, r < n → f r ≤ M) → ns_pr f n ≤ M ^ n := by
  intro n
  induction n with
  | zero => intro _; exact Nat.le_refl _
  | succ n ih => intro h; rw [Nat.pow_succ]; exact Nat.mul_le_mul (ih (fun r hr => h r (by omega))) (h n (by omega))
theorem ns_pr_split {f f1 f0 : Nat → Nat} {r : Nat} (hr : f r = f1 r + f0 r) (h1 : ∀ q, q ≠ r → f1 q = f q) (h0 : ∀ q, q ≠ r → f0 q = f q) : ∀ n, r < n → ns_pr f n = ns_pr f1 n + ns_pr f0 n := by
  intro n
  induction n with
  | zero => intro h; omega
  | succ n ih =>
    intro h
    simp only [ns_pr]
    by_cases e : r = n
    · subst e
      rw [ns_pr_eq r (fun q hq => (h1 q (by omega)).symm), hr, Nat.mul_add, ns_pr_eq (f := f0) (g := f1) r (fun q hq => by rw [h1 q (by omega), h0 q (by omega)])]
    · rw [ih (by omega), h1 n (by omega), h0 n (by omega), Nat.add_mul]
/-- how many grids the rows alone allow above P -/
noncomputable def ns_K (R C : Nat) (S : Nat → Nat → Prop) (P : Nat → Int32) (r : Nat) : Nat := ns_ct (fun p => ns_cons R C S P r p) 256
noncomputable def ns_N (R C : Nat) (S : Nat → Nat → Prop) (P : Nat → Int32) : Nat := ns_pr (ns_K R C S P) R
section
variable {R C : Nat} {S : Nat → Nat → Prop}
theorem ns_N_mono {P Q : Nat → Int32} (h : ns_le P Q) : ns_N R C S Q ≤ ns_N R C S P :=
  ns_pr_mono R (fun _ _ => ns_ct_mono 256 (fun _ _ => ns_cons_le h))
theorem ns_N_pos {P : Nat → Int32} (hS : ∀ a p, S a p → p < 256) (h : ∀ r, r < R → ∃ p, ns_cons R C S P r p) : 0 < ns_N R C S P :=
  ns_pr_pos R (fun r hr => by obtain ⟨p, hp⟩ := h r hr; exact ns_ct_pos hp 256 (hS r p hp.1))
theorem ns_N_bound (P : Nat → Int32) (hR : R ≤ 8) (hb : ∀ r, r < R → ns_ct (S r) 256 ≤ 30) : ns_N R C S P ≤ 30 ^ 8 :=
  Nat.le_trans (ns_pr_le (M := 30) R (fun r hr => Nat.le_trans (ns_ct_mono 256 (fun _ _ h => h.1)) (hb r hr))) (Nat.pow_le_pow_right (by omega) hR)
/-- branching at a cell of row r, column c, that is unknown -/
theorem ns_N_split {P : Nat → Int32} {r c : Nat} (hr : r < R) (hR : R ≤ 8) (hc : c < C) (hC : C ≤ 8) (h0 : P (r * 8 + c) = 0) :
    ns_N R C S P = ns_N R C S (upd P (r * 8 + c) 2) + ns_N R C S (upd P (r * 8 + c) 1) := by
  have hlen : ∀ q, q < 8 → ns_len R C q = C := fun q hq => by simp [ns_len, hq]
  have hu : ∀ q i x, q < 8 → i < C → (q ≠ r ∨ i ≠ c) → upd P (r * 8 + c) x (ns_lc q i) = P (ns_lc q i) := by
    intro q i x hq hi hne
    rw [ns_lc_row hq]; show (if q * 8 + i = r * 8 + c then x else P (q * 8 + i)) = _
    rw [if_neg (by omega)]
  have hs : ∀ x, upd P (r * 8 + c) x (ns_lc r c) = x := by
    intro x; rw [ns_lc_row (by omega)]; show (if r * 8 + c = r * 8 + c then x else _) = x
    rw [if_pos rfl]
  have hother : ∀ q x, q ≠ r → q < R → ns_K R C S (upd P (r * 8 + c) x) q = ns_K R C S P q := by
    intro q x hq hqR
    refine ns_ct_eq 256 (fun p _ => ⟨ns_cons_eq (fun i hi => ?_), ns_cons_eq (fun i hi => ?_)⟩)
    · rw [hlen q (by omega)] at hi; exact (hu q i x (by omega) hi (Or.inl hq)).symm
    · rw [hlen q (by omega)] at hi; exact hu q i x (by omega) hi (Or.inl hq)
  have hsplit : ns_K R C S P r = ns_K R C S (upd P (r * 8 + c) 2) r + ns_K R C S (upd P (r * 8 + c) 1) r := by
    refine ns_ct_split 256 (fun p _ => ⟨fun h => ?_, fun h => ?_⟩) (fun p _ h1 h2 => ?_)
    · cases hb : p.testBit c with
      | true =>
        refine Or.inl ⟨h.1, fun i hi => ?_⟩
        rw [hlen r (by omega)] at hi
        by_cases e : i = c
        · subst e; rw [hs]; exact ⟨fun _ => hb, fun z => absurd z (by decide)⟩
        · rw [hu r i 2 (by omega) hi (Or.inr e)]; exact h.2 i (by rw [hlen r (by omega)]; exact hi)
      | false =>
        refine Or.inr ⟨h.1, fun i hi => ?_⟩
        rw [hlen r (by omega)] at hi
        by_cases e : i = c
        · subst e; rw [hs]; exact ⟨fun z => absurd z (by decide), fun _ => hb⟩
        · rw [hu r i 1 (by omega) hi (Or.inr e)]; exact h.2 i (by rw [hlen r (by omega)]; exact hi)
    · have hle : ∀ x, ns_le P (upd P (r * 8 + c) x) := by
        intro x j hj
        show (if j = r * 8 + c then x else P j) = P j
        by_cases e : j = r * 8 + c
        · subst e; exact absurd h0 hj
        · rw [if_neg e]
      exact h.elim (ns_cons_le (hle 2)) (ns_cons_le (hle 1))
    · have a := (h1.2 c (by rw [hlen r (by omega)]; exact hc)).1 (hs 2)
      have b := (h2.2 c (by rw [hlen r (by omega)]; exact hc)).2 (hs 1)
      rw [a] at b; exact nomatch b
  -- beyond R nothing is asked: cut the functions there
  have key : ∀ n, n ≤ R → r < n → ns_pr (ns_K R C S P) n = ns_pr (ns_K R C S (upd P (r * 8 + c) 2)) n + ns_pr (ns_K R C S (upd P (r * 8 + c) 1)) n := by
    intro n
    induction n with
    | zero => intro _ h; omega
    | succ n ih =>
      intro hn h
      simp only [ns_pr]
      by_cases e : r = n
      · subst e
        rw [ns_pr_eq (f := ns_K R C S (upd P (r * 8 + c) 2)) (g := ns_K R C S P) r (fun q hq => hother q 2 (by omega) (by omega)),
          ns_pr_eq (f := ns_K R C S (upd P (r * 8 + c) 1)) (g := ns_K R C S P) r (fun q hq => hother q 1 (by omega) (by omega)), hsplit, Nat.mul_add]
      · rw [ih (by omega) (by omega), hother n 2 (by omega) (by omega), hother n 1 (by omega) (by omega), Nat.add_mul]
  exact key R (Nat.le_refl R) hr
end
