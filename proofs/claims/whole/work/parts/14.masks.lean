/-! masks over a line; the fillings seen; writes along a line -/
def ns_mb (P : Nat → Int32) (a : Nat) (v : Int32) (n : Nat) (x : Int32) : Prop := ∀ k, k < 32 → (bt x k = true ↔ k < n ∧ P (ns_lc a k) = v)
theorem ns_mb_0 {P : Nat → Int32} {a : Nat} {v : Int32} : ns_mb P a v 0 0 := fun k _ => by
  rw [b_0]; exact ⟨(fun z => nomatch z), fun z => absurd z.1 (by omega)⟩
theorem ns_mb_t {P : Nat → Int32} {a n : Nat} {v x : Int32} (hn : n < 32) (h : ns_mb P a v n x) (e : P (ns_lc a n) = v) : ns_mb P a v (n + 1) (x ||| ((1 : Int32) <<< (nI n &&& 31))) := by
  intro k hk
  rw [b_or, ns_sh1 hn hk, Bool.or_eq_true, decide_eq_true_eq, h k hk]
  constructor
  · rintro (⟨a, b⟩ | rfl)
    · exact ⟨by omega, b⟩
    · exact ⟨by omega, e⟩
  · rintro ⟨a, b⟩
    by_cases z : k = n
    · exact Or.inr z
    · exact Or.inl ⟨by omega, b⟩
theorem ns_mb_f {P : Nat → Int32} {a n : Nat} {v x : Int32} (h : ns_mb P a v n x) (e : ¬ P (ns_lc a n) = v) : ns_mb P a v (n + 1) x := by
  intro k hk
  rw [h k hk]
  constructor
  · rintro ⟨a, b⟩; exact ⟨by omega, b⟩
  · rintro ⟨a, b⟩
    by_cases z : k = n
    · subst z; exact absurd b e
    · exact ⟨by omega, b⟩
theorem ns_mf0 {P : Nat → Int32} {a n p : Nat} {x : Int32} (hn : n ≤ 8) (h : ns_mb P a 2 n x) (hp : p < 2 ^ 32) : (x &&& (nI p ^^^ (-1))) = 0 ↔ ∀ i, i < n → P (ns_lc a i) = 2 → p.testBit i = true := by
  rw [ns_zero]
  constructor
  · intro z i hi e
    have := z i (by omega)
    rw [b_and, ns_not _ (by omega), ns_btN hp, (h i (by omega)).mpr ⟨hi, e⟩] at this
    cases t : p.testBit i with
    | true => rfl
    | false => rw [t] at this; exact nomatch this
  · intro z i hi
    rw [b_and, ns_not _ hi, ns_btN hp]
    cases t : bt x i with
    | false => rfl
    | true =>
      have := (h i hi).mp t
      rw [z i this.1 this.2]; rfl
theorem ns_me0 {P : Nat → Int32} {a n p : Nat} {x : Int32} (hn : n ≤ 8) (h : ns_mb P a 1 n x) (hp : p < 2 ^ 32) : (x &&& nI p) = 0 ↔ ∀ i, i < n → P (ns_lc a i) = 1 → p.testBit i = false := by
  rw [ns_zero]
  constructor
  · intro z i hi e
    have := z i (by omega)
    rw [b_and, ns_btN hp, (h i (by omega)).mpr ⟨hi, e⟩] at this
    exact this
  · intro z i hi
    rw [b_and, ns_btN hp]
    cases t : bt x i with
    | false => rfl
    | true =>
      have := (h i hi).mp t
      rw [z i this.1 this.2]; rfl
/-- bit i of x: some filling that was seen has b there -/
def ns_or (Q : Nat → Prop) (b : Bool) (x : Int32) : Prop := ∀ i, i < 32 → (bt x i = true ↔ ∃ p, Q p ∧ p.testBit i = b)
/-- bit i of x: every filling that was seen has b there -/
def ns_an (Q : Nat → Prop) (b : Bool) (x : Int32) : Prop := ∀ i, i < 32 → (bt x i = true ↔ ∀ p, Q p → p.testBit i = b)
theorem ns_or_0 {Q : Nat → Prop} {b : Bool} (h : ∀ p, ¬ Q p) : ns_or Q b 0 := fun i _ => by
  rw [b_0]; exact ⟨(fun z => nomatch z), fun ⟨p, z, _⟩ => absurd z (h p)⟩
theorem ns_or_eq {Q Q' : Nat → Prop} {b : Bool} {x : Int32} (h : ns_or Q b x) (e : ∀ p, Q' p ↔ Q p) : ns_or Q' b x := fun i hi => by
  rw [h i hi]; exact ⟨fun ⟨p, z, y⟩ => ⟨p, (e p).mpr z, y⟩, fun ⟨p, z, y⟩ => ⟨p, (e p).mp z, y⟩⟩
theorem ns_or_add {Q Q' : Nat → Prop} {b : Bool} {x y : Int32} {q : Nat} (h : ns_or Q b x) (e : ∀ p, Q' p ↔ Q p ∨ p = q) (hy : ∀ i, i < 32 → (bt y i = true ↔ q.testBit i = b)) : ns_or Q' b (x ||| y) := fun i hi => by
  rw [b_or, Bool.or_eq_true, h i hi, hy i hi]
  constructor
  · rintro (⟨p, z, t⟩ | t)
    · exact ⟨p, (e p).mpr (Or.inl z), t⟩
    · exact ⟨q, (e q).mpr (Or.inr rfl), t⟩
  · rintro ⟨p, z, t⟩
    rcases (e p).mp z with z | rfl
    · exact Or.inl ⟨p, z, t⟩
    · exact Or.inr t
theorem ns_hyt {q : Nat} (hq : q < 2 ^ 32) : ∀ i, i < 32 → (bt (nI q) i = true ↔ q.testBit i = true) := fun i _ => by rw [ns_btN hq]
theorem ns_hyf {q : Nat} (hq : q < 2 ^ 32) : ∀ i, i < 32 → (bt (nI q ^^^ (-1)) i = true ↔ q.testBit i = false) := fun i hi => by
  rw [ns_not _ hi, ns_btN hq]; cases q.testBit i <;> simp
theorem ns_an_0 {Q : Nat → Prop} {b : Bool} (h : ∀ p, ¬ Q p) : ns_an Q b (-1) := fun i hi => by
  rw [b_m1 i hi]; exact ⟨fun _ p z => absurd z (h p), fun _ => rfl⟩
theorem ns_an_eq {Q Q' : Nat → Prop} {b : Bool} {x : Int32} (h : ns_an Q b x) (e : ∀ p, Q' p ↔ Q p) : ns_an Q' b x := fun i hi => by
  rw [h i hi]; exact ⟨fun z p y => z p ((e p).mp y), fun z p y => z p ((e p).mpr y)⟩
theorem ns_an_add {Q Q' : Nat → Prop} {x : Int32} {q : Nat} (hq : q < 2 ^ 32) (h : ns_an Q true x) (e : ∀ p, Q' p ↔ Q p ∨ p = q) : ns_an Q' true (x &&& nI q) := fun i hi => by
  rw [b_and, Bool.and_eq_true, h i hi, ns_btN hq]
  constructor
  · rintro ⟨z, t⟩ p y
    rcases (e p).mp y with y | rfl
    · exact z p y
    · exact t
  · intro z
    exact ⟨fun p y => z p ((e p).mpr (Or.inl y)), z q ((e q).mpr (Or.inr rfl))⟩
/-- the complement of 'some with b' is 'all with not b' -/
theorem ns_or_an {Q : Nat → Prop} {b : Bool} {x : Int32} (h : ns_or Q b x) : ns_an Q (!b) (x ^^^ (-1)) := fun i hi => by
  rw [ns_not _ hi]
  constructor
  · intro z p y
    cases t : p.testBit i with
    | true => cases b with
      | true => rw [(h i hi).mpr ⟨p, y, t⟩] at z; exact nomatch z
      | false => rfl
    | false => cases b with
      | true => rfl
      | false => rw [(h i hi).mpr ⟨p, y, t⟩] at z; exact nomatch z
  · intro z
    cases t : bt x i with
    | false => rfl
    | true =>
      obtain ⟨p, y, w⟩ := (h i hi).mp t
      have := z p y
      rw [w] at this; cases b <;> exact nomatch this
section
variable {R C : Nat} {S : Nat → Nat → Prop} {P P' : Nat → Int32} {a : Nat}
/-- the first n cells of line a are written -/
def ns_wr (Q : Nat → Prop) (P : Nat → Int32) (a n : Nat) (P' : Nat → Int32) : Prop :=
  (∀ j, (∀ i, i < n → j ≠ ns_lc a i) → P' j = P j) ∧ ∀ i, i < n → (P (ns_lc a i) ≠ 0 → P' (ns_lc a i) = P (ns_lc a i)) ∧ (P (ns_lc a i) = 0 →
    (P' (ns_lc a i) = 2 ∧ ∀ p, Q p → p.testBit i = true) ∨ (P' (ns_lc a i) = 1 ∧ ∀ p, Q p → p.testBit i = false) ∨
    (P' (ns_lc a i) = 0 ∧ (¬ ∀ p, Q p → p.testBit i = true) ∧ ¬ ∀ p, Q p → p.testBit i = false))
theorem ns_wr_0 {Q : Nat → Prop} : ns_wr Q P a 0 P := ⟨fun _ _ => rfl, fun i hi => absurd hi (by omega)⟩
theorem ns_wr_at {Q : Nat → Prop} {n : Nat} (hn : n < 8) (h : ns_wr Q P a n P') : P' (ns_lc a n) = P (ns_lc a n) :=
  h.1 _ (fun i hi e => by have := ns_lc_inj (a := a) hn (by omega) e; omega)
theorem ns_wr_keep {Q : Nat → Prop} {n : Nat} (hn : n < 8) (h : ns_wr Q P a n P') (k : P (ns_lc a n) ≠ 0 ∨ ((¬ ∀ p, Q p → p.testBit n = true) ∧ ¬ ∀ p, Q p → p.testBit n = false)) : ns_wr Q P a (n + 1) P' := by
  refine ⟨fun j hj => h.1 j (fun i hi => hj i (by omega)), fun i hi => ?_⟩
  by_cases e : i = n
  · subst e
    have at' := ns_wr_at hn h
    refine ⟨fun _ => at', fun z => Or.inr (Or.inr ⟨by rw [at']; exact z, ?_⟩)⟩
    exact k.elim (fun y => absurd z y) id
  · exact h.2 i (by omega)
theorem ns_wr_put {Q : Nat → Prop} {n : Nat} {x : Int32} (hn : n < 8) (h : ns_wr Q P a n P') (h0 : P (ns_lc a n) = 0)
    (k : (x = 2 ∧ ∀ p, Q p → p.testBit n = true) ∨ (x = 1 ∧ ∀ p, Q p → p.testBit n = false)) : ns_wr Q P a (n + 1) (upd P' (ns_lc a n) x) := by
  refine ⟨fun j hj => ?_, fun i hi => ?_⟩
  · rw [ns_upd_n (hj n (by omega))]; exact h.1 j (fun i hi => hj i (by omega))
  · by_cases e : i = n
    · subst e
      rw [ns_upd_s]
      exact ⟨fun z => absurd h0 z, fun _ => k.imp id Or.inl⟩
    · rw [ns_upd_n (fun z => e (ns_lc_inj (a := a) (by omega) hn z))]; exact h.2 i (by omega)
theorem ns_wr_step (h : ns_wr (ns_cons R C S P a) P a (ns_len R C a) P') : ns_step R C S P a P' := by
  refine ⟨fun j hj => ?_, h.1, fun i hi h0 => ?_⟩
  · by_cases on : ∃ i, i < ns_len R C a ∧ j = ns_lc a i
    · obtain ⟨i, hi, rfl⟩ := on
      exact (h.2 i hi).1 hj
    · exact h.1 j (fun i hi e => on ⟨i, hi, e⟩)
  · rcases (h.2 i hi).2 h0 with z | z | ⟨z, n1, n0⟩
    · exact Or.inl z
    · exact Or.inr (Or.inl z)
    · refine Or.inr (Or.inr ⟨z, ?_, ?_⟩)
      · by_cases e : ∃ p, ns_cons R C S P a p ∧ p.testBit i = true
        · exact e
        · refine absurd (fun p hp => ?_) n0
          cases t : p.testBit i with
          | false => rfl
          | true => exact absurd ⟨p, hp, t⟩ e
      · by_cases e : ∃ p, ns_cons R C S P a p ∧ p.testBit i = false
        · exact e
        · refine absurd (fun p hp => ?_) n1
          cases t : p.testBit i with
          | true => rfl
          | false => exact absurd ⟨p, hp, t⟩ e
end
/-- the fillings of line a stand in F: n of them -/
def ns_lst (S : Nat → Nat → Prop) (F : Nat → Int32) (a n : Nat) : Prop :=
  n ≤ 256 ∧ (∀ k, k < n → ∃ p, F (a * 256 + k) = nI p ∧ S a p) ∧ ∀ p, S a p → ∃ k, k < n ∧ F (a * 256 + k) = nI p
/-- those below m -/
def ns_lsm (S : Nat → Nat → Prop) (F : Nat → Int32) (a n m : Nat) : Prop :=
  n ≤ m ∧ (∀ k, k < n → ∃ p, F (a * 256 + k) = nI p ∧ S a p) ∧ ∀ p, p < m → S a p → ∃ k, k < n ∧ F (a * 256 + k) = nI p
theorem ns_lsm_0 {S : Nat → Nat → Prop} {F : Nat → Int32} {a : Nat} : ns_lsm S F a 0 0 := ⟨by omega, fun k hk => absurd hk (by omega), fun p hp => absurd hp (by omega)⟩
theorem ns_lsm_f {S : Nat → Nat → Prop} {F : Nat → Int32} {a n m : Nat} (h : ns_lsm S F a n m) (k : ¬ S a m) : ns_lsm S F a n (m + 1) :=
  ⟨by have := h.1; omega, h.2.1, fun p hp hs => by
    by_cases e : p = m
    · subst e; exact absurd hs k
    · exact h.2.2 p (by omega) hs⟩
theorem ns_lsm_t {S : Nat → Nat → Prop} {F : Nat → Int32} {a n m : Nat} (h : ns_lsm S F a n m) (k : S a m) : ns_lsm S (upd F (a * 256 + n) (nI m)) a (n + 1) (m + 1) := by
  refine ⟨by have := h.1; omega, fun q hq => ?_, fun p hp hs => ?_⟩
  · by_cases e : q = n
    · subst e; exact ⟨m, ns_upd_s, k⟩
    · obtain ⟨p, hp, hs⟩ := h.2.1 q (by omega)
      exact ⟨p, by rw [ns_upd_n (by omega)]; exact hp, hs⟩
  · by_cases e : p = m
    · subst e; exact ⟨n, by omega, ns_upd_s⟩
    · obtain ⟨q, hq, hf⟩ := h.2.2 p (by omega) hs
      exact ⟨q, by omega, by rw [ns_upd_n (by omega)]; exact hf⟩
theorem ns_lsm_end {S : Nat → Nat → Prop} {F : Nat → Int32} {a n m : Nat} (h : ns_lsm S F a n m) (hm : m ≤ 256) (hS : ∀ p, S a p → p < m) : ns_lst S F a n :=
  ⟨by have := h.1; omega, h.2.1, fun p hs => h.2.2 p (hS p hs) hs⟩
theorem ns_lst_keep {S : Nat → Nat → Prop} {F F' : Nat → Int32} {a n : Nat} (h : ns_lst S F a n) (e : ∀ k, k < 256 → F' (a * 256 + k) = F (a * 256 + k)) : ns_lst S F' a n :=
  ⟨h.1, fun k hk => by rw [e k (by have := h.1; omega)]; exact h.2.1 k hk, fun p hs => by
    obtain ⟨k, hk, hf⟩ := h.2.2 p hs
    exact ⟨k, hk, by rw [e k (by have := h.1; omega)]; exact hf⟩⟩
/-- the consistent fillings among the first k of the list -/
def ns_sn (R C : Nat) (S : Nat → Nat → Prop) (P F : Nat → Int32) (a k p : Nat) : Prop := ns_cons R C S P a p ∧ ∃ q, q < k ∧ F (a * 256 + q) = nI p
section
variable {R C : Nat} {S : Nat → Nat → Prop} {P F : Nat → Int32} {a : Nat}
theorem ns_sn_0 : ∀ p, ¬ ns_sn R C S P F a 0 p := fun p ⟨_, q, hq, _⟩ => by omega
theorem ns_sn_t {k p0 : Nat} (hS : ∀ p, S a p → p < 256) (hf : F (a * 256 + k) = nI p0) (hc : ns_cons R C S P a p0) : ∀ p, ns_sn R C S P F a (k + 1) p ↔ ns_sn R C S P F a k p ∨ p = p0 := by
  intro p
  constructor
  · rintro ⟨c, q, hq, e⟩
    by_cases z : q = k
    · subst z
      rw [hf] at e
      have h1 := hS p c.1
      have h2 := hS p0 hc.1
      exact Or.inr ((nI_eq (by omega) (by omega)).mp e).symm
    · exact Or.inl ⟨c, q, by omega, e⟩
  · rintro (⟨c, q, hq, e⟩ | rfl)
    · exact ⟨c, q, by omega, e⟩
    · exact ⟨hc, k, by omega, hf⟩
theorem ns_sn_f {k p0 : Nat} (hS : ∀ p, S a p → p < 256) (hf : F (a * 256 + k) = nI p0) (hs : S a p0) (hc : ¬ ns_ag R C P a p0) : ∀ p, ns_sn R C S P F a (k + 1) p ↔ ns_sn R C S P F a k p := by
  intro p
  constructor
  · rintro ⟨c, q, hq, e⟩
    by_cases z : q = k
    · subst z
      rw [hf] at e
      have h1 := hS p c.1
      have h2 := hS p0 hs
      have : p0 = p := (nI_eq (by omega) (by omega)).mp e
      subst this
      exact absurd c.2 hc
    · exact ⟨c, q, by omega, e⟩
  · rintro ⟨c, q, hq, e⟩
    exact ⟨c, q, by omega, e⟩
theorem ns_sn_end {n : Nat} (h : ns_lst S F a n) : ∀ p, ns_cons R C S P a p ↔ ns_sn R C S P F a n p := fun p =>
  ⟨fun c => ⟨c, h.2.2 p c.1⟩, fun c => c.1⟩
/-- .. and among those below m -/
def ns_sl (R C : Nat) (S : Nat → Nat → Prop) (P : Nat → Int32) (a m p : Nat) : Prop := ns_cons R C S P a p ∧ p < m
theorem ns_sl_0 : ∀ p, ¬ ns_sl R C S P a 0 p := fun p ⟨_, q⟩ => by omega
theorem ns_sl_t {m : Nat} (hc : ns_cons R C S P a m) : ∀ p, ns_sl R C S P a (m + 1) p ↔ ns_sl R C S P a m p ∨ p = m := by
  intro p
  constructor
  · rintro ⟨c, q⟩
    by_cases z : p = m
    · exact Or.inr z
    · exact Or.inl ⟨c, by omega⟩
  · rintro (⟨c, q⟩ | rfl)
    · exact ⟨c, by omega⟩
    · exact ⟨hc, by omega⟩
theorem ns_sl_f {m : Nat} (hc : ¬ ns_cons R C S P a m) : ∀ p, ns_sl R C S P a (m + 1) p ↔ ns_sl R C S P a m p := by
  intro p
  constructor
  · rintro ⟨c, q⟩
    by_cases z : p = m
    · subst z; exact absurd c hc
    · exact ⟨c, by omega⟩
  · rintro ⟨c, q⟩
    exact ⟨c, by omega⟩
theorem ns_sl_end {m : Nat} (hS : ∀ p, S a p → p < m) : ∀ p, ns_cons R C S P a p ↔ ns_sl R C S P a m p := fun p => ⟨fun c => ⟨c, hS p c.1⟩, fun c => c.1⟩
end
