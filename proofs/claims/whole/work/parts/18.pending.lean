/-! how the pending lines change along a line -/
def ns_pk (a n : Nat) (P : Nat → Int32) (pl : Int32) (P' : Nat → Int32) (pl' : Int32) : Prop :=
  (∀ b, b < 32 → bt pl b = true → bt pl' b = true) ∧
  (∀ i, i < n → P (ns_lc a i) = 0 → P' (ns_lc a i) ≠ 0 → bt pl' (ns_xl a i) = true) ∧
  ∀ b, b < 32 → bt pl' b = true → bt pl b = true ∨ ∃ i, i < n ∧ P (ns_lc a i) = 0 ∧ P' (ns_lc a i) ≠ 0 ∧ b = ns_xl a i
theorem ns_pk_0 {a : Nat} {P : Nat → Int32} {pl : Int32} : ns_pk a 0 P pl P pl := ⟨fun _ _ z => z, fun i hi => absurd hi (by omega), fun _ _ z => Or.inl z⟩
theorem ns_pk_keep {a n : Nat} {P P' : Nat → Int32} {pl pl' : Int32} (h : ns_pk a n P pl P' pl') (e : P' (ns_lc a n) = P (ns_lc a n)) : ns_pk a (n + 1) P pl P' pl' := by
  refine ⟨h.1, fun i hi z0 z1 => ?_, fun b hb z => ?_⟩
  · by_cases ei : i = n
    · subst ei; rw [e] at z1; exact absurd z0 z1
    · exact h.2.1 i (by omega) z0 z1
  · rcases h.2.2 b hb z with y | ⟨i, hi, y⟩
    · exact Or.inl y
    · exact Or.inr ⟨i, by omega, y⟩
theorem ns_pk_put {a n : Nat} {P P' : Nat → Int32} {pl pl' x : Int32} (hn : n < 8) (ha : a < 16) (h : ns_pk a n P pl P' pl') (h0 : P (ns_lc a n) = 0) (hx : x ≠ 0) :
    ns_pk a (n + 1) P pl (upd P' (ns_lc a n) x) (pl' ||| ((1 : Int32) <<< (nI (ns_xl a n) &&& 31))) := by
  have xl : ns_xl a n < 32 := by unfold ns_xl; split <;> omega
  have un : ∀ i, i < n → upd P' (ns_lc a n) x (ns_lc a i) = P' (ns_lc a i) := fun i hi => ns_upd_n (fun z => by have := ns_lc_inj (a := a) (by omega) hn z; omega)
  refine ⟨fun b hb z => ?_, fun i hi z0 z1 => ?_, fun b hb z => ?_⟩
  · rw [b_or, h.1 b hb z]; rfl
  · rw [b_or]
    by_cases ei : i = n
    · subst ei; rw [ns_sh1 xl xl]; simp
    · rw [un i (by omega)] at z1
      rw [h.2.1 i (by omega) z0 z1]; rfl
  · rw [b_or, ns_sh1 xl hb, Bool.or_eq_true, decide_eq_true_eq] at z
    rcases z with z | z
    · rcases h.2.2 b hb z with y | ⟨i, hi, y0, y1, y2⟩
      · exact Or.inl y
      · exact Or.inr ⟨i, by omega, y0, by rw [un i hi]; exact y1, y2⟩
    · exact Or.inr ⟨n, by omega, h0, by rw [ns_upd_s]; exact hx, z⟩
/-- the line's own bit was cleared first -/
theorem ns_clr {a b : Nat} {pl : Int32} (ha : a < 32) (hb : b < 32) : bt (pl &&& (((1 : Int32) <<< (nI a &&& 31)) ^^^ (-1))) b = true ↔ bt pl b = true ∧ b ≠ a := by
  rw [b_and, ns_not _ hb, ns_sh1 ha hb, Bool.and_eq_true]
  by_cases e : b = a
  · subst e; simp
  · simp [e]
theorem ns_pk_end {R C a : Nat} {P P' : Nat → Int32} {pl pl' : Int32} (ha : a < 16) (h : ns_pk a (ns_len R C a) P (pl &&& (((1 : Int32) <<< (nI a &&& 31)) ^^^ (-1))) P' pl') : ns_pc R C a P pl P' pl' :=
  ⟨fun b hb ne z => h.1 b hb ((ns_clr (by omega) hb).mpr ⟨z, ne⟩), h.2.1, fun b hb z => (h.2.2 b hb z).imp (fun y => (ns_clr (by omega) hb).mp y) id⟩
/-- the clue counts -/
def ns_cc (cn : Nat → Int32) : Nat → Nat := fun a => (cn a).toNatClampNeg
def ns_cnt (R C : Nat) (cn : Nat → Int32) : Prop := ∀ a, a < 16 → ns_cc cn a ≤ 4 ∧ cn a = nI (ns_cc cn a) ∧ (¬ ns_ing R C a → cn a = 0)
theorem ns_cc_0 {cn : Nat → Int32} {a : Nat} (h : cn a = 0) : ns_cc cn a = 0 := by unfold ns_cc; rw [h]; rfl
theorem ns_cc_upd {R C a c : Nat} {cn : Nat → Int32} (h : ns_cnt R C cn) (ha : ns_ing R C a) (hc : c ≤ 4) : ns_cnt R C (upd cn a (nI c)) := by
  intro b hb
  by_cases e : b = a
  · subst e
    have z : ns_cc (upd cn b (nI c)) b = c := by unfold ns_cc; rw [ns_upd_s, nI_clamp (by omega)]
    rw [z, ns_upd_s]; exact ⟨hc, rfl, fun n => absurd ha n⟩
  · have z : ns_cc (upd cn a (nI c)) b = ns_cc cn b := by unfold ns_cc; rw [ns_upd_n e]
    rw [z, ns_upd_n e]; exact h b hb
/-- cells' values -/
theorem ns_ok_upd {R C x : Nat} {P : Nat → Int32} {v : Int32} (h : ns_ok R C P) (hx : ns_cg R C x) (hv : v = 0 ∨ v = 1 ∨ v = 2) : ns_ok R C (upd P x v) := by
  intro j
  by_cases e : j = x
  · subst e; rw [ns_upd_s]; exact ⟨hv, fun z => absurd hx z⟩
  · rw [ns_upd_n e]; exact h j
theorem ns_ok_0 (R C : Nat) : ns_ok R C (fun _ => 0) := fun _ => ⟨Or.inl rfl, fun _ => rfl⟩
