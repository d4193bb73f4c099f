section
/-! rows of kit/rows (PURE-ROWS, BITS), pasted -/
theorem pk_sub {a b : Nat} (h : b ≤ a) : nI a - nI b = nI (a - b) := by
  obtain ⟨c, rfl⟩ : ∃ c, a = c + b := ⟨a - b, by omega⟩
  rw [← nI_add, Int32.add_sub_cancel, Nat.add_sub_cancel]
theorem pk_m1 (n : Nat) : nI (n + 1) + (-1) = nI n := by
  rw [← nI_1, Int32.add_assoc, show (1 : Int32) + (-1) = 0 from rfl, Int32.add_zero]
theorem pk_mul (a b : Nat) : nI a * nI b = nI (a * b) := (Int32.ofNat_mul a b).symm
theorem pk_div {a d : Nat} (ha : a < 2 ^ 31) (h0 : 0 < d) (hd : d < 2 ^ 31) : nI a / nI d = nI (a / d) := by
  apply Int32.toInt_inj.mp
  rw [lg_idiv_nonneg (by rw [nI_toInt ha]; omega) (by rw [nI_toInt hd]; omega), nI_toInt ha, nI_toInt hd, nI_toInt (Nat.lt_of_le_of_lt (Nat.div_le_self a d) ha)]
  first | rfl | exact (Int.natCast_ediv _ _).symm
theorem pk_rem {a d : Nat} (ha : a < 2 ^ 31) (h0 : 0 < d) (hd : d < 2 ^ 31) : nI a - nI a / nI d * nI d = nI (a % d) := by
  rw [pk_div ha h0 hd, pk_mul, pk_sub (Nat.div_mul_le_self a d)]
  exact congrArg nI (by have := Nat.div_add_mod' a d; omega)
theorem pk_in {x : Int32} (n N : Nat) (h : n < N) (hx : x = nI n := by rfl) (hN : N < 2 ^ 31 := by omega) : vp_in x N := by
  subst hx
  exact vp_in_nI h hN
theorem pk_cl {x : Int32} (n : Nat) (hx : x = nI n := by rfl) (h : n < 2 ^ 31 := by omega) : x.toNatClampNeg = n := by
  subst hx
  exact nI_clamp h
theorem pk_tn {n : Nat} (h : n < 2 ^ 32) : (nI n).toBitVec.toNat = n := Nat.mod_eq_of_lt h
theorem pk_lT {n : Nat} (h : n < 2 ^ 63) : (lN n).toInt = (n : Int) := lg_ofNat_toInt h
theorem pk_lLT {a b : Nat} (ha : a < 2 ^ 63) (hb : b < 2 ^ 63) : lN a < lN b ↔ a < b := by
  rw [Int64.lt_iff_toInt_lt, pk_lT ha, pk_lT hb]; omega
theorem pk_lLE {a b : Nat} (ha : a < 2 ^ 63) (hb : b < 2 ^ 63) : lN a ≤ lN b ↔ a ≤ b := by
  rw [Int64.le_iff_toInt_le, pk_lT ha, pk_lT hb]; omega
theorem pk_least (P : Nat → Prop) (h : ∃ k, P k) : ∃ k, P k ∧ ∀ j, j < k → ¬ P j := by
  obtain ⟨k, hk⟩ := h
  induction k using Nat.strongRecOn with
  | ind k ih =>
    by_cases e : ∃ j, j < k ∧ P j
    · obtain ⟨j, hj, pj⟩ := e
      exact ih j hj pj
    · exact ⟨k, hk, fun j hj pj => e ⟨j, hj, pj⟩⟩
def bt (x : Int32) (i : Nat) : Bool := x.toBitVec.getLsbD i
theorem b_ext {x y : Int32} (h : ∀ i, i < 32 → bt x i = bt y i) : x = y := Int32.toBitVec_inj.mp (BitVec.eq_of_getLsbD_eq (fun i hi => h i hi))
theorem b_or (x y : Int32) (i : Nat) : bt (x ||| y) i = (bt x i || bt y i) := by unfold bt; rw [Int32.toBitVec_or, BitVec.getLsbD_or]
theorem b_and (x y : Int32) (i : Nat) : bt (x &&& y) i = (bt x i && bt y i) := by unfold bt; rw [Int32.toBitVec_and, BitVec.getLsbD_and]
theorem b_xor (x y : Int32) (i : Nat) : bt (x ^^^ y) i = (bt x i ^^ bt y i) := by unfold bt; rw [Int32.toBitVec_xor, BitVec.getLsbD_xor]
theorem b_big {x : Int32} {i : Nat} (h : 32 ≤ i) : bt x i = false := BitVec.getLsbD_of_ge _ _ h
theorem b_255 (i : Nat) : bt 255 i = decide (i < 8) := by
  rcases Nat.lt_or_ge i 32 with h | h
  · exact (by decide +kernel : ∀ i, i < 32 → bt 255 i = decide (i < 8)) i h
  · rw [b_big h, decide_eq_false (by omega)]
theorem b_65535 (i : Nat) : bt 65535 i = decide (i < 16) := by
  rcases Nat.lt_or_ge i 32 with h | h
  · exact (by decide +kernel : ∀ i, i < 32 → bt 65535 i = decide (i < 16)) i h
  · rw [b_big h, decide_eq_false (by omega)]
theorem b_m1 : ∀ i, i < 32 → bt (-1) i = true := by decide +kernel
theorem b_0 (i : Nat) : bt 0 i = false := BitVec.getLsbD_zero
theorem s_l : ∀ n, n < 32 → ((nI n &&& 31).toBitVec.smod 32).toNat = n := by decide +kernel
theorem s_u : ∀ n, n < 32 → (((nI n).toUInt32 &&& Int32.toUInt32 31).toBitVec % 32).toNat = n := by decide +kernel
theorem b_shl (n : Nat) (hn : n < 32) (x : Int32) {i : Nat} (hi : i < 32) : bt (x <<< (nI n &&& 31)) i = (decide (n ≤ i) && bt x (i - n)) := by
  unfold bt
  rw [Int32.toBitVec_shiftLeft]
  show (x.toBitVec <<< ((nI n &&& 31).toBitVec.smod 32).toNat).getLsbD i = _
  rw [s_l n hn, BitVec.getLsbD_shiftLeft]
  rcases Nat.lt_or_ge i n with h | h
  · simp [h, Nat.not_le.mpr h]
  · simp [hi, h, Nat.not_lt.mpr h]
theorem b_ushr (n : Nat) (hn : n < 32) (x : Int32) (i : Nat) : bt ((x.toUInt32 >>> ((nI n).toUInt32 &&& Int32.toUInt32 31)).toInt32) i = bt x (n + i) := by
  show (x.toUInt32 >>> ((nI n).toUInt32 &&& Int32.toUInt32 31)).toBitVec.getLsbD i = x.toUInt32.toBitVec.getLsbD (n + i)
  rw [UInt32.toBitVec_shiftRight]
  show (x.toUInt32.toBitVec >>> (((nI n).toUInt32 &&& Int32.toUInt32 31).toBitVec % 32).toNat).getLsbD i = _
  rw [s_u n hn, BitVec.getLsbD_ushiftRight]
theorem b_sshr (n : Nat) (hn : n < 32) (x : Int32) {i : Nat} (hi : i < 32) : bt (x >>> (nI n &&& 31)) i = if n + i < 32 then bt x (n + i) else bt x 31 := by
  unfold bt
  rw [Int32.toBitVec_shiftRight]
  show (x.toBitVec.sshiftRight ((nI n &&& 31).toBitVec.smod 32).toNat).getLsbD i = _
  rw [s_l n hn, BitVec.getLsbD_sshiftRight, BitVec.msb_eq_getLsbD_last]
  simp [hi]
theorem b_shl8 (x : Int32) {i : Nat} (hi : i < 32) : bt (x <<< ((8 : Int32) &&& 31)) i = (decide (8 ≤ i) && bt x (i - 8)) := b_shl 8 (by omega) x hi
theorem b_shl16 (x : Int32) {i : Nat} (hi : i < 32) : bt (x <<< ((16 : Int32) &&& 31)) i = (decide (16 ≤ i) && bt x (i - 16)) := b_shl 16 (by omega) x hi
theorem b_shl24 (x : Int32) {i : Nat} (hi : i < 32) : bt (x <<< ((24 : Int32) &&& 31)) i = (decide (24 ≤ i) && bt x (i - 24)) := b_shl 24 (by omega) x hi
theorem b_sshr8 (x : Int32) {i : Nat} (hi : i < 32) : bt (x >>> ((8 : Int32) &&& 31)) i = if 8 + i < 32 then bt x (8 + i) else bt x 31 := b_sshr 8 (by omega) x hi
end
section
/-! lines, runs, the run automaton -/
def ns_len (R C a : Nat) : Nat := if a < 8 then C else R
def ns_ing (R C a : Nat) : Prop := a < 16 ∧ (a < 8 → a < R) ∧ (8 ≤ a → a < 8 + C)
def ns_lc (a i : Nat) : Nat := if a < 8 then a * 8 + i else i * 8 + (a - 8)
def ns_xl (a i : Nat) : Nat := if a < 8 then 8 + i else i
/-- cell j lies in the grid -/
def ns_cg (R C j : Nat) : Prop := j < 64 ∧ j / 8 < R ∧ j % 8 < C
theorem ns_len_le {R C a : Nat} (hR : R ≤ 8) (hC : C ≤ 8) : ns_len R C a ≤ 8 := by
  unfold ns_len; split <;> omega
theorem ns_lc_row {a i : Nat} (h : a < 8) : ns_lc a i = a * 8 + i := by simp [ns_lc, h]
theorem ns_lc_col {a i : Nat} (h : 8 ≤ a) : ns_lc a i = i * 8 + (a - 8) := by
  have : ¬ a < 8 := by omega
  simp [ns_lc, this]
theorem ns_lc_cg {R C a i : Nat} (hR : R ≤ 8) (hC : C ≤ 8) (ha : ns_ing R C a) (hi : i < ns_len R C a) : ns_cg R C (ns_lc a i) := by
  obtain ⟨h1, h2, h3⟩ := ha
  by_cases h : a < 8
  · have := h2 h
    simp only [ns_len, h, if_true] at hi
    rw [ns_lc_row h]; unfold ns_cg; omega
  · have := h3 (by omega)
    simp only [ns_len, h, if_false] at hi
    rw [ns_lc_col (by omega)]; unfold ns_cg; omega
/-- a cell of line a at i lies on a and on the line that crosses there, and on no other -/
theorem ns_lc_on {a b i k : Nat} (ha : a < 16) (hb : b < 16) (hi : i < 8) (hk : k < 8) (h : ns_lc a i = ns_lc b k) : b = a ∨ b = ns_xl a i := by
  unfold ns_lc at h; unfold ns_xl
  split at h <;> split at h <;> (split <;> omega)
theorem ns_lc_inj {a i k : Nat} (hi : i < 8) (hk : k < 8) (h : ns_lc a i = ns_lc a k) : i = k := by
  unfold ns_lc at h; split at h <;> omega
theorem ns_xl_ing {R C a i : Nat} (ha : ns_ing R C a) (hR : R ≤ 8) (hC : C ≤ 8) (hi : i < ns_len R C a) : ns_ing R C (ns_xl a i) := by
  obtain ⟨h1, h2, h3⟩ := ha
  unfold ns_len at hi; unfold ns_xl ns_ing
  split at hi
  · rw [if_pos (by assumption)]; omega
  · rw [if_neg (by assumption)]; omega
def ns_au (c : Nat) (cl : Nat → Int32) (f : Nat → Bool) : Nat → Option (Nat × Nat)
  | 0 => some (0, 0)
  | i + 1 => match ns_au c cl f i with
    | none => none
    | some (k, r) => if f i = true then some (k, r + 1) else if r = 0 then some (k, 0) else if k < c ∧ cl k = nI r then some (k + 1, 0) else none
def ns_lb (f : Nat → Bool) : Nat → Bool
  | 0 => false
  | i + 1 => f i
def ns_rn (f : Nat → Bool) : Nat → Nat
  | 0 => 0
  | i + 1 => ns_rn f i + (if ns_lb f i = true ∧ f i = false then 1 else 0)
def ns_pop (f : Nat → Bool) : Nat → Nat
  | 0 => 0
  | i + 1 => ns_pop f i + (if f i = true then 1 else 0)
def ns_sm (cl : Nat → Int32) : Nat → Int32
  | 0 => 0
  | k + 1 => ns_sm cl k + cl k
section
variable {c : Nat} {cl : Nat → Int32} {f : Nat → Bool}
theorem ns_au_t {i k r : Nat} (e : ns_au c cl f i = some (k, r)) (hf : f i = true) : ns_au c cl f (i + 1) = some (k, r + 1) := by
  simp [ns_au, e, hf]
theorem ns_au_z {i k : Nat} (e : ns_au c cl f i = some (k, 0)) (hf : f i = false) : ns_au c cl f (i + 1) = some (k, 0) := by
  simp [ns_au, e, hf]
theorem ns_au_e {i k r : Nat} (e : ns_au c cl f i = some (k, r)) (hf : f i = false) (hr : r ≠ 0) (hk : k < c ∧ cl k = nI r) : ns_au c cl f (i + 1) = some (k + 1, 0) := by
  simp [ns_au, e, hf, hr, hk]
theorem ns_au_x {i k r : Nat} (e : ns_au c cl f i = some (k, r)) (hf : f i = false) (hr : r ≠ 0) (hk : ¬ (k < c ∧ cl k = nI r)) : ns_au c cl f (i + 1) = none := by
  simp [ns_au, e, hf, hr]
  exact fun a b => hk ⟨a, b⟩
theorem ns_au_n {i : Nat} (e : ns_au c cl f i = none) : ∀ m, ns_au c cl f (i + m) = none := by
  intro m
  induction m with
  | zero => exact e
  | succ m ih => rw [← Nat.add_assoc]; simp [ns_au, ih]
theorem ns_au_inv : ∀ i k r, ns_au c cl f i = some (k, r) → k ≤ c ∧ k = ns_rn f i ∧ ns_sm cl k + nI r = nI (ns_pop f i) ∧ (r = 0 ↔ ns_lb f i = false) := by
  intro i
  induction i with
  | zero =>
    intro k r h
    simp only [ns_au, Option.some.injEq, Prod.mk.injEq] at h
    obtain ⟨rfl, rfl⟩ := h
    exact ⟨Nat.zero_le _, rfl, (by decide : (0 : Int32) + nI 0 = nI 0), by simp [ns_lb]⟩
  | succ i ih =>
    intro k r h
    cases e : ns_au c cl f i with
    | none => rw [ns_au_n e 1] at h; exact nomatch h
    | some s =>
      obtain ⟨k0, r0⟩ := s
      obtain ⟨h1, h2, h3, h4⟩ := ih k0 r0 e
      cases hf : f i with
      | true =>
        rw [ns_au_t e hf] at h
        simp only [Option.some.injEq, Prod.mk.injEq] at h
        obtain ⟨rfl, rfl⟩ := h
        refine ⟨h1, ?_, ?_, ?_⟩
        · simp [ns_rn, hf]; exact h2
        · have hp : ns_pop f (i + 1) = ns_pop f i + 1 := by simp [ns_pop, hf]
          rw [hp, nI_succ, nI_succ, ← h3, Int32.add_assoc]
        · simp [ns_lb, hf]
      | false =>
        have hp : ns_pop f (i + 1) = ns_pop f i := by simp [ns_pop, hf]
        by_cases hr : r0 = 0
        · subst hr
          rw [ns_au_z e hf] at h
          simp only [Option.some.injEq, Prod.mk.injEq] at h
          obtain ⟨rfl, rfl⟩ := h
          have hl := h4.mp rfl
          refine ⟨h1, ?_, ?_, ?_⟩
          · simp [ns_rn, hl]; exact h2
          · rw [hp]; exact h3
          · simp [ns_lb, hf]
        · by_cases hk : k0 < c ∧ cl k0 = nI r0
          · rw [ns_au_e e hf hr hk] at h
            simp only [Option.some.injEq, Prod.mk.injEq] at h
            obtain ⟨rfl, rfl⟩ := h
            have hl : ns_lb f i = true := by
              cases hb : ns_lb f i with
              | true => rfl
              | false => exact absurd (h4.mpr hb) hr
            refine ⟨hk.1, ?_, ?_, ?_⟩
            · simp [ns_rn, hf, hl]; exact h2
            · rw [hp, ← h3, ← hk.2]; show ns_sm cl k0 + cl k0 + nI 0 = _
              rw [nI_0, Int32.add_zero]
            · simp [ns_lb, hf]
          · rw [ns_au_x e hf hr hk] at h; exact nomatch h
def ns_sat (c : Nat) (cl : Nat → Int32) (f : Nat → Bool) (n : Nat) : Prop := ns_au c cl f (n + 1) = some (c, 0)
theorem ns_tail {n k : Nat} (hf : ∀ j, n ≤ j → f j = false) (h : ns_au c cl f (n + 1) = some (k, 0)) : ∀ m, ns_au c cl f (n + 1 + m) = some (k, 0) := by
  intro m
  induction m with
  | zero => exact h
  | succ m ih => rw [← Nat.add_assoc]; exact ns_au_z ih (hf _ (by omega))
theorem ns_end {n k r : Nat} (hf : f n = false) (h : ns_au c cl f (n + 1) = some (k, r)) : r = 0 :=
  ((ns_au_inv (n + 1) k r h).2.2.2).mpr hf
/-- X reads nine cells, Y one more than the line has -/
theorem ns_sat9 {n : Nat} (hn : n ≤ 8) (hf : ∀ j, n ≤ j → f j = false) : ns_sat c cl f n ↔ ns_au c cl f 9 = some (c, 0) := by
  have e9 : 9 = n + 1 + (8 - n) := by omega
  constructor
  · intro h; rw [e9]; exact ns_tail hf h _
  · intro h
    unfold ns_sat
    cases e : ns_au c cl f (n + 1) with
    | none => rw [e9, ns_au_n e] at h; exact nomatch h
    | some s =>
      obtain ⟨k, r⟩ := s
      have := ns_end (hf n (Nat.le_refl n)) e
      subst this
      rw [e9, ns_tail hf e] at h
      exact h
theorem ns_sat_rn {n : Nat} (h : ns_sat c cl f n) : ns_rn f (n + 1) = c := ((ns_au_inv _ _ _ h).2.1).symm
theorem ns_sat_sm {n : Nat} (hf : f n = false) (h : ns_sat c cl f n) : ns_sm cl c = nI (ns_pop f n) := by
  have := (ns_au_inv _ _ _ h).2.2.1
  rw [nI_0, Int32.add_zero] at this
  rw [this]; simp [ns_pop, hf]
end
theorem ns_pop_le (f : Nat → Bool) : ∀ n, ns_pop f n ≤ n := by
  intro n
  induction n with
  | zero => exact Nat.le_refl _
  | succ n ih => simp only [ns_pop]; split <;> omega
theorem ns_rn_le (f : Nat → Bool) : ∀ n, ns_rn f n ≤ n := by
  intro n
  induction n with
  | zero => exact Nat.le_refl _
  | succ n ih => simp only [ns_rn]; split <;> omega
/-- runs and popcount of nine cells are those of the line, the cells behind it being off -/
theorem ns_pop_tail {f : Nat → Bool} {n : Nat} (hf : ∀ j, n ≤ j → f j = false) : ∀ m, ns_pop f (n + m) = ns_pop f n := by
  intro m
  induction m with
  | zero => rfl
  | succ m ih => rw [← Nat.add_assoc]; simp [ns_pop, hf (n + m) (by omega), ih]
theorem ns_rn_tail {f : Nat → Bool} {n : Nat} (hf : ∀ j, n ≤ j → f j = false) : ∀ m, ns_rn f (n + 1 + m) = ns_rn f (n + 1) := by
  intro m
  induction m with
  | zero => rfl
  | succ m ih =>
    have : ns_lb f (n + 1 + m) = false := by
      rw [show n + 1 + m = (n + m) + 1 by omega]; exact hf _ (by omega)
    rw [← Nat.add_assoc]; simp [ns_rn, this, ih]
end
section
/-! grids part by part, consistent fillings, settled lines, closed grids, steps
 S a p: filling p of line a satisfies its clue (and p < 2 ^ len a) -/
def ns_ag (R C : Nat) (P : Nat → Int32) (a p : Nat) : Prop := ∀ i, i < ns_len R C a → (P (ns_lc a i) = 2 → p.testBit i = true) ∧ (P (ns_lc a i) = 1 → p.testBit i = false)
def ns_cons (R C : Nat) (S : Nat → Nat → Prop) (P : Nat → Int32) (a p : Nat) : Prop := S a p ∧ ns_ag R C P a p
def ns_stl (R C : Nat) (S : Nat → Nat → Prop) (P : Nat → Int32) (a : Nat) : Prop :=
  (∃ p, ns_cons R C S P a p) ∧ ∀ i, i < ns_len R C a → P (ns_lc a i) = 0 → (∃ p, ns_cons R C S P a p ∧ p.testBit i = true) ∧ (∃ p, ns_cons R C S P a p ∧ p.testBit i = false)
/-- values are 0, 1, 2, and 0 outside the grid -/
def ns_ok (R C : Nat) (P : Nat → Int32) : Prop := ∀ j, (P j = 0 ∨ P j = 1 ∨ P j = 2) ∧ (¬ ns_cg R C j → P j = 0)
def ns_cls (R C : Nat) (S : Nat → Nat → Prop) (P : Nat → Int32) : Prop := ns_ok R C P ∧ ∀ a, ns_ing R C a → ns_stl R C S P a
def ns_le (P Q : Nat → Int32) : Prop := ∀ j, P j ≠ 0 → Q j = P j
theorem ns_le_rfl (P : Nat → Int32) : ns_le P P := fun _ _ => rfl
theorem ns_le_tr {P Q T : Nat → Int32} (h : ns_le P Q) (k : ns_le Q T) : ns_le P T := fun j hj => by
  have e := h j hj
  rw [← e]; exact k j (by rw [e]; exact hj)
theorem ns_le_anti {P Q : Nat → Int32} (h : ns_le P Q) (k : ns_le Q P) : P = Q := by
  funext j
  by_cases e : P j = 0
  · by_cases e' : Q j = 0
    · rw [e, e']
    · rw [k j e']
  · rw [h j e]
section
variable {R C : Nat} {S : Nat → Nat → Prop}
theorem ns_ag_le {P Q : Nat → Int32} {a p : Nat} (h : ns_le P Q) (k : ns_ag R C Q a p) : ns_ag R C P a p := fun i hi =>
  ⟨fun e => (k i hi).1 (by rw [h (ns_lc a i) (by rw [e]; decide), e]), fun e => (k i hi).2 (by rw [h (ns_lc a i) (by rw [e]; decide), e])⟩
theorem ns_cons_le {P Q : Nat → Int32} {a p : Nat} (h : ns_le P Q) (k : ns_cons R C S Q a p) : ns_cons R C S P a p := ⟨k.1, ns_ag_le h k.2⟩
/-- a grid with the same values on line a has the same consistent fillings there -/
theorem ns_cons_eq {P Q : Nat → Int32} {a p : Nat} (h : ∀ i, i < ns_len R C a → Q (ns_lc a i) = P (ns_lc a i)) (k : ns_cons R C S P a p) : ns_cons R C S Q a p :=
  ⟨k.1, fun i hi => by rw [h i hi]; exact k.2 i hi⟩
theorem ns_stl_eq {P Q : Nat → Int32} {a : Nat} (h : ∀ i, i < ns_len R C a → Q (ns_lc a i) = P (ns_lc a i)) (k : ns_stl R C S P a) : ns_stl R C S Q a := by
  obtain ⟨⟨p, hp⟩, h2⟩ := k
  refine ⟨⟨p, ns_cons_eq h hp⟩, fun i hi e => ?_⟩
  rw [h i hi] at e
  obtain ⟨⟨p1, h1, b1⟩, ⟨p0, h0, b0⟩⟩ := h2 i hi e
  exact ⟨⟨p1, ns_cons_eq h h1, b1⟩, ⟨p0, ns_cons_eq h h0, b0⟩⟩
/-- what a step on line a makes of P -/
def ns_step (R C : Nat) (S : Nat → Nat → Prop) (P : Nat → Int32) (a : Nat) (P' : Nat → Int32) : Prop :=
  (∀ j, P j ≠ 0 → P' j = P j) ∧ (∀ j, (∀ i, i < ns_len R C a → j ≠ ns_lc a i) → P' j = P j) ∧
  ∀ i, i < ns_len R C a → P (ns_lc a i) = 0 →
    (P' (ns_lc a i) = 2 ∧ ∀ p, ns_cons R C S P a p → p.testBit i = true) ∨
    (P' (ns_lc a i) = 1 ∧ ∀ p, ns_cons R C S P a p → p.testBit i = false) ∨
    (P' (ns_lc a i) = 0 ∧ (∃ p, ns_cons R C S P a p ∧ p.testBit i = true) ∧ (∃ p, ns_cons R C S P a p ∧ p.testBit i = false))
theorem ns_step_le {P P' : Nat → Int32} {a : Nat} (h : ns_step R C S P a P') : ns_le P P' := h.1
/-- a step stays below every closed grid above -/
theorem ns_step_below {P P' Q : Nat → Int32} {a : Nat} (ha : ns_ing R C a) (h : ns_step R C S P a P') (hq : ns_cls R C S Q) (hl : ns_le P Q) : ns_le P' Q := by
  intro j hj
  obtain ⟨h1, h2, h3⟩ := h
  by_cases e : P j = 0
  · by_cases hon : ∃ i, i < ns_len R C a ∧ j = ns_lc a i
    · obtain ⟨i, hi, rfl⟩ := hon
      obtain ⟨⟨p, hp⟩, hb⟩ := hq.2 a ha
      have hpP := ns_cons_le (S := S) hl hp
      rcases (hq.1 (ns_lc a i)).1 with q | q | q
      · obtain ⟨⟨p1, c1, b1⟩, ⟨p0, c0, b0⟩⟩ := hb i hi q
        rcases h3 i hi e with ⟨_, k⟩ | ⟨_, k⟩ | ⟨k, _⟩
        · rw [k p0 (ns_cons_le hl c0)] at b0; exact nomatch b0
        · rw [k p1 (ns_cons_le hl c1)] at b1; exact nomatch b1
        · exact absurd k hj
      · have b := (hp.2 i hi).2 q
        rcases h3 i hi e with ⟨_, k⟩ | ⟨k', k⟩ | ⟨k, _⟩
        · rw [k p hpP] at b; exact nomatch b
        · rw [q, k']
        · exact absurd k hj
      · have b := (hp.2 i hi).1 q
        rcases h3 i hi e with ⟨k', k⟩ | ⟨_, k⟩ | ⟨k, _⟩
        · rw [q, k']
        · rw [k p hpP] at b; exact nomatch b
        · exact absurd k hj
    · have := h2 j (fun i hi he => hon ⟨i, hi, he⟩)
      rw [this] at hj; exact absurd e hj
  · rw [h1 j e]; exact hl j e
theorem ns_step_cons {P P' : Nat → Int32} {a p : Nat} (h : ns_step R C S P a P') (k : ns_cons R C S P a p) : ns_cons R C S P' a p := by
  refine ⟨k.1, fun i hi => ?_⟩
  by_cases e : P (ns_lc a i) = 0
  · rcases h.2.2 i hi e with ⟨e', k'⟩ | ⟨e', k'⟩ | ⟨e', _⟩
    · exact ⟨fun _ => k' p k, fun z => by rw [e'] at z; exact absurd z (by decide)⟩
    · exact ⟨fun z => by rw [e'] at z; exact absurd z (by decide), fun _ => k' p k⟩
    · exact ⟨fun z => by rw [e'] at z; exact absurd z (by decide), fun z => by rw [e'] at z; exact absurd z (by decide)⟩
  · rw [h.1 _ e]; exact k.2 i hi
theorem ns_step_stl {P P' : Nat → Int32} {a : Nat} (h : ns_step R C S P a P') (k : ∃ p, ns_cons R C S P a p) : ns_stl R C S P' a := by
  obtain ⟨p, hp⟩ := k
  refine ⟨⟨p, ns_step_cons h hp⟩, fun i hi e' => ?_⟩
  by_cases e : P (ns_lc a i) = 0
  · rcases h.2.2 i hi e with ⟨z, _⟩ | ⟨z, _⟩ | ⟨_, ⟨p1, c1, b1⟩, ⟨p0, c0, b0⟩⟩
    · rw [e'] at z; exact absurd z (by decide)
    · rw [e'] at z; exact absurd z (by decide)
    · exact ⟨⟨p1, ns_step_cons h c1, b1⟩, ⟨p0, ns_step_cons h c0, b0⟩⟩
  · exact absurd ((h.1 _ e).symm.trans e') e
theorem ns_step_ok {P P' : Nat → Int32} {a : Nat} (hR : R ≤ 8) (hC : C ≤ 8) (ha : ns_ing R C a) (h : ns_step R C S P a P') (k : ns_ok R C P) : ns_ok R C P' := by
  intro j
  by_cases hon : ∃ i, i < ns_len R C a ∧ j = ns_lc a i
  · obtain ⟨i, hi, rfl⟩ := hon
    refine ⟨?_, fun z => absurd (ns_lc_cg hR hC ha hi) z⟩
    by_cases e : P (ns_lc a i) = 0
    · rcases h.2.2 i hi e with ⟨z, _⟩ | ⟨z, _⟩ | ⟨z, _⟩
      · exact Or.inr (Or.inr z)
      · exact Or.inr (Or.inl z)
      · exact Or.inl z
    · rw [h.1 _ e]; exact (k _).1
  · rw [h.2.1 j (fun i hi he => hon ⟨i, hi, he⟩)]; exact k j
/-- P lies below every closed grid above P0 -/
def ns_blw (R C : Nat) (S : Nat → Nat → Prop) (P0 P : Nat → Int32) : Prop := ∀ Q, ns_cls R C S Q → ns_le P0 Q → ns_le P Q
theorem ns_blw_0 (P : Nat → Int32) : ns_blw R C S P P := fun _ _ h => h
theorem ns_blw_step {P0 P P' : Nat → Int32} {a : Nat} (ha : ns_ing R C a) (k : ns_blw R C S P0 P) (h : ns_step R C S P a P') : ns_blw R C S P0 P' :=
  fun Q hq hl => ns_step_below ha h hq (k Q hq hl)
/-- the outcome of settling P0: b tells a contradiction -/
def ns_res (R C : Nat) (S : Nat → Nat → Prop) (P0 : Nat → Int32) (good : Prop) (P : Nat → Int32) : Prop :=
  (good → ns_cls R C S P ∧ ns_le P0 P ∧ ns_blw R C S P0 P) ∧ (¬ good → ∀ Q, ns_cls R C S Q → ¬ ns_le P0 Q)
theorem ns_res_bad {P0 P : Nat → Int32} {a : Nat} (ha : ns_ing R C a) (k : ns_blw R C S P0 P) (h : ¬ ∃ p, ns_cons R C S P a p) : ∀ Q, ns_cls R C S Q → ¬ ns_le P0 Q := by
  intro Q hq hl
  obtain ⟨p, hp⟩ := (hq.2 a ha).1
  exact h ⟨p, ns_cons_le (k Q hq hl) hp⟩
theorem ns_res_uniq {P0 P P' : Nat → Int32} {g g' : Prop} (h : ns_res R C S P0 g P) (h' : ns_res R C S P0 g' P') : (g ↔ g') ∧ (g → P = P') := by
  have e : ∀ {g g' : Prop} {P P' : Nat → Int32}, ns_res R C S P0 g P → ns_res R C S P0 g' P' → g → g' := by
    intro g g' P P' h h' hg
    by_cases hg' : g'
    · exact hg'
    · exact absurd (h.1 hg).2.1 (h'.2 hg' _ (h.1 hg).1)
  refine ⟨⟨e h h', e h' h⟩, fun hg => ?_⟩
  have hg' := e h h' hg
  exact ns_le_anti ((h.1 hg).2.2 _ (h'.1 hg').1 (h'.1 hg').2.1) ((h'.1 hg').2.2 _ (h.1 hg).1 (h.1 hg).2.1)
/-- solutions -/
def ns_sol (R C : Nat) (S : Nat → Nat → Prop) (g Z : Nat → Int32) : Prop :=
  ns_ok R C Z ∧ (∀ j, ns_cg R C j → Z j ≠ 0) ∧ ns_le g Z ∧ ∀ a, ns_ing R C a → ∃ p, ns_cons R C S Z a p
theorem ns_sol_cls {g Z : Nat → Int32} (hR : R ≤ 8) (hC : C ≤ 8) (h : ns_sol R C S g Z) : ns_cls R C S Z :=
  ⟨h.1, fun a ha => ⟨h.2.2.2 a ha, fun i hi e => absurd e (h.2.1 _ (ns_lc_cg hR hC ha hi))⟩⟩
theorem ns_cls_sol {g P : Nat → Int32} (h : ns_cls R C S P) (hg : ns_le g P) (hf : ∀ j, ns_cg R C j → P j ≠ 0) : ns_sol R C S g P :=
  ⟨h.1, hf, hg, fun a ha => (h.2 a ha).1⟩
/-- a full grid has nothing above it but itself -/
theorem ns_full_le {P Z : Nat → Int32} (hf : ∀ j, ns_cg R C j → P j ≠ 0) (hz : ns_ok R C Z) (h : ns_le P Z) (hP : ns_ok R C P) : Z = P := by
  funext j
  by_cases hj : ns_cg R C j
  · exact h j (hf j hj)
  · rw [(hz j).2 hj, (hP j).2 hj]
end
/-- the number of unknown cells below n -/
def ns_unk (P : Nat → Int32) : Nat → Nat
  | 0 => 0
  | n + 1 => ns_unk P n + (if P n = 0 then 1 else 0)
theorem ns_unk_le (P : Nat → Int32) : ∀ n, ns_unk P n ≤ n := by
  intro n
  induction n with
  | zero => exact Nat.le_refl _
  | succ n ih => simp only [ns_unk]; split <;> omega
theorem ns_unk_mono {P Q : Nat → Int32} (h : ns_le P Q) : ∀ n, ns_unk Q n ≤ ns_unk P n := by
  intro n
  induction n with
  | zero => exact Nat.le_refl _
  | succ n ih =>
    simp only [ns_unk]
    by_cases e : P n = 0
    · rw [if_pos e]; split <;> omega
    · rw [if_neg e, if_neg (by rw [h n e]; exact e)]; omega
theorem ns_unk_lt {P Q : Nat → Int32} (h : ns_le P Q) {j : Nat} (h0 : P j = 0) (h1 : Q j ≠ 0) : ∀ n, j < n → ns_unk Q n < ns_unk P n := by
  intro n
  induction n with
  | zero => intro hj; omega
  | succ n ih =>
    intro hj
    simp only [ns_unk]
    by_cases e : j = n
    · subst e
      have := ns_unk_mono h j
      rw [if_pos h0, if_neg h1]; omega
    · have := ih (by omega)
      by_cases e' : P n = 0
      · rw [if_pos e']; split <;> omega
      · rw [if_neg e', if_neg (by rw [h n e']; exact e')]; omega
end
section
/-! counting fillings; the measure of the search -/
noncomputable def ns_ct (Q : Nat → Prop) : Nat → Nat
  | 0 => 0
  | n + 1 => ns_ct Q n + @ite Nat (Q n) (Classical.propDecidable (Q n)) 1 0
theorem ns_ct_t {Q : Nat → Prop} {n : Nat} (h : Q n) : ns_ct Q (n + 1) = ns_ct Q n + 1 := by
  show ns_ct Q n + @ite Nat (Q n) (Classical.propDecidable (Q n)) 1 0 = _
  rw [if_pos h]
theorem ns_ct_f {Q : Nat → Prop} {n : Nat} (h : ¬ Q n) : ns_ct Q (n + 1) = ns_ct Q n := by
  show ns_ct Q n + @ite Nat (Q n) (Classical.propDecidable (Q n)) 1 0 = _
  rw [if_neg h]; rfl
theorem ns_ct_mono {Q Q' : Nat → Prop} : ∀ n, (∀ p, p < n → Q p → Q' p) → ns_ct Q n ≤ ns_ct Q' n := by
  intro n
  induction n with
  | zero => intro _; exact Nat.le_refl _
  | succ n ih =>
    intro h
    have := ih (fun p hp => h p (by omega))
    by_cases e : Q n
    · rw [ns_ct_t e, ns_ct_t (h n (by omega) e)]; omega
    · rw [ns_ct_f e]
      by_cases e' : Q' n
      · rw [ns_ct_t e']; omega
      · rw [ns_ct_f e']; exact this
theorem ns_ct_eq {Q Q' : Nat → Prop} (n : Nat) (h : ∀ p, p < n → (Q p ↔ Q' p)) : ns_ct Q n = ns_ct Q' n :=
  Nat.le_antisymm (ns_ct_mono n (fun p hp => (h p hp).mp)) (ns_ct_mono n (fun p hp => (h p hp).mpr))
theorem ns_ct_pos {Q : Nat → Prop} {p : Nat} (h : Q p) : ∀ n, p < n → 0 < ns_ct Q n := by
  intro n
  induction n with
  | zero => intro hp; omega
  | succ n ih =>
    intro hp
    by_cases e : p = n
    · subst e; rw [ns_ct_t h]; omega
    · have := ih (by omega)
      by_cases e' : Q n
      · rw [ns_ct_t e']; omega
      · rw [ns_ct_f e']; exact this
/-- Q split by B -/
theorem ns_ct_split {Q Q1 Q0 : Nat → Prop} : ∀ n, (∀ p, p < n → (Q p ↔ Q1 p ∨ Q0 p)) → (∀ p, p < n → Q1 p → ¬ Q0 p) → ns_ct Q n = ns_ct Q1 n + ns_ct Q0 n := by
  intro n
  induction n with
  | zero => intro _ _; rfl
  | succ n ih =>
    intro h d
    have := ih (fun p hp => h p (by omega)) (fun p hp => d p (by omega))
    by_cases e1 : Q1 n
    · rw [ns_ct_t e1, ns_ct_f (d n (by omega) e1), ns_ct_t ((h n (by omega)).mpr (Or.inl e1))]; omega
    · by_cases e0 : Q0 n
      · rw [ns_ct_f e1, ns_ct_t e0, ns_ct_t ((h n (by omega)).mpr (Or.inr e0))]; omega
      · have e : ¬ Q n := fun z => ((h n (by omega)).mp z).elim e1 e0
        rw [ns_ct_f e1, ns_ct_f e0, ns_ct_f e]; exact this
/-- those at v or beyond: one less when v itself counts -/
theorem ns_ct_lt {Q Q' : Nat → Prop} {p : Nat} (h : Q' p) (hn : ¬ Q p) : ∀ n, p < n → (∀ q, q < n → Q q → Q' q) → ns_ct Q n < ns_ct Q' n := by
  intro n
  induction n with
  | zero => intro hp; omega
  | succ n ih =>
    intro hp hm
    by_cases e : p = n
    · subst e
      have := ns_ct_mono p (fun q hq => hm q (by omega))
      rw [ns_ct_t h, ns_ct_f hn]; omega
    · have := ih (by omega) (fun q hq => hm q (by omega))
      by_cases e1 : Q n
      · rw [ns_ct_t e1, ns_ct_t (hm n (by omega) e1)]; omega
      · rw [ns_ct_f e1]
        by_cases e2 : Q' n
        · rw [ns_ct_t e2]; omega
        · rw [ns_ct_f e2]; exact this
theorem ns_ct_up (Q : Nat → Prop) {m n : Nat} (h : m ≤ n) : ns_ct Q m ≤ ns_ct Q n := by
  induction n with
  | zero => have : m = 0 := by omega
            subst this; exact Nat.le_refl _
  | succ n ih =>
    by_cases e : m = n + 1
    · subst e; exact Nat.le_refl _
    · have := ih (by omega)
      by_cases e' : Q n
      · rw [ns_ct_t e']; omega
      · rw [ns_ct_f e']; exact this
/-- the computed count -/
def ns_cb (q : Nat → Bool) : Nat → Nat
  | 0 => 0
  | n + 1 => ns_cb q n + (if q n = true then 1 else 0)
theorem ns_ct_cb {Q : Nat → Prop} {q : Nat → Bool} : ∀ n, (∀ p, p < n → Q p → q p = true) → ns_ct Q n ≤ ns_cb q n := by
  intro n
  induction n with
  | zero => intro _; exact Nat.le_refl _
  | succ n ih =>
    intro h
    have := ih (fun p hp => h p (by omega))
    simp only [ns_cb]
    by_cases e : Q n
    · rw [ns_ct_t e, if_pos (h n (by omega) e)]; omega
    · rw [ns_ct_f e]; omega
def ns_key (c s p : Nat) : Bool := ns_rn (fun i => p.testBit i) 9 == c && ns_pop (fun i => p.testBit i) 9 == s
/-- fillings with a given number of runs and of FILLED cells are few -/
theorem ns_key30 : ∀ c, c < 10 → ∀ s, s < 10 → ns_cb (ns_key c s) 256 ≤ 30 := by decide +kernel
def ns_pr (f : Nat → Nat) : Nat → Nat
  | 0 => 1
  | n + 1 => ns_pr f n * f n
theorem ns_pr_eq {f g : Nat → Nat} : ∀ n, (∀ r, r < n → f r = g r) → ns_pr f n = ns_pr g n := by
  intro n
  induction n with
  | zero => intro _; rfl
  | succ n ih => intro h; simp only [ns_pr]; rw [ih (fun r hr => h r (by omega)), h n (by omega)]
theorem ns_pr_mono {f g : Nat → Nat} : ∀ n, (∀ r, r < n → f r ≤ g r) → ns_pr f n ≤ ns_pr g n := by
  intro n
  induction n with
  | zero => intro _; exact Nat.le_refl _
  | succ n ih => intro h; exact Nat.mul_le_mul (ih (fun r hr => h r (by omega))) (h n (by omega))
theorem ns_pr_pos {f : Nat → Nat} : ∀ n, (∀ r, r < n → 0 < f r) → 0 < ns_pr f n := by
  intro n
  induction n with
  | zero => intro _; exact Nat.one_pos
  | succ n ih => intro h; exact Nat.mul_pos (ih (fun r hr => h r (by omega))) (h n (by omega))
theorem ns_pr_le {f : Nat → Nat} {M : Nat} : ∀ n, (∀ r, r < n → f r ≤ M) → ns_pr f n ≤ M ^ n := by
  intro n
  induction n with
  | zero => intro _; exact Nat.le_refl _
  | succ n ih => intro h; rw [Nat.pow_succ]; exact Nat.mul_le_mul (ih (fun r hr => h r (by omega))) (h n (by omega))
theorem ns_pr_split {f f1 f0 : Nat → Nat} {r : Nat} (hr : f r = f1 r + f0 r) (h1 : ∀ q, q ≠ r → f1 q = f q) (h0 : ∀ q, q ≠ r → f0 q = f q) : ∀ n, r < n → ns_pr f n = ns_pr f1 n + ns_pr f0 n := by
  intro n
  induction n with
  | zero => intro h; omega
  | succ n ih =>
    intro h
    simp only [ns_pr]
    by_cases e : r = n
    · subst e
      rw [ns_pr_eq r (fun q hq => (h1 q (by omega)).symm), hr, Nat.mul_add, ns_pr_eq (f := f0) (g := f1) r (fun q hq => by rw [h1 q (by omega), h0 q (by omega)])]
    · rw [ih (by omega), h1 n (by omega), h0 n (by omega), Nat.add_mul]
/-- how many grids the rows alone allow above P -/
noncomputable def ns_K (R C : Nat) (S : Nat → Nat → Prop) (P : Nat → Int32) (r : Nat) : Nat := ns_ct (fun p => ns_cons R C S P r p) 256
noncomputable def ns_N (R C : Nat) (S : Nat → Nat → Prop) (P : Nat → Int32) : Nat := ns_pr (ns_K R C S P) R
section
variable {R C : Nat} {S : Nat → Nat → Prop}
theorem ns_N_mono {P Q : Nat → Int32} (h : ns_le P Q) : ns_N R C S Q ≤ ns_N R C S P :=
  ns_pr_mono R (fun _ _ => ns_ct_mono 256 (fun _ _ => ns_cons_le h))
theorem ns_N_pos {P : Nat → Int32} (hS : ∀ a p, S a p → p < 256) (h : ∀ r, r < R → ∃ p, ns_cons R C S P r p) : 0 < ns_N R C S P :=
  ns_pr_pos R (fun r hr => by obtain ⟨p, hp⟩ := h r hr; exact ns_ct_pos hp 256 (hS r p hp.1))
theorem ns_N_bound (P : Nat → Int32) (hR : R ≤ 8) (hb : ∀ r, r < R → ns_ct (S r) 256 ≤ 30) : ns_N R C S P ≤ 30 ^ 8 :=
  Nat.le_trans (ns_pr_le (M := 30) R (fun r hr => Nat.le_trans (ns_ct_mono 256 (fun _ _ h => h.1)) (hb r hr))) (Nat.pow_le_pow_right (by omega) hR)
/-- branching at a cell of row r, column c, that is unknown -/
theorem ns_N_split {P : Nat → Int32} {r c : Nat} (hr : r < R) (hR : R ≤ 8) (hc : c < C) (hC : C ≤ 8) (h0 : P (r * 8 + c) = 0) :
    ns_N R C S P = ns_N R C S (upd P (r * 8 + c) 2) + ns_N R C S (upd P (r * 8 + c) 1) := by
  have hlen : ∀ q, q < 8 → ns_len R C q = C := fun q hq => by simp [ns_len, hq]
  have hu : ∀ q i x, q < 8 → i < C → (q ≠ r ∨ i ≠ c) → upd P (r * 8 + c) x (ns_lc q i) = P (ns_lc q i) := by
    intro q i x hq hi hne
    rw [ns_lc_row hq]; show (if q * 8 + i = r * 8 + c then x else P (q * 8 + i)) = _
    rw [if_neg (by omega)]
  have hs : ∀ x, upd P (r * 8 + c) x (ns_lc r c) = x := by
    intro x; rw [ns_lc_row (by omega)]; show (if r * 8 + c = r * 8 + c then x else _) = x
    rw [if_pos rfl]
  have hother : ∀ q x, q ≠ r → q < R → ns_K R C S (upd P (r * 8 + c) x) q = ns_K R C S P q := by
    intro q x hq hqR
    refine ns_ct_eq 256 (fun p _ => ⟨ns_cons_eq (fun i hi => ?_), ns_cons_eq (fun i hi => ?_)⟩)
    · rw [hlen q (by omega)] at hi; exact (hu q i x (by omega) hi (Or.inl hq)).symm
    · rw [hlen q (by omega)] at hi; exact hu q i x (by omega) hi (Or.inl hq)
  have hsplit : ns_K R C S P r = ns_K R C S (upd P (r * 8 + c) 2) r + ns_K R C S (upd P (r * 8 + c) 1) r := by
    refine ns_ct_split 256 (fun p _ => ⟨fun h => ?_, fun h => ?_⟩) (fun p _ h1 h2 => ?_)
    · cases hb : p.testBit c with
      | true =>
        refine Or.inl ⟨h.1, fun i hi => ?_⟩
        rw [hlen r (by omega)] at hi
        by_cases e : i = c
        · subst e; rw [hs]; exact ⟨fun _ => hb, fun z => absurd z (by decide)⟩
        · rw [hu r i 2 (by omega) hi (Or.inr e)]; exact h.2 i (by rw [hlen r (by omega)]; exact hi)
      | false =>
        refine Or.inr ⟨h.1, fun i hi => ?_⟩
        rw [hlen r (by omega)] at hi
        by_cases e : i = c
        · subst e; rw [hs]; exact ⟨fun z => absurd z (by decide), fun _ => hb⟩
        · rw [hu r i 1 (by omega) hi (Or.inr e)]; exact h.2 i (by rw [hlen r (by omega)]; exact hi)
    · have hle : ∀ x, ns_le P (upd P (r * 8 + c) x) := by
        intro x j hj
        show (if j = r * 8 + c then x else P j) = P j
        by_cases e : j = r * 8 + c
        · subst e; exact absurd h0 hj
        · rw [if_neg e]
      exact h.elim (ns_cons_le (hle 2)) (ns_cons_le (hle 1))
    · have a := (h1.2 c (by rw [hlen r (by omega)]; exact hc)).1 (hs 2)
      have b := (h2.2 c (by rw [hlen r (by omega)]; exact hc)).2 (hs 1)
      rw [a] at b; exact nomatch b
  -- beyond R nothing is asked: cut the functions there
  have key : ∀ n, n ≤ R → r < n → ns_pr (ns_K R C S P) n = ns_pr (ns_K R C S (upd P (r * 8 + c) 2)) n + ns_pr (ns_K R C S (upd P (r * 8 + c) 1)) n := by
    intro n
    induction n with
    | zero => intro _ h; omega
    | succ n ih =>
      intro hn h
      simp only [ns_pr]
      by_cases e : r = n
      · subst e
        rw [ns_pr_eq (f := ns_K R C S (upd P (r * 8 + c) 2)) (g := ns_K R C S P) r (fun q hq => hother q 2 (by omega) (by omega)),
          ns_pr_eq (f := ns_K R C S (upd P (r * 8 + c) 1)) (g := ns_K R C S P) r (fun q hq => hother q 1 (by omega) (by omega)), hsplit, Nat.mul_add]
      · rw [ih (by omega) (by omega), hother n 2 (by omega) (by omega), hother n 1 (by omega) (by omega), Nat.add_mul]
  exact key R (Nat.le_refl R) hr
end
end
section
/-! grid order, the first two solutions -/
def ns_lt (A B : Nat → Int32) : Prop := ∃ j, (∀ i, i < j → A i = B i) ∧ A j = 1 ∧ B j = 2
theorem ns_lt_ir {A : Nat → Int32} (h : ns_lt A A) : False := by
  obtain ⟨j, _, h1, h2⟩ := h
  rw [h1] at h2; exact absurd h2 (by decide)
theorem ns_lt_tr {A B D : Nat → Int32} (h : ns_lt A B) (k : ns_lt B D) : ns_lt A D := by
  obtain ⟨i, hi, a1, b2⟩ := h
  obtain ⟨j, hj, b1, d2⟩ := k
  by_cases e : i < j
  · exact ⟨i, fun q hq => (hi q hq).trans (hj q (by omega)), a1, by rw [← hj i e]; exact b2⟩
  · by_cases e' : j < i
    · exact ⟨j, fun q hq => (hi q (by omega)).trans (hj q hq), by rw [hi j e']; exact b1, d2⟩
    · have : i = j := by omega
      subst this
      rw [b2] at b1; exact absurd b1 (by decide)
theorem ns_lt_as {A B : Nat → Int32} (h : ns_lt A B) (k : ns_lt B A) : False := ns_lt_ir (ns_lt_tr h k)
/-- the first two of the grids that Sl holds of: f of them, A, B -/
def ns_spec (Sl : (Nat → Int32) → Prop) (f : Nat) (A B : Nat → Int32) : Prop :=
  (f = 0 ∧ ∀ Z, ¬ Sl Z) ∨ (f = 1 ∧ Sl A ∧ ∀ Z, Sl Z → Z = A) ∨ (f = 2 ∧ Sl A ∧ Sl B ∧ ns_lt A B ∧ ∀ Z, Sl Z → Z = A ∨ Z = B ∨ ns_lt B Z)
theorem ns_spec_uniq {Sl : (Nat → Int32) → Prop} {f f' : Nat} {A B A' B' : Nat → Int32} (h : ns_spec Sl f A B) (h' : ns_spec Sl f' A' B') :
    f = f' ∧ (1 ≤ f → A = A') ∧ (2 ≤ f → B = B') := by
  rcases h with ⟨rfl, n⟩ | ⟨rfl, sA, u⟩ | ⟨rfl, sA, sB, l, u⟩
  · rcases h' with ⟨rfl, _⟩ | ⟨rfl, sA', _⟩ | ⟨rfl, sA', _⟩
    · exact ⟨rfl, fun z => absurd z (by omega), fun z => absurd z (by omega)⟩
    · exact absurd sA' (n _)
    · exact absurd sA' (n _)
  · rcases h' with ⟨rfl, n'⟩ | ⟨rfl, sA', _⟩ | ⟨rfl, sA', sB', l', _⟩
    · exact absurd sA (n' _)
    · exact ⟨rfl, fun _ => (u _ sA').symm, fun z => absurd z (by omega)⟩
    · rw [u _ sA', u _ sB'] at l'; exact (ns_lt_ir l').elim
  · rcases h' with ⟨rfl, n'⟩ | ⟨rfl, _, u'⟩ | ⟨rfl, sA', sB', l', u'⟩
    · exact absurd sA (n' _)
    · rw [u' _ sA, u' _ sB] at l; exact (ns_lt_ir l).elim
    · have eA : A = A' := by
        have k1 : A' = A ∨ ns_lt A A' := by
          rcases u _ sA' with z | z | z
          · exact Or.inl z
          · rw [z]; exact Or.inr l
          · exact Or.inr (ns_lt_tr l z)
        have k2 : A = A' ∨ ns_lt A' A := by
          rcases u' _ sA with z | z | z
          · exact Or.inl z
          · rw [z]; exact Or.inr l'
          · exact Or.inr (ns_lt_tr l' z)
        rcases k1 with z | z
        · exact z.symm
        · rcases k2 with y | y
          · exact y
          · exact (ns_lt_as z y).elim
      subst eA
      refine ⟨rfl, fun _ => rfl, fun _ => ?_⟩
      rcases u _ sB' with z | z | z
      · rw [z] at l'; exact (ns_lt_ir l').elim
      · exact z.symm
      · rcases u' _ sB with y | y | y
        · rw [y] at l; exact (ns_lt_ir l).elim
        · exact y
        · exact (ns_lt_as z y).elim
/-- what a search keeps: all that Sl holds of is found or remains; the found lie before what remains -/
def ns_inv (Sl : (Nat → Int32) → Prop) (f : Nat) (A B : Nat → Int32) (Rem : (Nat → Int32) → Prop) : Prop :=
  f ≤ 2 ∧ (∀ Z, Sl Z → (1 ≤ f ∧ Z = A) ∨ (2 ≤ f ∧ Z = B) ∨ Rem Z) ∧
  (1 ≤ f → Sl A ∧ ∀ Z, Sl Z → Rem Z → ns_lt A Z) ∧ (2 ≤ f → Sl B ∧ ns_lt A B ∧ ∀ Z, Sl Z → Rem Z → ns_lt B Z)
theorem ns_inv_0 {Sl Rem : (Nat → Int32) → Prop} (A B : Nat → Int32) (h : ∀ Z, Sl Z → Rem Z) : ns_inv Sl 0 A B Rem :=
  ⟨by omega, fun Z hZ => Or.inr (Or.inr (h Z hZ)), fun z => absurd z (by omega), fun z => absurd z (by omega)⟩
/-- what remains may be said otherwise -/
theorem ns_inv_to {Sl Rem Rem' : (Nat → Int32) → Prop} {f : Nat} {A B : Nat → Int32} (h : ns_inv Sl f A B Rem) (k : ∀ Z, Sl Z → (Rem Z ↔ Rem' Z)) : ns_inv Sl f A B Rem' :=
  ⟨h.1, fun Z hZ => (h.2.1 Z hZ).imp id (fun x => x.imp id (k Z hZ).mp), fun z => ⟨(h.2.2.1 z).1, fun Z hZ r => (h.2.2.1 z).2 Z hZ ((k Z hZ).mpr r)⟩,
    fun z => ⟨(h.2.2.2 z).1, (h.2.2.2 z).2.1, fun Z hZ r => (h.2.2.2 z).2.2 Z hZ ((k Z hZ).mpr r)⟩⟩
/-- the first that remains is found: as A -/
theorem ns_inv_A {Sl Rem Rem' : (Nat → Int32) → Prop} {A B D : Nat → Int32} (h : ns_inv Sl 0 A B Rem) (hD : Sl D)
    (k : ∀ Z, Sl Z → Rem Z → Z = D ∨ Rem' Z) (o : ∀ Z, Sl Z → Rem' Z → ns_lt D Z) : ns_inv Sl 1 D B Rem' :=
  ⟨by omega, fun Z hZ => by
      rcases h.2.1 Z hZ with ⟨z, _⟩ | ⟨z, _⟩ | z
      · omega
      · omega
      · exact (k Z hZ z).elim (fun e => Or.inl ⟨by omega, e⟩) (fun r => Or.inr (Or.inr r)),
    fun _ => ⟨hD, o⟩, fun z => absurd z (by omega)⟩
/-- .. as B -/
theorem ns_inv_B {Sl Rem Rem' : (Nat → Int32) → Prop} {A B D : Nat → Int32} (h : ns_inv Sl 1 A B Rem) (hD : Sl D) (rD : Rem D)
    (k : ∀ Z, Sl Z → Rem Z → Z = D ∨ Rem' Z) (o : ∀ Z, Sl Z → Rem' Z → ns_lt D Z) : ns_inv Sl 2 A D Rem' := by
  have l := (h.2.2.1 (by omega)).2 D hD rD
  exact ⟨by omega, fun Z hZ => by
      rcases h.2.1 Z hZ with ⟨_, z⟩ | ⟨z, _⟩ | z
      · exact Or.inl ⟨by omega, z⟩
      · omega
      · exact (k Z hZ z).elim (fun e => Or.inr (Or.inl ⟨by omega, e⟩)) (fun r => Or.inr (Or.inr r)),
    fun _ => ⟨(h.2.2.1 (by omega)).1, fun Z hZ r => ns_lt_tr l (o Z hZ r)⟩, fun _ => ⟨hD, l, o⟩⟩
theorem ns_inv_end2 {Sl Rem : (Nat → Int32) → Prop} {A B : Nat → Int32} (h : ns_inv Sl 2 A B Rem) : ns_spec Sl 2 A B := by
  obtain ⟨_, h1, h2, h3⟩ := h
  obtain ⟨sB, l, o⟩ := h3 (by omega)
  refine Or.inr (Or.inr ⟨rfl, (h2 (by omega)).1, sB, l, fun Z hZ => ?_⟩)
  rcases h1 Z hZ with ⟨_, z⟩ | ⟨_, z⟩ | z
  · exact Or.inl z
  · exact Or.inr (Or.inl z)
  · exact Or.inr (Or.inr (o Z hZ z))
theorem ns_inv_end {Sl Rem : (Nat → Int32) → Prop} {f : Nat} {A B : Nat → Int32} (h : ns_inv Sl f A B Rem) (n : ∀ Z, Sl Z → ¬ Rem Z) : ns_spec Sl f A B := by
  by_cases e2 : f = 2
  · subst e2; exact ns_inv_end2 h
  · by_cases e1 : f = 1
    · subst e1
      refine Or.inr (Or.inl ⟨rfl, (h.2.2.1 (by omega)).1, fun Z hZ => ?_⟩)
      rcases h.2.1 Z hZ with ⟨_, z⟩ | ⟨z, _⟩ | z
      · exact z
      · omega
      · exact absurd z (n Z hZ)
    · have e0 : f = 0 := by have := h.1; omega
      subst e0
      refine Or.inl ⟨rfl, fun Z hZ => ?_⟩
      rcases h.2.1 Z hZ with ⟨z, _⟩ | ⟨z, _⟩ | z
      · omega
      · omega
      · exact n Z hZ z
end
section
/-! X's search, purely: a stack of closed grids -/
theorem ns_upd_s {P : Nat → Int32} {x : Nat} {v : Int32} : upd P x v x = v := by
  show (if x = x then v else P x) = v
  rw [if_pos rfl]
theorem ns_upd_n {P : Nat → Int32} {x j : Nat} {v : Int32} (h : j ≠ x) : upd P x v j = P j := by
  show (if j = x then v else P j) = P j
  rw [if_neg h]
theorem ns_le_upd {P : Nat → Int32} {x : Nat} {v : Int32} (h : P x = 0) : ns_le P (upd P x v) := by
  intro j hj
  by_cases e : j = x
  · subst e; exact absurd h hj
  · exact ns_upd_n e
theorem ns_upd_le {P Z : Nat → Int32} {x : Nat} {v : Int32} (h : ns_le P Z) (hz : Z x = v) : ns_le (upd P x v) Z := by
  intro j hj
  by_cases e : j = x
  · subst e; rw [ns_upd_s]; exact hz
  · rw [ns_upd_n e] at hj ⊢; exact h j hj
/-- the stack below d: closed grids, each with its first unknown cell -/
def ns_fr (R C : Nat) (S : Nat → Nat → Prop) (g G : Nat → Int32) (b : Nat) : Prop :=
  ns_cls R C S G ∧ ns_le g G ∧ ns_cg R C b ∧ G b = 0 ∧ ∀ q, q < b → ns_cg R C q → G q ≠ 0
def ns_XI (R C : Nat) (S : Nat → Nat → Prop) (g : Nat → Int32) (d : Nat) (G : Nat → Nat → Int32) (b : Nat → Nat) (P : Nat → Int32) : Prop :=
  ns_ok R C P ∧ ns_le g P ∧ (∀ j, j < d → ns_fr R C S g (G j) (b j)) ∧
  (∀ i j, i < j → j < d → ns_le (upd (G i) (b i) 1) (G j)) ∧ (∀ i, i < d → ns_le (upd (G i) (b i) 1) P)
def ns_XR (d : Nat) (G : Nat → Nat → Int32) (b : Nat → Nat) (P Z : Nat → Int32) : Prop :=
  ns_le P Z ∨ ∃ j, j < d ∧ ns_le (upd (G j) (b j) 2) Z
section
variable {R C : Nat} {S : Nat → Nat → Prop} {g : Nat → Int32}
/-- what lies above the EMPTY side comes before what lies above the FILLED side -/
theorem ns_fr_lt {G Z Z' : Nat → Int32} {b : Nat} (h : ns_fr R C S g G b) (hz : ns_ok R C Z) (hz' : ns_ok R C Z')
    (l : ns_le (upd G b 1) Z) (l' : ns_le (upd G b 2) Z') : ns_lt Z Z' := by
  obtain ⟨_, _, hb, h0, hq⟩ := h
  refine ⟨b, fun q hqb => ?_, ?_, ?_⟩
  · by_cases e : ns_cg R C q
    · have n := hq q hqb e
      have u1 : upd G b 1 q = G q := ns_upd_n (by omega)
      have u2 : upd G b 2 q = G q := ns_upd_n (by omega)
      rw [l q (by rw [u1]; exact n), l' q (by rw [u2]; exact n), u1, u2]
    · rw [(hz q).2 e, (hz' q).2 e]
  · rw [l b (by rw [ns_upd_s]; decide), ns_upd_s]
  · rw [l' b (by rw [ns_upd_s]; decide), ns_upd_s]
theorem ns_XI_settle {d : Nat} {G : Nat → Nat → Int32} {b : Nat → Nat} {P P' : Nat → Int32} (h : ns_XI R C S g d G b P) (ok : ns_ok R C P') (l : ns_le P P') : ns_XI R C S g d G b P' :=
  ⟨ok, ns_le_tr h.2.1 l, h.2.2.1, h.2.2.2.1, fun i hi => ns_le_tr (h.2.2.2.2 i hi) l⟩
/-- the branch cells rise: the depth stays below the cells -/
theorem ns_XI_rise {d : Nat} {G : Nat → Nat → Int32} {b : Nat → Nat} {P : Nat → Int32} (h : ns_XI R C S g d G b P) {Q : Nat → Int32} {x i : Nat} (hi : i < d)
    (l : ns_le (upd (G i) (b i) 1) Q) (hx : ns_cg R C x) (h0 : Q x = 0) : b i < x := by
  obtain ⟨_, _, hb, _, hq⟩ := h.2.2.1 i hi
  by_cases e : b i < x
  · exact e
  · by_cases e' : x = b i
    · subst e'
      have := l (b i) (by rw [ns_upd_s]; decide)
      rw [ns_upd_s, h0] at this; exact absurd this (by decide)
    · have n := hq x (by omega) hx
      have u1 : upd (G i) (b i) 1 x = G i x := ns_upd_n e'
      have := l x (by rw [u1]; exact n)
      rw [u1, h0] at this; exact absurd this.symm n
theorem ns_XI_idx {d : Nat} {G : Nat → Nat → Int32} {b : Nat → Nat} {P : Nat → Int32} (h : ns_XI R C S g d G b P) : ∀ j, j < d → j ≤ b j := by
  intro j
  induction j with
  | zero => intro _; omega
  | succ j ih =>
    intro hj
    have f := h.2.2.1 (j + 1) hj
    have := ns_XI_rise h (by omega) (h.2.2.2.1 j (j + 1) (by omega) hj) f.2.2.1 f.2.2.2.1
    have := ih (by omega)
    omega
theorem ns_XI_depth {d : Nat} {G : Nat → Nat → Int32} {b : Nat → Nat} {P : Nat → Int32} (h : ns_XI R C S g d G b P) {x : Nat} (hx : ns_cg R C x) (h0 : P x = 0) : d ≤ x := by
  cases d with
  | zero => omega
  | succ d =>
    have := ns_XI_rise h (by omega : d < d + 1) (h.2.2.2.2 d (by omega)) hx h0
    have := ns_XI_idx h d (by omega)
    omega
theorem ns_XI_branch {d : Nat} {G G' : Nat → Nat → Int32} {b b' : Nat → Nat} {P : Nat → Int32} {x : Nat} (h : ns_XI R C S g d G b P)
    (hG : ∀ j, j < d → G' j = G j ∧ b' j = b j) (hd : G' d = P) (hx : b' d = x) (f : ns_fr R C S g P x) : ns_XI R C S g (d + 1) G' b' (upd P x 1) := by
  obtain ⟨h1, h2, h3, h4, h5⟩ := h
  have hl : ns_le P (upd P x 1) := ns_le_upd f.2.2.2.1
  refine ⟨fun j => ?_, ns_le_tr h2 hl, fun j hj => ?_, fun i j hij hj => ?_, fun i hi => ?_⟩
  · by_cases e : j = x
    · subst e; rw [ns_upd_s]; exact ⟨Or.inr (Or.inl rfl), fun z => absurd f.2.2.1 z⟩
    · rw [ns_upd_n e]; exact h1 j
  · by_cases e : j = d
    · subst e; rw [hd, hx]; exact f
    · have := hG j (by omega)
      rw [this.1, this.2]; exact h3 j (by omega)
  · have a := hG i (by omega)
    rw [a.1, a.2]
    by_cases e : j = d
    · subst e; rw [hd]; exact h5 i (by omega)
    · rw [(hG j (by omega)).1]; exact h4 i j hij (by omega)
  · by_cases e : i = d
    · subst e; rw [hd, hx]; exact ns_le_rfl _
    · have a := hG i (by omega)
      rw [a.1, a.2]; exact ns_le_tr (h5 i (by omega)) hl
theorem ns_XI_pop {d : Nat} {G : Nat → Nat → Int32} {b : Nat → Nat} {P : Nat → Int32} (h : ns_XI R C S g (d + 1) G b P) : ns_XI R C S g d G b (upd (G d) (b d) 2) := by
  obtain ⟨_, _, h3, h4, _⟩ := h
  have f := h3 d (by omega)
  have hl : ns_le (G d) (upd (G d) (b d) 2) := ns_le_upd f.2.2.2.1
  refine ⟨fun j => ?_, ns_le_tr f.2.1 hl, fun j hj => h3 j (by omega), fun i j hij hj => h4 i j hij (by omega), fun i hi => ns_le_tr (h4 i d hi (by omega)) hl⟩
  by_cases e : j = b d
  · subst e; rw [ns_upd_s]; exact ⟨Or.inr (Or.inr rfl), fun z => absurd f.2.2.1 z⟩
  · rw [ns_upd_n e]; exact f.1.1 j
/-- remaining after a settling, among solutions -/
theorem ns_XR_settle {d : Nat} {G : Nat → Nat → Int32} {b : Nat → Nat} {P P' Z : Nat → Int32} (hz : ns_cls R C S Z) (l : ns_le P P') (k : ns_blw R C S P P') : ns_XR d G b P Z ↔ ns_XR d G b P' Z :=
  ⟨fun h => h.imp (fun q => k Z hz q) id, fun h => h.imp (fun q => ns_le_tr l q) id⟩
theorem ns_XR_branch {d : Nat} {G G' : Nat → Nat → Int32} {b b' : Nat → Nat} {P Z : Nat → Int32} {x : Nat}
    (hG : ∀ j, j < d → G' j = G j ∧ b' j = b j) (hd : G' d = P) (hx : b' d = x) (h0 : P x = 0) (hz : Z x = 1 ∨ Z x = 2) :
    ns_XR d G b P Z ↔ ns_XR (d + 1) G' b' (upd P x 1) Z := by
  constructor
  · intro h
    rcases h with h | ⟨j, hj, h⟩
    · rcases hz with z | z
      · exact Or.inl (ns_upd_le h z)
      · exact Or.inr ⟨d, by omega, by rw [hd, hx]; exact ns_upd_le h z⟩
    · have a := hG j hj
      exact Or.inr ⟨j, by omega, by rw [a.1, a.2]; exact h⟩
  · intro h
    rcases h with h | ⟨j, hj, h⟩
    · exact Or.inl (ns_le_tr (ns_le_upd h0) h)
    · by_cases e : j = d
      · subst e; rw [hd, hx] at h; exact Or.inl (ns_le_tr (ns_le_upd h0) h)
      · have a := hG j (by omega)
        rw [a.1, a.2] at h
        exact Or.inr ⟨j, by omega, h⟩
/-- nothing above the cells: the top of the stack is taken back -/
theorem ns_XR_pop {d : Nat} {G : Nat → Nat → Int32} {b : Nat → Nat} {Z : Nat → Int32} (h : ∃ j, j < d + 1 ∧ ns_le (upd (G j) (b j) 2) Z) : ns_XR d G b (upd (G d) (b d) 2) Z := by
  obtain ⟨j, hj, l⟩ := h
  by_cases e : j = d
  · subst e; exact Or.inl l
  · exact Or.inr ⟨j, by omega, l⟩
theorem ns_XR_unpop {d : Nat} {G : Nat → Nat → Int32} {b : Nat → Nat} {Z : Nat → Int32} (h : ns_XR d G b (upd (G d) (b d) 2) Z) : ∃ j, j < d + 1 ∧ ns_le (upd (G j) (b j) 2) Z :=
  h.elim (fun l => ⟨d, by omega, l⟩) (fun ⟨j, hj, l⟩ => ⟨j, by omega, l⟩)
/-- a settled grid leaves both sides of its unknown cell possible, in every row -/
theorem ns_fr_pos {G : Nat → Int32} {b : Nat} {v : Int32} (hS : ∀ a p, S a p → p < 256) (hR : R ≤ 8) (hC : C ≤ 8) (h : ns_cls R C S G) (hb : ns_cg R C b) (h0 : G b = 0) (hv : v = 1 ∨ v = 2) : 0 < ns_N R C S (upd G b v) := by
  refine ns_N_pos hS (fun r hr => ?_)
  have ing : ns_ing R C r := ⟨by omega, fun _ => hr, fun z => by omega⟩
  have r8 : r < 8 := by omega
  have hlen : ns_len R C r = C := by simp [ns_len, r8]
  obtain ⟨hb1, hb2, hb3⟩ := hb
  by_cases e : b / 8 = r
  · have hlc : ns_lc r (b % 8) = b := by rw [ns_lc_row r8]; omega
    obtain ⟨⟨p1, c1, t1⟩, ⟨p0, c0, t0⟩⟩ := (h.2 r ing).2 (b % 8) (by rw [hlen]; exact hb3) (by rw [hlc]; exact h0)
    have put : ∀ (p : Nat), ns_cons R C S G r p → ((v = 2 → p.testBit (b % 8) = true) ∧ (v = 1 → p.testBit (b % 8) = false)) → ns_cons R C S (upd G b v) r p := by
      intro p hp hv'
      refine ⟨hp.1, fun i hi => ?_⟩
      by_cases ei : i = b % 8
      · subst ei; rw [hlc, ns_upd_s]; exact hv'
      · rw [ns_upd_n (by rw [ns_lc_row r8]; rw [hlen] at hi; omega)]; exact hp.2 i hi
    rcases hv with rfl | rfl
    · exact ⟨p0, put p0 c0 ⟨fun z => absurd z (by decide), fun _ => t0⟩⟩
    · exact ⟨p1, put p1 c1 ⟨fun _ => t1, fun z => absurd z (by decide)⟩⟩
  · obtain ⟨p, hp⟩ := (h.2 r ing).1
    refine ⟨p, ns_cons_eq (fun i hi => ns_upd_n ?_) hp⟩
    rw [hlen] at hi; rw [ns_lc_row r8]; omega
/-- the work that is left -/
noncomputable def ns_Ph (R C : Nat) (S : Nat → Nat → Prop) (G : Nat → Nat → Int32) (b : Nat → Nat) : Nat → Nat
  | 0 => 0
  | d + 1 => ns_Ph R C S G b d + (2 * ns_N R C S (upd (G d) (b d) 2) - 1)
theorem ns_Ph_eq {G G' : Nat → Nat → Int32} {b b' : Nat → Nat} : ∀ d, (∀ j, j < d → G' j = G j ∧ b' j = b j) → ns_Ph R C S G' b' d = ns_Ph R C S G b d := by
  intro d
  induction d with
  | zero => intro _; rfl
  | succ d ih =>
    intro h
    simp only [ns_Ph]
    rw [ih (fun j hj => h j (by omega)), (h d (by omega)).1, (h d (by omega)).2]
end
end
section
/-! X's search, one look -/
def ns_XL (R C : Nat) (S : Nat → Nat → Prop) (g : Nat → Int32) (t f : Nat) (A B : Nat → Int32) (d : Nat) (G : Nat → Nat → Int32) (b : Nat → Nat) (P : Nat → Int32) : Prop :=
  ns_XI R C S g d G b P ∧ f < 2 ∧ ns_inv (ns_sol R C S g) f A B (ns_XR d G b P) ∧ (0 < d → 0 < ns_N R C S P) ∧
  t + ns_Ph R C S G b d + (2 * ns_N R C S P - 1) ≤ 2 * 30 ^ 8
section
variable {R C : Nat} {S : Nat → Nat → Prop} {g : Nat → Int32}
theorem ns_XL_t {t f d : Nat} {A B P : Nat → Int32} {G : Nat → Nat → Int32} {b : Nat → Nat} (h : ns_XL R C S g t f A B d G b P) : t < 2 ^ 48 := by
  have := h.2.2.2.2
  have e : 2 * 30 ^ 8 < 2 ^ 48 := by decide
  omega
theorem ns_XL_0 (A B : Nat → Int32) (G : Nat → Nat → Int32) (b : Nat → Nat) (hR : R ≤ 8) (hg : ns_ok R C g) (hb : ∀ r, r < R → ns_ct (S r) 256 ≤ 30) : ns_XL R C S g 0 0 A B 0 G b g := by
  refine ⟨⟨hg, ns_le_rfl g, fun j hj => absurd hj (by omega), fun i j _ hj => absurd hj (by omega), fun i hi => absurd hi (by omega)⟩, by omega,
    ns_inv_0 A B (fun Z hZ => Or.inl hZ.2.2.1), fun z => absurd z (by omega), ?_⟩
  have := ns_N_bound (C := C) g hR hb
  simp only [ns_Ph]; omega
/-- a settled grid with an unknown cell: one level deeper -/
theorem ns_XL_branch {t f d x : Nat} {A B P P' : Nat → Int32} {G G' : Nat → Nat → Int32} {b b' : Nat → Nat} (hS : ∀ a p, S a p → p < 256) (hR : R ≤ 8) (hC : C ≤ 8)
    (h : ns_XL R C S g t f A B d G b P) (hc : ns_cls R C S P') (hl : ns_le P P') (hbl : ns_blw R C S P P')
    (hx : ns_cg R C x) (h0 : P' x = 0) (hq : ∀ q, q < x → ns_cg R C q → P' q ≠ 0)
    (hG : ∀ j, j < d → G' j = G j ∧ b' j = b j) (hd : G' d = P') (hbx : b' d = x) :
    ns_XL R C S g (t + 1) f A B (d + 1) G' b' (upd P' x 1) := by
  obtain ⟨hI, hf, hv, hp, hw⟩ := h
  have hI' := ns_XI_settle hI hc.1 hl
  have fr : ns_fr R C S g P' x := ⟨hc, hI'.2.1, hx, h0, hq⟩
  have pos1 := ns_fr_pos (v := 1) hS hR hC hc hx h0 (Or.inl rfl)
  have pos2 := ns_fr_pos (v := 2) hS hR hC hc hx h0 (Or.inr rfl)
  have hm := ns_N_mono (R := R) (C := C) (S := S) hl
  have hsp : ns_N R C S P' = ns_N R C S (upd P' x 2) + ns_N R C S (upd P' x 1) := by
    have ex : x / 8 * 8 + x % 8 = x := by omega
    have := ns_N_split (S := S) (P := P') (r := x / 8) (c := x % 8) hx.2.1 hR hx.2.2 hC (by rw [ex]; exact h0)
    rw [ex] at this; exact this
  refine ⟨ns_XI_branch hI' hG hd hbx fr, hf, ns_inv_to hv (fun Z hZ => ?_), fun _ => pos1, ?_⟩
  · refine (ns_XR_settle (ns_sol_cls hR hC hZ) hl hbl).trans (ns_XR_branch hG hd hbx h0 ?_)
    rcases (hZ.1 x).1 with z | z | z
    · exact absurd z (hZ.2.1 x hx)
    · exact Or.inl z
    · exact Or.inr z
  · simp only [ns_Ph]
    rw [ns_Ph_eq d hG, hd, hbx]; omega
/-- nothing above the cells -/
theorem ns_XL_bad {t f d : Nat} {A B P : Nat → Int32} {G : Nat → Nat → Int32} {b : Nat → Nat} (hR : R ≤ 8) (hC : C ≤ 8)
    (h : ns_XL R C S g t f A B d G b P) (hb : ∀ Q, ns_cls R C S Q → ¬ ns_le P Q) : ns_inv (ns_sol R C S g) f A B (fun Z => ∃ j, j < d ∧ ns_le (upd (G j) (b j) 2) Z) :=
  ns_inv_to h.2.2.1 (fun Z hZ => ⟨fun k => k.elim (fun l => absurd l (hb Z (ns_sol_cls hR hC hZ))) id, Or.inr⟩)
/-- the cells are a solution: how what remains changes -/
theorem ns_XL_sol {t f d : Nat} {A B P P' : Nat → Int32} {G : Nat → Nat → Int32} {b : Nat → Nat} (hR : R ≤ 8) (hC : C ≤ 8)
    (h : ns_XL R C S g t f A B d G b P) (hc : ns_cls R C S P') (hl : ns_le P P') (hbl : ns_blw R C S P P') (hf : ∀ j, ns_cg R C j → P' j ≠ 0) :
    ns_inv (ns_sol R C S g) (f + 1) (if f = 0 then P' else A) (if f = 0 then B else P') (fun Z => ∃ j, j < d ∧ ns_le (upd (G j) (b j) 2) Z) := by
  obtain ⟨hI, hf2, hv, hp, hw⟩ := h
  have hI' := ns_XI_settle hI hc.1 hl
  have sD : ns_sol R C S g P' := ns_cls_sol hc hI'.2.1 hf
  have rD : ns_XR d G b P P' := Or.inl hl
  have k : ∀ Z, ns_sol R C S g Z → ns_XR d G b P Z → Z = P' ∨ ∃ j, j < d ∧ ns_le (upd (G j) (b j) 2) Z := by
    intro Z hZ r
    exact r.imp (fun l => ns_full_le hf hZ.1 (hbl Z (ns_sol_cls hR hC hZ) l) hc.1) id
  have o : ∀ Z, ns_sol R C S g Z → (∃ j, j < d ∧ ns_le (upd (G j) (b j) 2) Z) → ns_lt P' Z := by
    intro Z hZ ⟨j, hj, l⟩
    exact ns_fr_lt (hI'.2.2.1 j hj) hc.1 hZ.1 (hI'.2.2.2.2 j hj) l
  by_cases e : f = 0
  · subst e
    rw [if_pos rfl, if_pos rfl]; exact ns_inv_A hv sD k o
  · have e1 : f = 1 := by omega
    subst e1
    rw [if_neg (by omega), if_neg (by omega)]; exact ns_inv_B hv sD rD k o
/-- the top of the stack is taken back -/
theorem ns_XL_pop {t f f' d : Nat} {A B A' B' P : Nat → Int32} {G : Nat → Nat → Int32} {b : Nat → Nat} (hS : ∀ a p, S a p → p < 256) (hR : R ≤ 8) (hC : C ≤ 8)
    (h : ns_XL R C S g t f A B (d + 1) G b P) (hf : f' < 2) (hv : ns_inv (ns_sol R C S g) f' A' B' (fun Z => ∃ j, j < d + 1 ∧ ns_le (upd (G j) (b j) 2) Z)) :
    ns_XL R C S g (t + 1) f' A' B' d G b (upd (G d) (b d) 2) := by
  obtain ⟨hI, _, _, hp, hw⟩ := h
  have f := hI.2.2.1 d (by omega)
  have pos2 := ns_fr_pos (v := 2) hS hR hC f.1 f.2.2.1 f.2.2.2.1 (Or.inr rfl)
  have := hp (by omega)
  refine ⟨ns_XI_pop hI, hf, ns_inv_to hv (fun Z _ => ⟨ns_XR_pop, ns_XR_unpop⟩), fun _ => pos2, ?_⟩
  simp only [ns_Ph] at hw; omega
end
end
section
/-! the clue's fillings: few, and with one number of FILLED cells -/
def ns_S (R C : Nat) (cc : Nat → Nat) (cl : Nat → Int32) (a p : Nat) : Prop :=
  p < 2 ^ ns_len R C a ∧ ns_sat (cc a) (fun k => cl (a * 4 + k)) (fun i => p.testBit i) (ns_len R C a)
theorem ns_off {p n : Nat} (h : p < 2 ^ n) : ∀ j, n ≤ j → p.testBit j = false := fun j hj =>
  Nat.testBit_lt_two_pow (Nat.lt_of_lt_of_le h (Nat.pow_le_pow_right (by omega) hj))
section
variable {R C : Nat} {cc : Nat → Nat} {cl : Nat → Int32}
theorem ns_S_lt (hR : R ≤ 8) (hC : C ≤ 8) : ∀ a p, ns_S R C cc cl a p → p < 256 := fun a p h =>
  Nat.lt_of_lt_of_le h.1 (Nat.pow_le_pow_right (n := 2) (by omega) (ns_len_le hR hC (a := a)))
theorem ns_S_rn {a p : Nat} (hR : R ≤ 8) (hC : C ≤ 8) (h : ns_S R C cc cl a p) : ns_rn (fun i => p.testBit i) 9 = cc a := by
  have hl := ns_len_le hR hC (a := a)
  have e9 : 9 = ns_len R C a + 1 + (8 - ns_len R C a) := by omega
  rw [e9, ns_rn_tail (ns_off h.1)]; exact ns_sat_rn h.2
theorem ns_S_pop {a p : Nat} (hR : R ≤ 8) (hC : C ≤ 8) (h : ns_S R C cc cl a p) : ns_sm (fun k => cl (a * 4 + k)) (cc a) = nI (ns_pop (fun i => p.testBit i) 9) := by
  have hl := ns_len_le hR hC (a := a)
  have e9 : 9 = ns_len R C a + (9 - ns_len R C a) := by omega
  rw [e9, ns_pop_tail (ns_off h.1)]; exact ns_sat_sm (ns_off h.1 _ (Nat.le_refl _)) h.2
theorem ns_S_pop_eq {a p q : Nat} (hR : R ≤ 8) (hC : C ≤ 8) (h : ns_S R C cc cl a p) (k : ns_S R C cc cl a q) : ns_pop (fun i => p.testBit i) 9 = ns_pop (fun i => q.testBit i) 9 := by
  have e := (ns_S_pop hR hC h).symm.trans (ns_S_pop hR hC k)
  have h1 := ns_pop_le (fun i => p.testBit i) 9
  have h2 := ns_pop_le (fun i => q.testBit i) 9
  exact (nI_eq (by omega) (by omega)).mp e
theorem ns_S_few (hR : R ≤ 8) (hC : C ≤ 8) (a : Nat) : ns_ct (ns_S R C cc cl a) 256 ≤ 30 := by
  by_cases e : ∃ p0, ns_S R C cc cl a p0
  · obtain ⟨p0, h0⟩ := e
    have hs := ns_pop_le (fun i => p0.testBit i) 9
    have hc := ns_rn_le (fun i => p0.testBit i) 9
    have h0c := ns_S_rn hR hC h0
    refine Nat.le_trans (ns_ct_cb (q := ns_key (cc a) (ns_pop (fun i => p0.testBit i) 9)) 256 (fun p _ hp => ?_)) (ns_key30 _ (by omega) _ (by omega))
    simp only [ns_key, Bool.and_eq_true, beq_iff_eq]
    exact ⟨ns_S_rn hR hC hp, ns_S_pop_eq hR hC hp h0⟩
  · exact Nat.le_trans (ns_ct_cb (q := ns_key 0 0) 256 (fun p _ hp => absurd ⟨p, hp⟩ e)) (ns_key30 0 (by omega) 0 (by omega))
end
/-- the FILLED cells of a line of a full grid are those of its filling -/
def ns_fc (Z : Nat → Int32) (a : Nat) : Nat → Nat
  | 0 => 0
  | n + 1 => ns_fc Z a n + (if Z (ns_lc a n) = 2 then 1 else 0)
theorem ns_fc_pop {Z : Nat → Int32} {a p : Nat} : ∀ n, (∀ i, i < n → (p.testBit i = true ↔ Z (ns_lc a i) = 2)) → ns_fc Z a n = ns_pop (fun i => p.testBit i) n := by
  intro n
  induction n with
  | zero => intro _; rfl
  | succ n ih =>
    intro h
    simp only [ns_fc, ns_pop]
    rw [ih (fun i hi => h i (by omega))]
    by_cases e : Z (ns_lc a n) = 2
    · rw [if_pos e, if_pos ((h n (by omega)).mpr e)]
    · rw [if_neg e, if_neg (fun z => e ((h n (by omega)).mp z))]
/-- a sum over rows of sums over columns, and the other way round -/
def ns_s1 (h : Nat → Nat) : Nat → Nat
  | 0 => 0
  | n + 1 => ns_s1 h n + h n
theorem ns_s1_add {h k : Nat → Nat} : ∀ n, ns_s1 (fun i => h i + k i) n = ns_s1 h n + ns_s1 k n := by
  intro n
  induction n with
  | zero => rfl
  | succ n ih => simp only [ns_s1]; rw [ih]; omega
theorem ns_s1_0 : ∀ n, ns_s1 (fun _ => 0) n = 0 := by
  intro n
  induction n with
  | zero => rfl
  | succ n ih => simp only [ns_s1]; rw [ih]
theorem ns_s1_eq {h k : Nat → Nat} : ∀ n, (∀ i, i < n → h i = k i) → ns_s1 h n = ns_s1 k n := by
  intro n
  induction n with
  | zero => intro _; rfl
  | succ n ih => intro e; simp only [ns_s1]; rw [ih (fun i hi => e i (by omega)), e n (by omega)]
theorem ns_fub (x : Nat → Nat → Nat) (C : Nat) : ∀ R, ns_s1 (fun r => ns_s1 (fun c => x r c) C) R = ns_s1 (fun c => ns_s1 (fun r => x r c) R) C := by
  intro R
  induction R with
  | zero => simp only [ns_s1]; exact (ns_s1_0 C).symm
  | succ R ih => simp only [ns_s1]; rw [ih, ns_s1_add]
end
section
/-! Y's search, purely: rows by their value, the first cell the highest bit -/
/-- row r of Z has value v -/
def ns_rm (C : Nat) (Z : Nat → Int32) (r v : Nat) : Prop := ∀ c, c < C → Z (r * 8 + c) = if v.testBit (C - 1 - c) = true then 2 else 1
/-- any bits are those of a number -/
theorem ns_mk (f : Nat → Bool) : ∀ n, ∃ v, v < 2 ^ n ∧ ∀ i, i < n → v.testBit i = f i := by
  intro n
  induction n with
  | zero => exact ⟨0, by decide, fun i hi => absurd hi (by omega)⟩
  | succ n ih =>
    obtain ⟨v, hv, hb⟩ := ih
    have e2 : 2 ^ (n + 1) = 2 * 2 ^ n := by rw [Nat.pow_succ]; omega
    cases hf : f n with
    | false =>
      refine ⟨v, by omega, fun i hi => ?_⟩
      by_cases e : i = n
      · subst e; rw [hf]; exact Nat.testBit_lt_two_pow hv
      · exact hb i (by omega)
    | true =>
      refine ⟨2 ^ n + v, by omega, fun i hi => ?_⟩
      by_cases e : i = n
      · subst e; rw [Nat.testBit_two_pow_add_eq, Nat.testBit_lt_two_pow hv, hf]; rfl
      · rw [Nat.testBit_two_pow_add_gt (by omega)]; exact hb i (by omega)
theorem ns_rm_ex {C r : Nat} {Z : Nat → Int32} (h : ∀ c, c < C → Z (r * 8 + c) = 1 ∨ Z (r * 8 + c) = 2) : ∃ v, v < 2 ^ C ∧ ns_rm C Z r v := by
  obtain ⟨v, hv, hb⟩ := ns_mk (fun i => decide (Z (r * 8 + (C - 1 - i)) = 2)) C
  refine ⟨v, hv, fun c hc => ?_⟩
  have := hb (C - 1 - c) (by omega)
  rw [show C - 1 - (C - 1 - c) = c by omega] at this
  rcases h c hc with e | e
  · rw [e] at this; rw [this, e]; decide
  · rw [e] at this; rw [this, e]; decide
theorem ns_rm_inj {C r v w : Nat} {Z : Nat → Int32} (hv : v < 2 ^ C) (hw : w < 2 ^ C) (h : ns_rm C Z r v) (k : ns_rm C Z r w) : v = w := by
  refine Nat.eq_of_testBit_eq (fun i => ?_)
  by_cases hi : i < C
  · have a := h (C - 1 - i) (by omega)
    have b := k (C - 1 - i) (by omega)
    rw [show C - 1 - (C - 1 - i) = i by omega] at a b
    rw [a] at b
    cases hv' : v.testBit i <;> cases hw' : w.testBit i <;> rw [hv', hw'] at b <;> first | rfl | exact absurd b (by decide)
  · rw [ns_off hv i (by omega), ns_off hw i (by omega)]
theorem ns_ltb : ∀ (i v w : Nat), w.testBit i = false → v.testBit i = true → (∀ j, i < j → w.testBit j = v.testBit j) → w < v := by
  intro i
  induction i with
  | zero =>
    intro v w hw hv h
    rw [Nat.testBit_zero] at hw hv
    have e : w / 2 = v / 2 := Nat.eq_of_testBit_eq (fun j => by
      have := h (j + 1) (by omega)
      rw [Nat.testBit_succ, Nat.testBit_succ] at this; exact this)
    have a : ¬ w % 2 = 1 := of_decide_eq_false hw
    have b : v % 2 = 1 := of_decide_eq_true hv
    omega
  | succ i ih =>
    intro v w hw hv h
    rw [Nat.testBit_succ] at hw hv
    have := ih (v / 2) (w / 2) hw hv (fun j hj => by
      have := h (j + 1) (by omega)
      rw [Nat.testBit_succ, Nat.testBit_succ] at this; exact this)
    omega
/-- the lesser value has EMPTY at the first cell where they differ -/
theorem ns_bits {C v w : Nat} (hv : v < 2 ^ C) (hw : w < 2 ^ C) (h : v < w) : ∃ c, c < C ∧ (∀ q, q < c → v.testBit (C - 1 - q) = w.testBit (C - 1 - q)) ∧ v.testBit (C - 1 - c) = false ∧ w.testBit (C - 1 - c) = true := by
  have ex : ∃ c, c < C ∧ v.testBit (C - 1 - c) ≠ w.testBit (C - 1 - c) := by
    by_cases e : ∃ c, c < C ∧ v.testBit (C - 1 - c) ≠ w.testBit (C - 1 - c)
    · exact e
    · have : v = w := by
        refine Nat.eq_of_testBit_eq (fun i => ?_)
        by_cases hi : i < C
        · by_cases z : v.testBit i = w.testBit i
          · exact z
          · exact absurd ⟨C - 1 - i, by omega, by rw [show C - 1 - (C - 1 - i) = i by omega]; exact z⟩ e
        · rw [ns_off hv i (by omega), ns_off hw i (by omega)]
      omega
  obtain ⟨c, ⟨hc, hd⟩, hm⟩ := pk_least _ ex
  have hq : ∀ q, q < c → v.testBit (C - 1 - q) = w.testBit (C - 1 - q) := by
    intro q hqc
    by_cases z : v.testBit (C - 1 - q) = w.testBit (C - 1 - q)
    · exact z
    · exact absurd ⟨by omega, z⟩ (hm q hqc)
  refine ⟨c, hc, hq, ?_⟩
  have hi : ∀ j, C - 1 - c < j → w.testBit j = v.testBit j := by
    intro j hj
    by_cases hjC : j < C
    · have := hq (C - 1 - j) (by omega)
      rw [show C - 1 - (C - 1 - j) = j by omega] at this; exact this.symm
    · rw [ns_off hv j (by omega), ns_off hw j (by omega)]
  cases a : v.testBit (C - 1 - c) with
  | false =>
    cases b : w.testBit (C - 1 - c) with
    | false => rw [a, b] at hd; exact absurd rfl hd
    | true => exact ⟨rfl, rfl⟩
  | true =>
    cases b : w.testBit (C - 1 - c) with
    | false => have := ns_ltb (C - 1 - c) v w b a hi; omega
    | true => rw [a, b] at hd; exact absurd rfl hd
/-- rows alike before j, row j of lesser value: before in grid order -/
theorem ns_rm_lt {R C j v w : Nat} {A Z : Nat → Int32} (hA : ns_ok R C A) (hZ : ns_ok R C Z) (hC : C ≤ 8) (hv : v < 2 ^ C) (hw : w < 2 ^ C)
    (u : Nat → Nat) (ha : ∀ r, r < j → ns_rm C A r (u r)) (hz : ∀ r, r < j → ns_rm C Z r (u r)) (ka : ns_rm C A j v) (kz : ns_rm C Z j w) (h : v < w) : ns_lt A Z := by
  obtain ⟨c, hc, hq, b0, b1⟩ := ns_bits hv hw h
  refine ⟨j * 8 + c, fun q hqq => ?_, by rw [ka c hc, b0]; rfl, by rw [kz c hc, b1]; rfl⟩
  by_cases e : q % 8 < C
  · have eq : q / 8 * 8 + q % 8 = q := by omega
    by_cases l : q / 8 < j
    · have a := ha (q / 8) l (q % 8) e
      have b := hz (q / 8) l (q % 8) e
      rw [eq] at a b; rw [a, b]
    · have l' : q / 8 = j := by omega
      have a := ka (q % 8) e
      have b := kz (q % 8) e
      rw [← l', eq] at a b
      rw [a, b, hq (q % 8) (by omega)]
  · have n : ¬ ns_cg R C q := fun z => e z.2.2
    rw [(hA q).2 n, (hZ q).2 n]
/-- what remains: rows below j as chosen, row j at w j or beyond -/
def ns_YR (C d : Nat) (w : Nat → Nat) (Z : Nat → Int32) : Prop :=
  ∃ j, j ≤ d ∧ (∀ r, r < j → ns_rm C Z r (w r - 1)) ∧ ∃ v, w j ≤ v ∧ v < 2 ^ C ∧ ns_rm C Z j v
section
variable {R C : Nat} {S : Nat → Nat → Prop} {g : Nat → Int32}
theorem ns_sol_rm {Z : Nat → Int32} {r : Nat} (hR : R ≤ 8) (hC : C ≤ 8) (h : ns_sol R C S g Z) (hr : r < R) : ∃ v, v < 2 ^ C ∧ ns_rm C Z r v := by
  refine ns_rm_ex (fun c hc => ?_)
  rcases (h.1 (r * 8 + c)).1 with z | z | z
  · exact absurd z (h.2.1 _ ⟨by omega, by omega, by omega⟩)
  · exact Or.inl z
  · exact Or.inr z
/-- no solution has the chosen rows and value v in row d -/
def ns_no (R C : Nat) (S : Nat → Nat → Prop) (g : Nat → Int32) (d : Nat) (w : Nat → Nat) (v : Nat) : Prop :=
  ∀ Z, ns_sol R C S g Z → (∀ r, r < d → ns_rm C Z r (w r - 1)) → ¬ ns_rm C Z d v
/-- a value is found in a row that isn't the last -/
theorem ns_YR_down {d v : Nat} {w w' : Nat → Nat} {Z : Nat → Int32} (hR : R ≤ 8) (hC : C ≤ 8) (hZ : ns_sol R C S g Z) (hd : d + 1 < R)
    (hv : w d ≤ v) (hv2 : v < 2 ^ C) (hn : ∀ u, w d ≤ u → u < v → ns_no R C S g d w u)
    (hw : ∀ r, r < d → w' r = w r) (hwd : w' d = v + 1) (hw1 : w' (d + 1) = 0) : ns_YR C d w Z ↔ ns_YR C (d + 1) w' Z := by
  constructor
  · rintro ⟨j, hj, hr, u, hu, hu2, hm⟩
    by_cases e : j = d
    · subst e
      by_cases l : u < v
      · exact absurd hm (hn u hu l Z hZ hr)
      · by_cases l' : u = v
        · subst l'
          obtain ⟨x, hx, hxm⟩ := ns_sol_rm hR hC hZ hd
          refine ⟨j + 1, by omega, fun r hrj => ?_, x, by omega, hx, hxm⟩
          by_cases er : r = j
          · subst er; rw [hwd]; exact hm
          · rw [hw r (by omega)]; exact hr r (by omega)
        · exact ⟨j, by omega, fun r hrj => by rw [hw r hrj]; exact hr r hrj, u, by omega, hu2, hm⟩
    · exact ⟨j, by omega, fun r hrj => by rw [hw r (by omega)]; exact hr r hrj, u, by rw [hw j (by omega)]; exact hu, hu2, hm⟩
  · rintro ⟨j, hj, hr, u, hu, hu2, hm⟩
    by_cases e : j = d + 1
    · subst e
      refine ⟨d, by omega, fun r hrd => by rw [← hw r hrd]; exact hr r (by omega), v, hv, hv2, ?_⟩
      have := hr d (by omega)
      rw [hwd] at this; exact this
    · by_cases e' : j = d
      · subst e'
        exact ⟨j, by omega, fun r hrj => by rw [← hw r hrj]; exact hr r hrj, u, by omega, hu2, hm⟩
      · exact ⟨j, by omega, fun r hrj => by rw [← hw r (by omega)]; exact hr r hrj, u, by rw [← hw j (by omega)]; exact hu, hu2, hm⟩
/-- row d has no further value -/
theorem ns_YR_up {d : Nat} {w : Nat → Nat} {Z : Nat → Int32} (hZ : ns_sol R C S g Z) (hn : ∀ u, w (d + 1) ≤ u → u < 2 ^ C → ns_no R C S g (d + 1) w u) : ns_YR C (d + 1) w Z ↔ ns_YR C d w Z := by
  constructor
  · rintro ⟨j, hj, hr, u, hu, hu2, hm⟩
    by_cases e : j = d + 1
    · subst e; exact absurd hm (hn u hu hu2 Z hZ hr)
    · exact ⟨j, by omega, hr, u, hu, hu2, hm⟩
  · rintro ⟨j, hj, hr, u, hu, hu2, hm⟩
    exact ⟨j, by omega, hr, u, hu, hu2, hm⟩
theorem ns_YR_none {w : Nat → Nat} {Z : Nat → Int32} (hZ : ns_sol R C S g Z) (hn : ∀ u, w 0 ≤ u → u < 2 ^ C → ns_no R C S g 0 w u) : ¬ ns_YR C 0 w Z := by
  rintro ⟨j, hj, hr, u, hu, hu2, hm⟩
  have : j = 0 := by omega
  subst this
  exact hn u hu hu2 Z hZ hr hm
end
end
section
/-! Y's search, one step -/
/-- the grid with rows below d as chosen, the others as given -/
def ns_gd (C : Nat) (g : Nat → Int32) (d : Nat) (w : Nat → Nat) : Nat → Int32 := fun j =>
  if j / 8 < d ∧ j % 8 < C then (if (w (j / 8) - 1).testBit (C - 1 - j % 8) = true then 2 else 1) else g j
/-- value v of row r stands for filling p -/
def ns_vp (C v p : Nat) : Prop := p < 2 ^ C ∧ ∀ c, c < C → p.testBit c = v.testBit (C - 1 - c)
theorem ns_gd_in {C d r c : Nat} {g : Nat → Int32} {w : Nat → Nat} (hC : C ≤ 8) (hr : r < d) (hc : c < C) : ns_gd C g d w (r * 8 + c) = if (w r - 1).testBit (C - 1 - c) = true then 2 else 1 := by
  have e1 : (r * 8 + c) / 8 = r := by omega
  have e2 : (r * 8 + c) % 8 = c := by omega
  simp only [ns_gd, e1, e2]
  rw [if_pos ⟨hr, hc⟩]
theorem ns_gd_out {C d j : Nat} {g : Nat → Int32} {w : Nat → Nat} (h : ¬ (j / 8 < d ∧ j % 8 < C)) : ns_gd C g d w j = g j := by
  simp only [ns_gd]; rw [if_neg h]
theorem ns_gd_rm {C d r : Nat} {g : Nat → Int32} {w : Nat → Nat} (hC : C ≤ 8) (hr : r < d) : ns_rm C (ns_gd C g d w) r (w r - 1) := fun _ hc => ns_gd_in hC hr hc
theorem ns_gd_le {C d : Nat} {g Z : Nat → Int32} {w : Nat → Nat} (h : ns_le g Z) (k : ∀ r, r < d → ns_rm C Z r (w r - 1)) : ns_le (ns_gd C g d w) Z := by
  intro j hj
  by_cases e : j / 8 < d ∧ j % 8 < C
  · have := k (j / 8) e.1 (j % 8) e.2
    rw [show j / 8 * 8 + j % 8 = j by omega] at this
    rw [this]; simp only [ns_gd]; rw [if_pos e]
  · rw [ns_gd_out e] at hj ⊢; exact h j hj
theorem ns_gd_eq {C d : Nat} {g : Nat → Int32} {w w' : Nat → Nat} (h : ∀ r, r < d → w' r = w r) : ns_gd C g d w' = ns_gd C g d w := by
  funext j
  simp only [ns_gd]
  by_cases e : j / 8 < d ∧ j % 8 < C
  · rw [if_pos e, if_pos e, h _ e.1]
  · rw [if_neg e, if_neg e]
theorem ns_gd_ok {R C d : Nat} {g : Nat → Int32} {w : Nat → Nat} (hR : R ≤ 8) (hd : d ≤ R) (hg : ns_ok R C g) : ns_ok R C (ns_gd C g d w) := by
  intro j
  by_cases e : j / 8 < d ∧ j % 8 < C
  · refine ⟨?_, fun z => absurd ⟨by omega, by omega, e.2⟩ z⟩
    simp only [ns_gd]; rw [if_pos e]; split
    · exact Or.inr (Or.inr rfl)
    · exact Or.inr (Or.inl rfl)
  · rw [ns_gd_out e]; exact hg j
theorem ns_vp_ex (C v : Nat) : ∃ p, ns_vp C v p := by
  obtain ⟨p, hp, hb⟩ := ns_mk (fun c => v.testBit (C - 1 - c)) C
  exact ⟨p, hp, hb⟩
theorem ns_vp_uq {C v p q : Nat} (h : ns_vp C v p) (k : ns_vp C v q) : p = q := by
  refine Nat.eq_of_testBit_eq (fun i => ?_)
  by_cases hi : i < C
  · rw [h.2 i hi, k.2 i hi]
  · rw [ns_off h.1 i (by omega), ns_off k.1 i (by omega)]
section
variable {R C : Nat} {S : Nat → Nat → Prop} {g : Nat → Int32}
/-- the filling of row d of a grid whose row d has value v -/
theorem ns_rm_cons {Z : Nat → Int32} {d v p q : Nat} (hd : d < 8) (hS : ∀ a x, S a x → x < 2 ^ ns_len R C a) (hm : ns_rm C Z d v) (hp : ns_vp C v p) (hq : ns_cons R C S Z d q) : q = p := by
  have hlen : ns_len R C d = C := by simp [ns_len, hd]
  refine Nat.eq_of_testBit_eq (fun i => ?_)
  by_cases hi : i < C
  · rw [hp.2 i hi]
    have a := hq.2 i (by rw [hlen]; exact hi)
    rw [ns_lc_row hd, hm i hi] at a
    cases e : v.testBit (C - 1 - i) with
    | true => rw [e] at a; exact a.1 (by simp)
    | false => rw [e] at a; exact a.2 (by simp)
  · have l := hS d q hq.1
    rw [hlen] at l
    rw [ns_off l i (by omega), ns_off hp.1 i (by omega)]
/-- a value is refused: its filling doesn't fit the row, or a column has no filling left -/
theorem ns_no_row {d v p : Nat} {w : Nat → Nat} (hd : d < R) (hR : R ≤ 8) (hS : ∀ a x, S a x → x < 2 ^ ns_len R C a) (hp : ns_vp C v p) (h : ¬ ns_cons R C S (ns_gd C g d w) d p) : ns_no R C S g d w v := by
  intro Z hZ hr hm
  obtain ⟨q, hq⟩ := hZ.2.2.2 d ⟨by omega, fun _ => hd, fun z => by omega⟩
  have := ns_rm_cons (by omega) hS hm hp hq
  subst this
  exact h (ns_cons_le (ns_gd_le hZ.2.2.1 hr) hq)
theorem ns_no_col {d v a : Nat} {w w' : Nat → Nat} (ha : ns_ing R C a) (hw : ∀ r, r < d → w' r = w r) (hwd : w' d = v + 1) (h : ¬ ∃ q, ns_cons R C S (ns_gd C g (d + 1) w') a q) : ns_no R C S g d w v := by
  intro Z hZ hr hm
  obtain ⟨q, hq⟩ := hZ.2.2.2 a ha
  refine h ⟨q, ns_cons_le (ns_gd_le hZ.2.2.1 (fun r hrd => ?_)) hq⟩
  by_cases e : r = d
  · subst e; rw [hwd]; exact hm
  · rw [hw r (by omega)]; exact hr r (by omega)
/-- the fillings of row r by value, from x on -/
def ns_sv (C : Nat) (S : Nat → Nat → Prop) (r x v : Nat) : Prop := x ≤ v ∧ ∃ p, ns_vp C v p ∧ S r p
noncomputable def ns_Kv (C : Nat) (S : Nat → Nat → Prop) (r x : Nat) : Nat := ns_ct (ns_sv C S r x) (2 ^ C)
theorem ns_ct_pair {Q : Nat → Prop} : ∀ m, (∀ i, i < m → Q (2 * i) → ¬ Q (2 * i + 1)) → ns_ct Q (2 * m) ≤ m := by
  intro m
  induction m with
  | zero => intro _; exact Nat.le_refl _
  | succ m ih =>
    intro h
    have := ih (fun i hi => h i (by omega))
    rw [show 2 * (m + 1) = 2 * m + 1 + 1 by omega]
    by_cases e1 : Q (2 * m + 1)
    · by_cases e0 : Q (2 * m)
      · exact absurd e1 (h m (by omega) e0)
      · rw [ns_ct_t e1, ns_ct_f e0]; omega
    · rw [ns_ct_f e1]
      by_cases e0 : Q (2 * m)
      · rw [ns_ct_t e0]; omega
      · rw [ns_ct_f e0]; omega
theorem ns_Kv_128 {r x : Nat} (hC : C ≤ 8) (hC0 : 0 < C) (hp : ∀ p q, S r p → S r q → ns_pop (fun i => p.testBit i) 9 = ns_pop (fun i => q.testBit i) 9) : ns_Kv C S r x ≤ 128 := by
  have e2 : 2 ^ C = 2 * 2 ^ (C - 1) := by
    rw [show C = C - 1 + 1 by omega, Nat.pow_succ]; simp; omega
  unfold ns_Kv
  rw [e2]
  refine Nat.le_trans (ns_ct_pair _ (fun i _ h0 h1 => ?_)) (Nat.pow_le_pow_right (n := 2) (by omega) (by omega : C - 1 ≤ 7))
  obtain ⟨_, p, hp0, s0⟩ := h0
  obtain ⟨_, q, hq0, s1⟩ := h1
  have e := hp p q s0 s1
  rw [show (9 : Nat) = C + (9 - C) by omega, ns_pop_tail (ns_off hp0.1), ns_pop_tail (ns_off hq0.1)] at e
  rw [show C = C - 1 + 1 by omega] at e
  simp only [ns_pop] at e
  have same : ∀ n, n ≤ C - 1 → ns_pop (fun i => p.testBit i) n = ns_pop (fun i => q.testBit i) n := by
    intro n
    induction n with
    | zero => intro _; rfl
    | succ n ih =>
      intro hn
      simp only [ns_pop]
      have a := hp0.2 n (by omega)
      have b := hq0.2 n (by omega)
      rw [show C - 1 - n = (C - 1 - n - 1) + 1 by omega, Nat.testBit_succ] at a b
      rw [show 2 * i / 2 = i by omega] at a
      rw [show (2 * i + 1) / 2 = i by omega] at b
      have ab : p.testBit n = q.testBit n := a.trans b.symm
      rw [ih (by omega)]; simp only [ab]
  have a := hp0.2 (C - 1) (by omega)
  have b := hq0.2 (C - 1) (by omega)
  rw [show C - 1 - (C - 1) = 0 by omega, Nat.testBit_zero] at a b
  have a' : p.testBit (C - 1) = false := by rw [a]; simp
  have b' : q.testBit (C - 1) = true := by rw [b]; simp
  have sm : ns_pop p.testBit (C - 1) = ns_pop q.testBit (C - 1) := same (C - 1) (Nat.le_refl _)
  simp [a', b'] at e
  omega
noncomputable def ns_Ps (R C : Nat) (S : Nat → Nat → Prop) (w : Nat → Nat) : Nat → Nat
  | 0 => 0
  | d + 1 => ns_Ps R C S w d + 1 + ns_Kv C S d (w d) * 130 ^ (R - 1 - d)
theorem ns_Ps_eq {w w' : Nat → Nat} : ∀ d, (∀ r, r < d → w' r = w r) → ns_Ps R C S w' d = ns_Ps R C S w d := by
  intro d
  induction d with
  | zero => intro _; rfl
  | succ d ih => intro h; simp only [ns_Ps]; rw [ih (fun r hr => h r (by omega)), h d (by omega)]
theorem ns_Kv_lt {r x v p : Nat} (hx : x ≤ v) (hv : v < 2 ^ C) (hp : ns_vp C v p) (hs : S r p) : ns_Kv C S r (v + 1) < ns_Kv C S r x :=
  ns_ct_lt (p := v) ⟨hx, p, hp, hs⟩ (fun z => by have := z.1; omega) _ hv (fun q _ z => ⟨by have := z.1; omega, z.2⟩)
theorem ns_Ps_last {d v p : Nat} {w w' : Nat → Nat} (hv : w d ≤ v) (hv2 : v < 2 ^ C) (hp : ns_vp C v p) (hs : S d p) (hw : ∀ r, r < d → w' r = w r) (hwd : w' d = v + 1) :
    ns_Ps R C S w' (d + 1) + 1 ≤ ns_Ps R C S w (d + 1) := by
  have k := ns_Kv_lt (r := d) hv hv2 hp hs
  simp only [ns_Ps]
  rw [ns_Ps_eq d hw, hwd]
  have pos : 0 < 130 ^ (R - 1 - d) := Nat.pow_pos (by omega)
  generalize 130 ^ (R - 1 - d) = X at pos ⊢
  have m := Nat.mul_le_mul_right X (show ns_Kv C S d (v + 1) + 1 ≤ ns_Kv C S d (w d) from k)
  rw [Nat.succ_mul] at m
  omega
theorem ns_Ps_down {d v p : Nat} {w w' : Nat → Nat} (hC : C ≤ 8) (hC0 : 0 < C) (hP : ∀ r p q, S r p → S r q → ns_pop (fun i => p.testBit i) 9 = ns_pop (fun i => q.testBit i) 9)
    (hd : d + 1 < R) (hv : w d ≤ v) (hv2 : v < 2 ^ C) (hp : ns_vp C v p) (hs : S d p) (hw : ∀ r, r < d → w' r = w r) (hwd : w' d = v + 1) (hw1 : w' (d + 1) = 0) :
    ns_Ps R C S w' (d + 2) + 1 ≤ ns_Ps R C S w (d + 1) := by
  have k := ns_Kv_lt (r := d) hv hv2 hp hs
  have k2 := ns_Kv_128 (r := d + 1) (x := 0) hC hC0 (hP (d + 1))
  show ns_Ps R C S w' (d + 1) + 1 + ns_Kv C S (d + 1) (w' (d + 1)) * 130 ^ (R - 1 - (d + 1)) + 1 ≤ _
  simp only [ns_Ps]
  rw [ns_Ps_eq d hw, hwd, hw1]
  have eX : 130 ^ (R - 1 - d) = 130 ^ (R - 1 - (d + 1)) * 130 := by
    rw [← Nat.pow_succ]; congr 1; omega
  rw [eX]
  have pos : 0 < 130 ^ (R - 1 - (d + 1)) := Nat.pow_pos (by omega)
  generalize 130 ^ (R - 1 - (d + 1)) = X at pos ⊢
  have m := Nat.mul_le_mul_right (X * 130) (show ns_Kv C S d (v + 1) + 1 ≤ ns_Kv C S d (w d) from k)
  rw [Nat.succ_mul] at m
  have m2 := Nat.mul_le_mul_right X k2
  omega
theorem ns_Ps_0 {w : Nat → Nat} (hR : R ≤ 8) (hC : C ≤ 8) (hC0 : 0 < C) (hP : ∀ r p q, S r p → S r q → ns_pop (fun i => p.testBit i) 9 = ns_pop (fun i => q.testBit i) 9) : ns_Ps R C S w 1 ≤ 130 ^ 8 := by
  have k := ns_Kv_128 (r := 0) (x := w 0) hC hC0 (hP 0)
  have p7 : 130 ^ (R - 1 - 0) ≤ 130 ^ 7 := Nat.pow_le_pow_right (by omega) (by omega)
  have m := Nat.mul_le_mul k p7
  have e : 128 * 130 ^ 7 + 1 ≤ 130 ^ 8 := by decide
  simp only [ns_Ps]
  omega
end
end
section
/-! Y's search: what its loop keeps -/
def ns_ch (R C : Nat) (S : Nat → Nat → Prop) (g : Nat → Int32) (w : Nat → Nat) (r : Nat) : Prop :=
  1 ≤ w r ∧ w r ≤ 2 ^ C ∧ ∃ p, ns_vp C (w r - 1) p ∧ S r p ∧ ns_ag R C g r p
def ns_YL (R C : Nat) (S : Nat → Nat → Prop) (g : Nat → Int32) (t f : Nat) (A B : Nat → Int32) (d : Nat) (w : Nat → Nat) : Prop :=
  d < R ∧ f < 2 ∧ ns_inv (ns_sol R C S g) f A B (ns_YR C d w) ∧ (∀ r, r < d → ns_ch R C S g w r) ∧ t + ns_Ps R C S w (d + 1) ≤ 130 ^ 8
section
variable {R C : Nat} {S : Nat → Nat → Prop} {g : Nat → Int32}
theorem ns_YL_t {t f d : Nat} {A B : Nat → Int32} {w : Nat → Nat} (h : ns_YL R C S g t f A B d w) : t < 2 ^ 62 := by
  have := h.2.2.2.2
  have e : 130 ^ 8 < 2 ^ 62 := by decide
  omega
theorem ns_YL_0 {A B : Nat → Int32} {w : Nat → Nat} (hR0 : 0 < R) (hR : R ≤ 8) (hC : C ≤ 8) (hC0 : 0 < C) (hP : ∀ r p q, S r p → S r q → ns_pop (fun i => p.testBit i) 9 = ns_pop (fun i => q.testBit i) 9) (hw : w 0 = 0) :
    ns_YL R C S g 0 0 A B 0 w := by
  refine ⟨hR0, by omega, ns_inv_0 A B (fun Z hZ => ?_), fun r hr => absurd hr (by omega), by have h := ns_Ps_0 (S := S) (w := w) hR hC hC0 hP; show 0 + ns_Ps R C S w 1 ≤ _; omega⟩
  obtain ⟨v, hv, hm⟩ := ns_sol_rm hR hC hZ hR0
  exact ⟨0, by omega, fun r hr => absurd hr (by omega), v, by omega, hv, hm⟩
/-- the filling of value v fits row d: the row is chosen -/
theorem ns_ch_new {d v p : Nat} {w w' : Nat → Nat} (hd : d < R) (hR : R ≤ 8) (hC : C ≤ 8) (hv2 : v < 2 ^ C) (hp : ns_vp C v p) (hc : ns_cons R C S (ns_gd C g d w) d p) (hwd : w' d = v + 1) : ns_ch R C S g w' d := by
  have d8 : d < 8 := by omega
  have hlen : ns_len R C d = C := by simp [ns_len, d8]
  unfold ns_ch
  rw [hwd]
  refine ⟨by omega, by omega, p, hp, hc.1, fun i hi => ?_⟩
  have := hc.2 i hi
  rw [hlen] at hi
  rw [ns_gd_out (j := ns_lc d i) (by rw [ns_lc_row d8]; omega)] at this
  exact this
theorem ns_ch_old {r : Nat} {w w' : Nat → Nat} (h : ns_ch R C S g w r) (e : w' r = w r) : ns_ch R C S g w' r := by
  unfold ns_ch; rw [e]; exact h
theorem ns_YL_down {t f d v p : Nat} {A B : Nat → Int32} {w w' : Nat → Nat} (hR : R ≤ 8) (hC : C ≤ 8) (hC0 : 0 < C) (hP : ∀ r p q, S r p → S r q → ns_pop (fun i => p.testBit i) 9 = ns_pop (fun i => q.testBit i) 9)
    (h : ns_YL R C S g t f A B d w) (hd : d + 1 < R) (hv : w d ≤ v) (hv2 : v < 2 ^ C) (hn : ∀ u, w d ≤ u → u < v → ns_no R C S g d w u)
    (hp : ns_vp C v p) (hc : ns_cons R C S (ns_gd C g d w) d p) (hw : ∀ r, r < d → w' r = w r) (hwd : w' d = v + 1) (hw1 : w' (d + 1) = 0) :
    ns_YL R C S g (t + 1) f A B (d + 1) w' := by
  obtain ⟨h1, h2, h3, h4, h5⟩ := h
  refine ⟨hd, h2, ns_inv_to h3 (fun Z hZ => ns_YR_down hR hC hZ hd hv hv2 hn hw hwd hw1), fun r hr => ?_, ?_⟩
  · by_cases e : r = d
    · subst e; exact ns_ch_new h1 hR hC hv2 hp hc hwd
    · exact ns_ch_old (h4 r (by omega)) (hw r (by omega))
  · have h := ns_Ps_down (R := R) hC hC0 hP hd hv hv2 hp hc.1 hw hwd hw1
    show t + 1 + ns_Ps R C S w' (d + 2) ≤ _
    omega
theorem ns_YL_up {t f d : Nat} {A B : Nat → Int32} {w : Nat → Nat} (h : ns_YL R C S g t f A B (d + 1) w) (hn : ∀ u, w (d + 1) ≤ u → u < 2 ^ C → ns_no R C S g (d + 1) w u) : ns_YL R C S g (t + 1) f A B d w := by
  obtain ⟨h1, h2, h3, h4, h5⟩ := h
  refine ⟨by omega, h2, ns_inv_to h3 (fun Z hZ => ns_YR_up hZ hn), fun r hr => h4 r (by omega), ?_⟩
  have e : ns_Ps R C S w (d + 2) = ns_Ps R C S w (d + 1) + 1 + ns_Kv C S (d + 1) (w (d + 1)) * 130 ^ (R - 1 - (d + 1)) := rfl
  have h5' : t + ns_Ps R C S w (d + 2) ≤ 130 ^ 8 := h5
  omega
theorem ns_YL_none {t f : Nat} {A B : Nat → Int32} {w : Nat → Nat} (h : ns_YL R C S g t f A B 0 w) (hn : ∀ u, w 0 ≤ u → u < 2 ^ C → ns_no R C S g 0 w u) : ns_spec (ns_sol R C S g) f A B :=
  ns_inv_end h.2.2.1 (fun _ hZ => ns_YR_none hZ hn)
/-- the grid with all rows chosen and all columns possible is a solution -/
theorem ns_gd_sol {w : Nat → Nat} (hR : R ≤ 8) (hC : C ≤ 8) (hg : ns_ok R C g) (hc : ∀ r, r < R → ns_ch R C S g w r) (hk : ∀ a, 8 ≤ a → ns_ing R C a → ∃ q, ns_cons R C S (ns_gd C g R w) a q) : ns_sol R C S g (ns_gd C g R w) := by
  have val : ∀ r c, r < R → c < C → ns_gd C g R w (r * 8 + c) = if (w r - 1).testBit (C - 1 - c) = true then 2 else 1 := fun r c hr hc' => ns_gd_in hC hr hc'
  refine ⟨ns_gd_ok hR (Nat.le_refl R) hg, fun j hj => ?_, fun j hj => ?_, fun a ha => ?_⟩
  · have := val (j / 8) (j % 8) hj.2.1 hj.2.2
    rw [show j / 8 * 8 + j % 8 = j by omega] at this
    rw [this]; split <;> decide
  · by_cases e : j / 8 < R ∧ j % 8 < C
    · obtain ⟨_, _, p, hp, _, hag⟩ := hc (j / 8) e.1
      have r8 : j / 8 < 8 := by omega
      have a := hag (j % 8) (by simp [ns_len, r8]; exact e.2)
      have v := val (j / 8) (j % 8) e.1 e.2
      rw [ns_lc_row r8, hp.2 _ e.2] at a
      rw [show j / 8 * 8 + j % 8 = j by omega] at a v
      rw [v]
      rcases (hg j).1 with z | z | z
      · exact absurd z hj
      · rw [a.2 z, z]; rfl
      · rw [a.1 z, z]; rfl
    · exact ns_gd_out e
  · by_cases a8 : a < 8
    · have ar := ha.2.1 a8
      obtain ⟨_, _, p, hp, hs, _⟩ := hc a ar
      refine ⟨p, hs, fun i hi => ?_⟩
      have hlen : ns_len R C a = C := by simp [ns_len, a8]
      rw [hlen] at hi
      rw [ns_lc_row a8, val a i ar hi, hp.2 i hi]
      cases e : (w a - 1).testBit (C - 1 - i) with
      | true => exact ⟨fun _ => rfl, fun z => absurd z (by decide)⟩
      | false => exact ⟨fun z => absurd z (by decide), fun _ => rfl⟩
    · exact hk a (by omega) ha
theorem ns_YL_last {t f d v p : Nat} {A B : Nat → Int32} {w w' : Nat → Nat} (hR : R ≤ 8) (hC : C ≤ 8) (hg : ns_ok R C g)
    (h : ns_YL R C S g t f A B d w) (hd : d + 1 = R) (hv : w d ≤ v) (hv2 : v < 2 ^ C) (hn : ∀ u, w d ≤ u → u < v → ns_no R C S g d w u)
    (hp : ns_vp C v p) (hc : ns_cons R C S (ns_gd C g d w) d p) (hw : ∀ r, r < d → w' r = w r) (hwd : w' d = v + 1)
    (hk : ∀ a, 8 ≤ a → ns_ing R C a → ∃ q, ns_cons R C S (ns_gd C g R w') a q) :
    ns_inv (ns_sol R C S g) (f + 1) (if f = 0 then ns_gd C g R w' else A) (if f = 0 then B else ns_gd C g R w') (ns_YR C d w') ∧
    (∀ r, r < d → ns_ch R C S g w' r) ∧ t + 1 + ns_Ps R C S w' (d + 1) ≤ 130 ^ 8 := by
  obtain ⟨h1, h2, h3, h4, h5⟩ := h
  have chd : ∀ r, r < R → ns_ch R C S g w' r := by
    intro r hr
    by_cases e : r = d
    · subst e; exact ns_ch_new h1 hR hC hv2 hp hc hwd
    · exact ns_ch_old (h4 r (by omega)) (hw r (by omega))
  have sD := ns_gd_sol hR hC hg chd hk
  have rmD : ∀ r, r < R → ns_rm C (ns_gd C g R w') r (w' r - 1) := fun r hr => ns_gd_rm hC hr
  have k : ∀ Z, ns_sol R C S g Z → ns_YR C d w Z → Z = ns_gd C g R w' ∨ ns_YR C d w' Z := by
    rintro Z hZ ⟨j, hj, hr, u, hu, hu2, hm⟩
    by_cases e : j = d
    · subst e
      by_cases l : u < v
      · exact absurd hm (hn u hu l Z hZ hr)
      · by_cases l' : u = v
        · subst l'
          refine Or.inl (ns_full_le sD.2.1 hZ.1 (ns_gd_le hZ.2.2.1 (fun r hrR => ?_)) sD.1)
          by_cases er : r = j
          · subst er; rw [hwd]; exact hm
          · rw [hw r (by omega)]; exact hr r (by omega)
        · exact Or.inr ⟨j, Nat.le_refl j, fun r hrj => by rw [hw r hrj]; exact hr r hrj, u, by omega, hu2, hm⟩
    · exact Or.inr ⟨j, hj, fun r hrj => by rw [hw r (by omega)]; exact hr r hrj, u, by rw [hw j (by omega)]; exact hu, hu2, hm⟩
  have o : ∀ Z, ns_sol R C S g Z → ns_YR C d w' Z → ns_lt (ns_gd C g R w') Z := by
    rintro Z hZ ⟨j, hj, hr, u, hu, hu2, hm⟩
    have c := chd j (by omega)
    exact ns_rm_lt (u := fun r => w' r - 1) sD.1 hZ.1 hC (by have := c.1; have := c.2.1; omega) hu2 (fun r hrj => rmD r (by omega)) hr (rmD j (by omega)) hm (by have := c.1; omega)
  have rD : ns_YR C d w (ns_gd C g R w') := by
    refine ⟨d, Nat.le_refl d, fun r hrd => by rw [← hw r hrd]; exact rmD r (by omega), v, hv, hv2, ?_⟩
    have := rmD d (by omega)
    rw [hwd] at this; exact this
  refine ⟨?_, fun r hr => chd r (by omega), ?_⟩
  · by_cases e : f = 0
    · subst e; rw [if_pos rfl, if_pos rfl]; exact ns_inv_A h3 sD k o
    · have e1 : f = 1 := by omega
      subst e1
      rw [if_neg (by omega), if_neg (by omega)]; exact ns_inv_B h3 sD rD k o
  · have := ns_Ps_last (R := R) hv hv2 hp hc.1 hw hwd
    omega
end
end
section
/-! the totals of rows and columns agree in a solution -/
section
variable {R C : Nat} {cc : Nat → Nat} {cl g Z : Nat → Int32}
/-- a line's clue sum is the number of its FILLED cells -/
theorem ns_sol_fc {a : Nat} (hR : R ≤ 8) (hC : C ≤ 8) (h : ns_sol R C (ns_S R C cc cl) g Z) (ha : ns_ing R C a) : ns_sm (fun k => cl (a * 4 + k)) (cc a) = nI (ns_fc Z a (ns_len R C a)) := by
  obtain ⟨p, hp⟩ := h.2.2.2 a ha
  have e : ns_fc Z a (ns_len R C a) = ns_pop (fun i => p.testBit i) (ns_len R C a) := by
    refine ns_fc_pop _ (fun i hi => ?_)
    have k := hp.2 i hi
    have cgi := ns_lc_cg hR hC ha hi
    constructor
    · intro t
      rcases (h.1 (ns_lc a i)).1 with z | z | z
      · exact absurd z (h.2.1 _ cgi)
      · rw [k.2 z] at t; exact nomatch t
      · exact z
    · exact k.1
  rw [e]
  exact ns_sat_sm (ns_off hp.1.1 _ (Nat.le_refl _)) hp.1.2
theorem ns_fc_row {r : Nat} (hr : r < 8) : ∀ n, ns_fc Z r n = ns_s1 (fun c => if Z (r * 8 + c) = 2 then 1 else 0) n := by
  intro n
  induction n with
  | zero => rfl
  | succ n ih => simp only [ns_fc, ns_s1]; rw [ih, ns_lc_row hr]
theorem ns_fc_col {c : Nat} : ∀ n, ns_fc Z (8 + c) n = ns_s1 (fun r => if Z (r * 8 + c) = 2 then 1 else 0) n := by
  intro n
  induction n with
  | zero => rfl
  | succ n ih =>
    simp only [ns_fc, ns_s1]
    rw [ih, ns_lc_col (by omega), show 8 + c - 8 = c by omega]
/-- the difference that X reckons, line by line: lines outside the grid have no numbers -/
def ns_df (cc : Nat → Nat) (cl : Nat → Int32) : Nat → Int32
  | 0 => 0
  | a + 1 => ns_df cc cl a + (if a < 8 then ns_sm (fun k => cl (a * 4 + k)) (cc a) else - ns_sm (fun k => cl (a * 4 + k)) (cc a))
theorem ns_df_row (hR : R ≤ 8) (hC : C ≤ 8) (h : ns_sol R C (ns_S R C cc cl) g Z) (h0 : ∀ a, a < 16 → ¬ ns_ing R C a → cc a = 0) :
    ∀ n, n ≤ 8 → ns_df cc cl n = nI (ns_s1 (fun r => if r < R then ns_fc Z r C else 0) n) := by
  intro n
  induction n with
  | zero => intro _; rfl
  | succ n ih =>
    intro hn
    simp only [ns_df, ns_s1]
    rw [ih (by omega), if_pos (by omega), ← nI_add]
    congr 1
    by_cases e : n < R
    · have := ns_sol_fc (a := n) hR hC h ⟨by omega, fun _ => e, fun z => by omega⟩
      rw [this, if_pos e]; simp [ns_len, show n < 8 by omega]
    · rw [if_neg e, h0 n (by omega) (fun z => e (z.2.1 (by omega)))]; exact nI_0.symm
theorem ns_df_col (hR : R ≤ 8) (hC : C ≤ 8) (h : ns_sol R C (ns_S R C cc cl) g Z) (h0 : ∀ a, a < 16 → ¬ ns_ing R C a → cc a = 0) :
    ∀ n, n ≤ 8 → ns_df cc cl (8 + n) + nI (ns_s1 (fun c => if c < C then ns_fc Z (8 + c) R else 0) n) = ns_df cc cl 8 := by
  intro n
  induction n with
  | zero => intro _; show ns_df cc cl 8 + nI 0 = _; rw [nI_0, Int32.add_zero]
  | succ n ih =>
    intro hn
    have e1 : ns_df cc cl (8 + (n + 1)) = ns_df cc cl (8 + n) + - ns_sm (fun k => cl ((8 + n) * 4 + k)) (cc (8 + n)) := by
      show ns_df cc cl (8 + n) + (if 8 + n < 8 then ns_sm (fun k => cl ((8 + n) * 4 + k)) (cc (8 + n)) else - ns_sm (fun k => cl ((8 + n) * 4 + k)) (cc (8 + n))) = _
      rw [if_neg (by omega)]
    have e2 : ns_sm (fun k => cl ((8 + n) * 4 + k)) (cc (8 + n)) = nI (if n < C then ns_fc Z (8 + n) R else 0) := by
      by_cases e : n < C
      · have := ns_sol_fc (a := 8 + n) hR hC h ⟨by omega, fun z => by omega, fun _ => by omega⟩
        rw [this, if_pos e]; simp [ns_len, show ¬ 8 + n < 8 by omega]
      · rw [if_neg e, h0 (8 + n) (by omega) (fun z => e (by have := z.2.2 (by omega); omega))]; exact nI_0.symm
    simp only [ns_s1]
    rw [e1, e2, ← nI_add, ← ih (by omega)]
    generalize ns_df cc cl (8 + n) = x
    generalize nI (ns_s1 (fun c => if c < C then ns_fc Z (8 + c) R else 0) n) = y
    generalize nI (if n < C then ns_fc Z (8 + n) R else 0) = z
    grind
theorem ns_df_0 (hR : R ≤ 8) (hC : C ≤ 8) (h : ns_sol R C (ns_S R C cc cl) g Z) (h0 : ∀ a, a < 16 → ¬ ns_ing R C a → cc a = 0) : ns_df cc cl 16 = 0 := by
  have a := ns_df_row hR hC h h0 8 (by omega)
  have b := ns_df_col hR hC h h0 8 (by omega)
  have cut : ∀ (x : Nat → Nat) (m : Nat), m ≤ 8 → ∀ n, m ≤ n → ns_s1 (fun i => if i < m then x i else 0) n = ns_s1 x m := by
    intro x m _ n
    induction n with
    | zero => intro hm; have : m = 0 := by omega
              subst this; rfl
    | succ n ih =>
      intro hm
      by_cases e : m = n + 1
      · subst e; exact ns_s1_eq _ (fun i hi => by rw [if_pos hi])
      · simp only [ns_s1]; rw [ih (by omega), if_neg (by omega)]; rfl
  rw [cut _ R hR 8 hR] at a
  rw [cut _ C hC 8 hC] at b
  have e : ns_s1 (fun r => ns_fc Z r C) R = ns_s1 (fun c => ns_fc Z (8 + c) R) C := by
    rw [ns_s1_eq (h := fun r => ns_fc Z r C) (k := fun r => ns_s1 (fun c => if Z (r * 8 + c) = 2 then 1 else 0) C) R (fun r hr => ns_fc_row (by omega) C)]
    rw [ns_fub (fun r c => if Z (r * 8 + c) = 2 then 1 else 0) C R]
    exact ns_s1_eq C (fun c _ => (ns_fc_col R).symm)
  rw [a, e] at b
  have b' : ns_df cc cl 16 + nI (ns_s1 (fun c => ns_fc Z (8 + c) R) C) = nI (ns_s1 (fun c => ns_fc Z (8 + c) R) C) := b
  generalize nI (ns_s1 (fun c => ns_fc Z (8 + c) R) C) = y at b'
  grind
end
end
section
/-! settling: pending lines, rounds -/
section
variable {R C : Nat} {S : Nat → Nat → Prop}
/-- a line of the grid is pending or settled -/
def ns_pd (R C : Nat) (S : Nat → Nat → Prop) (P : Nat → Int32) (pb : Nat → Prop) : Prop := ∀ a, ns_ing R C a → pb a ∨ ns_stl R C S P a
theorem ns_pd_step {P P' : Nat → Int32} {pb pb' : Nat → Prop} {a : Nat} (hR : R ≤ 8) (hC : C ≤ 8) (ha : ns_ing R C a) (h : ns_step R C S P a P') (k : ∃ p, ns_cons R C S P a p) (hp : ns_pd R C S P pb)
    (hb : ∀ b, b < 16 → b ≠ a → pb b → pb' b) (hx : ∀ i, i < ns_len R C a → P (ns_lc a i) = 0 → P' (ns_lc a i) ≠ 0 → pb' (ns_xl a i)) : ns_pd R C S P' pb' := by
  intro b hbi
  by_cases e : b = a
  · subst e; exact Or.inr (ns_step_stl h k)
  · rcases hp b hbi with z | z
    · exact Or.inl (hb b hbi.1 e z)
    · by_cases c : ∃ i, i < ns_len R C a ∧ P (ns_lc a i) = 0 ∧ P' (ns_lc a i) ≠ 0 ∧ b = ns_xl a i
      · obtain ⟨i, hi, h0, h1, rfl⟩ := c
        exact Or.inl (hx i hi h0 h1)
      · refine Or.inr (ns_stl_eq (fun q hq => ?_) z)
        by_cases z0 : P (ns_lc b q) = 0
        · by_cases on : ∃ i, i < ns_len R C a ∧ ns_lc b q = ns_lc a i
          · obtain ⟨i, hi, ei⟩ := on
            have l8 := ns_len_le (a := a) hR hC
            have l8' := ns_len_le (a := b) hR hC
            rcases ns_lc_on ha.1 hbi.1 (by omega) (by omega) ei.symm with y | y
            · exact absurd y e
            · by_cases z1 : P' (ns_lc b q) = 0
              · rw [z0, z1]
              · exact absurd ⟨i, hi, by rw [← ei]; exact z0, by rw [← ei]; exact z1, y⟩ c
          · exact h.2.1 _ (fun i hi ei => on ⟨i, hi, ei⟩)
        · exact h.1 _ z0
theorem ns_pd_end {P : Nat → Int32} {pb : Nat → Prop} (ok : ns_ok R C P) (h : ns_pd R C S P pb) (n : ∀ a, a < 16 → ¬ pb a) : ns_cls R C S P :=
  ⟨ok, fun a ha => (h a ha).elim (fun z => absurd z (n a ha.1)) id⟩
theorem ns_step_same {P P' : Nat → Int32} {a : Nat} (h : ns_step R C S P a P') (n : ∀ i, i < ns_len R C a → P (ns_lc a i) = 0 → P' (ns_lc a i) = 0) : P' = P := by
  funext j
  by_cases e : P j = 0
  · by_cases on : ∃ i, i < ns_len R C a ∧ j = ns_lc a i
    · obtain ⟨i, hi, rfl⟩ := on
      rw [n i hi e, e]
    · exact h.2.1 _ (fun i hi ei => on ⟨i, hi, ei⟩)
  · exact h.1 j e
theorem ns_step_unk {P P' : Nat → Int32} {a i : Nat} (hR : R ≤ 8) (hC : C ≤ 8) (ha : ns_ing R C a) (h : ns_step R C S P a P') (hi : i < ns_len R C a) (h0 : P (ns_lc a i) = 0) (h1 : P' (ns_lc a i) ≠ 0) : ns_unk P' 64 < ns_unk P 64 :=
  ns_unk_lt h.1 h0 h1 64 (ns_lc_cg hR hC ha hi).1
/-- after an assumed cell only its two lines are pending -/
theorem ns_pd_cell {G : Nat → Int32} {x : Nat} {v : Int32} {pb : Nat → Prop} (hx : ns_cg R C x) (hR : R ≤ 8) (hC : C ≤ 8) (h : ns_cls R C S G) (hr : pb (x / 8)) (hc : pb (8 + x % 8)) : ns_pd R C S (upd G x v) pb := by
  intro a ha
  by_cases e1 : a = x / 8
  · subst e1; exact Or.inl hr
  · by_cases e2 : a = 8 + x % 8
    · subst e2; exact Or.inl hc
    · refine Or.inr (ns_stl_eq (fun i hi => ns_upd_n (fun z => ?_)) (h.2 a ha))
      have l8 := ns_len_le (a := a) hR hC
      by_cases a8 : a < 8
      · rw [ns_lc_row a8] at z; omega
      · rw [ns_lc_col (by omega)] at z; have := ha.1; omega
end
end
section
/-! bits ( the kit's rows of the family bt go before it) -/
theorem ns_btN {p : Nat} (h : p < 2 ^ 32) (i : Nat) : bt (nI p) i = p.testBit i := by
  show (nI p).toBitVec.getLsbD i = _
  rw [BitVec.getLsbD, pk_tn h]
theorem ns_bt1 : ∀ i, i < 32 → bt 1 i = decide (i = 0) := by decide
theorem ns_not (x : Int32) {i : Nat} (hi : i < 32) : bt (x ^^^ (-1)) i = !bt x i := by
  rw [b_xor, b_m1 i hi]; cases bt x i <;> rfl
theorem ns_zero {x : Int32} : x = 0 ↔ ∀ i, i < 32 → bt x i = false :=
  ⟨fun e i _ => by rw [e]; exact b_0 i, fun h => b_ext (fun i hi => by rw [h i hi, b_0])⟩
theorem ns_sh1 {n : Nat} (hn : n < 32) {i : Nat} (hi : i < 32) : bt ((1 : Int32) <<< (nI n &&& 31)) i = decide (i = n) := by
  rw [b_shl n hn 1 hi, ns_bt1 (i - n) (by omega)]
  by_cases e : n ≤ i
  · by_cases e' : i = n
    · subst e'; simp
    · have : ¬ i - n = 0 := by omega
      simp [e', this]
  · have : ¬ i = n := by omega
    simp [e, this]
/-- (x >> i) & 1 -/
theorem ns_bit {n : Nat} (hn : n < 32) (x : Int32) : (x >>> (nI n &&& 31)) &&& 1 = if bt x n = true then 1 else 0 := by
  refine b_ext (fun i hi => ?_)
  rw [b_and, b_sshr n hn x hi, ns_bt1 i hi]
  by_cases e : i = 0
  · subst e
    rw [if_pos (by omega : n + 0 < 32)]
    cases h : bt x n with
    | true => simp [h, ns_bt1]
    | false => simp [h, b_0]
  · cases h : bt x n with
    | true => simp [e, ns_bt1 i hi]
    | false => simp [e, b_0]
theorem ns_bit_t {n : Nat} (hn : n < 32) {x : Int32} (h : bt x n = true) : (x >>> (nI n &&& 31)) &&& 1 = 1 := by rw [ns_bit hn, h]; rfl
theorem ns_bit_f {n : Nat} (hn : n < 32) {x : Int32} (h : bt x n = false) : ¬ (x >>> (nI n &&& 31)) &&& 1 = 1 := by rw [ns_bit hn, h]; decide
/-- a number of few bits -/
theorem ns_ofbits (x : Int32) {n : Nat} (hn : n ≤ 31) (h : ∀ i, i < 32 → n ≤ i → bt x i = false) : ∃ p, p < 2 ^ n ∧ x = nI p := by
  refine ⟨x.toBitVec.toNat, Nat.lt_pow_two_of_testBit _ (fun i hi => ?_), ?_⟩
  · by_cases e : i < 32
    · exact h i e hi
    · exact Nat.testBit_lt_two_pow (Nat.lt_of_lt_of_le x.toBitVec.isLt (Nat.pow_le_pow_right (by omega) (by omega)))
  · refine b_ext (fun i hi => ?_)
    rw [ns_btN x.toBitVec.isLt]; rfl
end
section
/-! masks over a line; the fillings seen; writes along a line -/
def ns_mb (P : Nat → Int32) (a : Nat) (v : Int32) (n : Nat) (x : Int32) : Prop := ∀ k, k < 32 → (bt x k = true ↔ k < n ∧ P (ns_lc a k) = v)
theorem ns_mb_0 {P : Nat → Int32} {a : Nat} {v : Int32} : ns_mb P a v 0 0 := fun k _ => by
  rw [b_0]; exact ⟨(fun z => nomatch z), fun z => absurd z.1 (by omega)⟩
theorem ns_mb_t {P : Nat → Int32} {a n : Nat} {v x : Int32} (hn : n < 32) (h : ns_mb P a v n x) (e : P (ns_lc a n) = v) : ns_mb P a v (n + 1) (x ||| ((1 : Int32) <<< (nI n &&& 31))) := by
  intro k hk
  rw [b_or, ns_sh1 hn hk, Bool.or_eq_true, decide_eq_true_eq, h k hk]
  constructor
  · rintro (⟨a, b⟩ | rfl)
    · exact ⟨by omega, b⟩
    · exact ⟨by omega, e⟩
  · rintro ⟨a, b⟩
    by_cases z : k = n
    · exact Or.inr z
    · exact Or.inl ⟨by omega, b⟩
theorem ns_mb_f {P : Nat → Int32} {a n : Nat} {v x : Int32} (h : ns_mb P a v n x) (e : ¬ P (ns_lc a n) = v) : ns_mb P a v (n + 1) x := by
  intro k hk
  rw [h k hk]
  constructor
  · rintro ⟨a, b⟩; exact ⟨by omega, b⟩
  · rintro ⟨a, b⟩
    by_cases z : k = n
    · subst z; exact absurd b e
    · exact ⟨by omega, b⟩
theorem ns_mf0 {P : Nat → Int32} {a n p : Nat} {x : Int32} (hn : n ≤ 8) (h : ns_mb P a 2 n x) (hp : p < 2 ^ 32) : (x &&& (nI p ^^^ (-1))) = 0 ↔ ∀ i, i < n → P (ns_lc a i) = 2 → p.testBit i = true := by
  rw [ns_zero]
  constructor
  · intro z i hi e
    have := z i (by omega)
    rw [b_and, ns_not _ (by omega), ns_btN hp, (h i (by omega)).mpr ⟨hi, e⟩] at this
    cases t : p.testBit i with
    | true => rfl
    | false => rw [t] at this; exact nomatch this
  · intro z i hi
    rw [b_and, ns_not _ hi, ns_btN hp]
    cases t : bt x i with
    | false => rfl
    | true =>
      have := (h i hi).mp t
      rw [z i this.1 this.2]; rfl
theorem ns_me0 {P : Nat → Int32} {a n p : Nat} {x : Int32} (hn : n ≤ 8) (h : ns_mb P a 1 n x) (hp : p < 2 ^ 32) : (x &&& nI p) = 0 ↔ ∀ i, i < n → P (ns_lc a i) = 1 → p.testBit i = false := by
  rw [ns_zero]
  constructor
  · intro z i hi e
    have := z i (by omega)
    rw [b_and, ns_btN hp, (h i (by omega)).mpr ⟨hi, e⟩] at this
    exact this
  · intro z i hi
    rw [b_and, ns_btN hp]
    cases t : bt x i with
    | false => rfl
    | true =>
      have := (h i hi).mp t
      rw [z i this.1 this.2]; rfl
/-- bit i of x: some filling that was seen has b there -/
def ns_or (Q : Nat → Prop) (b : Bool) (x : Int32) : Prop := ∀ i, i < 32 → (bt x i = true ↔ ∃ p, Q p ∧ p.testBit i = b)
/-- bit i of x: every filling that was seen has b there -/
def ns_an (Q : Nat → Prop) (b : Bool) (x : Int32) : Prop := ∀ i, i < 32 → (bt x i = true ↔ ∀ p, Q p → p.testBit i = b)
theorem ns_or_0 {Q : Nat → Prop} {b : Bool} (h : ∀ p, ¬ Q p) : ns_or Q b 0 := fun i _ => by
  rw [b_0]; exact ⟨(fun z => nomatch z), fun ⟨p, z, _⟩ => absurd z (h p)⟩
theorem ns_or_eq {Q Q' : Nat → Prop} {b : Bool} {x : Int32} (h : ns_or Q b x) (e : ∀ p, Q' p ↔ Q p) : ns_or Q' b x := fun i hi => by
  rw [h i hi]; exact ⟨fun ⟨p, z, y⟩ => ⟨p, (e p).mpr z, y⟩, fun ⟨p, z, y⟩ => ⟨p, (e p).mp z, y⟩⟩
theorem ns_or_add {Q Q' : Nat → Prop} {b : Bool} {x y : Int32} {q : Nat} (h : ns_or Q b x) (e : ∀ p, Q' p ↔ Q p ∨ p = q) (hy : ∀ i, i < 32 → (bt y i = true ↔ q.testBit i = b)) : ns_or Q' b (x ||| y) := fun i hi => by
  rw [b_or, Bool.or_eq_true, h i hi, hy i hi]
  constructor
  · rintro (⟨p, z, t⟩ | t)
    · exact ⟨p, (e p).mpr (Or.inl z), t⟩
    · exact ⟨q, (e q).mpr (Or.inr rfl), t⟩
  · rintro ⟨p, z, t⟩
    rcases (e p).mp z with z | rfl
    · exact Or.inl ⟨p, z, t⟩
    · exact Or.inr t
theorem ns_hyt {q : Nat} (hq : q < 2 ^ 32) : ∀ i, i < 32 → (bt (nI q) i = true ↔ q.testBit i = true) := fun i _ => by rw [ns_btN hq]
theorem ns_hyf {q : Nat} (hq : q < 2 ^ 32) : ∀ i, i < 32 → (bt (nI q ^^^ (-1)) i = true ↔ q.testBit i = false) := fun i hi => by
  rw [ns_not _ hi, ns_btN hq]; cases q.testBit i <;> simp
theorem ns_an_0 {Q : Nat → Prop} {b : Bool} (h : ∀ p, ¬ Q p) : ns_an Q b (-1) := fun i hi => by
  rw [b_m1 i hi]; exact ⟨fun _ p z => absurd z (h p), fun _ => rfl⟩
theorem ns_an_eq {Q Q' : Nat → Prop} {b : Bool} {x : Int32} (h : ns_an Q b x) (e : ∀ p, Q' p ↔ Q p) : ns_an Q' b x := fun i hi => by
  rw [h i hi]; exact ⟨fun z p y => z p ((e p).mp y), fun z p y => z p ((e p).mpr y)⟩
theorem ns_an_add {Q Q' : Nat → Prop} {x : Int32} {q : Nat} (hq : q < 2 ^ 32) (h : ns_an Q true x) (e : ∀ p, Q' p ↔ Q p ∨ p = q) : ns_an Q' true (x &&& nI q) := fun i hi => by
  rw [b_and, Bool.and_eq_true, h i hi, ns_btN hq]
  constructor
  · rintro ⟨z, t⟩ p y
    rcases (e p).mp y with y | rfl
    · exact z p y
    · exact t
  · intro z
    exact ⟨fun p y => z p ((e p).mpr (Or.inl y)), z q ((e q).mpr (Or.inr rfl))⟩
/-- the complement of 'some with b' is 'all with not b' -/
theorem ns_or_an {Q : Nat → Prop} {b : Bool} {x : Int32} (h : ns_or Q b x) : ns_an Q (!b) (x ^^^ (-1)) := fun i hi => by
  rw [ns_not _ hi]
  constructor
  · intro z p y
    cases t : p.testBit i with
    | true => cases b with
      | true => rw [(h i hi).mpr ⟨p, y, t⟩] at z; exact nomatch z
      | false => rfl
    | false => cases b with
      | true => rfl
      | false => rw [(h i hi).mpr ⟨p, y, t⟩] at z; exact nomatch z
  · intro z
    cases t : bt x i with
    | false => rfl
    | true =>
      obtain ⟨p, y, w⟩ := (h i hi).mp t
      have := z p y
      rw [w] at this; cases b <;> exact nomatch this
section
variable {R C : Nat} {S : Nat → Nat → Prop} {P P' : Nat → Int32} {a : Nat}
/-- the first n cells of line a are written -/
def ns_wr (Q : Nat → Prop) (P : Nat → Int32) (a n : Nat) (P' : Nat → Int32) : Prop :=
  (∀ j, (∀ i, i < n → j ≠ ns_lc a i) → P' j = P j) ∧ ∀ i, i < n → (P (ns_lc a i) ≠ 0 → P' (ns_lc a i) = P (ns_lc a i)) ∧ (P (ns_lc a i) = 0 →
    (P' (ns_lc a i) = 2 ∧ ∀ p, Q p → p.testBit i = true) ∨ (P' (ns_lc a i) = 1 ∧ ∀ p, Q p → p.testBit i = false) ∨
    (P' (ns_lc a i) = 0 ∧ (¬ ∀ p, Q p → p.testBit i = true) ∧ ¬ ∀ p, Q p → p.testBit i = false))
theorem ns_wr_0 {Q : Nat → Prop} : ns_wr Q P a 0 P := ⟨fun _ _ => rfl, fun i hi => absurd hi (by omega)⟩
theorem ns_wr_at {Q : Nat → Prop} {n : Nat} (hn : n < 8) (h : ns_wr Q P a n P') : P' (ns_lc a n) = P (ns_lc a n) :=
  h.1 _ (fun i hi e => by have := ns_lc_inj (a := a) hn (by omega) e; omega)
theorem ns_wr_keep {Q : Nat → Prop} {n : Nat} (hn : n < 8) (h : ns_wr Q P a n P') (k : P (ns_lc a n) ≠ 0 ∨ ((¬ ∀ p, Q p → p.testBit n = true) ∧ ¬ ∀ p, Q p → p.testBit n = false)) : ns_wr Q P a (n + 1) P' := by
  refine ⟨fun j hj => h.1 j (fun i hi => hj i (by omega)), fun i hi => ?_⟩
  by_cases e : i = n
  · subst e
    have at' := ns_wr_at hn h
    refine ⟨fun _ => at', fun z => Or.inr (Or.inr ⟨by rw [at']; exact z, ?_⟩)⟩
    exact k.elim (fun y => absurd z y) id
  · exact h.2 i (by omega)
theorem ns_wr_put {Q : Nat → Prop} {n : Nat} {x : Int32} (hn : n < 8) (h : ns_wr Q P a n P') (h0 : P (ns_lc a n) = 0)
    (k : (x = 2 ∧ ∀ p, Q p → p.testBit n = true) ∨ (x = 1 ∧ ∀ p, Q p → p.testBit n = false)) : ns_wr Q P a (n + 1) (upd P' (ns_lc a n) x) := by
  refine ⟨fun j hj => ?_, fun i hi => ?_⟩
  · rw [ns_upd_n (hj n (by omega))]; exact h.1 j (fun i hi => hj i (by omega))
  · by_cases e : i = n
    · subst e
      rw [ns_upd_s]
      exact ⟨fun z => absurd h0 z, fun _ => k.imp id Or.inl⟩
    · rw [ns_upd_n (fun z => e (ns_lc_inj (a := a) (by omega) hn z))]; exact h.2 i (by omega)
theorem ns_wr_step (h : ns_wr (ns_cons R C S P a) P a (ns_len R C a) P') : ns_step R C S P a P' := by
  refine ⟨fun j hj => ?_, h.1, fun i hi h0 => ?_⟩
  · by_cases on : ∃ i, i < ns_len R C a ∧ j = ns_lc a i
    · obtain ⟨i, hi, rfl⟩ := on
      exact (h.2 i hi).1 hj
    · exact h.1 j (fun i hi e => on ⟨i, hi, e⟩)
  · rcases (h.2 i hi).2 h0 with z | z | ⟨z, n1, n0⟩
    · exact Or.inl z
    · exact Or.inr (Or.inl z)
    · refine Or.inr (Or.inr ⟨z, ?_, ?_⟩)
      · by_cases e : ∃ p, ns_cons R C S P a p ∧ p.testBit i = true
        · exact e
        · refine absurd (fun p hp => ?_) n0
          cases t : p.testBit i with
          | false => rfl
          | true => exact absurd ⟨p, hp, t⟩ e
      · by_cases e : ∃ p, ns_cons R C S P a p ∧ p.testBit i = false
        · exact e
        · refine absurd (fun p hp => ?_) n1
          cases t : p.testBit i with
          | true => rfl
          | false => exact absurd ⟨p, hp, t⟩ e
end
/-- the fillings of line a stand in F: n of them -/
def ns_lst (S : Nat → Nat → Prop) (F : Nat → Int32) (a n : Nat) : Prop :=
  n ≤ 256 ∧ (∀ k, k < n → ∃ p, F (a * 256 + k) = nI p ∧ S a p) ∧ ∀ p, S a p → ∃ k, k < n ∧ F (a * 256 + k) = nI p
/-- those below m -/
def ns_lsm (S : Nat → Nat → Prop) (F : Nat → Int32) (a n m : Nat) : Prop :=
  n ≤ m ∧ (∀ k, k < n → ∃ p, F (a * 256 + k) = nI p ∧ S a p) ∧ ∀ p, p < m → S a p → ∃ k, k < n ∧ F (a * 256 + k) = nI p
theorem ns_lsm_0 {S : Nat → Nat → Prop} {F : Nat → Int32} {a : Nat} : ns_lsm S F a 0 0 := ⟨by omega, fun k hk => absurd hk (by omega), fun p hp => absurd hp (by omega)⟩
theorem ns_lsm_f {S : Nat → Nat → Prop} {F : Nat → Int32} {a n m : Nat} (h : ns_lsm S F a n m) (k : ¬ S a m) : ns_lsm S F a n (m + 1) :=
  ⟨by have := h.1; omega, h.2.1, fun p hp hs => by
    by_cases e : p = m
    · subst e; exact absurd hs k
    · exact h.2.2 p (by omega) hs⟩
theorem ns_lsm_t {S : Nat → Nat → Prop} {F : Nat → Int32} {a n m : Nat} (h : ns_lsm S F a n m) (k : S a m) : ns_lsm S (upd F (a * 256 + n) (nI m)) a (n + 1) (m + 1) := by
  refine ⟨by have := h.1; omega, fun q hq => ?_, fun p hp hs => ?_⟩
  · by_cases e : q = n
    · subst e; exact ⟨m, ns_upd_s, k⟩
    · obtain ⟨p, hp, hs⟩ := h.2.1 q (by omega)
      exact ⟨p, by rw [ns_upd_n (by omega)]; exact hp, hs⟩
  · by_cases e : p = m
    · subst e; exact ⟨n, by omega, ns_upd_s⟩
    · obtain ⟨q, hq, hf⟩ := h.2.2 p (by omega) hs
      exact ⟨q, by omega, by rw [ns_upd_n (by omega)]; exact hf⟩
theorem ns_lsm_end {S : Nat → Nat → Prop} {F : Nat → Int32} {a n m : Nat} (h : ns_lsm S F a n m) (hm : m ≤ 256) (hS : ∀ p, S a p → p < m) : ns_lst S F a n :=
  ⟨by have := h.1; omega, h.2.1, fun p hs => h.2.2 p (hS p hs) hs⟩
theorem ns_lst_keep {S : Nat → Nat → Prop} {F F' : Nat → Int32} {a n : Nat} (h : ns_lst S F a n) (e : ∀ k, k < 256 → F' (a * 256 + k) = F (a * 256 + k)) : ns_lst S F' a n :=
  ⟨h.1, fun k hk => by rw [e k (by have := h.1; omega)]; exact h.2.1 k hk, fun p hs => by
    obtain ⟨k, hk, hf⟩ := h.2.2 p hs
    exact ⟨k, hk, by rw [e k (by have := h.1; omega)]; exact hf⟩⟩
/-- the consistent fillings among the first k of the list -/
def ns_sn (R C : Nat) (S : Nat → Nat → Prop) (P F : Nat → Int32) (a k p : Nat) : Prop := ns_cons R C S P a p ∧ ∃ q, q < k ∧ F (a * 256 + q) = nI p
section
variable {R C : Nat} {S : Nat → Nat → Prop} {P F : Nat → Int32} {a : Nat}
theorem ns_sn_0 : ∀ p, ¬ ns_sn R C S P F a 0 p := fun p ⟨_, q, hq, _⟩ => by omega
theorem ns_sn_t {k p0 : Nat} (hS : ∀ p, S a p → p < 256) (hf : F (a * 256 + k) = nI p0) (hc : ns_cons R C S P a p0) : ∀ p, ns_sn R C S P F a (k + 1) p ↔ ns_sn R C S P F a k p ∨ p = p0 := by
  intro p
  constructor
  · rintro ⟨c, q, hq, e⟩
    by_cases z : q = k
    · subst z
      rw [hf] at e
      have h1 := hS p c.1
      have h2 := hS p0 hc.1
      exact Or.inr ((nI_eq (by omega) (by omega)).mp e).symm
    · exact Or.inl ⟨c, q, by omega, e⟩
  · rintro (⟨c, q, hq, e⟩ | rfl)
    · exact ⟨c, q, by omega, e⟩
    · exact ⟨hc, k, by omega, hf⟩
theorem ns_sn_f {k p0 : Nat} (hS : ∀ p, S a p → p < 256) (hf : F (a * 256 + k) = nI p0) (hs : S a p0) (hc : ¬ ns_ag R C P a p0) : ∀ p, ns_sn R C S P F a (k + 1) p ↔ ns_sn R C S P F a k p := by
  intro p
  constructor
  · rintro ⟨c, q, hq, e⟩
    by_cases z : q = k
    · subst z
      rw [hf] at e
      have h1 := hS p c.1
      have h2 := hS p0 hs
      have : p0 = p := (nI_eq (by omega) (by omega)).mp e
      subst this
      exact absurd c.2 hc
    · exact ⟨c, q, by omega, e⟩
  · rintro ⟨c, q, hq, e⟩
    exact ⟨c, q, by omega, e⟩
theorem ns_sn_end {n : Nat} (h : ns_lst S F a n) : ∀ p, ns_cons R C S P a p ↔ ns_sn R C S P F a n p := fun p =>
  ⟨fun c => ⟨c, h.2.2 p c.1⟩, fun c => c.1⟩
/-- .. and among those below m -/
def ns_sl (R C : Nat) (S : Nat → Nat → Prop) (P : Nat → Int32) (a m p : Nat) : Prop := ns_cons R C S P a p ∧ p < m
theorem ns_sl_0 : ∀ p, ¬ ns_sl R C S P a 0 p := fun p ⟨_, q⟩ => by omega
theorem ns_sl_t {m : Nat} (hc : ns_cons R C S P a m) : ∀ p, ns_sl R C S P a (m + 1) p ↔ ns_sl R C S P a m p ∨ p = m := by
  intro p
  constructor
  · rintro ⟨c, q⟩
    by_cases z : p = m
    · exact Or.inr z
    · exact Or.inl ⟨c, by omega⟩
  · rintro (⟨c, q⟩ | rfl)
    · exact ⟨c, by omega⟩
    · exact ⟨hc, by omega⟩
theorem ns_sl_f {m : Nat} (hc : ¬ ns_cons R C S P a m) : ∀ p, ns_sl R C S P a (m + 1) p ↔ ns_sl R C S P a m p := by
  intro p
  constructor
  · rintro ⟨c, q⟩
    by_cases z : p = m
    · subst z; exact absurd c hc
    · exact ⟨c, by omega⟩
  · rintro ⟨c, q⟩
    exact ⟨c, by omega⟩
theorem ns_sl_end {m : Nat} (hS : ∀ p, S a p → p < m) : ∀ p, ns_cons R C S P a p ↔ ns_sl R C S P a m p := fun p => ⟨fun c => ⟨c, hS p c.1⟩, fun c => c.1⟩
end
end
section
/-! rounds of X's settle, passes of Y's propagate -/
section
variable {R C : Nat} {S : Nat → Nat → Prop} {P0 P P' : Nat → Int32}
/-- only lines of the grid are pending -/
def ns_pg (R C : Nat) (pl : Int32) : Prop := ∀ b, b < 32 → bt pl b = true → ns_ing R C b
def ns_pb (pl : Int32) (b : Nat) : Prop := bt pl b = true
/-- what settling keeps -/
def ns_kp (R C : Nat) (S : Nat → Nat → Prop) (P0 P : Nat → Int32) (pl : Int32) : Prop :=
  ns_ok R C P ∧ ns_le P0 P ∧ ns_blw R C S P0 P ∧ ns_pd R C S P (ns_pb pl) ∧ ns_pg R C pl
def ns_IR (R C : Nat) (S : Nat → Nat → Prop) (P0 : Nat → Int32) (rd at_ : Nat) (P : Nat → Int32) (pl : Int32) : Prop :=
  ns_kp R C S P0 P pl ∧ ns_unk P 64 + rd ≤ 64 ∧ ((∀ b, b < at_ → bt pl b = false) ∨ ns_unk P 64 + rd + 1 ≤ 64)
def ns_OR (R C : Nat) (S : Nat → Nat → Prop) (P0 : Nat → Int32) (rd : Nat) (P : Nat → Int32) (pl : Int32) : Prop :=
  ns_kp R C S P0 P pl ∧ (pl = 0 ∨ ns_unk P 64 + rd ≤ 64)
/-- how a step on line a changes the pending lines -/
def ns_pc (R C a : Nat) (P : Nat → Int32) (pl : Int32) (P' : Nat → Int32) (pl' : Int32) : Prop :=
  (∀ b, b < 32 → b ≠ a → bt pl b = true → bt pl' b = true) ∧
  (∀ i, i < ns_len R C a → P (ns_lc a i) = 0 → P' (ns_lc a i) ≠ 0 → bt pl' (ns_xl a i) = true) ∧
  ∀ b, b < 32 → bt pl' b = true → (bt pl b = true ∧ b ≠ a) ∨ ∃ i, i < ns_len R C a ∧ P (ns_lc a i) = 0 ∧ P' (ns_lc a i) ≠ 0 ∧ b = ns_xl a i
theorem ns_kp_step {a : Nat} {pl pl' : Int32} (hR : R ≤ 8) (hC : C ≤ 8) (ha : ns_ing R C a) (h : ns_kp R C S P0 P pl) (st : ns_step R C S P a P') (ex : ∃ p, ns_cons R C S P a p) (pc : ns_pc R C a P pl P' pl') : ns_kp R C S P0 P' pl' := by
  obtain ⟨h1, h2, h3, h4, h5⟩ := h
  refine ⟨ns_step_ok hR hC ha st h1, ns_le_tr h2 st.1, ns_blw_step ha h3 st, ns_pd_step hR hC ha st ex h4 (fun b hb ne z => pc.1 b (by omega) ne z) pc.2.1, fun b hb z => ?_⟩
  rcases pc.2.2 b hb z with ⟨y, _⟩ | ⟨i, hi, _, _, rfl⟩
  · exact h5 b hb y
  · exact ns_xl_ing ha hR hC hi
theorem ns_IR_0 {rd : Nat} {pl : Int32} (h : ns_OR R C S P0 rd P pl) (n : ¬ pl = 0) : ns_IR R C S P0 rd 0 P pl :=
  ⟨h.1, h.2.elim (fun z => absurd z n) id, Or.inl (fun b hb => absurd hb (by omega))⟩
theorem ns_IR_skip {rd a : Nat} {pl : Int32} (h : ns_IR R C S P0 rd a P pl) (n : bt pl a = false) : ns_IR R C S P0 rd (a + 1) P pl :=
  ⟨h.1, h.2.1, h.2.2.imp (fun z b hb => by
    by_cases e : b = a
    · subst e; exact n
    · exact z b (by omega)) id⟩
theorem ns_IR_step {rd a : Nat} {pl pl' : Int32} (hR : R ≤ 8) (hC : C ≤ 8) (ha : ns_ing R C a) (h : ns_IR R C S P0 rd a P pl) (st : ns_step R C S P a P') (ex : ∃ p, ns_cons R C S P a p) (pc : ns_pc R C a P pl P' pl') : ns_IR R C S P0 rd (a + 1) P' pl' := by
  obtain ⟨h1, h2, h3⟩ := h
  by_cases d : ∃ i, i < ns_len R C a ∧ P (ns_lc a i) = 0 ∧ P' (ns_lc a i) ≠ 0
  · obtain ⟨i, hi, z0, z1⟩ := d
    have := ns_step_unk hR hC ha st hi z0 z1
    exact ⟨ns_kp_step hR hC ha h1 st ex pc, by omega, Or.inr (by omega)⟩
  · have e : P' = P := ns_step_same st (fun i hi z0 => by
      by_cases z1 : P' (ns_lc a i) = 0
      · exact z1
      · exact absurd ⟨i, hi, z0, z1⟩ d)
    refine ⟨ns_kp_step hR hC ha h1 st ex pc, by rw [e]; exact h2, ?_⟩
    rw [e]
    refine h3.imp (fun z b hb => ?_) id
    have b32 : b < 32 := by have := ha.1; omega
    cases t : bt pl' b with
    | false => rfl
    | true =>
      rcases pc.2.2 b b32 t with ⟨y, ne⟩ | ⟨i, hi, z0, z1, _⟩
      · rw [z b (by omega)] at y; exact nomatch y
      · exact absurd ⟨i, hi, z0, z1⟩ d
theorem ns_IR_end {rd : Nat} {pl : Int32} (h : ns_IR R C S P0 rd 16 P pl) : ns_OR R C S P0 (rd + 1) P pl := by
  refine ⟨h.1, h.2.2.imp (fun z => ns_zero.mpr (fun b hb => ?_)) (fun z => by omega)⟩
  cases t : bt pl b with
  | false => rfl
  | true =>
    have := h.1.2.2.2.2 b hb t
    rw [z b this.1] at t; exact nomatch t
theorem ns_OR_0 {pl : Int32} (ok : ns_ok R C P) (pd : ns_pd R C S P (ns_pb pl)) (pg : ns_pg R C pl) : ns_OR R C S P 0 P pl :=
  ⟨⟨ok, ns_le_rfl P, ns_blw_0 P, pd, pg⟩, Or.inr (by have := ns_unk_le P 64; omega)⟩
theorem ns_OR_end {rd : Nat} {pl : Int32} (h : ns_OR R C S P0 rd P pl) (z : pl = 0 ∨ 65 ≤ rd) : ns_cls R C S P ∧ ns_le P0 P ∧ ns_blw R C S P0 P ∧ pl = 0 := by
  have e : pl = 0 := z.elim id (fun y => h.2.elim id (fun x => by omega))
  subst e
  obtain ⟨⟨h1, h2, h3, h4, h5⟩, _⟩ := h
  refine ⟨ns_pd_end h1 h4 (fun a ha z => ?_), h2, h3, rfl⟩
  have z' : bt 0 a = true := z
  rw [b_0] at z'; exact nomatch z'
/-- Y's passes -/
def ns_IY (R C : Nat) (S : Nat → Nat → Prop) (P0 : Nat → Int32) (ps li : Nat) (ch : Prop) (P : Nat → Int32) : Prop :=
  ns_ok R C P ∧ ns_le P0 P ∧ ns_blw R C S P0 P ∧ ns_unk P 64 + ps ≤ 64 ∧ (ch → ns_unk P 64 + ps + 1 ≤ 64) ∧ (¬ ch → ∀ a, a < li → ns_ing R C a → ns_stl R C S P a)
def ns_OY (R C : Nat) (S : Nat → Nat → Prop) (P0 : Nat → Int32) (ps : Nat) (ch : Prop) (P : Nat → Int32) : Prop :=
  ns_ok R C P ∧ ns_le P0 P ∧ ns_blw R C S P0 P ∧ (ch → ns_unk P 64 + ps ≤ 64) ∧ (¬ ch → ns_cls R C S P)
theorem ns_OY_0 (ok : ns_ok R C P) : ns_OY R C S P 0 True P :=
  ⟨ok, ns_le_rfl P, ns_blw_0 P, fun _ => by have := ns_unk_le P 64; omega, fun z => absurd trivial z⟩
theorem ns_IY_0 {ps : Nat} {ch : Prop} (h : ns_OY R C S P0 ps ch P) (c : ch) : ns_IY R C S P0 ps 0 False P :=
  ⟨h.1, h.2.1, h.2.2.1, h.2.2.2.1 c, fun z => z.elim, fun _ a ha => absurd ha (by omega)⟩
theorem ns_IY_skip {ps li : Nat} {ch : Prop} (h : ns_IY R C S P0 ps li ch P) (n : ¬ ns_ing R C li) : ns_IY R C S P0 ps (li + 1) ch P :=
  ⟨h.1, h.2.1, h.2.2.1, h.2.2.2.1, h.2.2.2.2.1, fun c a ha g => by
    by_cases e : a = li
    · subst e; exact absurd g n
    · exact h.2.2.2.2.2 c a (by omega) g⟩
theorem ns_IY_some {ps a : Nat} {ch : Prop} (hR : R ≤ 8) (hC : C ≤ 8) (ha : ns_ing R C a) (h : ns_IY R C S P0 ps a ch P) (st : ns_step R C S P a P') (d : ∃ i, i < ns_len R C a ∧ P (ns_lc a i) = 0 ∧ P' (ns_lc a i) ≠ 0) : ns_IY R C S P0 ps (a + 1) True P' := by
  obtain ⟨i, hi, z0, z1⟩ := d
  have u := ns_step_unk hR hC ha st hi z0 z1
  obtain ⟨h1, h2, h3, h4, h5, h6⟩ := h
  exact ⟨ns_step_ok hR hC ha st h1, ns_le_tr h2 st.1, ns_blw_step ha h3 st, by omega, fun _ => by omega, fun z => absurd trivial z⟩
theorem ns_IY_none {ps a : Nat} {ch : Prop} (h : ns_IY R C S P0 ps a ch P) (st : ns_step R C S P a P') (ex : ∃ p, ns_cons R C S P a p) (d : ∀ i, i < ns_len R C a → P (ns_lc a i) = 0 → P' (ns_lc a i) = 0) : ns_IY R C S P0 ps (a + 1) ch P' := by
  have e : P' = P := ns_step_same st d
  have s := ns_step_stl st ex
  rw [e] at s ⊢
  obtain ⟨h1, h2, h3, h4, h5, h6⟩ := h
  refine ⟨h1, h2, h3, h4, h5, fun c b hb g => ?_⟩
  by_cases eb : b = a
  · subst eb; exact s
  · exact h6 c b (by omega) g
theorem ns_IY_end {ps : Nat} {ch : Prop} (h : ns_IY R C S P0 ps 16 ch P) : ns_OY R C S P0 (ps + 1) ch P :=
  ⟨h.1, h.2.1, h.2.2.1, fun c => by have := h.2.2.2.2.1 c; omega, fun c => ⟨h.1, fun a ha => h.2.2.2.2.2 c a ha.1 ha⟩⟩
theorem ns_OY_end {ps : Nat} {ch : Prop} (h : ns_OY R C S P0 ps ch P) (z : ¬ ch ∨ 70 ≤ ps) : ns_cls R C S P := by
  by_cases c : ch
  · have := h.2.2.2.1 c
    exact z.elim (fun y => absurd c y) (fun y => by omega)
  · exact h.2.2.2.2 c
end
/-- two stored grids in one array -/
def ns_st (f : Nat) (A B : Nat → Int32) : Nat → Int32 := fun j =>
  if j < 64 then (if 1 ≤ f then A j else 0) else if j < 128 then (if 2 ≤ f then B (j - 64) else 0) else 0
theorem ns_st_0 (A B : Nat → Int32) : ns_st 0 A B = fun _ => 0 := by
  funext j; simp only [ns_st]
  split
  · rfl
  · split <;> rfl
theorem ns_st_uniq {Sl : (Nat → Int32) → Prop} {f f' : Nat} {A B A' B' : Nat → Int32} (h : ns_spec Sl f A B) (h' : ns_spec Sl f' A' B') : f = f' ∧ ns_st f A B = ns_st f' A' B' := by
  obtain ⟨e, a, b⟩ := ns_spec_uniq h h'
  subst e
  refine ⟨rfl, ?_⟩
  funext j
  simp only [ns_st]
  by_cases h1 : 1 ≤ f
  · rw [a h1]
    by_cases h2 : 2 ≤ f
    · rw [b h2]
    · rw [if_neg h2, if_neg h2]
  · have h2 : ¬ 2 ≤ f := by omega
    rw [if_neg h1, if_neg h1, if_neg h2, if_neg h2]
/-- a grid is stored as number f -/
theorem ns_st_put {f : Nat} {A B D st : Nat → Int32} (hf : f < 2) (hD : ∀ j, 64 ≤ j → D j = 0)
    (h1 : ∀ q, q < 64 → st (f * 64 + q) = D q) (h2 : ∀ j, (∀ q, q < 64 → j ≠ f * 64 + q) → st j = ns_st f A B j) :
    st = ns_st (f + 1) (if f = 0 then D else A) (if f = 0 then B else D) := by
  funext j
  by_cases e : f = 0
  · subst e
    rw [if_pos rfl, if_pos rfl]
    by_cases j64 : j < 64
    · have := h1 j j64
      rw [show 0 * 64 + j = j by omega] at this
      rw [this]; simp [ns_st, j64]
    · rw [h2 j (fun q hq => by omega)]
      simp [ns_st, j64]
  · have e1 : f = 1 := by omega
    subst e1
    rw [if_neg (by omega), if_neg (by omega)]
    by_cases j64 : j < 64
    · rw [h2 j (fun q hq => by omega)]; simp [ns_st, j64]
    · by_cases j128 : j < 128
      · have := h1 (j - 64) (by omega)
        rw [show 1 * 64 + (j - 64) = j by omega] at this
        rw [this]; simp [ns_st, j64, j128]
      · rw [h2 j (fun q hq => by omega)]; simp [ns_st, j64, j128]
/-- branch grid number d of the long array -/
def ns_gr (bg : Nat → Int32) (d : Nat) : Nat → Int32 := fun q => if q < 64 then bg (d * 64 + q) else 0
theorem ns_gr_keep {bg bg' : Nat → Int32} {d j : Nat} (hj : j ≠ d) (h : ∀ x, (∀ q, q < 64 → x ≠ d * 64 + q) → bg' x = bg x) : ns_gr bg' j = ns_gr bg j := by
  funext q
  simp only [ns_gr]
  by_cases e : q < 64
  · rw [if_pos e, if_pos e, h _ (fun r hr => by omega)]
  · rw [if_neg e, if_neg e]
theorem ns_gr_put {bg P : Nat → Int32} {d : Nat} (hP : ∀ j, 64 ≤ j → P j = 0) (h : ∀ q, q < 64 → bg (d * 64 + q) = P q) : ns_gr bg d = P := by
  funext q
  simp only [ns_gr]
  by_cases e : q < 64
  · rw [if_pos e, h q e]
  · rw [if_neg e, hP q (by omega)]
def ns_up (w : Nat → Nat) (d x : Nat) : Nat → Nat := fun r => if r = d then x else w r
theorem ns_up_s {w : Nat → Nat} {d x : Nat} : ns_up w d x d = x := by simp [ns_up]
theorem ns_up_n {w : Nat → Nat} {d x r : Nat} (h : r ≠ d) : ns_up w d x r = w r := by simp [ns_up, h]
/-- row d of the grid is restored, is written -/
theorem ns_gd_restore {C d : Nat} {g P : Nat → Int32} {w : Nat → Nat} (hC : C ≤ 8) (h : ∀ j, ¬ (j / 8 = d ∧ j % 8 < C) → P j = ns_gd C g d w j) (k : ∀ c, c < C → P (d * 8 + c) = g (d * 8 + c)) : P = ns_gd C g d w := by
  funext j
  by_cases e : j / 8 = d ∧ j % 8 < C
  · have := k (j % 8) e.2
    rw [show d * 8 + j % 8 = j by omega] at this
    rw [this, ns_gd_out (by omega)]
  · exact h j e
theorem ns_gd_write {C d v p : Nat} {g P : Nat → Int32} {w : Nat → Nat} (hC : C ≤ 8) (hp : ns_vp C v p) (h : ∀ j, ¬ (j / 8 = d ∧ j % 8 < C) → P j = ns_gd C g d w j)
    (k : ∀ c, c < C → P (d * 8 + c) = if p.testBit c = true then 2 else 1) : P = ns_gd C g (d + 1) (ns_up w d (v + 1)) := by
  funext j
  by_cases e : j / 8 = d ∧ j % 8 < C
  · have := k (j % 8) e.2
    rw [show d * 8 + j % 8 = j by omega, hp.2 _ e.2] at this
    rw [this]; simp only [ns_gd]
    have c1 : j / 8 < d + 1 ∧ j % 8 < C := ⟨by omega, e.2⟩
    rw [if_pos c1, e.1, ns_up_s]; rfl
  · rw [h j e]; simp only [ns_gd]
    by_cases z : j / 8 < d ∧ j % 8 < C
    · have c1 : j / 8 < d + 1 ∧ j % 8 < C := ⟨by omega, z.2⟩
      rw [if_pos z, if_pos c1, ns_up_n (by omega)]
    · have c1 : ¬ (j / 8 < d + 1 ∧ j % 8 < C) := by omega
      rw [if_neg z, if_neg c1]
end
section
/-! indices, small facts that the walks want -/
theorem ns_i4 (a k : Nat) : nI a * 4 + nI k = nI (a * 4 + k) := by
  show nI a * nI 4 + nI k = _
  rw [pk_mul, nI_add]
theorem ns_i8 (a k : Nat) : nI a * 8 + nI k = nI (a * 8 + k) := by
  show nI a * nI 8 + nI k = _
  rw [pk_mul, nI_add]
theorem ns_i64 (a k : Nat) : nI a * 64 + nI k = nI (a * 64 + k) := by
  show nI a * nI 64 + nI k = _
  rw [pk_mul, nI_add]
theorem ns_i256 (a k : Nat) : nI a * 256 + nI k = nI (a * 256 + k) := by
  show nI a * nI 256 + nI k = _
  rw [pk_mul, nI_add]
theorem ns_8p (k : Nat) : (8 : Int32) + nI k = nI (8 + k) := by
  show nI 8 + nI k = _
  rw [nI_add]
theorem ns_m8 {a : Nat} (h : 8 ≤ a) : nI a - 8 = nI (a - 8) := pk_sub (b := 8) h
theorem ns_lt8 {a : Nat} (h : a < 8) : nI a < 8 := nI_lt (b := 8) h (by decide)
theorem ns_nlt8 {a : Nat} (h : 8 ≤ a) (ha : a < 2 ^ 31) : ¬ nI a < 8 := nI_nlt (b := 8) h ha
theorem ns_ge8 {a : Nat} (h : 8 ≤ a) (ha : a < 2 ^ 31) : (8 : Int32) ≤ nI a := nI_le (a := 8) h ha
theorem ns_nge8 {a : Nat} (h : a < 8) : ¬ (8 : Int32) ≤ nI a := nI_ge (b := 8) h (by decide)
theorem ns_au_le {c : Nat} {cl : Nat → Int32} {f : Nat → Bool} : ∀ i k r, ns_au c cl f i = some (k, r) → k ≤ c ∧ r ≤ i := by
  intro i
  induction i with
  | zero =>
    intro k r h
    simp only [ns_au, Option.some.injEq, Prod.mk.injEq] at h
    omega
  | succ i ih =>
    intro k r h
    refine ⟨(ns_au_inv _ _ _ h).1, ?_⟩
    cases e : ns_au c cl f i with
    | none => rw [ns_au_n e 1] at h; exact nomatch h
    | some s =>
      obtain ⟨k0, r0⟩ := s
      have := (ih k0 r0 e).2
      cases hf : f i with
      | true =>
        rw [ns_au_t e hf] at h
        simp only [Option.some.injEq, Prod.mk.injEq] at h
        omega
      | false =>
        by_cases hr : r0 = 0
        · subst hr
          rw [ns_au_z e hf] at h
          simp only [Option.some.injEq, Prod.mk.injEq] at h
          omega
        · by_cases hk : k0 < c ∧ cl k0 = nI r0
          · rw [ns_au_e e hf hr hk] at h
            simp only [Option.some.injEq, Prod.mk.injEq] at h
            omega
          · rw [ns_au_x e hf hr hk] at h; exact nomatch h
/-- the test of a bit of a number -/
theorem ns_tb_t {p i : Nat} (hp : p < 256) (hi : i < 32) (h : p.testBit i = true) : (nI p >>> (nI i &&& 31)) &&& 1 = 1 := ns_bit_t hi (by rw [ns_btN (by omega)]; exact h)
theorem ns_tb_f {p i : Nat} (hp : p < 256) (hi : i < 32) (h : p.testBit i = false) : ¬ (nI p >>> (nI i &&& 31)) &&& 1 = 1 := ns_bit_f hi (by rw [ns_btN (by omega)]; exact h)
theorem ns_pw {n : Nat} (hn : n ≤ 8) : (1 : Int32) <<< (nI n &&& 31) = nI (2 ^ n) := by
  have e : ∀ m, m < 9 → (1 : Int32) <<< (nI m &&& 31) = nI (2 ^ m) := by decide
  exact e n (by omega)
theorem ns_pw_le {n : Nat} (hn : n ≤ 8) : 2 ^ n ≤ 256 := Nat.pow_le_pow_right (n := 2) (by omega) hn
theorem ns_uc {f : Nat → Int32} {k : Nat} {x : Int32} (h : k < 2 ^ 31) : upd f (nI k).toNatClampNeg x = upd f k x := by rw [nI_clamp h]
theorem ns_ue {f : Nat → Int32} {e : Int32} {k : Nat} {x : Int32} (he : e = nI k) (h : k < 2 ^ 31) : upd f e.toNatClampNeg x = upd f k x := by rw [he, nI_clamp h]
theorem ns_lc64 {a i : Nat} (ha : a < 16) (hi : i < 8) : ns_lc a i < 64 := by unfold ns_lc; split <;> omega
theorem ns_nm1 {x : Nat} (h : x < 2 ^ 31) : ¬ nI x = -1 := fun z => by
  have e : (nI x).toInt = (-1 : Int32).toInt := by rw [z]
  rw [nI_toInt h] at e
  have e2 : (-1 : Int32).toInt = -1 := by decide
  omega
end
section
/-! the searches over the arrays -/
theorem ns_pl2 {r c b : Nat} (hr : r < 32) (hc : c < 32) (hb : b < 32) : bt (((1 : Int32) <<< (nI r &&& 31)) ||| ((1 : Int32) <<< (nI c &&& 31))) b = true ↔ b = r ∨ b = c := by
  rw [b_or, ns_sh1 hr hb, ns_sh1 hc hb, Bool.or_eq_true, decide_eq_true_eq, decide_eq_true_eq]
section
variable {R C : Nat} {S : Nat → Nat → Prop} {g : Nat → Int32}
theorem ns_ok64 {P : Nat → Int32} (h : ns_ok R C P) : ∀ j, 64 ≤ j → P j = 0 := fun j hj => (h j).2 (fun z => by have := z.1; omega)
theorem ns_pg_cell {x : Nat} {pl : Int32} (hR : R ≤ 8) (hC : C ≤ 8) (hx : ns_cg R C x) (h : ∀ b, b < 32 → (bt pl b = true ↔ b = x / 8 ∨ b = 8 + x % 8)) : ns_pg R C pl := by
  intro b hb z
  obtain ⟨x1, x2, x3⟩ := hx
  rcases (h b hb).mp z with rfl | rfl
  · exact ⟨by omega, fun _ => x2, fun z => by omega⟩
  · exact ⟨by omega, fun z => by omega, fun _ => by omega⟩
def ns_bn (bc : Nat → Int32) : Nat → Nat := fun j => (bc j).toNatClampNeg
def ns_XV (R C : Nat) (S : Nat → Nat → Prop) (g : Nat → Int32) (t f d : Nat) (so ce : Nat → Int32) (pl : Int32) (bc bg : Nat → Int32) : Prop :=
  ∃ A B, so = ns_st f A B ∧ ns_XL R C S g t f A B d (ns_gr bg) (ns_bn bc) ce ∧ ns_pd R C S ce (ns_pb pl) ∧ ns_pg R C pl ∧ ∀ j, j < d → ∃ x, x < 64 ∧ bc j = nI x
theorem ns_XV_depth {t f d x : Nat} {so ce ce' bc bg : Nat → Int32} {pl : Int32} (h : ns_XV R C S g t f d so ce pl bc bg) (hc : ns_cls R C S ce') (hl : ns_le ce ce') (hx : ns_cg R C x) (h0 : ce' x = 0) : d < 64 := by
  obtain ⟨A, B, _, hL, _⟩ := h
  have := ns_XI_depth (ns_XI_settle hL.1 hc.1 hl) hx h0
  have := hx.1
  omega
theorem ns_XV_branch {t f d x : Nat} {so ce ce' bc bg bg' : Nat → Int32} {pl pl' : Int32} (hS : ∀ a p, S a p → p < 256) (hR : R ≤ 8) (hC : C ≤ 8) (h : ns_XV R C S g t f d so ce pl bc bg)
    (hc : ns_cls R C S ce') (hl : ns_le ce ce') (hb : ns_blw R C S ce ce') (hx : ns_cg R C x) (h0 : ce' x = 0) (hq : ∀ q, q < x → ns_cg R C q → ce' q ≠ 0)
    (hbg1 : ∀ q, q < 64 → bg' (d * 64 + q) = ce' q) (hbg2 : ∀ y, (∀ q, q < 64 → y ≠ d * 64 + q) → bg' y = bg y)
    (hpl : ∀ b, b < 32 → (bt pl' b = true ↔ b = x / 8 ∨ b = 8 + x % 8)) : ns_XV R C S g (t + 1) f (d + 1) so (upd ce' x 1) pl' (upd bc d (nI x)) bg' := by
  obtain ⟨A, B, rfl, hL, _, _, hbc⟩ := h
  have x64 := hx.1
  refine ⟨A, B, rfl, ns_XL_branch hS hR hC hL hc hl hb hx h0 hq (fun j hj => ⟨ns_gr_keep (by omega) hbg2, ?_⟩) (ns_gr_put (ns_ok64 hc.1) hbg1) ?_,
    ns_pd_cell hx hR hC hc ((hpl _ (by omega)).mpr (Or.inl rfl)) ((hpl _ (by omega)).mpr (Or.inr rfl)), ns_pg_cell hR hC hx hpl, fun j hj => ?_⟩
  · show (upd bc d (nI x) j).toNatClampNeg = (bc j).toNatClampNeg
    rw [ns_upd_n (by omega)]
  · show (upd bc d (nI x) d).toNatClampNeg = x
    rw [ns_upd_s, nI_clamp (by omega)]
  · by_cases e : j = d
    · subst e; exact ⟨x, x64, ns_upd_s⟩
    · rw [ns_upd_n e]; exact hbc j (by omega)
/-- after the look at the cells -/
def ns_XM (R C : Nat) (S : Nat → Nat → Prop) (g : Nat → Int32) (t f d : Nat) (so bc bg : Nat → Int32) : Prop :=
  ∃ A B f0 A0 B0 P, so = ns_st f A B ∧ ns_inv (ns_sol R C S g) f A B (fun Z => ∃ j, j < d ∧ ns_le (upd (ns_gr bg j) (ns_bn bc j) 2) Z) ∧
    ns_XL R C S g t f0 A0 B0 d (ns_gr bg) (ns_bn bc) P ∧ ∀ j, j < d → ∃ x, x < 64 ∧ bc j = nI x
theorem ns_XM_bad {t f d : Nat} {so ce bc bg : Nat → Int32} {pl : Int32} (hR : R ≤ 8) (hC : C ≤ 8) (h : ns_XV R C S g t f d so ce pl bc bg) (hb : ∀ Q, ns_cls R C S Q → ¬ ns_le ce Q) : ns_XM R C S g t f d so bc bg ∧ f < 2 := by
  obtain ⟨A, B, e, hL, _, _, hbc⟩ := h
  exact ⟨⟨A, B, f, A, B, ce, e, ns_XL_bad hR hC hL hb, hL, hbc⟩, hL.2.1⟩
theorem ns_XM_sol {t f d : Nat} {so so' ce ce' bc bg : Nat → Int32} {pl : Int32} (hR : R ≤ 8) (hC : C ≤ 8) (h : ns_XV R C S g t f d so ce pl bc bg)
    (hc : ns_cls R C S ce') (hl : ns_le ce ce') (hb : ns_blw R C S ce ce') (hf : ∀ j, ns_cg R C j → ce' j ≠ 0)
    (h1 : ∀ q, q < 64 → so' (f * 64 + q) = ce' q) (h2 : ∀ j, (∀ q, q < 64 → j ≠ f * 64 + q) → so' j = so j) : ns_XM R C S g t (f + 1) d so' bc bg := by
  obtain ⟨A, B, e, hL, _, _, hbc⟩ := h
  exact ⟨_, _, f, A, B, ce, ns_st_put hL.2.1 (ns_ok64 hc.1) h1 (fun j hj => by rw [h2 j hj, e]), ns_XL_sol hR hC hL hc hl hb hf, hL, hbc⟩
/-- the outcome -/
def ns_out (R C : Nat) (S : Nat → Nat → Prop) (g : Nat → Int32) (f : Nat) (so : Nat → Int32) : Prop := ∃ A B, so = ns_st f A B ∧ ns_spec (ns_sol R C S g) f A B
theorem ns_XM_end {t f d : Nat} {so bc bg : Nat → Int32} (h : ns_XM R C S g t f d so bc bg) (z : f = 2 ∨ d = 0) : ns_out R C S g f so := by
  obtain ⟨A, B, f0, A0, B0, P, e, hi, _⟩ := h
  refine ⟨A, B, e, ?_⟩
  rcases z with rfl | rfl
  · exact ns_inv_end2 hi
  · exact ns_inv_end hi (fun Z _ ⟨j, hj, _⟩ => by omega)
theorem ns_XM_top {t f d : Nat} {so bc bg : Nat → Int32} (h : ns_XM R C S g t f (d + 1) so bc bg) : ∃ x, ns_cg R C x ∧ bc d = nI x ∧ ns_bn bc d = x := by
  obtain ⟨A, B, f0, A0, B0, P, e, hi, hL, hbc⟩ := h
  obtain ⟨x, hx, ex⟩ := hbc d (by omega)
  have b : ns_bn bc d = x := by show (bc d).toNatClampNeg = x; rw [ex, nI_clamp (by omega)]
  have fr := hL.1.2.2.1 d (by omega)
  rw [b] at fr
  exact ⟨x, fr.2.2.1, ex, b⟩
theorem ns_XM_pop {t f d x : Nat} {so bc bg : Nat → Int32} {pl : Int32} (hS : ∀ a p, S a p → p < 256) (hR : R ≤ 8) (hC : C ≤ 8) (h : ns_XM R C S g t f (d + 1) so bc bg) (hf : f < 2) (hx : bc d = nI x) (hx2 : ns_cg R C x)
    (hpl : ∀ b, b < 32 → (bt pl b = true ↔ b = x / 8 ∨ b = 8 + x % 8)) : ns_XV R C S g (t + 1) f d so (upd (ns_gr bg d) x 2) pl bc bg := by
  obtain ⟨A, B, f0, A0, B0, P, e, hi, hL, hbc⟩ := h
  have x64 := hx2.1
  have b : ns_bn bc d = x := by show (bc d).toNatClampNeg = x; rw [hx, nI_clamp (by omega)]
  have fr := hL.1.2.2.1 d (by omega)
  have := ns_XL_pop hS hR hC hL hf hi
  rw [b] at this
  exact ⟨A, B, e, this, ns_pd_cell hx2 hR hC fr.1 ((hpl _ (by omega)).mpr (Or.inl rfl)) ((hpl _ (by omega)).mpr (Or.inr rfl)), ns_pg_cell hR hC hx2 hpl, fun j hj => hbc j (by omega)⟩
theorem ns_XV_0 {bc bg : Nat → Int32} {pl : Int32} (hR : R ≤ 8) (hg : ns_ok R C g) (hb : ∀ r, r < R → ns_ct (S r) 256 ≤ 30) (pd : ns_pd R C S g (ns_pb pl)) (pg : ns_pg R C pl) : ns_XV R C S g 0 0 0 (fun _ => 0) g pl bc bg :=
  ⟨fun _ => 0, fun _ => 0, (ns_st_0 _ _).symm, ns_XL_0 _ _ _ _ hR hg hb, pd, pg, fun j hj => absurd hj (by omega)⟩
theorem ns_XV_t {t f d : Nat} {so ce bc bg : Nat → Int32} {pl : Int32} (h : ns_XV R C S g t f d so ce pl bc bg) : t ≤ 2 * 30 ^ 8 := by
  obtain ⟨A, B, _, hL, _⟩ := h
  have := hL.2.2.2.2
  omega
/-- Y's search -/
def ns_YV (R C : Nat) (S : Nat → Nat → Prop) (g : Nat → Int32) (t f d : Nat) (so ce cd : Nat → Int32) : Prop :=
  ∃ A B w, so = ns_st f A B ∧ ns_YL R C S g t f A B d w ∧ (∀ r, r ≤ d → cd r + 1 = nI (w r) ∧ w r ≤ 2 ^ C) ∧ ∀ j, ¬ (j / 8 = d ∧ j % 8 < C) → ce j = ns_gd C g d w j
/-- what nextRow finds: the next value of row d -/
def ns_nx (R C : Nat) (S : Nat → Nat → Prop) (g : Nat → Int32) (d : Nat) (w : Nat → Nat) (v : Nat) : Prop :=
  w d ≤ v ∧ v < 2 ^ C ∧ (∀ u, w d ≤ u → u < v → ns_no R C S g d w u) ∧ (∃ p, ns_vp C v p ∧ ns_cons R C S (ns_gd C g d w) d p) ∧
  ∀ a, 8 ≤ a → ns_ing R C a → ∃ q, ns_cons R C S (ns_gd C g (d + 1) (ns_up w d (v + 1))) a q
theorem ns_YV_none {t f d : Nat} {A B so : Nat → Int32} {w : Nat → Nat} (e : so = ns_st f A B) (h : ns_YL R C S g t f A B 0 w) (hn : ∀ u, w 0 ≤ u → u < 2 ^ C → ns_no R C S g 0 w u) : ns_out R C S g f so :=
  ⟨A, B, e, ns_YL_none h hn⟩
theorem ns_YV_up {t f d : Nat} {A B so cd : Nat → Int32} {w : Nat → Nat} (e : so = ns_st f A B) (h : ns_YL R C S g t f A B (d + 1) w) (hcd : ∀ r, r ≤ d + 1 → cd r + 1 = nI (w r) ∧ w r ≤ 2 ^ C)
    (hn : ∀ u, w (d + 1) ≤ u → u < 2 ^ C → ns_no R C S g (d + 1) w u) : ns_YV R C S g (t + 1) f d so (ns_gd C g (d + 1) w) cd := by
  refine ⟨A, B, w, e, ns_YL_up h hn, fun r hr => hcd r (by omega), fun j hj => ?_⟩
  simp only [ns_gd]
  by_cases z : j / 8 < d ∧ j % 8 < C
  · have c1 : j / 8 < d + 1 ∧ j % 8 < C := ⟨by omega, z.2⟩
    rw [if_pos c1, if_pos z]
  · have c1 : ¬ (j / 8 < d + 1 ∧ j % 8 < C) := by omega
    rw [if_neg c1, if_neg z]
theorem ns_YV_down {t f d v : Nat} {A B so cd cd' : Nat → Int32} {w : Nat → Nat} (hR : R ≤ 8) (hC : C ≤ 8) (hC0 : 0 < C) (hP : ∀ r p q, S r p → S r q → ns_pop (fun i => p.testBit i) 9 = ns_pop (fun i => q.testBit i) 9)
    (e : so = ns_st f A B) (h : ns_YL R C S g t f A B d w) (hcd : ∀ r, r ≤ d → cd r + 1 = nI (w r) ∧ w r ≤ 2 ^ C) (hd : d + 1 < R) (hx : ns_nx R C S g d w v)
    (hcd' : cd' = upd (upd cd d (nI v)) (d + 1) (-1)) : ns_YV R C S g (t + 1) f (d + 1) so (ns_gd C g (d + 1) (ns_up w d (v + 1))) cd' := by
  obtain ⟨h1, h2, h3, ⟨p, h4, h5⟩, h6⟩ := hx
  refine ⟨A, B, ns_up (ns_up w d (v + 1)) (d + 1) 0, e,
    ns_YL_down hR hC hC0 hP h hd h1 h2 h3 h4 h5 (fun r hr => by rw [ns_up_n (by omega), ns_up_n (by omega)]) (by rw [ns_up_n (by omega), ns_up_s]) ns_up_s, fun r hr => ?_, fun j hj => ?_⟩
  · rw [hcd']
    by_cases e1 : r = d + 1
    · subst e1; rw [ns_upd_s, ns_up_s]; exact ⟨by decide, by omega⟩
    · rw [ns_upd_n e1, ns_up_n e1]
      by_cases e2 : r = d
      · subst e2; rw [ns_upd_s, ns_up_s, nI_1]; exact ⟨rfl, by omega⟩
      · rw [ns_upd_n e2, ns_up_n e2]; exact hcd r (by omega)
  · rw [ns_gd_eq (w := ns_up w d (v + 1)) (fun r hr => ns_up_n (by omega))]
/-- the last row is found: a solution -/
theorem ns_YV_last {t f d v : Nat} {A B so so' cd cd' : Nat → Int32} {w : Nat → Nat} (hR : R ≤ 8) (hC : C ≤ 8) (hg : ns_ok R C g)
    (e : so = ns_st f A B) (h : ns_YL R C S g t f A B d w) (hcd : ∀ r, r ≤ d → cd r + 1 = nI (w r) ∧ w r ≤ 2 ^ C) (hd : d + 1 = R) (hx : ns_nx R C S g d w v)
    (hcd' : cd' = upd cd d (nI v)) (h1 : ∀ q, q < 64 → so' (f * 64 + q) = ns_gd C g (d + 1) (ns_up w d (v + 1)) q) (h2 : ∀ j, (∀ q, q < 64 → j ≠ f * 64 + q) → so' j = so j) :
    (f = 1 → ns_out R C S g 2 so') ∧ (f = 0 → ns_YV R C S g (t + 1) 1 d so' (ns_gd C g (d + 1) (ns_up w d (v + 1))) cd') := by
  obtain ⟨x1, x2, x3, ⟨p, x4, x5⟩, x6⟩ := hx
  have key := ns_YL_last (w' := ns_up w d (v + 1)) hR hC hg h hd x1 x2 x3 x4 x5 (fun r hr => ns_up_n (by omega)) ns_up_s (by have x7 := x6; rw [hd] at x7; exact x7)
  obtain ⟨k1, k2, k3⟩ := key
  have ok := ns_gd_ok (w := ns_up w d (v + 1)) (d := d + 1) hR (by omega) hg
  have est := ns_st_put (f := f) (A := A) (B := B) h.2.1 (ns_ok64 ok) h1 (fun j hj => by rw [h2 j hj, e])
  rw [hd] at est ⊢
  constructor
  · intro z
    subst z
    exact ⟨_, _, est, ns_inv_end2 k1⟩
  · intro z
    subst z
    refine ⟨_, _, ns_up w d (v + 1), est, ⟨h.1, by omega, k1, k2, k3⟩, fun r hr => ?_, fun j hj => ?_⟩
    · rw [hcd']
      by_cases e2 : r = d
      · subst e2; rw [ns_upd_s, ns_up_s, nI_1]; exact ⟨rfl, by omega⟩
      · rw [ns_upd_n e2, ns_up_n e2]; exact hcd r hr
    · rw [← hd]; simp only [ns_gd]
      by_cases z : j / 8 < d ∧ j % 8 < C
      · have c1 : j / 8 < d + 1 ∧ j % 8 < C := ⟨by omega, z.2⟩
        rw [if_pos c1, if_pos z]
      · have c1 : ¬ (j / 8 < d + 1 ∧ j % 8 < C) := by omega
        rw [if_neg c1, if_neg z]
theorem ns_YV_0 {cd : Nat → Int32} (hR0 : 0 < R) (hR : R ≤ 8) (hC : C ≤ 8) (hC0 : 0 < C) (hP : ∀ r p q, S r p → S r q → ns_pop (fun i => p.testBit i) 9 = ns_pop (fun i => q.testBit i) 9) (hcd : cd 0 = -1) : ns_YV R C S g 0 0 0 (fun _ => 0) g cd := by
  refine ⟨fun _ => 0, fun _ => 0, fun _ => 0, (ns_st_0 _ _).symm, ns_YL_0 hR0 hR hC hC0 hP rfl, fun r hr => ?_, fun j _ => ?_⟩
  · have : r = 0 := by omega
    subst this; rw [hcd]; exact ⟨by decide, Nat.zero_le _⟩
  · rw [ns_gd_out (by omega)]
theorem ns_out_uniq {f f' : Nat} {so so' : Nat → Int32} (h : ns_out R C S g f so) (h' : ns_out R C S g f' so') : f = f' ∧ so = so' := by
  obtain ⟨A, B, e, s⟩ := h
  obtain ⟨A', B', e', s'⟩ := h'
  have := ns_st_uniq s s'
  rw [e, e']; exact this
theorem ns_out_le {f : Nat} {so : Nat → Int32} (h : ns_out R C S g f so) : f ≤ 2 := by
  obtain ⟨A, B, e, s⟩ := h
  rcases s with ⟨z, _⟩ | ⟨z, _⟩ | ⟨z, _⟩ <;> omega
/-- no solution at all -/
theorem ns_out_0 (h : ∀ Z, ¬ ns_sol R C S g Z) : ns_out R C S g 0 (fun _ => 0) := ⟨fun _ => 0, fun _ => 0, (ns_st_0 _ _).symm, Or.inl ⟨rfl, h⟩⟩
end
theorem ns_XV_ok {R C : Nat} {S : Nat → Nat → Prop} {g : Nat → Int32} {t f d : Nat} {so ce bc bg : Nat → Int32} {pl : Int32} (h : ns_XV R C S g t f d so ce pl bc bg) :
    ns_ok R C ce ∧ ns_pd R C S ce (ns_pb pl) ∧ ns_pg R C pl ∧ f < 2 := by
  obtain ⟨A, B, _, hL, pd, pg, _⟩ := h
  exact ⟨hL.1.1, pd, pg, hL.2.1⟩
theorem ns_XM_e {R C : Nat} {S : Nat → Nat → Prop} {g : Nat → Int32} {t f d : Nat} {so bc bg : Nat → Int32} (h : ns_XM R C S g t f (d + 1) so bc bg) : d < 64 := by
  obtain ⟨x, hx, _, hb⟩ := ns_XM_top h
  obtain ⟨A, B, f0, A0, B0, P, e, hi, hL, hbc⟩ := h
  have := ns_XI_idx hL.1 d (by omega)
  rw [hb] at this
  have := hx.1
  omega
end
section
/-! how the pending lines change along a line -/
def ns_pk (a n : Nat) (P : Nat → Int32) (pl : Int32) (P' : Nat → Int32) (pl' : Int32) : Prop :=
  (∀ b, b < 32 → bt pl b = true → bt pl' b = true) ∧
  (∀ i, i < n → P (ns_lc a i) = 0 → P' (ns_lc a i) ≠ 0 → bt pl' (ns_xl a i) = true) ∧
  ∀ b, b < 32 → bt pl' b = true → bt pl b = true ∨ ∃ i, i < n ∧ P (ns_lc a i) = 0 ∧ P' (ns_lc a i) ≠ 0 ∧ b = ns_xl a i
theorem ns_pk_0 {a : Nat} {P : Nat → Int32} {pl : Int32} : ns_pk a 0 P pl P pl := ⟨fun _ _ z => z, fun i hi => absurd hi (by omega), fun _ _ z => Or.inl z⟩
theorem ns_pk_keep {a n : Nat} {P P' : Nat → Int32} {pl pl' : Int32} (h : ns_pk a n P pl P' pl') (e : P' (ns_lc a n) = P (ns_lc a n)) : ns_pk a (n + 1) P pl P' pl' := by
  refine ⟨h.1, fun i hi z0 z1 => ?_, fun b hb z => ?_⟩
  · by_cases ei : i = n
    · subst ei; rw [e] at z1; exact absurd z0 z1
    · exact h.2.1 i (by omega) z0 z1
  · rcases h.2.2 b hb z with y | ⟨i, hi, y⟩
    · exact Or.inl y
    · exact Or.inr ⟨i, by omega, y⟩
theorem ns_pk_put {a n : Nat} {P P' : Nat → Int32} {pl pl' x : Int32} (hn : n < 8) (ha : a < 16) (h : ns_pk a n P pl P' pl') (h0 : P (ns_lc a n) = 0) (hx : x ≠ 0) :
    ns_pk a (n + 1) P pl (upd P' (ns_lc a n) x) (pl' ||| ((1 : Int32) <<< (nI (ns_xl a n) &&& 31))) := by
  have xl : ns_xl a n < 32 := by unfold ns_xl; split <;> omega
  have un : ∀ i, i < n → upd P' (ns_lc a n) x (ns_lc a i) = P' (ns_lc a i) := fun i hi => ns_upd_n (fun z => by have := ns_lc_inj (a := a) (by omega) hn z; omega)
  refine ⟨fun b hb z => ?_, fun i hi z0 z1 => ?_, fun b hb z => ?_⟩
  · rw [b_or, h.1 b hb z]; rfl
  · rw [b_or]
    by_cases ei : i = n
    · subst ei; rw [ns_sh1 xl xl]; simp
    · rw [un i (by omega)] at z1
      rw [h.2.1 i (by omega) z0 z1]; rfl
  · rw [b_or, ns_sh1 xl hb, Bool.or_eq_true, decide_eq_true_eq] at z
    rcases z with z | z
    · rcases h.2.2 b hb z with y | ⟨i, hi, y0, y1, y2⟩
      · exact Or.inl y
      · exact Or.inr ⟨i, by omega, y0, by rw [un i hi]; exact y1, y2⟩
    · exact Or.inr ⟨n, by omega, h0, by rw [ns_upd_s]; exact hx, z⟩
/-- the line's own bit was cleared first -/
theorem ns_clr {a b : Nat} {pl : Int32} (ha : a < 32) (hb : b < 32) : bt (pl &&& (((1 : Int32) <<< (nI a &&& 31)) ^^^ (-1))) b = true ↔ bt pl b = true ∧ b ≠ a := by
  rw [b_and, ns_not _ hb, ns_sh1 ha hb, Bool.and_eq_true]
  by_cases e : b = a
  · subst e; simp
  · simp [e]
theorem ns_pk_end {R C a : Nat} {P P' : Nat → Int32} {pl pl' : Int32} (ha : a < 16) (h : ns_pk a (ns_len R C a) P (pl &&& (((1 : Int32) <<< (nI a &&& 31)) ^^^ (-1))) P' pl') : ns_pc R C a P pl P' pl' :=
  ⟨fun b hb ne z => h.1 b hb ((ns_clr (by omega) hb).mpr ⟨z, ne⟩), h.2.1, fun b hb z => (h.2.2 b hb z).imp (fun y => (ns_clr (by omega) hb).mp y) id⟩
/-- the clue counts -/
def ns_cc (cn : Nat → Int32) : Nat → Nat := fun a => (cn a).toNatClampNeg
def ns_cnt (R C : Nat) (cn : Nat → Int32) : Prop := ∀ a, a < 16 → ns_cc cn a ≤ 4 ∧ cn a = nI (ns_cc cn a) ∧ (¬ ns_ing R C a → cn a = 0)
theorem ns_cc_0 {cn : Nat → Int32} {a : Nat} (h : cn a = 0) : ns_cc cn a = 0 := by unfold ns_cc; rw [h]; rfl
theorem ns_cc_upd {R C a c : Nat} {cn : Nat → Int32} (h : ns_cnt R C cn) (ha : ns_ing R C a) (hc : c ≤ 4) : ns_cnt R C (upd cn a (nI c)) := by
  intro b hb
  by_cases e : b = a
  · subst e
    have z : ns_cc (upd cn b (nI c)) b = c := by unfold ns_cc; rw [ns_upd_s, nI_clamp (by omega)]
    rw [z, ns_upd_s]; exact ⟨hc, rfl, fun n => absurd ha n⟩
  · have z : ns_cc (upd cn a (nI c)) b = ns_cc cn b := by unfold ns_cc; rw [ns_upd_n e]
    rw [z, ns_upd_n e]; exact h b hb
/-- cells' values -/
theorem ns_ok_upd {R C x : Nat} {P : Nat → Int32} {v : Int32} (h : ns_ok R C P) (hx : ns_cg R C x) (hv : v = 0 ∨ v = 1 ∨ v = 2) : ns_ok R C (upd P x v) := by
  intro j
  by_cases e : j = x
  · subst e; rw [ns_upd_s]; exact ⟨hv, fun z => absurd hx z⟩
  · rw [ns_upd_n e]; exact h j
theorem ns_ok_0 (R C : Nat) : ns_ok R C (fun _ => 0) := fun _ => ⟨Or.inl rfl, fun _ => rfl⟩
end
section
/-! the outcome of propagate; filling and copying loops -/
section
variable {R C : Nat} {S : Nat → Nat → Prop} {g : Nat → Int32}
def ns_po (R C : Nat) (S : Nat → Nat → Prop) (g : Nat → Int32) (st : Int32) (kn : Nat → Int32) : Prop :=
  (ns_cls R C S kn ∧ ns_le g kn ∧ ns_blw R C S g kn ∧ (((∀ j, ns_cg R C j → kn j ≠ 0) ∧ st = 5) ∨ ((∃ j, ns_cg R C j ∧ kn j = 0) ∧ st = 6))) ∨
  ((∀ Q, ns_cls R C S Q → ¬ ns_le g Q) ∧ kn = (fun _ => 0) ∧ st = 4)
theorem ns_po_uniq {st st' : Int32} {kn kn' : Nat → Int32} (h : ns_po R C S g st kn) (h' : ns_po R C S g st' kn') : st = st' ∧ kn = kn' := by
  rcases h with ⟨c, l, b, e⟩ | ⟨n, z, e⟩
  · rcases h' with ⟨c', l', b', e'⟩ | ⟨n', _⟩
    · have ek : kn = kn' := ns_le_anti (b _ c' l') (b' _ c l)
      subst ek
      refine ⟨?_, rfl⟩
      rcases e with ⟨f, e⟩ | ⟨⟨j, hj, z⟩, e⟩
      · rcases e' with ⟨_, e'⟩ | ⟨⟨j, hj, z⟩, _⟩
        · rw [e, e']
        · exact absurd z (f j hj)
      · rcases e' with ⟨f', _⟩ | ⟨_, e'⟩
        · exact absurd z (f' j hj)
        · rw [e, e']
    · exact absurd l (n' _ c)
  · rcases h' with ⟨c', l', _⟩ | ⟨_, z', e'⟩
    · exact absurd l' (n _ c')
    · rw [z, z', e, e']; exact ⟨rfl, rfl⟩
theorem ns_po_ok {st : Int32} {kn : Nat → Int32} (h : ns_po R C S g st kn) : ns_ok R C kn := by
  rcases h with ⟨c, _⟩ | ⟨_, z, _⟩
  · exact c.1
  · rw [z]; exact ns_ok_0 R C
end
/-- f is copied into a below n -/
def ns_cp (f a a' : Nat → Int32) (n : Nat) : Prop := (∀ j, j < n → a' j = f j) ∧ ∀ j, n ≤ j → a' j = a j
theorem ns_cp_0 {f a : Nat → Int32} : ns_cp f a a 0 := ⟨fun j hj => absurd hj (by omega), fun _ _ => rfl⟩
theorem ns_cp_s {f a a' : Nat → Int32} {n : Nat} {x : Int32} (h : ns_cp f a a' n) (e : x = f n) : ns_cp f a (upd a' n x) (n + 1) :=
  ⟨fun j hj => by
    by_cases z : j = n
    · subst z; rw [ns_upd_s, e]
    · rw [ns_upd_n z]; exact h.1 j (by omega),
   fun j hj => by rw [ns_upd_n (by omega)]; exact h.2 j (by omega)⟩
theorem ns_cp_end {f a a' : Nat → Int32} {n : Nat} (h : ns_cp f a a' n) (k : ∀ j, n ≤ j → a j = f j) : a' = f := by
  funext j
  by_cases z : j < n
  · exact h.1 j z
  · rw [h.2 j (by omega)]; exact k j (by omega)
/-- f is copied to place o of a below n -/
def ns_cq (f a a' : Nat → Int32) (o n : Nat) : Prop := (∀ q, q < n → a' (o + q) = f q) ∧ ∀ j, (∀ q, q < n → j ≠ o + q) → a' j = a j
theorem ns_cq_0 {f a : Nat → Int32} {o : Nat} : ns_cq f a a o 0 := ⟨fun j hj => absurd hj (by omega), fun _ _ => rfl⟩
theorem ns_cq_s {f a a' : Nat → Int32} {o n : Nat} {x : Int32} (h : ns_cq f a a' o n) (e : x = f n) : ns_cq f a (upd a' (o + n) x) o (n + 1) :=
  ⟨fun j hj => by
    by_cases z : j = n
    · subst z; rw [ns_upd_s, e]
    · rw [ns_upd_n (by omega)]; exact h.1 j (by omega),
   fun j hj => by rw [ns_upd_n (hj n (by omega))]; exact h.2 j (fun q hq => hj q (by omega))⟩
/-- a line named by kind and number, or none -/
def ns_nl (R C : Nat) (v1 v2 : Int32) : Prop := ¬ (v1 = 0 ∧ ¬ v2 < 0 ∧ ¬ nI R ≤ v2) ∧ ¬ (v1 = 1 ∧ ¬ v2 < 0 ∧ ¬ nI C ≤ v2)
theorem ns_kl {R C : Nat} (hR : R ≤ 8) (hC : C ≤ 8) (v1 v2 : Int32) :
    (∃ L, L < R ∧ v1 = 0 ∧ v2 = nI L) ∨ (∃ L, L < C ∧ v1 = 1 ∧ v2 = nI L) ∨ ns_nl R C v1 v2 := by
  by_cases h1 : v1 = 0 ∧ ¬ v2 < 0 ∧ ¬ nI R ≤ v2
  · obtain ⟨e, a, b⟩ := h1
    obtain ⟨j, hj, rfl⟩ := nI_of a
    refine Or.inl ⟨j, ?_, e, rfl⟩
    rw [nI_leI (by omega) hj] at b; omega
  · by_cases h2 : v1 = 1 ∧ ¬ v2 < 0 ∧ ¬ nI C ≤ v2
    · obtain ⟨e, a, b⟩ := h2
      obtain ⟨j, hj, rfl⟩ := nI_of a
      refine Or.inr (Or.inl ⟨j, ?_, e, rfl⟩)
      rw [nI_leI (by omega) hj] at b; omega
    · exact Or.inr (Or.inr ⟨h1, h2⟩)
def ns_nc (R C : Nat) (v1 v2 : Int32) : Prop := v1 < 0 ∨ nI R ≤ v1 ∨ v2 < 0 ∨ nI C ≤ v2
theorem ns_rcx {R C : Nat} (hR : R ≤ 8) (hC : C ≤ 8) (v1 v2 : Int32) : (∃ r c, r < R ∧ c < C ∧ v1 = nI r ∧ v2 = nI c) ∨ ns_nc R C v1 v2 := by
  by_cases h1 : v1 < 0
  · exact Or.inr (Or.inl h1)
  · by_cases h2 : nI R ≤ v1
    · exact Or.inr (Or.inr (Or.inl h2))
    · by_cases h3 : v2 < 0
      · exact Or.inr (Or.inr (Or.inr (Or.inl h3)))
      · by_cases h4 : nI C ≤ v2
        · exact Or.inr (Or.inr (Or.inr (Or.inr h4)))
        · obtain ⟨r, hr, rfl⟩ := nI_of h1
          obtain ⟨c, hc, rfl⟩ := nI_of h3
          rw [nI_leI (by omega) hr] at h2
          rw [nI_leI (by omega) hc] at h4
          exact Or.inl ⟨r, c, by omega, by omega, rfl, rfl⟩
theorem ns_cq_k {f a a' : Nat → Int32} {o n : Nat} (h : ns_cq f a a' o n) (e : a (o + n) = f n) : ns_cq f a a' o (n + 1) :=
  ⟨fun j hj => by
    by_cases z : j = n
    · subst z; rw [h.2 _ (fun q hq => by omega)]; exact e
    · exact h.1 j (by omega),
   fun j hj => h.2 j (fun q hq => hj q (by omega))⟩
theorem ns_st_at (f : Nat) (A B : Nat → Int32) (q : Nat) (hq : q < 64) (hf : f < 2) : ns_st f A B (f * 64 + q) = 0 := by
  by_cases e : f = 0
  · subst e; simp [ns_st, hq]
  · have e1 : f = 1 := by omega
    subst e1
    have h1 : ¬ 1 * 64 + q < 64 := by omega
    have h2 : 1 * 64 + q < 128 := by omega
    simp only [ns_st]
    rw [if_neg h1, if_pos h2, if_neg (by omega)]
/-- the bits of v turned round -/
def ns_rv (C v n : Nat) (x : Int32) : Prop := ∀ k, k < 32 → (bt x k = true ↔ k < n ∧ v.testBit (C - 1 - k) = true)
theorem ns_rv_0 {C v : Nat} : ns_rv C v 0 0 := fun k _ => by
  rw [b_0]; exact ⟨(fun z => nomatch z), fun z => absurd z.1 (by omega)⟩
theorem ns_rv_t {C v n : Nat} {x : Int32} (hn : n < 32) (h : ns_rv C v n x) (e : v.testBit (C - 1 - n) = true) : ns_rv C v (n + 1) (x ||| ((1 : Int32) <<< (nI n &&& 31))) := by
  intro k hk
  rw [b_or, ns_sh1 hn hk, Bool.or_eq_true, decide_eq_true_eq, h k hk]
  constructor
  · rintro (⟨a, b⟩ | rfl)
    · exact ⟨by omega, b⟩
    · exact ⟨by omega, e⟩
  · rintro ⟨a, b⟩
    by_cases z : k = n
    · exact Or.inr z
    · exact Or.inl ⟨by omega, b⟩
theorem ns_rv_f {C v n : Nat} {x : Int32} (h : ns_rv C v n x) (e : ¬ v.testBit (C - 1 - n) = true) : ns_rv C v (n + 1) x := by
  intro k hk
  rw [h k hk]
  constructor
  · rintro ⟨a, b⟩; exact ⟨by omega, b⟩
  · rintro ⟨a, b⟩
    by_cases z : k = n
    · subst z; exact absurd b e
    · exact ⟨by omega, b⟩
theorem ns_rv_end {C v : Nat} {x : Int32} (hC : C ≤ 8) (h : ns_rv C v C x) : ∃ p, ns_vp C v p ∧ x = nI p := by
  obtain ⟨p, hp, e⟩ := ns_ofbits x (n := C) (by omega) (fun i hi hc => by
    cases t : bt x i with
    | false => rfl
    | true => have := ((h i hi).mp t).1; omega)
  refine ⟨p, ⟨hp, fun c hc => ?_⟩, e⟩
  have p256 : p < 256 := Nat.lt_of_lt_of_le hp (ns_pw_le hC)
  have k := h c (by omega)
  rw [e, ns_btN (by omega)] at k
  cases t : v.testBit (C - 1 - c) with
  | true => exact k.mpr ⟨hc, t⟩
  | false =>
    cases s : p.testBit c with
    | false => rfl
    | true => have := (k.mp s).2; rw [t] at this; exact nomatch this
theorem ns_c1c {C c : Nat} (h : c < C) : nI C - 1 - nI c = nI (C - 1 - c) := by
  show nI C - nI 1 - nI c = _
  rw [pk_sub (by omega), pk_sub (by omega)]
theorem ns_row_out {C d j : Nat} (hC : C ≤ 8) (h : ¬ (j / 8 = d ∧ j % 8 < C)) : ∀ q, q < C → j ≠ d * 8 + q := fun q hq e => h ⟨by omega, by omega⟩
end
section
/-! X: lines, clue, fillings -/
section
variable {R C : Nat} {st sv pl : Int32} {cn cl gv kn so fc fl ce bc bg : Nat → Int32}
theorem xw_len {post : Int32 → Prop} {a : Nat} (ha : a < 16) (hp : post (nI (ns_len R C a))) : wpX_lineLength post ((nI R), (nI C), st, sv, pl, cn, cl, gv, kn, so, fc, fl, ce, bc, bg) (nI a) := by
  by_cases h : a < 8
  · simp only [ns_len, h, if_true] at hp
    exact br_f (ns_nge8 h) hp
  · simp only [ns_len, h, if_false] at hp
    exact br_t (ns_ge8 (by omega) (by omega)) hp
theorem xw_ing {post : Int32 → Prop} {a : Nat} (hR : R ≤ 8) (hC : C ≤ 8) (ha : a < 16) (h1 : ns_ing R C a → post 1) (h0 : ¬ ns_ing R C a → post 0) : wpX_isInGrid post ((nI R), (nI C), st, sv, pl, cn, cl, gv, kn, so, fc, fl, ce, bc, bg) (nI a) := by
  by_cases h : a < 8
  · refine br_f (ns_nge8 h) ?_
    by_cases k : a < R
    · exact br_f (nI_ge k (by omega)) (h1 ⟨ha, fun _ => k, fun z => by omega⟩)
    · exact br_t (nI_le (by omega) (by omega)) (h0 (fun z => k (z.2.1 h)))
  · refine br_t (ns_ge8 (by omega) (by omega)) ?_
    by_cases k : a - 8 < C
    · exact br_f (by rw [ns_m8 (by omega)]; exact nI_ge k (by omega)) (h1 ⟨ha, fun z => by omega, fun _ => by omega⟩)
    · exact br_t (by rw [ns_m8 (by omega)]; exact nI_le (by omega) (by omega)) (h0 (fun z => k (by have := z.2.2 (by omega); omega)))
theorem xw_lc {post : Int32 → Prop} {a i : Nat} (ha : a < 16) (hi : i < 8) (hp : post (nI (ns_lc a i))) : wpX_lineCell post (nI a) (nI i) := by
  by_cases h : a < 8
  · rw [ns_lc_row h, ← ns_i8] at hp
    exact br_f (ns_nge8 h) hp
  · rw [ns_lc_col (by omega)] at hp
    have e : nI i * 8 + nI a - 8 = nI (i * 8 + (a - 8)) := by
      rw [ns_i8]
      show nI (i * 8 + a) - nI 8 = _
      rw [pk_sub (by omega)]; congr 1; omega
    rw [← e] at hp
    exact br_t (ns_ge8 (by omega) (by omega)) hp
theorem xw_xl {post : Int32 → Prop} {a i : Nat} (ha : a < 16) (hp : post (nI (ns_xl a i))) : wpX_crossingLine post (nI a) (nI i) := by
  by_cases h : a < 8
  · simp only [ns_xl, h, if_true] at hp
    rw [← ns_8p] at hp
    exact br_f (ns_nge8 h) hp
  · simp only [ns_xl, h, if_false] at hp
    exact br_t (ns_ge8 (by omega) (by omega)) hp
theorem xw_sum_loop {post : Int32 → Prop} {a c : Nat} (ha : a < 16) (hcn : cn a = nI c) (hc : c ≤ 4) (hp : post (ns_sm (fun k => cl (a * 4 + k)) c)) :
    ∀ n i, i ≤ c → c < n + i → wX_clueSum_4 post (nI a) (nI R) (nI C) st sv pl cn cl gv kn so fc fl ce bc bg n (ns_sm (fun k => cl (a * 4 + k)) i) (nI i) := by
  intro n
  induction n with
  | zero => intro i h1 h2; omega
  | succ n ih =>
    intro i h1 h2
    have ina : vp_in (nI a) 16 := vp_in_nI ha (by omega)
    have cla : cn (nI a).toNatClampNeg = nI c := by rw [nI_clamp (by omega)]; exact hcn
    refine ⟨ina, ?_⟩
    rw [cla]
    by_cases h : i = c
    · subst h; exact br_t (nI_le (Nat.le_refl _) (by omega)) hp
    · refine br_f (nI_ge (by omega) (by omega)) ⟨pk_in (a * 4 + i) 64 (by omega) (ns_i4 a i), ?_⟩
      have rd : cl (nI a * 4 + nI i).toNatClampNeg = cl (a * 4 + i) := by rw [ns_i4, nI_clamp (by omega)]
      rw [rd]
      exact nm_e (nm_r (nI_1 i) (ih (i + 1) (by omega) (by omega)))
theorem xw_sum {post : Int32 → Prop} {a c : Nat} (ha : a < 16) (hcn : cn a = nI c) (hc : c ≤ 4) (hp : post (ns_sm (fun k => cl (a * 4 + k)) c)) : wpX_clueSum post ((nI R), (nI C), st, sv, pl, cn, cl, gv, kn, so, fc, fl, ce, bc, bg) (nI a) :=
  ⟨c + 1, xw_sum_loop ha hcn hc hp (c + 1) 0 (by omega) (by omega)⟩
theorem xw_sat_loop {post : Int32 → Prop} {a p c : Nat} (ha : a < 16) (hp : p < 256) (hcn : cn a = nI c) (hc : c ≤ 4)
    (h1 : ns_au c (fun k => cl (a * 4 + k)) (fun i => p.testBit i) 9 = some (c, 0) → post 1) (h0 : ns_au c (fun k => cl (a * 4 + k)) (fun i => p.testBit i) 9 ≠ some (c, 0) → post 0) :
    ∀ n i k r, i ≤ 9 → 9 < n + i → ns_au c (fun k => cl (a * 4 + k)) (fun i => p.testBit i) i = some (k, r) → wX_satisfiesClue_8 post (nI a) (nI p) (nI R) (nI C) st sv pl cn cl gv kn so fc fl ce bc bg n (nI k) (nI r) (nI i) := by
  intro n
  induction n with
  | zero => intro i k r hi hn; omega
  | succ n ih =>
    intro i k r hi hn e
    have le := ns_au_le _ _ _ e
    have ina : vp_in (nI a) 16 := vp_in_nI ha (by omega)
    have cla : cn (nI a).toNatClampNeg = nI c := by rw [nI_clamp (by omega)]; exact hcn
    by_cases h9 : i = 9
    · subst h9
      have r0 : r = 0 := ns_end (n := 8) (ns_off (n := 8) (by omega) 8 (by omega)) e
      subst r0
      refine br_t (nI_lt (a := 8) (b := 9) (by omega) (by omega)) ⟨ina, ?_⟩
      rw [cla]
      by_cases hk : k = c
      · subst hk; exact br_t rfl (h1 e)
      · exact br_f (fun z => hk ((nI_eq (by omega) (by omega)).mp z)) (h0 (by rw [e]; intro z; cases z; exact hk rfl))
    · refine br_f (nI_nlt (a := 8) (by omega) (by omega)) ?_
      cases hb : p.testBit i with
      | true => exact br_t (ns_tb_t hp (by omega) hb) (nm_r (nI_1 r) (nm_r (nI_1 i) (ih (i + 1) k (r + 1) (by omega) (by omega) (ns_au_t e hb))))
      | false =>
        refine br_f (ns_tb_f hp (by omega) hb) ?_
        by_cases hr : r = 0
        · subst hr; exact br_t (by decide) (nm_r (nI_1 i) (ih (i + 1) k 0 (by omega) (by omega) (ns_au_z e hb)))
        · refine br_f (nI_nle (by omega) (by omega)) ⟨ina, ?_⟩
          rw [cla]
          have none_of : ¬ (k < c ∧ cl (a * 4 + k) = nI r) → post 0 := fun z => h0 (by rw [show 9 = i + 1 + (8 - i) by omega, ns_au_n (ns_au_x e hb hr z)]; exact nofun)
          by_cases hk : k < c
          · refine br_f (nI_ge hk (by omega)) ⟨pk_in (a * 4 + k) 64 (by omega) (ns_i4 a k), ?_⟩
            have rd : cl (nI a * 4 + nI k).toNatClampNeg = cl (a * 4 + k) := by rw [ns_i4, nI_clamp (by omega)]
            rw [rd]
            by_cases hq : cl (a * 4 + k) = nI r
            · exact br_t hq (nm_r (nI_1 k) (nm_r (nI_1 i) (ih (i + 1) (k + 1) 0 (by omega) (by omega) (ns_au_e e hb hr ⟨hk, hq⟩))))
            · exact br_f hq (none_of (fun z => hq z.2))
          · exact br_t (nI_le (by omega) (by omega)) (none_of (fun z => hk z.1))
theorem xw_sat {post : Int32 → Prop} {a p : Nat} (hR : R ≤ 8) (hC : C ≤ 8) (ha : a < 16) (hcn : ns_cnt R C cn) (hp : p < 2 ^ ns_len R C a)
    (h1 : ns_S R C (ns_cc cn) cl a p → post 1) (h0 : ¬ ns_S R C (ns_cc cn) cl a p → post 0) : wpX_satisfiesClue post ((nI R), (nI C), st, sv, pl, cn, cl, gv, kn, so, fc, fl, ce, bc, bg) (nI a) (nI p) := by
  obtain ⟨c4, ce', _⟩ := hcn a ha
  have hl := ns_len_le hR hC (a := a)
  have p256 : p < 256 := Nat.lt_of_lt_of_le hp (ns_pw_le hl)
  have iff9 := ns_sat9 (c := ns_cc cn a) (cl := fun k => cl (a * 4 + k)) hl (ns_off hp)
  exact ⟨10, xw_sat_loop ha p256 ce' c4 (fun z => h1 ⟨hp, iff9.mpr z⟩) (fun z => h0 (fun y => z (iff9.mp y.2))) 10 0 0 0 (by omega) (by omega) rfl⟩
theorem xw_list_loop {post : SX → Prop} {a : Nat} (hR : R ≤ 8) (hC : C ≤ 8) (ha : a < 16) (hcn : ns_cnt R C cn)
    (hp : ∀ fl' m, ns_lst (ns_S R C (ns_cc cn) cl) fl' a m → (∀ j, (∀ q, q < 256 → j ≠ a * 256 + q) → fl' j = fl j) → post ((nI R), (nI C), st, sv, pl, cn, cl, gv, kn, so, (upd fc a (nI m)), fl', ce, bc, bg)) :
    ∀ n m k fl', m ≤ 2 ^ ns_len R C a → 2 ^ ns_len R C a < n + m → ns_lsm (ns_S R C (ns_cc cn) cl) fl' a k m → (∀ j, (∀ q, q < 256 → j ≠ a * 256 + q) → fl' j = fl j) →
      wX_listFillings_13 post (nI a) (nI (2 ^ ns_len R C a)) (nI R) (nI C) st sv pl n (nI k) (nI m) cn cl gv kn so fc fl' ce bc bg := by
  have hl := ns_len_le hR hC (a := a)
  have pw := ns_pw_le hl
  intro n
  induction n with
  | zero => intro m k fl' h1 h2; omega
  | succ n ih =>
    intro m k fl' h1 h2 hl' hk
    have ina : vp_in (nI a) 16 := vp_in_nI ha (by omega)
    have km := hl'.1
    by_cases hm : m = 2 ^ ns_len R C a
    · refine br_t (by rw [hm]; exact nI_le (Nat.le_refl _) (by omega)) ⟨ina, nm_r (by rw [nI_clamp (by omega)]) ?_⟩
      exact hp fl' k (ns_lsm_end hl' (by omega) (fun p hs => by rw [hm]; exact hs.1)) hk
    · refine br_f (nI_ge (by omega) (by omega)) ?_
      refine xw_sat hR hC ha hcn (by omega) (fun hs => ?_) (fun hs => ?_)
      · refine br_f (by decide) ⟨pk_in (a * 256 + k) 4096 (by omega) (ns_i256 a k), nm_r (by rw [ns_i256, nI_clamp (by omega)]) (nm_r (nI_1 k) (nm_r (nI_1 m) ?_))⟩
        refine ih (m + 1) (k + 1) _ (by omega) (by omega) (ns_lsm_t hl' hs) (fun j hj => ?_)
        rw [ns_upd_n (hj k (by omega))]; exact hk j hj
      · exact br_t (by decide) (nm_r (nI_1 m) (ih (m + 1) k fl' (by omega) (by omega) (ns_lsm_f hl' hs) hk))
theorem xw_list {post : SX → Prop} {a : Nat} (hR : R ≤ 8) (hC : C ≤ 8) (ha : a < 16) (hcn : ns_cnt R C cn)
    (hp : ∀ fl' m, ns_lst (ns_S R C (ns_cc cn) cl) fl' a m → (∀ j, (∀ q, q < 256 → j ≠ a * 256 + q) → fl' j = fl j) → post ((nI R), (nI C), st, sv, pl, cn, cl, gv, kn, so, (upd fc a (nI m)), fl', ce, bc, bg)) : wpX_listFillings post ((nI R), (nI C), st, sv, pl, cn, cl, gv, kn, so, fc, fl, ce, bc, bg) (nI a) := by
  unfold wpX_listFillings
  dsimp only
  refine xw_len ha ?_
  have hl := ns_len_le hR hC (a := a)
  refine nm_r (ns_pw hl) ⟨2 ^ ns_len R C a + 1, ?_⟩
  exact xw_list_loop hR hC ha hcn hp _ 0 0 fl (Nat.zero_le _) (by omega) ns_lsm_0 (fun _ _ => rfl)
end
end
section
/-! X: a step on a line -/
section
variable {R C : Nat} {st sv pl : Int32} {cn cl gv kn so fc fl ce bc bg : Nat → Int32}
theorem xw_mask_loop {post : Int32 → Prop} {a : Nat} {v : Int32} (hR : R ≤ 8) (hC : C ≤ 8) (ha : a < 16) (hp : ∀ x, ns_mb ce a v (ns_len R C a) x → post x) :
    ∀ n i x, i ≤ ns_len R C a → ns_len R C a < n + i → ns_mb ce a v i x → wX_lineCellsOf_12 post (nI a) v (nI (ns_len R C a)) (nI R) (nI C) st sv pl cn cl gv kn so fc fl ce bc bg n x (nI i) := by
  have hl := ns_len_le hR hC (a := a)
  intro n
  induction n with
  | zero => intro i x h1 h2; omega
  | succ n ih =>
    intro i x h1 h2 hm
    by_cases h : i = ns_len R C a
    · exact br_t (nI_le (by omega) (by omega)) (hp x (by rw [← h]; exact hm))
    · have l64 := ns_lc64 (i := i) ha (by omega)
      refine br_f (nI_ge (by omega) (by omega)) (xw_lc ha (by omega) ⟨vp_in_nI l64 (by omega), ?_⟩)
      rw [nI_clamp (by omega)]
      by_cases e : ce (ns_lc a i) = v
      · exact br_t e (nm_e (nm_r (nI_1 i) (ih (i + 1) _ (by omega) (by omega) (ns_mb_t (by omega) hm e))))
      · exact br_f e (nm_r (nI_1 i) (ih (i + 1) x (by omega) (by omega) (ns_mb_f hm e)))
theorem xw_mask {post : Int32 → Prop} {a : Nat} {v : Int32} (hR : R ≤ 8) (hC : C ≤ 8) (ha : a < 16) (hp : ∀ x, ns_mb ce a v (ns_len R C a) x → post x) : wpX_lineCellsOf post ((nI R), (nI C), st, sv, pl, cn, cl, gv, kn, so, fc, fl, ce, bc, bg) (nI a) v := by
  unfold wpX_lineCellsOf
  dsimp only
  exact xw_len ha ⟨ns_len R C a + 1, xw_mask_loop hR hC ha hp (ns_len R C a + 1) 0 0 (by omega) (by omega) ns_mb_0⟩
theorem xw_dec_loop {post : SX → Prop} {a : Nat} {Q : Nat → Prop} {af ae : Int32} (hR : R ≤ 8) (hC : C ≤ 8) (ha : a < 16) (haf : ns_an Q true af) (hae : ns_an Q false ae) (P : Nat → Int32) (p0 : Int32)
    (hp : ∀ P' pl', ns_wr Q P a (ns_len R C a) P' → ns_pk a (ns_len R C a) P p0 P' pl' → post ((nI R), (nI C), st, sv, pl', cn, cl, gv, kn, so, fc, fl, P', bc, bg)) :
    ∀ n i P' pl', i ≤ ns_len R C a → ns_len R C a < n + i → ns_wr Q P a i P' → ns_pk a i P p0 P' pl' → wX_decideCells_10 post (nI a) af ae (nI (ns_len R C a)) (nI R) (nI C) st sv n (nI i) pl' cn cl gv kn so fc fl P' bc bg := by
  have hl := ns_len_le hR hC (a := a)
  intro n
  induction n with
  | zero => intro i P' pl' h1 h2; omega
  | succ n ih =>
    intro i P' pl' h1 h2 hw hk
    by_cases h : i = ns_len R C a
    · exact br_t (nI_le (by omega) (by omega)) (hp P' pl' (by rw [← h]; exact hw) (by rw [← h]; exact hk))
    · have l64 := ns_lc64 (i := i) ha (by omega)
      have at' := ns_wr_at (by omega) hw
      have inl : vp_in (nI (ns_lc a i)) 64 := vp_in_nI l64 (by omega)
      have rd : P' (nI (ns_lc a i)).toNatClampNeg = P (ns_lc a i) := by rw [nI_clamp (by omega)]; exact at'
      have keep : (P (ns_lc a i) ≠ 0 ∨ ((¬ ∀ p, Q p → p.testBit i = true) ∧ ¬ ∀ p, Q p → p.testBit i = false)) →
          wX_decideCells_10 post (nI a) af ae (nI (ns_len R C a)) (nI R) (nI C) st sv n (nI (i + 1)) pl' cn cl gv kn so fc fl P' bc bg :=
        fun k => ih (i + 1) P' pl' (by omega) (by omega) (ns_wr_keep (by omega) hw k) (ns_pk_keep hk at')
      have put : ∀ x : Int32, x ≠ 0 → P (ns_lc a i) = 0 → ((x = 2 ∧ ∀ p, Q p → p.testBit i = true) ∨ (x = 1 ∧ ∀ p, Q p → p.testBit i = false)) →
          wX_decideCells_10 post (nI a) af ae (nI (ns_len R C a)) (nI R) (nI C) st sv n (nI (i + 1)) (pl' ||| ((1 : Int32) <<< (nI (ns_xl a i) &&& 31))) cn cl gv kn so fc fl (upd P' (ns_lc a i) x) bc bg :=
        fun x hx z k => ih (i + 1) _ _ (by omega) (by omega) (ns_wr_put (by omega) hw z k) (ns_pk_put (by omega) ha hk z hx)
      refine br_f (nI_ge (by omega) (by omega)) (xw_lc ha (by omega) ?_)
      cases hf : bt af i with
      | true =>
        have on := (haf i (by omega)).mp hf
        refine br_t (ns_bit_t (by omega) (by rw [b_or, hf]; rfl)) ⟨inl, ?_⟩
        rw [rd]
        exact br_c (fun z => br_f (by decide) (br_t (ns_bit_t (by omega) hf) ⟨inl, nm_r (ns_uc (by omega)) (xw_xl ha (nm_e (nm_r (nI_1 i) (put 2 (by decide) z (Or.inl ⟨rfl, on⟩)))))⟩))
          (fun z => nm_r (nI_1 i) (keep (Or.inl z)))
      | false =>
        cases he : bt ae i with
        | true =>
          have off := (hae i (by omega)).mp he
          refine br_t (ns_bit_t (by omega) (by rw [b_or, he, hf]; rfl)) ⟨inl, ?_⟩
          rw [rd]
          exact br_c (fun z => br_f (by decide) (br_f (ns_bit_f (by omega) hf) ⟨inl, nm_r (ns_uc (by omega)) (xw_xl ha (nm_e (nm_r (nI_1 i) (put 1 (by decide) z (Or.inr ⟨rfl, off⟩)))))⟩))
            (fun z => nm_r (nI_1 i) (keep (Or.inl z)))
        | false =>
          have n1 : ¬ ∀ p, Q p → p.testBit i = true := fun y => by rw [(haf i (by omega)).mpr y] at hf; exact nomatch hf
          have n0 : ¬ ∀ p, Q p → p.testBit i = false := fun y => by rw [(hae i (by omega)).mpr y] at he; exact nomatch he
          refine br_f (ns_bit_f (by omega) (by rw [b_or, he, hf]; rfl)) ⟨inl, ?_⟩
          rw [rd]
          exact br_c (fun z => br_t rfl (nm_r (nI_1 i) (keep (Or.inr ⟨n1, n0⟩)))) (fun z => nm_r (nI_1 i) (keep (Or.inl z)))
theorem xw_dec {post : SX → Prop} {a : Nat} {Q : Nat → Prop} {af ae : Int32} (hR : R ≤ 8) (hC : C ≤ 8) (ha : a < 16) (haf : ns_an Q true af) (hae : ns_an Q false ae)
    (hp : ∀ P' pl', ns_wr Q ce a (ns_len R C a) P' → ns_pk a (ns_len R C a) ce pl P' pl' → post ((nI R), (nI C), st, sv, pl', cn, cl, gv, kn, so, fc, fl, P', bc, bg)) : wpX_decideCells post ((nI R), (nI C), st, sv, pl, cn, cl, gv, kn, so, fc, fl, ce, bc, bg) (nI a) af ae := by
  unfold wpX_decideCells
  dsimp only
  exact xw_len ha ⟨ns_len R C a + 1, xw_dec_loop hR hC ha haf hae ce pl hp (ns_len R C a + 1) 0 ce pl (by omega) (by omega) ns_wr_0 ns_pk_0⟩
theorem xw_stp_loop {post : Int32 → SX → Prop} {a m : Nat} {mf me : Int32} (hR : R ≤ 8) (hC : C ≤ 8) (ha : a < 16) (hm : fc a = nI m) (hl : ns_lst (ns_S R C (ns_cc cn) cl) fl a m)
    (hmf : ns_mb ce a 2 (ns_len R C a) mf) (hme : ns_mb ce a 1 (ns_len R C a) me)
    (h1 : ∀ P' pl', (∃ p, ns_cons R C (ns_S R C (ns_cc cn) cl) ce a p) → ns_wr (ns_cons R C (ns_S R C (ns_cc cn) cl) ce a) ce a (ns_len R C a) P' → ns_pk a (ns_len R C a) ce pl P' pl' → post 1 ((nI R), (nI C), st, sv, pl', cn, cl, gv, kn, so, fc, fl, P', bc, bg))
    (h0 : (¬ ∃ p, ns_cons R C (ns_S R C (ns_cc cn) cl) ce a p) → post 0 ((nI R), (nI C), st, sv, pl, cn, cl, gv, kn, so, fc, fl, ce, bc, bg)) :
    ∀ n k cf ct cs, k ≤ m → m < n + k → ns_or (ns_sn R C (ns_S R C (ns_cc cn) cl) ce fl a k) true cf → ns_or (ns_sn R C (ns_S R C (ns_cc cn) cl) ce fl a k) false ct →
      ((cs = 0 ∧ ∀ p, ¬ ns_sn R C (ns_S R C (ns_cc cn) cl) ce fl a k p) ∨ (cs = 1 ∧ ∃ p, ns_sn R C (ns_S R C (ns_cc cn) cl) ce fl a k p)) →
      wX_stepLine_40 post (nI a) mf me (nI R) (nI C) st sv pl cn cl gv kn so fc fl ce bc bg n cf ct cs (nI k) := by
  have hlen := ns_len_le hR hC (a := a)
  have hS : ∀ p, ns_S R C (ns_cc cn) cl a p → p < 256 := fun p => ns_S_lt hR hC a p
  have m256 := hl.1
  intro n
  induction n with
  | zero => intro k cf ct cs a1 a2; omega
  | succ n ih =>
    intro k cf ct cs a1 a2 hcf hct hcs
    have ina : vp_in (nI a) 16 := vp_in_nI ha (by omega)
    have rdm : fc (nI a).toNatClampNeg = nI m := by rw [nI_clamp (by omega)]; exact hm
    refine ⟨ina, ?_⟩
    rw [rdm]
    by_cases h : k = m
    · subst h
      have en := ns_sn_end (R := R) (C := C) (P := ce) hl
      refine br_t (nI_le (Nat.le_refl _) (by omega)) ?_
      rcases hcs with ⟨rfl, nx⟩ | ⟨rfl, p, hp⟩
      · exact br_t rfl ⟨rfl, h0 (fun ⟨p, hp⟩ => nx p ((en p).mp hp))⟩
      · refine br_f (by decide) (xw_dec (Q := ns_cons R C (ns_S R C (ns_cc cn) cl) ce a) hR hC ha (ns_or_an (ns_or_eq hct en)) (ns_or_an (ns_or_eq hcf en)) (fun P' pl' hw hk => ⟨rfl, h1 P' pl' ⟨p, (en p).mpr hp⟩ hw hk⟩))
    · obtain ⟨p, hf, hs⟩ := hl.2.1 k (by omega)
      have p256 := hS p hs
      refine br_f (nI_ge (by omega) (by omega)) ⟨pk_in (a * 256 + k) 4096 (by omega) (ns_i256 a k), nm_r (e' := nI p) (by rw [ns_i256, nI_clamp (by omega)]; exact hf) ?_⟩
      have skip : ¬ ns_ag R C ce a p → wX_stepLine_40 post (nI a) mf me (nI R) (nI C) st sv pl cn cl gv kn so fc fl ce bc bg n cf ct cs (nI (k + 1)) := fun na => by
        have en := ns_sn_f (R := R) (C := C) (P := ce) hS hf hs na
        refine ih (k + 1) cf ct cs (by omega) (by omega) (ns_or_eq hcf en) (ns_or_eq hct en) (hcs.imp (fun z => ⟨z.1, fun q hq => z.2 q ((en q).mp hq)⟩) (fun ⟨z, q, hq⟩ => ⟨z, q, (en q).mpr hq⟩))
      by_cases e1 : (mf &&& (nI p ^^^ (-1))) = 0
      · have f1 := (ns_mf0 hlen hmf (by omega)).mp e1
        by_cases e2 : (me &&& nI p) = 0
        · have f2 := (ns_me0 hlen hme (by omega)).mp e2
          have ag : ns_ag R C ce a p := fun i hi => ⟨f1 i hi, f2 i hi⟩
          have en := ns_sn_t (R := R) (C := C) (P := ce) hS hf ⟨hs, ag⟩
          exact br_t e1 (br_t e2 (nm_e (nm_e (nm_r (nI_1 k) (ih (k + 1) _ _ 1 (by omega) (by omega) (ns_or_add hcf en (ns_hyt (by omega))) (ns_or_add hct en (ns_hyf (by omega))) (Or.inr ⟨rfl, p, (en p).mpr (Or.inr rfl)⟩))))))
        · exact br_t e1 (br_f e2 (nm_r (nI_1 k) (skip (fun ag => e2 ((ns_me0 hlen hme (by omega)).mpr (fun i hi => (ag i hi).2))))))
      · exact br_f e1 (nm_r (nI_1 k) (skip (fun ag => e1 ((ns_mf0 hlen hmf (by omega)).mpr (fun i hi => (ag i hi).1)))))
theorem xw_step {post : Int32 → SX → Prop} {a m : Nat} (hR : R ≤ 8) (hC : C ≤ 8) (ha : ns_ing R C a) (hm : fc a = nI m) (hl : ns_lst (ns_S R C (ns_cc cn) cl) fl a m)
    (h1 : ∀ P' pl', (∃ p, ns_cons R C (ns_S R C (ns_cc cn) cl) ce a p) → ns_step R C (ns_S R C (ns_cc cn) cl) ce a P' → ns_pc R C a ce pl P' pl' → post 1 ((nI R), (nI C), st, sv, pl', cn, cl, gv, kn, so, fc, fl, P', bc, bg))
    (h0 : ∀ pl', (¬ ∃ p, ns_cons R C (ns_S R C (ns_cc cn) cl) ce a p) → post 0 ((nI R), (nI C), st, sv, pl', cn, cl, gv, kn, so, fc, fl, ce, bc, bg)) : wpX_stepLine post ((nI R), (nI C), st, sv, pl, cn, cl, gv, kn, so, fc, fl, ce, bc, bg) (nI a) := by
  refine nm_e (xw_mask hR hC ha.1 (fun mf hmf => xw_mask hR hC ha.1 (fun me hme => ⟨m + 1, ?_⟩)))
  exact xw_stp_loop hR hC ha.1 hm hl hmf hme (fun P' pl' ex hw hk => h1 P' pl' ex (ns_wr_step hw) (ns_pk_end ha.1 hk)) (fun nx => h0 _ nx) (m + 1) 0 0 0 0 (by omega) (by omega) (ns_or_0 ns_sn_0) (ns_or_0 ns_sn_0) (Or.inl ⟨rfl, ns_sn_0⟩)
end
end
section
/-! X: settling -/
section
variable {R C : Nat} {st sv pl : Int32} {cn cl gv kn so fc fl ce bc bg : Nat → Int32}
/-- the lists of fillings stand -/
def xw_ls (R C : Nat) (cn cl fl fc : Nat → Int32) : Prop := ∀ a, ns_ing R C a → ∃ m, fc a = nI m ∧ ns_lst (ns_S R C (ns_cc cn) cl) fl a m
theorem xw_round {post : Int32 → SX → Prop} {J : Int32 → Int32 → Int32 → Int32 → Int32 → Int32 → (Nat → Int32) → (Nat → Int32) → (Nat → Int32) → (Nat → Int32) → (Nat → Int32) → (Nat → Int32) → (Nat → Int32) → (Nat → Int32) → (Nat → Int32) → (Nat → Int32) → Prop} (P0 : Nat → Int32) {rd : Nat} (hR : R ≤ 8) (hC : C ≤ 8) (hls : xw_ls R C cn cl fl fc)
    (hJ : ∀ P pl', ns_OR R C (ns_S R C (ns_cc cn) cl) P0 (rd + 1) P pl' → J (nI (rd + 1)) (nI R) (nI C) st sv pl' cn cl gv kn so fc fl P bc bg)
    (h0 : ∀ P pl', ns_ok R C P → (∀ Q, ns_cls R C (ns_S R C (ns_cc cn) cl) Q → ¬ ns_le P0 Q) → post 0 ((nI R), (nI C), st, sv, pl', cn, cl, gv, kn, so, fc, fl, P, bc, bg)) :
    ∀ n a P pl', a ≤ 16 → 16 < n + a → ns_IR R C (ns_S R C (ns_cc cn) cl) P0 rd a P pl' → wX_settle_17 post J (nI rd) n (nI a) (nI R) (nI C) st sv pl' cn cl gv kn so fc fl P bc bg := by
  intro n
  induction n with
  | zero => intro a P pl' h1 h2; omega
  | succ n ih =>
    intro a P pl' h1 h2 hI
    by_cases h : a = 16
    · subst h
      exact br_t (nI_le (a := 16) (b := 16) (by omega) (by omega)) (nm_r (nI_1 rd) (hJ P pl' (ns_IR_end hI)))
    · refine br_f (nI_ge (b := 16) (by omega) (by omega)) ?_
      cases hb : bt pl' a with
      | false => exact br_f (ns_bit_f (by omega) hb) (nm_r (nI_1 a) (ih (a + 1) P pl' (by omega) (by omega) (ns_IR_skip hI hb)))
      | true =>
        have ing := hI.1.2.2.2.2 a (by omega) hb
        obtain ⟨m, hm, hl⟩ := hls a ing
        refine br_t (ns_bit_t (by omega) hb) (xw_step hR hC ing hm hl (fun P' pl'' ex st pc => ?_) (fun pl'' nx => ?_))
        · exact br_f (by decide) (nm_r (nI_1 a) (ih (a + 1) P' pl'' (by omega) (by omega) (ns_IR_step hR hC ing hI st ex pc)))
        · exact br_t rfl (h0 P pl'' hI.1.1 (ns_res_bad ing hI.1.2.2.1 nx))
theorem xw_rounds {post : Int32 → SX → Prop} (P0 : Nat → Int32) (hR : R ≤ 8) (hC : C ≤ 8) (hls : xw_ls R C cn cl fl fc)
    (h1 : ∀ P, ns_cls R C (ns_S R C (ns_cc cn) cl) P → ns_le P0 P → ns_blw R C (ns_S R C (ns_cc cn) cl) P0 P → post 1 ((nI R), (nI C), st, sv, 0, cn, cl, gv, kn, so, fc, fl, P, bc, bg))
    (h0 : ∀ P pl', ns_ok R C P → (∀ Q, ns_cls R C (ns_S R C (ns_cc cn) cl) Q → ¬ ns_le P0 Q) → post 0 ((nI R), (nI C), st, sv, pl', cn, cl, gv, kn, so, fc, fl, P, bc, bg)) :
    ∀ n rd P pl', rd ≤ 65 → 65 < n + rd → ns_OR R C (ns_S R C (ns_cc cn) cl) P0 rd P pl' → wX_settle_2 post n (nI rd) (nI R) (nI C) st sv pl' cn cl gv kn so fc fl P bc bg := by
  intro n
  induction n with
  | zero => intro rd P pl' a1 a2; omega
  | succ n ih =>
    intro rd P pl' a1 a2 hO
    have fin : (pl' = 0 ∨ 65 ≤ rd) → post 1 ((nI R), (nI C), st, sv, pl', cn, cl, gv, kn, so, fc, fl, P, bc, bg) := fun z => by
      obtain ⟨c, l, b, e⟩ := ns_OR_end hO z
      subst e
      exact h1 P c l b
    by_cases h : rd = 65
    · subst h
      exact br_t (nI_lt (a := 64) (b := 65) (by omega) (by omega)) (fin (Or.inr (by omega)))
    · refine br_f (nI_nlt (a := 64) (by omega) (by omega)) ?_
      by_cases e : pl' = 0
      · exact br_t e (fin (Or.inl e))
      · exact br_f e ⟨17, xw_round P0 hR hC hls (fun P pl' hO' => ih (rd + 1) P pl' (by omega) (by omega) hO') h0 17 0 P pl' (by omega) (by omega) (ns_IR_0 hO e)⟩
theorem xw_settle {post : Int32 → SX → Prop} (hR : R ≤ 8) (hC : C ≤ 8) (hls : xw_ls R C cn cl fl fc) (ok : ns_ok R C ce) (pd : ns_pd R C (ns_S R C (ns_cc cn) cl) ce (ns_pb pl)) (pg : ns_pg R C pl)
    (h1 : ∀ P, ns_cls R C (ns_S R C (ns_cc cn) cl) P → ns_le ce P → ns_blw R C (ns_S R C (ns_cc cn) cl) ce P → post 1 ((nI R), (nI C), st, sv, 0, cn, cl, gv, kn, so, fc, fl, P, bc, bg))
    (h0 : ∀ P pl', ns_ok R C P → (∀ Q, ns_cls R C (ns_S R C (ns_cc cn) cl) Q → ¬ ns_le ce Q) → post 0 ((nI R), (nI C), st, sv, pl', cn, cl, gv, kn, so, fc, fl, P, bc, bg)) : wpX_settle post ((nI R), (nI C), st, sv, pl, cn, cl, gv, kn, so, fc, fl, ce, bc, bg) :=
  ⟨66, xw_rounds ce hR hC hls h1 h0 66 0 ce pl (by omega) (by omega) (ns_OR_0 ok pd pg)⟩
/-- the first unknown cell -/
theorem xw_fst_col {post : Int32 → Prop} {J : Int32 → Prop} {r : Nat} (hR : R ≤ 8) (hC : C ≤ 8) (hr : r < R) (hb : ∀ q, q < r * 8 → ns_cg R C q → ce q ≠ 0)
    (hJ : (∀ q, q < (r + 1) * 8 → ns_cg R C q → ce q ≠ 0) → J (nI (r + 1)))
    (hp : ∀ x, ns_cg R C x → ce x = 0 → (∀ q, q < x → ns_cg R C q → ce q ≠ 0) → post (nI x)) :
    ∀ n c, c ≤ C → C < n + c → (∀ q, q < r * 8 + c → ns_cg R C q → ce q ≠ 0) → wX_firstUnknownCell_12 post J (nI r) (nI R) (nI C) st sv pl cn cl gv kn so fc fl ce bc bg n (nI c) := by
  intro n
  induction n with
  | zero => intro c h1 h2; omega
  | succ n ih =>
    intro c h1 h2 hq
    by_cases h : c = C
    · refine br_t (nI_le (by omega) (by omega)) (nm_r (nI_1 r) (hJ (fun q hq1 hq2 => hq q ?_ hq2)))
      obtain ⟨a1, a2, a3⟩ := hq2
      omega
    · refine br_f (nI_ge (by omega) (by omega)) (nm_r (ns_i8 r c) ⟨vp_in_nI (by omega) (by omega), ?_⟩)
      rw [nI_clamp (by omega)]
      by_cases e : ce (r * 8 + c) = 0
      · exact br_t e (hp _ ⟨by omega, by omega, by omega⟩ e hq)
      · refine br_f e (nm_r (nI_1 c) (ih (c + 1) (by omega) (by omega) (fun q h3 h4 => ?_)))
        by_cases z : q = r * 8 + c
        · subst z; exact e
        · exact hq q (by omega) h4
theorem xw_fst_row {post : Int32 → Prop} (hR : R ≤ 8) (hC : C ≤ 8)
    (hp : ∀ x, ns_cg R C x → ce x = 0 → (∀ q, q < x → ns_cg R C q → ce q ≠ 0) → post (nI x)) (h0 : (∀ q, ns_cg R C q → ce q ≠ 0) → post (-1)) :
    ∀ n r, r ≤ R → R < n + r → (∀ q, q < r * 8 → ns_cg R C q → ce q ≠ 0) → wX_firstUnknownCell_2 post (nI R) (nI C) st sv pl cn cl gv kn so fc fl ce bc bg n (nI r) := by
  intro n
  induction n with
  | zero => intro c h1 h2; omega
  | succ n ih =>
    intro r h1 h2 hq
    by_cases h : r = R
    · exact br_t (nI_le (by omega) (by omega)) (h0 (fun q hc => hq q (by have := hc.2.1; omega) hc))
    · exact br_f (nI_ge (by omega) (by omega)) ⟨C + 1, xw_fst_col hR hC (by omega) hq (fun z => ih (r + 1) (by omega) (by omega) z) hp (C + 1) 0 (by omega) (by omega) (by simpa using hq)⟩
theorem xw_fst {post : Int32 → Prop} (hR : R ≤ 8) (hC : C ≤ 8)
    (hp : ∀ x, ns_cg R C x → ce x = 0 → (∀ q, q < x → ns_cg R C q → ce q ≠ 0) → post (nI x)) (h0 : (∀ q, ns_cg R C q → ce q ≠ 0) → post (-1)) : wpX_firstUnknownCell post ((nI R), (nI C), st, sv, pl, cn, cl, gv, kn, so, fc, fl, ce, bc, bg) :=
  ⟨R + 1, xw_fst_row hR hC hp h0 (R + 1) 0 (by omega) (by omega) (fun q hq => absurd hq (by omega))⟩
/-- X starts from the givens -/
def xw_lk (R C : Nat) (cn cl fl fc : Nat → Int32) (n : Nat) : Prop := ∀ a, a < n → ns_ing R C a → ∃ m, fc a = nI m ∧ ns_lst (ns_S R C (ns_cc cn) cl) fl a m
theorem xw_sg_lines {post : SX → Prop} (hR : R ≤ 8) (hC : C ≤ 8) (hcn : ns_cnt R C cn)
    (hp : ∀ fl' fc' pl', xw_ls R C cn cl fl' fc' → (∀ b, b < 32 → (bt pl' b = true ↔ ns_ing R C b)) → post ((nI R), (nI C), st, sv, pl', cn, cl, gv, kn, so, fc', fl', ce, bc, bg)) :
    ∀ n a fl' fc' pl', a ≤ 16 → 16 < n + a → xw_lk R C cn cl fl' fc' a → (∀ b, b < 32 → (bt pl' b = true ↔ b < a ∧ ns_ing R C b)) → wX_startFromGivens_33 post n (nI a) (nI R) (nI C) st sv pl' cn cl gv kn so fc' fl' ce bc bg := by
  intro n
  induction n with
  | zero => intro a fl' fc' pl' h1 h2; omega
  | succ n ih =>
    intro a fl' fc' pl' h1 h2 hl hb
    by_cases h : a = 16
    · subst h
      refine br_t (nI_le (a := 16) (b := 16) (by omega) (by omega)) (hp fl' fc' pl' (fun a ha => hl a ha.1 ha) (fun b h32 => ?_))
      rw [hb b h32]
      exact ⟨fun z => z.2, fun z => ⟨z.1, z⟩⟩
    · refine br_f (nI_ge (b := 16) (by omega) (by omega)) (xw_ing hR hC (by omega) (fun g => ?_) (fun g => ?_))
      · refine br_f (by decide) (xw_list hR hC (by omega) hcn (fun fl2 m hm hk => nm_e (nm_r (nI_1 a) ?_)))
        refine ih (a + 1) _ _ _ (by omega) (by omega) (fun b hb' gb => ?_) (fun b h32 => ?_)
        · by_cases e : b = a
          · subst e; exact ⟨m, ns_upd_s, hm⟩
          · obtain ⟨mb, e1, e2⟩ := hl b (by omega) gb
            refine ⟨mb, by rw [ns_upd_n e]; exact e1, ns_lst_keep e2 (fun k hk' => hk _ (fun q hq => by omega))⟩
        · rw [b_or, ns_sh1 (by omega) h32, Bool.or_eq_true, decide_eq_true_eq, hb b h32]
          constructor
          · rintro (⟨x, y⟩ | rfl)
            · exact ⟨by omega, y⟩
            · exact ⟨by omega, g⟩
          · rintro ⟨x, y⟩
            by_cases e : b = a
            · exact Or.inr e
            · exact Or.inl ⟨by omega, y⟩
      · refine br_t rfl (nm_r (nI_1 a) (ih (a + 1) fl' fc' pl' (by omega) (by omega) (fun b hb' gb => ?_) (fun b h32 => ?_)))
        · by_cases e : b = a
          · subst e; exact absurd gb g
          · exact hl b (by omega) gb
        · rw [hb b h32]
          constructor
          · rintro ⟨x, y⟩; exact ⟨by omega, y⟩
          · rintro ⟨x, y⟩
            by_cases e : b = a
            · subst e; exact absurd y g
            · exact ⟨by omega, y⟩
theorem xw_sg_copy {post : SX → Prop} (hR : R ≤ 8) (hC : C ≤ 8) (hcn : ns_cnt R C cn)
    (hp : ∀ ce' fl' fc' pl', ns_cp gv ce ce' 64 → xw_ls R C cn cl fl' fc' → (∀ b, b < 32 → (bt pl' b = true ↔ ns_ing R C b)) → post ((nI R), (nI C), st, sv, pl', cn, cl, gv, kn, so, fc', fl', ce', bc, bg)) :
    ∀ n i ce', i ≤ 64 → 64 < n + i → ns_cp gv ce ce' i → wX_startFromGivens_2 post (nI R) (nI C) st sv pl n (nI i) cn cl gv kn so fc fl ce' bc bg := by
  intro n
  induction n with
  | zero => intro i ce' h1 h2; omega
  | succ n ih =>
    intro i ce' h1 h2 hc
    by_cases h : i = 64
    · subst h
      refine br_t (nI_le (a := 64) (b := 64) (by omega) (by omega)) ⟨17, ?_⟩
      exact xw_sg_lines hR hC hcn (fun fl' fc' pl' h1 h2 => hp ce' fl' fc' pl' hc h1 h2) 17 0 fl fc 0 (by omega) (by omega) (fun a ha => absurd ha (by omega)) (fun b _ => by rw [b_0]; exact ⟨(fun z => nomatch z), fun z => absurd z.1 (by omega)⟩)
    · refine br_f (nI_ge (b := 64) (by omega) (by omega)) ⟨vp_in_nI (by omega) (by omega), vp_in_nI (by omega) (by omega), nm_r (e' := upd ce' i (gv i)) (by rw [nI_clamp (by omega)]) (nm_r (nI_1 i) ?_)⟩
      exact ih (i + 1) _ (by omega) (by omega) (ns_cp_s hc rfl)
theorem xw_sg {post : SX → Prop} (hR : R ≤ 8) (hC : C ≤ 8) (hcn : ns_cnt R C cn) (hg : ns_ok R C gv) (h64 : ∀ j, 64 ≤ j → ce j = 0)
    (hp : ∀ fl' fc' pl', xw_ls R C cn cl fl' fc' → ns_pd R C (ns_S R C (ns_cc cn) cl) gv (ns_pb pl') → ns_pg R C pl' → post ((nI R), (nI C), st, sv, pl', cn, cl, gv, kn, so, fc', fl', gv, bc, bg)) : wpX_startFromGivens post ((nI R), (nI C), st, sv, pl, cn, cl, gv, kn, so, fc, fl, ce, bc, bg) := by
  refine ⟨65, xw_sg_copy hR hC hcn (fun ce' fl' fc' pl' hc hl hb => ?_) 65 0 ce (by omega) (by omega) ns_cp_0⟩
  have e : ce' = gv := ns_cp_end hc (fun j hj => by rw [h64 j hj, (hg j).2 (fun z => by have := z.1; omega)])
  rw [e]
  exact hp fl' fc' pl' hl (fun a ha => Or.inl ((hb a (by have := ha.1; omega)).mpr ha)) (fun b h32 z => (hb b h32).mp z)
/-- X's propagate -/
theorem xw_pr_loop {post : Int32 → SX → Prop} {x1 : Int32} (hR : R ≤ 8) (hC : C ≤ 8) (f : Nat → Int32) (hx : (x1 = 0 ∧ f = fun _ => 0) ∨ (x1 = 1 ∧ f = ce))
    (hp : ∀ kn', ns_cp f kn kn' 64 → (x1 = 0 → post 4 ((nI R), (nI C), 4, sv, pl, cn, cl, gv, kn', so, fc, fl, ce, bc, bg)) ∧ (x1 = 1 → ((∀ q, ns_cg R C q → ce q ≠ 0) → post 5 ((nI R), (nI C), 5, sv, pl, cn, cl, gv, kn', so, fc, fl, ce, bc, bg)) ∧ (∀ x, ns_cg R C x → ce x = 0 → post 6 ((nI R), (nI C), 6, sv, pl, cn, cl, gv, kn', so, fc, fl, ce, bc, bg)))) :
    ∀ n i kn', i ≤ 64 → 64 < n + i → ns_cp f kn kn' i → wX_propagate_11 post x1 (nI R) (nI C) st sv pl n (nI i) cn cl gv kn' so fc fl ce bc bg := by
  intro n
  induction n with
  | zero => intro i kn' h1 h2; omega
  | succ n ih =>
    intro i kn' h1 h2 hc
    by_cases h : i = 64
    · subst h
      refine br_t (nI_le (a := 64) (b := 64) (by omega) (by omega)) ?_
      rcases hx with ⟨rfl, _⟩ | ⟨rfl, _⟩
      · exact br_t rfl ((hp kn' hc).1 rfl)
      · refine br_f (by decide) (xw_fst hR hC (fun x hx h0 _ => ?_) (fun hn => ?_))
        · exact br_f (fun z => by
            have := hx.1
            have e : (nI x).toInt = (-1 : Int32).toInt := by rw [z]
            rw [nI_toInt (by omega)] at e
            have e2 : (-1 : Int32).toInt = -1 := by decide
            omega) (((hp kn' hc).2 rfl).2 x hx h0)
        · exact br_t rfl (((hp kn' hc).2 rfl).1 hn)
    · have inx : vp_in (nI i) 64 := vp_in_nI (by omega) (by omega)
      refine br_f (nI_ge (b := 64) (by omega) (by omega)) ?_
      rcases hx with ⟨rfl, rfl⟩ | ⟨rfl, rfl⟩
      · exact br_t rfl ⟨inx, nm_r (ns_uc (by omega)) (nm_r (nI_1 i) (ih (i + 1) _ (by omega) (by omega) (ns_cp_s hc rfl)))⟩
      · exact br_f (by decide) ⟨inx, inx, nm_r (e' := upd kn' i (f i)) (by rw [nI_clamp (by omega)]) (nm_r (nI_1 i) (ih (i + 1) _ (by omega) (by omega) (ns_cp_s hc rfl)))⟩
theorem xw_prop {post : Int32 → SX → Prop} (hR : R ≤ 8) (hC : C ≤ 8) (hcn : ns_cnt R C cn) (hg : ns_ok R C gv) (hk : ns_ok R C kn) (h64 : ∀ j, 64 ≤ j → ce j = 0)
    (hp : ∀ st' kn' ce' fl' fc' pl', ns_po R C (ns_S R C (ns_cc cn) cl) gv st' kn' → (∀ j, 64 ≤ j → ce' j = 0) → post st' ((nI R), (nI C), st', sv, pl', cn, cl, gv, kn', so, fc', fl', ce', bc, bg)) : wpX_propagate post ((nI R), (nI C), st, sv, pl, cn, cl, gv, kn, so, fc, fl, ce, bc, bg) := by
  unfold wpX_propagate
  dsimp only
  refine xw_sg hR hC hcn hg h64 (fun fl' fc' pl' hl pd pg => xw_settle hR hC hl hg pd pg (fun P c l b => ⟨65, ?_⟩) (fun P pl2 ok nb => ⟨65, ?_⟩))
  · refine xw_pr_loop hR hC P (Or.inr ⟨rfl, rfl⟩) (fun kn' hc => ⟨fun z => absurd z (by decide), fun _ => ?_⟩) 65 0 kn (by omega) (by omega) ns_cp_0
    have e : kn' = P := ns_cp_end hc (fun j hj => by rw [(hk j).2 (fun z => by have := z.1; omega), (c.1 j).2 (fun z => by have := z.1; omega)])
    rw [e]
    exact ⟨fun f => hp 5 P P fl' fc' 0 (Or.inl ⟨c, l, b, Or.inl ⟨f, rfl⟩⟩) (ns_ok64 c.1), fun x hx h0 => hp 6 P P fl' fc' 0 (Or.inl ⟨c, l, b, Or.inr ⟨⟨x, hx, h0⟩, rfl⟩⟩) (ns_ok64 c.1)⟩
  · refine xw_pr_loop hR hC (fun _ => 0) (Or.inl ⟨rfl, rfl⟩) (fun kn' hc => ⟨fun _ => ?_, fun z => absurd z (by decide)⟩) 65 0 kn (by omega) (by omega) ns_cp_0
    have e : kn' = fun _ => 0 := ns_cp_end hc (fun j hj => (hk j).2 (fun z => by have := z.1; omega))
    rw [e]
    exact hp 4 _ P fl' fc' pl2 (Or.inr ⟨nb, rfl, rfl⟩) (ns_ok64 ok)
end
end
section
/-! X: start, search -/
section
variable {R C : Nat} {st sv pl : Int32} {cn cl gv kn so fc fl ce bc bg : Nat → Int32}
theorem xw_keep_loop {post : SX → Prop} {d : Nat} (hd : d < 64) (bc' : Nat → Int32) (hp : ∀ bg', ns_cq ce bg bg' (d * 64) 64 → post ((nI R), (nI C), st, sv, pl, cn, cl, gv, kn, so, fc, fl, ce, bc', bg')) :
    ∀ n i bg', i ≤ 64 → 64 < n + i → ns_cq ce bg bg' (d * 64) i → wX_keepBranch_9 post (nI d) (nI R) (nI C) st sv pl n (nI i) cn cl gv kn so fc fl ce bc' bg' := by
  intro n
  induction n with
  | zero => intro i bg' h1 h2; omega
  | succ n ih =>
    intro i bg' h1 h2 hq
    by_cases h : i = 64
    · subst h
      exact br_t (nI_le (a := 64) (b := 64) (by omega) (by omega)) (hp bg' hq)
    · refine br_f (nI_ge (b := 64) (by omega) (by omega)) ⟨vp_in_nI (by omega) (by omega), pk_in (d * 64 + i) 4096 (by omega) (ns_i64 d i), nm_r (by rw [ns_i64, nI_clamp (by omega), nI_clamp (by omega)]) (nm_r (nI_1 i) ?_)⟩
      exact ih (i + 1) _ (by omega) (by omega) (ns_cq_s hq rfl)
theorem xw_keep {post : SX → Prop} {d x : Nat} (hd : d < 64) (hp : ∀ bg', ns_cq ce bg bg' (d * 64) 64 → post ((nI R), (nI C), st, sv, pl, cn, cl, gv, kn, so, fc, fl, ce, (upd bc d (nI x)), bg')) : wpX_keepBranch post ((nI R), (nI C), st, sv, pl, cn, cl, gv, kn, so, fc, fl, ce, bc, bg) (nI d) (nI x) :=
  ⟨vp_in_nI hd (by omega), nm_r (ns_uc (by omega)) ⟨65, xw_keep_loop hd _ hp 65 0 bg (by omega) (by omega) ns_cq_0⟩⟩
theorem xw_back_loop {post : SX → Prop} {d : Nat} (hd : d < 64) (hp : ∀ ce', ns_cp (ns_gr bg d) ce ce' 64 → post ((nI R), (nI C), st, sv, pl, cn, cl, gv, kn, so, fc, fl, ce', bc, bg)) :
    ∀ n i ce', i ≤ 64 → 64 < n + i → ns_cp (ns_gr bg d) ce ce' i → wX_takeBackBranch_2 post (nI d) (nI R) (nI C) st sv pl n (nI i) cn cl gv kn so fc fl ce' bc bg := by
  intro n
  induction n with
  | zero => intro i ce' h1 h2; omega
  | succ n ih =>
    intro i ce' h1 h2 hq
    by_cases h : i = 64
    · subst h
      exact br_t (nI_le (a := 64) (b := 64) (by omega) (by omega)) (hp ce' hq)
    · refine br_f (nI_ge (b := 64) (by omega) (by omega)) ⟨pk_in (d * 64 + i) 4096 (by omega) (ns_i64 d i), vp_in_nI (by omega) (by omega), nm_r (by rw [ns_i64, nI_clamp (by omega), nI_clamp (by omega)]) (nm_r (nI_1 i) ?_)⟩
      exact ih (i + 1) _ (by omega) (by omega) (ns_cp_s hq (by simp [ns_gr, show i < 64 by omega]))
theorem xw_back {post : SX → Prop} {d : Nat} (hd : d < 64) (h64 : ∀ j, 64 ≤ j → ce j = 0) (hp : post ((nI R), (nI C), st, sv, pl, cn, cl, gv, kn, so, fc, fl, (ns_gr bg d), bc, bg)) : wpX_takeBackBranch post ((nI R), (nI C), st, sv, pl, cn, cl, gv, kn, so, fc, fl, ce, bc, bg) (nI d) :=
  ⟨65, xw_back_loop hd (fun ce' h => by rw [ns_cp_end h (fun j hj => by rw [h64 j hj]; simp [ns_gr, show ¬ j < 64 by omega])]; exact hp) 65 0 ce (by omega) (by omega) ns_cp_0⟩
theorem xw_asm {post : SX → Prop} {x : Nat} {v : Int32} (hx : x < 64) (hp : ∀ pl', (∀ b, b < 32 → (bt pl' b = true ↔ b = x / 8 ∨ b = 8 + x % 8)) → post ((nI R), (nI C), st, sv, pl', cn, cl, gv, kn, so, fc, fl, (upd ce x v), bc, bg)) : wpX_assumeCell post ((nI R), (nI C), st, sv, pl, cn, cl, gv, kn, so, fc, fl, ce, bc, bg) (nI x) v := by
  have e1 : nI x / 8 = nI (x / 8) := pk_div (d := 8) (by omega) (by omega) (by omega)
  have e2 : nI x - nI x / 8 * 8 = nI (x % 8) := pk_rem (d := 8) (by omega) (by omega) (by omega)
  refine ⟨vp_in_nI hx (by omega), nm_r (ns_uc (by omega)) ⟨by decide, nm_r e1 ⟨by decide, nm_r e2 (nm_r (by rw [ns_8p]) ?_)⟩⟩⟩
  exact hp _ (fun b hb => ns_pl2 (by omega) (by omega) hb)
theorem xw_sto_loop {post : SX → Prop} {f : Nat} (hf : f < 2) (hp : ∀ so', ns_cq ce so so' (f * 64) 64 → post ((nI R), (nI C), st, sv, pl, cn, cl, gv, kn, so', fc, fl, ce, bc, bg)) :
    ∀ n i so', i ≤ 64 → 64 < n + i → ns_cq ce so so' (f * 64) i → wX_storeSolution_2 post (nI f) (nI R) (nI C) st sv pl n (nI i) cn cl gv kn so' fc fl ce bc bg := by
  intro n
  induction n with
  | zero => intro i so' h1 h2; omega
  | succ n ih =>
    intro i so' h1 h2 hq
    by_cases h : i = 64
    · subst h
      exact br_t (nI_le (a := 64) (b := 64) (by omega) (by omega)) (hp so' hq)
    · refine br_f (nI_ge (b := 64) (by omega) (by omega)) ⟨vp_in_nI (by omega) (by omega), pk_in (f * 64 + i) 128 (by omega) (ns_i64 f i), nm_r (by rw [ns_i64, nI_clamp (by omega), nI_clamp (by omega)]) (nm_r (nI_1 i) ?_)⟩
      exact ih (i + 1) _ (by omega) (by omega) (ns_cq_s hq rfl)
theorem xw_sto {post : SX → Prop} {f : Nat} (hf : f < 2) (hp : ∀ so', ns_cq ce so so' (f * 64) 64 → post ((nI R), (nI C), st, sv, pl, cn, cl, gv, kn, so', fc, fl, ce, bc, bg)) : wpX_storeSolution post ((nI R), (nI C), st, sv, pl, cn, cl, gv, kn, so, fc, fl, ce, bc, bg) (nI f) :=
  ⟨65, xw_sto_loop hf hp 65 0 so (by omega) (by omega) ns_cq_0⟩
theorem xw_clr_loop {post : SX → Prop} (hp : ∀ so', ns_cp (fun _ => 0) so so' 128 → post ((nI R), (nI C), st, sv, pl, cn, cl, gv, kn, so', fc, fl, ce, bc, bg)) :
    ∀ n i so', i ≤ 128 → 128 < n + i → ns_cp (fun _ => 0) so so' i → wX_clearStoredGrids_2 post (nI R) (nI C) st sv pl n (nI i) cn cl gv kn so' fc fl ce bc bg := by
  intro n
  induction n with
  | zero => intro i so' h1 h2; omega
  | succ n ih =>
    intro i so' h1 h2 hq
    by_cases h : i = 128
    · subst h
      exact br_t (nI_le (a := 128) (b := 128) (by omega) (by omega)) (hp so' hq)
    · refine br_f (nI_ge (b := 128) (by omega) (by omega)) ⟨vp_in_nI (by omega) (by omega), nm_r (ns_uc (by omega)) (nm_r (nI_1 i) ?_)⟩
      exact ih (i + 1) _ (by omega) (by omega) (ns_cp_s hq rfl)
theorem xw_clr {post : SX → Prop} (h128 : ∀ j, 128 ≤ j → so j = 0) (hp : post ((nI R), (nI C), st, sv, pl, cn, cl, gv, kn, (fun _ => 0), fc, fl, ce, bc, bg)) : wpX_clearStoredGrids post ((nI R), (nI C), st, sv, pl, cn, cl, gv, kn, so, fc, fl, ce, bc, bg) :=
  ⟨129, xw_clr_loop (fun so' h => by rw [ns_cp_end h (fun j hj => h128 j hj)]; exact hp) 129 0 so (by omega) (by omega) ns_cp_0⟩
theorem xw_s80 {post : Int32 → SX → Prop} {J : Int32 → Int32 → Int64 → Int32 → Int32 → Int32 → Int32 → Int32 → (Nat → Int32) → (Nat → Int32) → (Nat → Int32) → (Nat → Int32) → (Nat → Int32) → (Nat → Int32) → (Nat → Int32) → (Nat → Int32) → (Nat → Int32) → (Nat → Int32) → Prop} {t f d : Nat} (hR : R ≤ 8) (hC : C ≤ 8) (hM : ns_XM R C (ns_S R C (ns_cc cn) cl) gv t f d so bc bg) (hf : f ≤ 2) (h64 : ∀ j, 64 ≤ j → ce j = 0)
    (hp : ns_out R C (ns_S R C (ns_cc cn) cl) gv f so → post (nI f) ((nI R), (nI C), st, sv, pl, cn, cl, gv, kn, so, fc, fl, ce, bc, bg))
    (hJ : ∀ e ce' pl', d = e + 1 → ns_XV R C (ns_S R C (ns_cc cn) cl) gv (t + 1) f e so ce' pl' bc bg → J (nI f) (nI e) (lN (t + 1)) (nI R) (nI C) st sv pl' cn cl gv kn so fc fl ce' bc bg) :
    wX_storeFirstSolutions_80 post J (nI f) (nI d) (lN t) (nI R) (nI C) st sv pl cn cl gv kn so fc fl ce bc bg := by
  by_cases f2 : f = 2
  · exact br_t (by rw [f2]; rfl) (hp (ns_XM_end hM (Or.inl f2)))
  · refine br_f (fun z => f2 ((nI_eq (b := 2) (by omega) (by omega)).mp z)) ?_
    cases d with
    | zero => exact br_t rfl (hp (ns_XM_end hM (Or.inr rfl)))
    | succ e =>
      have e64 := ns_XM_e hM
      obtain ⟨x, hx, ex, eb⟩ := ns_XM_top hM
      refine br_f (nI_ne0 (by omega) (by omega)) (nm_r (pk_m1 e) (xw_back e64 h64 ⟨vp_in_nI e64 (by omega), ?_⟩))
      have rd : bc (nI e).toNatClampNeg = nI x := by rw [nI_clamp (by omega)]; exact ex
      rw [rd]
      exact xw_asm hx.1 (fun pl' hpl => nm_r (lN_1 t) (hJ e _ pl' rfl (ns_XM_pop (ns_S_lt hR hC) hR hC hM (by omega) ex hx hpl)))
theorem xw_srch {post : Int32 → SX → Prop} (hR : R ≤ 8) (hC : C ≤ 8) (hls : xw_ls R C cn cl fl fc)
    (hp : ∀ f so' ce' pl' bc' bg', ns_out R C (ns_S R C (ns_cc cn) cl) gv f so' → (∀ j, 64 ≤ j → ce' j = 0) → post (nI f) ((nI R), (nI C), st, sv, pl', cn, cl, gv, kn, so', fc, fl, ce', bc', bg')) :
    ∀ n t f d so' ce' pl' bc' bg', 2 * 30 ^ 8 < n + t → ns_XV R C (ns_S R C (ns_cc cn) cl) gv t f d so' ce' pl' bc' bg' →
      wX_storeFirstSolutions_6 post n (nI f) (nI d) (lN t) (nI R) (nI C) st sv pl' cn cl gv kn so' fc fl ce' bc' bg' := by
  have hS := ns_S_lt (cc := ns_cc cn) (cl := cl) hR hC
  intro n
  induction n with
  | zero => intro t f d so' ce' pl' bc' bg' h1 h2; have := ns_XV_t h2; omega
  | succ n ih =>
    intro t f d so' ce' pl' bc' bg' h1 hV
    have tb := ns_XV_t hV
    have e30 : 2 * 30 ^ 8 < 281474976710656 := by decide
    have hb : ¬ (281474976710656 : Int64) ≤ lN t := by
      show ¬ lN 281474976710656 ≤ lN t
      rw [pk_lLE (by decide) (by omega)]; omega
    obtain ⟨ok, pd, pg, f2⟩ := ns_XV_ok hV
    refine br_f hb (xw_settle hR hC hls ok pd pg (fun P c l b => ?_) (fun P pl2 okP nb => ?_))
    · refine br_f (by decide) (xw_fst hR hC (fun x hx h0 hq => ?_) (fun hn => ?_))
      · have d64 := ns_XV_depth hV c l hx h0
        have x64 := hx.1
        refine br_f (ns_nm1 (by omega)) (br_f (nI_ge (b := 64) d64 (by omega)) (xw_keep d64 (fun bg2 hcq => nm_r (nI_1 d) (xw_asm x64 (fun pl2 hpl => nm_r (lN_1 t) ?_)))))
        exact ih (t + 1) f (d + 1) _ _ _ _ _ (by omega) (ns_XV_branch hS hR hC hV c l b hx h0 hq hcq.1 hcq.2 hpl)
      · refine br_t rfl (br_f (by decide) (xw_sto f2 (fun so2 hcq => nm_r (nI_1 f) ?_)))
        refine xw_s80 hR hC (ns_XM_sol hR hC hV c l b hn hcq.1 hcq.2) (by omega) (ns_ok64 c.1) (fun o => hp (f + 1) so2 P 0 bc' bg' o (ns_ok64 c.1)) (fun e ce2 pl2 _ hV2 => ?_)
        exact ih (t + 1) (f + 1) e so2 ce2 pl2 bc' bg' (by omega) hV2
    · obtain ⟨hM, _⟩ := ns_XM_bad hR hC hV nb
      refine br_t rfl (br_t rfl (br_t rfl (xw_s80 hR hC hM (by omega) (ns_ok64 okP) (fun o => hp f so' P pl2 bc' bg' o (ns_ok64 okP)) (fun e ce2 pl3 _ hV2 => ?_))))
      exact ih (t + 1) f e so' ce2 pl3 bc' bg' (by omega) hV2
theorem xw_tot_loop {post : Int32 → Prop} (hcn : ns_cnt R C cn) (h1 : post 1) (h0 : ns_df (ns_cc cn) cl 16 ≠ 0 → post 0) :
    ∀ n a, a ≤ 16 → 16 < n + a → wX_clueTotalsAgree_4 post (nI R) (nI C) st sv pl cn cl gv kn so fc fl ce bc bg n (ns_df (ns_cc cn) cl a) (nI a) := by
  intro n
  induction n with
  | zero => intro a a1 a2; omega
  | succ n ih =>
    intro a a1 a2
    by_cases h : a = 16
    · subst h
      exact br_t (nI_le (a := 16) (b := 16) (by omega) (by omega)) (br_c (fun _ => h1) h0)
    · obtain ⟨c4, ec, _⟩ := hcn a (by omega)
      refine br_f (nI_ge (b := 16) (by omega) (by omega)) (xw_sum (by omega) ec c4 ?_)
      have nx := ih (a + 1) (by omega) (by omega)
      simp only [ns_df] at nx
      by_cases a8 : a < 8
      · rw [if_pos a8] at nx
        exact br_f (ns_nge8 a8) (nm_e (nm_r (nI_1 a) nx))
      · rw [if_neg a8] at nx
        exact br_t (ns_ge8 (by omega) (by omega)) (nm_e (nm_r (nI_1 a) nx))
theorem xw_tot {post : Int32 → Prop} (hcn : ns_cnt R C cn) (h1 : post 1) (h0 : ns_df (ns_cc cn) cl 16 ≠ 0 → post 0) : wpX_clueTotalsAgree post ((nI R), (nI C), st, sv, pl, cn, cl, gv, kn, so, fc, fl, ce, bc, bg) :=
  ⟨17, xw_tot_loop hcn h1 h0 17 0 (by omega) (by omega)⟩
theorem xw_s23 {post : Int32 → SX → Prop} {f : Nat} (hf : f ≤ 2) (hp : post (nI f) ((nI R), (nI C), st, (nI f), pl, cn, cl, gv, kn, so, fc, fl, ce, bc, bg)) : wX_solve_23 post (nI f) (nI R) (nI C) st sv pl cn cl gv kn so fc fl ce bc bg := by
  by_cases e0 : f = 0
  · subst e0; exact br_t rfl hp
  · by_cases e1 : f = 1
    · subst e1; exact br_f (by decide) (br_t rfl hp)
    · have e2 : f = 2 := by omega
      subst e2; exact br_f (by decide) (br_f (by decide) hp)
theorem xw_solve {post : Int32 → SX → Prop} (hR : R ≤ 8) (hC : C ≤ 8) (hcn : ns_cnt R C cn) (hg : ns_ok R C gv) (h64 : ∀ j, 64 ≤ j → ce j = 0) (h128 : ∀ j, 128 ≤ j → so j = 0)
    (hp : ∀ f so' ce' pl' fl' fc' bc' bg', ns_out R C (ns_S R C (ns_cc cn) cl) gv f so' → (∀ j, 64 ≤ j → ce' j = 0) → post (nI f) ((nI R), (nI C), st, (nI f), pl', cn, cl, gv, kn, so', fc', fl', ce', bc', bg')) : wpX_solve post ((nI R), (nI C), st, sv, pl, cn, cl, gv, kn, so, fc, fl, ce, bc, bg) := by
  unfold wpX_solve
  dsimp only
  refine xw_clr h128 (xw_sg hR hC hcn hg h64 (fun fl' fc' pl' hl pd pg => xw_tot hcn ?_ (fun nz => ?_)))
  · refine br_f (by decide) ⟨2 * 30 ^ 8 + 1, ?_⟩
    exact xw_srch hR hC hl (fun f so' ce' pl' bc' bg' o h => xw_s23 (ns_out_le o) (hp f so' ce' pl' fl' fc' bc' bg' o h)) _ 0 0 0 _ gv pl' bc bg (by omega) (ns_XV_0 hR hg (fun r _ => ns_S_few hR hC r) pd pg)
  · refine br_t rfl (xw_s23 (f := 0) (by omega) (hp 0 _ gv pl' fl' fc' bc bg (ns_out_0 (fun Z hZ => nz (ns_df_0 hR hC hZ (fun a ha n => ns_cc_0 ((hcn a ha).2.2 n))))) (ns_ok64 hg)))
theorem xw_rst_loop {post : SX → Prop} (h128 : ∀ j, 128 ≤ j → so j = 0) (hp : ∀ kn', ns_cp (fun _ => 0) kn kn' 64 → post ((nI R), (nI C), st, 3, pl, cn, cl, gv, kn', (fun _ => 0), fc, fl, ce, bc, bg)) :
    ∀ n i kn', i ≤ 64 → 64 < n + i → ns_cp (fun _ => 0) kn kn' i → wX_resetResults_7 post (nI R) (nI C) st sv pl n (nI i) cn cl gv kn' so fc fl ce bc bg := by
  intro n
  induction n with
  | zero => intro i kn' h1 h2; omega
  | succ n ih =>
    intro i kn' h1 h2 hc
    by_cases h : i = 64
    · subst h
      exact br_t (nI_le (a := 64) (b := 64) (by omega) (by omega)) (xw_clr h128 (hp kn' hc))
    · exact br_f (nI_ge (b := 64) (by omega) (by omega)) ⟨vp_in_nI (by omega) (by omega), nm_r (ns_uc (by omega)) (nm_r (nI_1 i) (ih (i + 1) _ (by omega) (by omega) (ns_cp_s hc rfl)))⟩
theorem xw_rst {post : SX → Prop} (hk : ns_ok R C kn) (h128 : ∀ j, 128 ≤ j → so j = 0) (hp : post ((nI R), (nI C), 3, 3, pl, cn, cl, gv, (fun _ => 0), (fun _ => 0), fc, fl, ce, bc, bg)) : wpX_resetResults post ((nI R), (nI C), st, sv, pl, cn, cl, gv, kn, so, fc, fl, ce, bc, bg) :=
  ⟨65, xw_rst_loop h128 (fun kn' h => by rw [ns_cp_end h (fun j hj => (hk j).2 (fun z => by have := z.1; omega))]; exact hp) 65 0 kn (by omega) (by omega) ns_cp_0⟩
end
end
section
/-! Y: rows -/
section
variable {R C : Nat} {st sv am om : Int32} {cl cn gv kn ce so cd : Nat → Int32}
theorem yw_rev_loop {post : Int32 → Prop} {v : Nat} (hC : C ≤ 8) (hv : v < 256) (hp : ∀ p, ns_vp C v p → post (nI p)) :
    ∀ n c x, c ≤ C → C < n + c → ns_rv C v c x → wY_rev_4 post (nI v) (nI R) (nI C) st sv am om cl cn gv kn ce so cd n x (nI c) := by
  intro n
  induction n with
  | zero => intro c x h1 h2; omega
  | succ n ih =>
    intro c x h1 h2 hr
    by_cases h : c = C
    · refine br_t (nI_le (by omega) (by omega)) ?_
      obtain ⟨p, hv', e⟩ := ns_rv_end hC (by rw [h] at hr; exact hr)
      rw [e]; exact hp p hv'
    · refine br_f (nI_ge (by omega) (by omega)) ?_
      rw [ns_c1c (by omega)]
      cases hb : v.testBit (C - 1 - c) with
      | true => exact br_t (ns_tb_t hv (by omega) hb) (nm_e (nm_r (nI_1 c) (ih (c + 1) _ (by omega) (by omega) (ns_rv_t (by omega) hr hb))))
      | false => exact br_f (ns_tb_f hv (by omega) hb) (nm_r (nI_1 c) (ih (c + 1) x (by omega) (by omega) (ns_rv_f hr (by rw [hb]; decide))))
theorem yw_rev {post : Int32 → Prop} {v : Nat} (hC : C ≤ 8) (hv : v < 256) (hp : ∀ p, ns_vp C v p → post (nI p)) : wpY_rev post ((nI R), (nI C), st, sv, am, om, cl, cn, gv, kn, ce, so, cd) (nI v) :=
  ⟨C + 1, yw_rev_loop hC hv hp (C + 1) 0 0 (by omega) (by omega) ns_rv_0⟩
theorem yw_wr_loop {post : SY → Prop} {d p : Nat} (hC : C ≤ 8) (hd : d < 8) (hp256 : p < 256) (hp : ∀ ce', ns_cq (fun q => if p.testBit q = true then 2 else 1) ce ce' (d * 8) C → post ((nI R), (nI C), st, sv, am, om, cl, cn, gv, kn, ce', so, cd)) :
    ∀ n c ce', c ≤ C → C < n + c → ns_cq (fun q => if p.testBit q = true then 2 else 1) ce ce' (d * 8) c → wY_writeRow_2 post (nI d) (nI p) (nI R) (nI C) st sv am om n (nI c) cl cn gv kn ce' so cd := by
  intro n
  induction n with
  | zero => intro c x h1 h2; omega
  | succ n ih =>
    intro c ce' h1 h2 hr
    by_cases h : c = C
    · exact br_t (nI_le (by omega) (by omega)) (hp ce' (by rw [h] at hr; exact hr))
    · refine br_f (nI_ge (by omega) (by omega)) ?_
      cases hb : p.testBit c with
      | true => exact br_t (ns_tb_t hp256 (by omega) hb) ⟨pk_in (d * 8 + c) 64 (by omega) (ns_i8 d c), nm_r (by rw [ns_i8, nI_clamp (by omega)]) (nm_r (nI_1 c) (ih (c + 1) _ (by omega) (by omega) (ns_cq_s hr (by simp [hb]))))⟩
      | false => exact br_f (ns_tb_f hp256 (by omega) hb) ⟨pk_in (d * 8 + c) 64 (by omega) (ns_i8 d c), nm_r (by rw [ns_i8, nI_clamp (by omega)]) (nm_r (nI_1 c) (ih (c + 1) _ (by omega) (by omega) (ns_cq_s hr (by simp [hb]))))⟩
theorem yw_wr {post : SY → Prop} {d p : Nat} (hC : C ≤ 8) (hd : d < 8) (hp256 : p < 256) (hp : ∀ ce', ns_cq (fun q => if p.testBit q = true then 2 else 1) ce ce' (d * 8) C → post ((nI R), (nI C), st, sv, am, om, cl, cn, gv, kn, ce', so, cd)) : wpY_writeRow post ((nI R), (nI C), st, sv, am, om, cl, cn, gv, kn, ce, so, cd) (nI d) (nI p) :=
  ⟨C + 1, yw_wr_loop hC hd hp256 hp (C + 1) 0 ce (by omega) (by omega) ns_cq_0⟩
theorem yw_rs_loop {post : SY → Prop} {d : Nat} (hC : C ≤ 8) (hd : d < 8) (hp : ∀ ce', ns_cq (fun q => gv (d * 8 + q)) ce ce' (d * 8) C → post ((nI R), (nI C), st, sv, am, om, cl, cn, gv, kn, ce', so, cd)) :
    ∀ n c ce', c ≤ C → C < n + c → ns_cq (fun q => gv (d * 8 + q)) ce ce' (d * 8) c → wY_restoreRow_2 post (nI d) (nI R) (nI C) st sv am om n (nI c) cl cn gv kn ce' so cd := by
  intro n
  induction n with
  | zero => intro c x h1 h2; omega
  | succ n ih =>
    intro c ce' h1 h2 hr
    by_cases h : c = C
    · exact br_t (nI_le (by omega) (by omega)) (hp ce' (by rw [h] at hr; exact hr))
    · refine br_f (nI_ge (by omega) (by omega)) ⟨pk_in (d * 8 + c) 64 (by omega) (ns_i8 d c), pk_in (d * 8 + c) 64 (by omega) (ns_i8 d c), nm_r (by rw [ns_i8, nI_clamp (by omega)]) (nm_r (nI_1 c) ?_)⟩
      exact ih (c + 1) _ (by omega) (by omega) (ns_cq_s hr rfl)
theorem yw_rs {post : SY → Prop} {d : Nat} (hC : C ≤ 8) (hd : d < 8) (hp : ∀ ce', ns_cq (fun q => gv (d * 8 + q)) ce ce' (d * 8) C → post ((nI R), (nI C), st, sv, am, om, cl, cn, gv, kn, ce', so, cd)) : wpY_restoreRow post ((nI R), (nI C), st, sv, am, om, cl, cn, gv, kn, ce, so, cd) (nI d) :=
  ⟨C + 1, yw_rs_loop hC hd hp (C + 1) 0 ce (by omega) (by omega) ns_cq_0⟩
end
end
section
/-! Y: a line -/
theorem ns_b4 (K L : Nat) : nI K * 32 + nI L * 4 = nI ((K * 8 + L) * 4) := by
  show nI K * nI 32 + nI L * nI 4 = _
  rw [pk_mul, pk_mul, nI_add]; congr 1; omega
section
variable {R C : Nat} {st sv am om : Int32} {cl cn gv kn ce so cd : Nat → Int32}
theorem yw_idx {post : Int32 → Prop} {K L i : Nat} (hK : K < 2) (hL : L < 8) (hp : post (nI (ns_lc (K * 8 + L) i))) : wpY_idx post ((nI R), (nI C), st, sv, am, om, cl, cn, gv, kn, ce, so, cd) (nI K) (nI L) (nI i) := by
  by_cases h : K = 0
  · subst h
    rw [ns_lc_row (by omega), show 0 * 8 + L = L by omega, ← ns_i8] at hp
    exact br_t rfl hp
  · have e : K = 1 := by omega
    subst e
    rw [ns_lc_col (by omega), show 1 * 8 + L - 8 = L by omega, ← ns_i8] at hp
    exact br_f (by decide) hp
theorem yw_len {post : Int32 → Prop} {K L : Nat} (hK : K < 2) (hL : L < 8) (hp : post (nI (ns_len R C (K * 8 + L)))) : wpY_lenOf post ((nI R), (nI C), st, sv, am, om, cl, cn, gv, kn, ce, so, cd) (nI K) := by
  by_cases h : K = 0
  · subst h
    have : ns_len R C (0 * 8 + L) = C := by simp [ns_len, hL]
    rw [this] at hp
    exact br_t rfl hp
  · have e : K = 1 := by omega
    subst e
    have : ns_len R C (1 * 8 + L) = R := by
      have n : ¬ 1 * 8 + L < 8 := by omega
      unfold ns_len; rw [if_neg n]
    rw [this] at hp
    exact br_f (by decide) hp
theorem yw_fits_loop {post : Int32 → Prop} {K L p c len : Nat} (hR : R ≤ 8) (hC : C ≤ 8) (hK : K < 2) (hL : L < 8) (el : len = ns_len R C (K * 8 + L)) (hp : p < 2 ^ len) (hc : c ≤ 4)
    (h1 : ns_sat c (fun k => cl ((K * 8 + L) * 4 + k)) (fun i => p.testBit i) len → ns_ag R C ce (K * 8 + L) p → post 1)
    (h0 : ¬ (ns_sat c (fun k => cl ((K * 8 + L) * 4 + k)) (fun i => p.testBit i) len ∧ ns_ag R C ce (K * 8 + L) p) → post 0) :
    ∀ n i k r, i ≤ len + 1 → len + 1 < n + i → ns_au c (fun k => cl ((K * 8 + L) * 4 + k)) (fun i => p.testBit i) i = some (k, r) →
      (∀ q, q < i → q < len → (ce (ns_lc (K * 8 + L) q) = 2 → p.testBit q = true) ∧ (ce (ns_lc (K * 8 + L) q) = 1 → p.testBit q = false)) →
      wY_fits_32 post (nI K) (nI L) (nI len) (nI p) (nI ((K * 8 + L) * 4)) (nI c) (nI R) (nI C) st sv am om cl cn gv kn ce so cd n (nI r) (nI k) (nI i) := by
  have hl8 : len ≤ 8 := by rw [el]; exact ns_len_le hR hC
  have p256 : p < 256 := Nat.lt_of_lt_of_le hp (ns_pw_le hl8)
  intro n
  induction n with
  | zero => intro i k r a1 a2; omega
  | succ n ih =>
    intro i k r a1 a2 e hag
    have le := ns_au_le _ _ _ e
    by_cases hi : i = len + 1
    · subst hi
      have r0 : r = 0 := ns_end (ns_off hp len (Nat.le_refl _)) e
      subst r0
      refine br_t (nI_lt (by omega) (by omega)) ?_
      by_cases hk : k = c
      · subst hk; exact br_t rfl (h1 e (fun q hq => hag q (by omega) (by omega)))
      · exact br_f (fun z => hk ((nI_eq (by omega) (by omega)).mp z)) (h0 (fun z => by
          have z1 : ns_au c _ _ (len + 1) = some (c, 0) := z.1
          rw [e] at z1; cases z1; exact hk rfl))
    · refine br_f (nI_nlt (by omega) (by omega)) ?_
      have bad : ns_au c (fun k => cl ((K * 8 + L) * 4 + k)) (fun i => p.testBit i) (i + 1) = none → post 0 := fun z => h0 (fun y => by
        have y1 : ns_au c _ _ (len + 1) = some (c, 0) := y.1
        rw [show len + 1 = i + 1 + (len - i) by omega, ns_au_n z] at y1; exact nomatch y1)
      have nxt : (i < len → (ce (ns_lc (K * 8 + L) i) = 2 → p.testBit i = true) ∧ (ce (ns_lc (K * 8 + L) i) = 1 → p.testBit i = false)) →
          ∀ q, q < i + 1 → q < len → (ce (ns_lc (K * 8 + L) q) = 2 → p.testBit q = true) ∧ (ce (ns_lc (K * 8 + L) q) = 1 → p.testBit q = false) := fun z q h2 h3 => by
        by_cases eq : q = i
        · subst eq; exact z h3
        · exact hag q (by omega) h3
      have tt : p.testBit i = true → (i < len → (ce (ns_lc (K * 8 + L) i) = 2 → p.testBit i = true) ∧ (ce (ns_lc (K * 8 + L) i) = 1 → p.testBit i = false)) →
          wY_fits_105 post (wY_fits_32 post (nI K) (nI L) (nI len) (nI p) (nI ((K * 8 + L) * 4)) (nI c) (nI R) (nI C) st sv am om cl cn gv kn ce so cd n) (nI K) (nI L) (nI len) (nI p) (nI ((K * 8 + L) * 4)) (nI c) (nI r) (nI k) (nI i) 1 (nI R) (nI C) st sv am om cl cn gv kn ce so cd := fun hb z =>
        br_t rfl (nm_r (nI_1 r) (nm_r (nI_1 i) (ih (i + 1) k (r + 1) (by omega) (by omega) (ns_au_t e hb) (nxt z))))
      have tf : p.testBit i = false → (i < len → (ce (ns_lc (K * 8 + L) i) = 2 → p.testBit i = true) ∧ (ce (ns_lc (K * 8 + L) i) = 1 → p.testBit i = false)) →
          wY_fits_105 post (wY_fits_32 post (nI K) (nI L) (nI len) (nI p) (nI ((K * 8 + L) * 4)) (nI c) (nI R) (nI C) st sv am om cl cn gv kn ce so cd n) (nI K) (nI L) (nI len) (nI p) (nI ((K * 8 + L) * 4)) (nI c) (nI r) (nI k) (nI i) 0 (nI R) (nI C) st sv am om cl cn gv kn ce so cd := fun hb z => by
        refine br_f (by decide) ?_
        by_cases hr : r = 0
        · subst hr; exact br_t (by decide) (nm_r (nI_1 i) (ih (i + 1) k 0 (by omega) (by omega) (ns_au_z e hb) (nxt z)))
        · refine br_f (nI_nle (by omega) (by omega)) ?_
          by_cases hk : k < c
          · refine br_f (nI_ge hk (by omega)) ⟨pk_in ((K * 8 + L) * 4 + k) 64 (by omega) (nI_add _ _), ?_⟩
            have rd : cl (nI ((K * 8 + L) * 4) + nI k).toNatClampNeg = cl ((K * 8 + L) * 4 + k) := by rw [nI_add, nI_clamp (by omega)]
            rw [rd]
            by_cases hq : cl ((K * 8 + L) * 4 + k) = nI r
            · exact br_t hq (nm_r (nI_1 k) (nm_r (nI_1 i) (ih (i + 1) (k + 1) 0 (by omega) (by omega) (ns_au_e e hb hr ⟨hk, hq⟩) (nxt z))))
            · exact br_f hq (bad (ns_au_x e hb hr (fun y => hq y.2)))
          · exact br_t (nI_le (by omega) (by omega)) (bad (ns_au_x e hb hr (fun y => hk y.1)))
      by_cases il : i = len
      · have hb : p.testBit i = false := ns_off hp i (by omega)
        exact br_t (nI_le (by omega) (by omega)) (br_t (nI_le (by omega) (by omega)) (tf hb (fun z => absurd z (by omega))))
      · have l64 := ns_lc64 (a := K * 8 + L) (i := i) (by omega) (by omega)
        have na : ¬ ((ce (ns_lc (K * 8 + L) i) = 2 → p.testBit i = true) ∧ (ce (ns_lc (K * 8 + L) i) = 1 → p.testBit i = false)) → post 0 := fun z => h0 (fun y => z (y.2 i (by rw [← el]; omega)))
        refine br_f (nI_ge (by omega) (by omega)) ?_
        rw [ns_bit (by omega) (nI p), ns_btN (by omega)]
        refine br_f (nI_ge (by omega) (by omega)) (yw_idx hK hL ⟨vp_in_nI l64 (by omega), nm_r (e' := ce (ns_lc (K * 8 + L) i)) (by rw [nI_clamp (by omega)]) ?_⟩)
        cases hb : p.testBit i with
        | true =>
          rw [if_pos rfl]
          by_cases e1 : ce (ns_lc (K * 8 + L) i) = 1
          · exact br_t e1 (br_t rfl (na (fun z => by have := z.2 e1; rw [hb] at this; exact nomatch this)))
          · refine br_f e1 ?_
            have ok := tt hb (fun _ => ⟨fun _ => hb, fun z => absurd z e1⟩)
            by_cases e2 : ce (ns_lc (K * 8 + L) i) = 2
            · exact br_t e2 (br_f (by decide) ok)
            · exact br_f e2 ok
        | false =>
          rw [if_neg (by decide)]
          by_cases e2 : ce (ns_lc (K * 8 + L) i) = 2
          · exact br_f (by rw [e2]; decide) (br_t e2 (br_t rfl (na (fun z => by have := z.1 e2; rw [hb] at this; exact nomatch this))))
          · have ok := tf hb (fun _ => ⟨fun z => absurd z e2, fun _ => hb⟩)
            by_cases e1 : ce (ns_lc (K * 8 + L) i) = 1
            · exact br_t e1 (br_f (by decide) (br_f e2 ok))
            · exact br_f e1 (br_f e2 ok)
theorem yw_fits {post : Int32 → Prop} {K L p len : Nat} (hR : R ≤ 8) (hC : C ≤ 8) (hK : K < 2) (hL : L < 8) (hcn : ns_cnt R C cn) (el : len = ns_len R C (K * 8 + L)) (hp : p < 2 ^ len)
    (h1 : ns_cons R C (ns_S R C (ns_cc cn) cl) ce (K * 8 + L) p → post 1) (h0 : ¬ ns_cons R C (ns_S R C (ns_cc cn) cl) ce (K * 8 + L) p → post 0) : wpY_fits post ((nI R), (nI C), st, sv, am, om, cl, cn, gv, kn, ce, so, cd) (nI K) (nI L) (nI len) (nI p) := by
  obtain ⟨c4, ec, _⟩ := hcn (K * 8 + L) (by omega)
  refine nm_r (ns_b4 K L) ⟨pk_in (K * 8 + L) 16 (by omega) (ns_i8 K L), nm_r (e' := nI (ns_cc cn (K * 8 + L))) (by rw [ns_i8, nI_clamp (by omega)]; exact ec) ⟨len + 2, ?_⟩⟩
  refine yw_fits_loop hR hC hK hL el hp c4 (fun s ag => h1 ⟨⟨by rw [← el]; exact hp, by rw [← el]; exact s⟩, ag⟩) (fun z => h0 (fun y => z ⟨by rw [el]; exact y.1.2, y.2⟩)) (len + 2) 0 0 0 (by omega) (by omega) rfl (fun q hq => absurd hq (by omega))
theorem yw_scan_loop {post : Int32 → SY → Prop} {K L len : Nat} (hR : R ≤ 8) (hC : C ≤ 8) (hK : K < 2) (hL : L < 8) (hcn : ns_cnt R C cn) (el : len = ns_len R C (K * 8 + L))
    (hp : ∀ x am om, ns_an (ns_cons R C (ns_S R C (ns_cc cn) cl) ce (K * 8 + L)) true am → ns_or (ns_cons R C (ns_S R C (ns_cc cn) cl) ce (K * 8 + L)) true om →
      ((x = 0 ∧ ¬ ∃ p, ns_cons R C (ns_S R C (ns_cc cn) cl) ce (K * 8 + L) p) ∨ (x ≠ 0 ∧ ∃ p, ns_cons R C (ns_S R C (ns_cc cn) cl) ce (K * 8 + L) p)) → post x ((nI R), (nI C), st, sv, am, om, cl, cn, gv, kn, ce, so, cd)) :
    ∀ n p k am om, p ≤ 2 ^ len → 2 ^ len < n + p → k ≤ p → ns_an (ns_sl R C (ns_S R C (ns_cc cn) cl) ce (K * 8 + L) p) true am → ns_or (ns_sl R C (ns_S R C (ns_cc cn) cl) ce (K * 8 + L) p) true om →
      ((k = 0 ∧ ∀ q, ¬ ns_sl R C (ns_S R C (ns_cc cn) cl) ce (K * 8 + L) p q) ∨ (0 < k ∧ ∃ q, ns_sl R C (ns_S R C (ns_cc cn) cl) ce (K * 8 + L) p q)) →
      wY_scan_27 post (nI K) (nI L) (nI len) (nI (2 ^ len)) (nI R) (nI C) st sv cl cn gv kn ce so cd n (nI k) (nI p) am om := by
  have hl8 : len ≤ 8 := by rw [el]; exact ns_len_le hR hC
  have pw := ns_pw_le hl8
  intro n
  induction n with
  | zero => intro p k am om a1 a2; omega
  | succ n ih =>
    intro p k am om a1 a2 kp han hor hk
    by_cases h : p = 2 ^ len
    · have en := ns_sl_end (R := R) (C := C) (S := ns_S R C (ns_cc cn) cl) (P := ce) (a := K * 8 + L) (m := p) (fun q hq => by rw [h, el]; exact hq.1)
      refine br_t (by rw [h]; exact nI_le (Nat.le_refl _) (by omega)) (hp _ am om (ns_an_eq han en) (ns_or_eq hor en) ?_)
      rcases hk with ⟨rfl, nx⟩ | ⟨k0, q, hq⟩
      · exact Or.inl ⟨rfl, fun ⟨q, hq⟩ => nx q ((en q).mp hq)⟩
      · exact Or.inr ⟨nI_ne0 k0 (by omega), q, (en q).mpr hq⟩
    · refine br_f (nI_ge (by omega) (by omega)) (yw_fits hR hC hK hL hcn el (by omega) (fun hc => ?_) (fun hc => ?_))
      · have en := ns_sl_t hc
        exact br_f (by decide) (nm_r (nI_1 k) (nm_e (nm_e (nm_r (nI_1 p) (ih (p + 1) (k + 1) _ _ (by omega) (by omega) (by omega) (ns_an_add (by omega) han en) (ns_or_add hor en (ns_hyt (by omega))) (Or.inr ⟨by omega, p, (en p).mpr (Or.inr rfl)⟩))))))
      · have en := ns_sl_f hc
        exact br_t rfl (nm_r (nI_1 p) (ih (p + 1) k am om (by omega) (by omega) (by omega) (ns_an_eq han en) (ns_or_eq hor en) (hk.imp (fun z => ⟨z.1, fun q hq => z.2 q ((en q).mp hq)⟩) (fun ⟨z, q, hq⟩ => ⟨z, q, (en q).mpr hq⟩))))
theorem yw_scan {post : Int32 → SY → Prop} {K L : Nat} (hR : R ≤ 8) (hC : C ≤ 8) (hK : K < 2) (hL : L < 8) (hcn : ns_cnt R C cn)
    (hp : ∀ x am om, ns_an (ns_cons R C (ns_S R C (ns_cc cn) cl) ce (K * 8 + L)) true am → ns_or (ns_cons R C (ns_S R C (ns_cc cn) cl) ce (K * 8 + L)) true om →
      ((x = 0 ∧ ¬ ∃ p, ns_cons R C (ns_S R C (ns_cc cn) cl) ce (K * 8 + L) p) ∨ (x ≠ 0 ∧ ∃ p, ns_cons R C (ns_S R C (ns_cc cn) cl) ce (K * 8 + L) p)) → post x ((nI R), (nI C), st, sv, am, om, cl, cn, gv, kn, ce, so, cd)) : wpY_scan post ((nI R), (nI C), st, sv, am, om, cl, cn, gv, kn, ce, so, cd) (nI K) (nI L) := by
  have hl8 : ns_len R C (K * 8 + L) ≤ 8 := ns_len_le hR hC
  unfold wpY_scan
  dsimp only
  refine yw_len hK hL (nm_r (ns_pw hl8) ⟨2 ^ ns_len R C (K * 8 + L) + 1, ?_⟩)
  exact yw_scan_loop hR hC hK hL hcn rfl hp _ 0 0 (-1) 0 (Nat.zero_le _) (by omega) (by omega) (ns_an_0 ns_sl_0) (ns_or_0 ns_sl_0) (Or.inl ⟨rfl, ns_sl_0⟩)
end
end
section
/-! Y: a step, propagate -/
section
variable {R C : Nat} {st sv am om : Int32} {cl cn gv kn ce so cd : Nat → Int32}
theorem yw_stp_loop {post : Int32 → SY → Prop} {K L len : Nat} {Q : Nat → Prop} (hR : R ≤ 8) (hC : C ≤ 8) (hK : K < 2) (hL : L < 8) (el : len = ns_len R C (K * 8 + L)) (ham : ns_an Q true am) (hom : ns_or Q true om) (P : Nat → Int32)
    (hp : ∀ x P', ns_wr Q P (K * 8 + L) len P' →
      ((x = 0 ∧ ∀ i, i < len → P (ns_lc (K * 8 + L) i) = 0 → P' (ns_lc (K * 8 + L) i) = 0) ∨ (x = 1 ∧ ∃ i, i < len ∧ P (ns_lc (K * 8 + L) i) = 0 ∧ P' (ns_lc (K * 8 + L) i) ≠ 0)) → post x ((nI R), (nI C), st, sv, am, om, cl, cn, gv, kn, P', so, cd)) :
    ∀ n i x P', i ≤ len → len < n + i → ns_wr Q P (K * 8 + L) i P' →
      ((x = 0 ∧ ∀ k, k < i → P (ns_lc (K * 8 + L) k) = 0 → P' (ns_lc (K * 8 + L) k) = 0) ∨ (x = 1 ∧ ∃ k, k < i ∧ P (ns_lc (K * 8 + L) k) = 0 ∧ P' (ns_lc (K * 8 + L) k) ≠ 0)) →
      wY_stepLine_23 post (nI K) (nI L) (nI len) (nI R) (nI C) st sv am om n x (nI i) cl cn gv kn P' so cd := by
  have hl8 : len ≤ 8 := by rw [el]; exact ns_len_le hR hC
  intro n
  induction n with
  | zero => intro i x P' a1 a2; omega
  | succ n ih =>
    intro i x P' a1 a2 hw hx
    by_cases h : i = len
    · exact br_t (nI_le (by omega) (by omega)) (hp x P' (by rw [← h]; exact hw) (by rw [← h]; exact hx))
    · have l64 := ns_lc64 (a := K * 8 + L) (i := i) (by omega) (by omega)
      have inl : vp_in (nI (ns_lc (K * 8 + L) i)) 64 := vp_in_nI l64 (by omega)
      have at' := ns_wr_at (by omega) hw
      have rd : P' (nI (ns_lc (K * 8 + L) i)).toNatClampNeg = P (ns_lc (K * 8 + L) i) := by rw [nI_clamp (by omega)]; exact at'
      have keep : (P (ns_lc (K * 8 + L) i) ≠ 0 ∨ ((¬ ∀ p, Q p → p.testBit i = true) ∧ ¬ ∀ p, Q p → p.testBit i = false)) → wY_stepLine_23 post (nI K) (nI L) (nI len) (nI R) (nI C) st sv am om n x (nI (i + 1)) cl cn gv kn P' so cd := fun k => by
        refine ih (i + 1) x P' (by omega) (by omega) (ns_wr_keep (by omega) hw k) (hx.imp (fun z => ⟨z.1, fun q hq z0 => ?_⟩) (fun ⟨z, q, hq, y⟩ => ⟨z, q, by omega, y⟩))
        by_cases e : q = i
        · subst e; rw [at']; exact z0
        · exact z.2 q (by omega) z0
      have put : ∀ y : Int32, y ≠ 0 → P (ns_lc (K * 8 + L) i) = 0 → ((y = 2 ∧ ∀ p, Q p → p.testBit i = true) ∨ (y = 1 ∧ ∀ p, Q p → p.testBit i = false)) →
          wY_stepLine_23 post (nI K) (nI L) (nI len) (nI R) (nI C) st sv am om n 1 (nI (i + 1)) cl cn gv kn (upd P' (ns_lc (K * 8 + L) i) y) so cd := fun y hy z k =>
        ih (i + 1) 1 _ (by omega) (by omega) (ns_wr_put (by omega) hw z k) (Or.inr ⟨rfl, i, by omega, z, by rw [ns_upd_s]; exact hy⟩)
      refine br_f (nI_ge (by omega) (by omega)) (yw_idx hK hL ⟨inl, ?_⟩)
      rw [rd]
      refine br_c (fun z => ?_) (fun z => nm_r (nI_1 i) (keep (Or.inl z)))
      cases ha : bt am i with
      | true => exact br_t (ns_bit_t (by omega) ha) ⟨inl, nm_r (ns_uc (by omega)) (nm_r (nI_1 i) (put 2 (by decide) z (Or.inl ⟨rfl, (ham i (by omega)).mp ha⟩)))⟩
      | false =>
        have n1 : ¬ ∀ p, Q p → p.testBit i = true := fun y => by rw [(ham i (by omega)).mpr y] at ha; exact nomatch ha
        refine br_f (ns_bit_f (by omega) ha) ?_
        cases ho : bt om i with
        | true =>
          have n0 : ¬ ∀ p, Q p → p.testBit i = false := fun y => by
            obtain ⟨p, hq, ht⟩ := (hom i (by omega)).mp ho
            rw [y p hq] at ht; exact nomatch ht
          exact br_f (by rw [ns_bit (by omega), ho]; decide) (nm_r (nI_1 i) (keep (Or.inr ⟨n1, n0⟩)))
        | false =>
          have off : ∀ p, Q p → p.testBit i = false := fun p hq => by
            cases t : p.testBit i with
            | false => rfl
            | true => rw [(hom i (by omega)).mpr ⟨p, hq, t⟩] at ho; exact nomatch ho
          exact br_t (by rw [ns_bit (by omega), ho]; decide) ⟨inl, nm_r (ns_uc (by omega)) (nm_r (nI_1 i) (put 1 (by decide) z (Or.inr ⟨rfl, off⟩)))⟩
theorem yw_step {post : Int32 → SY → Prop} {K L : Nat} (hR : R ≤ 8) (hC : C ≤ 8) (hK : K < 2) (hL : L < 8) (hcn : ns_cnt R C cn)
    (hb : ∀ am om, (¬ ∃ p, ns_cons R C (ns_S R C (ns_cc cn) cl) ce (K * 8 + L) p) → post (-1) ((nI R), (nI C), st, sv, am, om, cl, cn, gv, kn, ce, so, cd))
    (h0 : ∀ am om P', (∃ p, ns_cons R C (ns_S R C (ns_cc cn) cl) ce (K * 8 + L) p) → ns_step R C (ns_S R C (ns_cc cn) cl) ce (K * 8 + L) P' →
      (∀ i, i < ns_len R C (K * 8 + L) → ce (ns_lc (K * 8 + L) i) = 0 → P' (ns_lc (K * 8 + L) i) = 0) → post 0 ((nI R), (nI C), st, sv, am, om, cl, cn, gv, kn, P', so, cd))
    (h1 : ∀ am om P', (∃ p, ns_cons R C (ns_S R C (ns_cc cn) cl) ce (K * 8 + L) p) → ns_step R C (ns_S R C (ns_cc cn) cl) ce (K * 8 + L) P' →
      (∃ i, i < ns_len R C (K * 8 + L) ∧ ce (ns_lc (K * 8 + L) i) = 0 ∧ P' (ns_lc (K * 8 + L) i) ≠ 0) → post 1 ((nI R), (nI C), st, sv, am, om, cl, cn, gv, kn, P', so, cd)) : wpY_stepLine post ((nI R), (nI C), st, sv, am, om, cl, cn, gv, kn, ce, so, cd) (nI K) (nI L) := by
  unfold wpY_stepLine
  dsimp only
  refine yw_scan hR hC hK hL hcn (fun x am om han hor hx => ?_)
  rcases hx with ⟨rfl, nx⟩ | ⟨x0, ex⟩
  · exact br_t rfl (hb am om nx)
  · refine br_f x0 (yw_len hK hL ⟨ns_len R C (K * 8 + L) + 1, ?_⟩)
    refine yw_stp_loop hR hC hK hL rfl han hor ce (fun y P' hw hy => ?_) _ 0 0 ce (Nat.zero_le _) (by omega) ns_wr_0 (Or.inl ⟨rfl, fun k hk => absurd hk (by omega)⟩)
    rcases hy with ⟨rfl, hy⟩ | ⟨rfl, hy⟩
    · exact h0 am om P' ex (ns_wr_step hw) hy
    · exact h1 am om P' ex (ns_wr_step hw) hy
theorem yw_ok_g {post : Int32 → Prop} {K L : Nat} (hK : K < 2) (hL : L < 8) (hR : R ≤ 8) (hC : C ≤ 8) (h1 : ns_ing R C (K * 8 + L) → post 1) (h0 : ¬ ns_ing R C (K * 8 + L) → post 0) : wpY_lineOk post ((nI R), (nI C), st, sv, am, om, cl, cn, gv, kn, ce, so, cd) (nI K) (nI L) := by
  by_cases h : K = 0
  · subst h
    refine br_t rfl (br_f (nI_pos (by omega)) ?_)
    by_cases k : L < R
    · exact br_f (nI_ge k (by omega)) (h1 ⟨by omega, fun _ => by omega, fun z => by omega⟩)
    · exact br_t (nI_le (by omega) (by omega)) (h0 (fun z => k (by have := z.2.1 (by omega); omega)))
  · have e : K = 1 := by omega
    subst e
    refine br_f (by decide) (br_t rfl (br_f (nI_pos (by omega)) ?_))
    by_cases k : L < C
    · exact br_f (nI_ge k (by omega)) (h1 ⟨by omega, fun z => by omega, fun _ => by omega⟩)
    · exact br_t (nI_le (by omega) (by omega)) (h0 (fun z => k (by have := z.2.2 (by omega); omega)))
theorem yw_pass {post : Int32 → SY → Prop} {J : Int32 → Int32 → Int32 → Int32 → Int32 → Int32 → Int32 → Int32 → Int32 → (Nat → Int32) → (Nat → Int32) → (Nat → Int32) → (Nat → Int32) → (Nat → Int32) → (Nat → Int32) → (Nat → Int32) → Prop} (P0 : Nat → Int32) {ps : Nat} (hR : R ≤ 8) (hC : C ≤ 8) (hcn : ns_cnt R C cn)
    (hJ : ∀ ch P am om, (ch = 0 ∨ ch = 1) → ns_OY R C (ns_S R C (ns_cc cn) cl) P0 (ps + 1) (ch = 1) P → J 0 ch (nI (ps + 1)) (nI R) (nI C) st sv am om cl cn gv kn P so cd)
    (hB : ∀ ch P am om, ns_ok R C P → (∀ Q, ns_cls R C (ns_S R C (ns_cc cn) cl) Q → ¬ ns_le P0 Q) → J 1 ch (nI (ps + 1)) (nI R) (nI C) st sv am om cl cn gv kn P so cd) :
    ∀ n li ch P am om, li ≤ 16 → 17 < n + li → (ch = 0 ∨ ch = 1) → ns_IY R C (ns_S R C (ns_cc cn) cl) P0 ps li (ch = 1) P → wY_propagate_51 post J (nI ps) n 0 ch (nI li) (nI R) (nI C) st sv am om cl cn gv kn P so cd := by
  intro n
  induction n with
  | zero => intro li ch P am om a1 a2; omega
  | succ n ih =>
    intro li ch P am om a1 a2 hch hI
    by_cases h : li = 16
    · subst h
      exact br_t (nI_le (a := 16) (b := 16) (by omega) (by omega)) (nm_r (nI_1 ps) (hJ ch P am om hch (ns_IY_end hI)))
    · have e1 : nI li / 8 = nI (li / 8) := pk_div (d := 8) (by omega) (by omega) (by omega)
      have e2 : nI li - nI li / 8 * 8 = nI (li % 8) := pk_rem (d := 8) (by omega) (by omega) (by omega)
      have ea : li / 8 * 8 + li % 8 = li := by omega
      refine br_f (nI_ge (b := 16) (by omega) (by omega)) (br_t rfl ⟨by decide, nm_r e1 ⟨by decide, nm_r e2 ?_⟩⟩)
      refine yw_ok_g (by omega) (by omega) hR hC (fun g => ?_) (fun g => ?_)
      · have g' : ns_ing R C li := by rw [ea] at g; exact g
        refine br_f (by decide) (yw_step (K := li / 8) (L := li % 8) hR hC (by omega) (by omega) hcn (fun am2 om2 nx => ?_) (fun am2 om2 P' ex st d => ?_) (fun am2 om2 P' ex st d => ?_))
        · rw [ea] at nx
          refine br_f (by decide) (br_t (by decide) (nm_r (nI_1 li) ?_))
          obtain ⟨n', rfl⟩ : ∃ n', n = n' + 1 := ⟨n - 1, by omega⟩
          have fin := hB ch P am2 om2 hI.1 (ns_res_bad g' hI.2.2.1 nx)
          exact br_c (fun _ => nm_r (nI_1 ps) fin) (fun _ => br_f (by decide) (nm_r (nI_1 ps) fin))
        · rw [ea] at ex st d
          exact br_t (by decide) (br_t (by decide) (nm_r (nI_1 li) (ih (li + 1) ch P' am2 om2 (by omega) (by omega) hch (ns_IY_none hI st ex d))))
        · rw [ea] at ex st d
          have hI2 := ns_IY_some hR hC g' hI st d
          refine br_t (by decide) (br_f (by decide) (nm_r (nI_1 li) (ih (li + 1) 1 P' am2 om2 (by omega) (by omega) (Or.inr rfl) ?_)))
          have et : ((1 : Int32) = 1) = True := eq_true rfl
          rw [et]; exact hI2
      · have g' : ¬ ns_ing R C li := by rw [ea] at g; exact g
        exact br_t rfl (nm_r (nI_1 li) (ih (li + 1) ch P am om (by omega) (by omega) hch (ns_IY_skip hI g')))
theorem yw_fin_loop {post : Int32 → SY → Prop} (hR : R ≤ 8) (hC : C ≤ 8)
    (hp : ∀ x kn', ns_cp ce kn kn' 64 → ((x = 5 ∧ ∀ q, ns_cg R C q → ce q ≠ 0) ∨ (x = 6 ∧ ∃ q, ns_cg R C q ∧ ce q = 0)) → post x ((nI R), (nI C), x, sv, am, om, cl, cn, gv, kn', ce, so, cd)) :
    ∀ n i x kn', i ≤ 64 → 64 < n + i → ns_cp ce kn kn' i → ((x = 5 ∧ ∀ q, q < i → ns_cg R C q → ce q ≠ 0) ∨ (x = 6 ∧ ∃ q, ns_cg R C q ∧ ce q = 0)) →
      wY_propagate_165 post (nI R) (nI C) sv am om n (nI i) x cl cn gv kn' ce so cd := by
  intro n
  induction n with
  | zero => intro i x kn' a1 a2; omega
  | succ n ih =>
    intro i x kn' a1 a2 hc hx
    by_cases h : i = 64
    · subst h
      exact br_t (nI_le (a := 64) (b := 64) (by omega) (by omega)) (hp x kn' hc (hx.imp (fun z => ⟨z.1, fun q hq => z.2 q hq.1 hq⟩) id))
    · have e1 : nI i / 8 = nI (i / 8) := pk_div (d := 8) (by omega) (by omega) (by omega)
      have e2 : nI i - nI i / 8 * 8 = nI (i % 8) := pk_rem (d := 8) (by omega) (by omega) (by omega)
      have inx : vp_in (nI i) 64 := vp_in_nI (by omega) (by omega)
      have hc' : ns_cp ce kn (upd kn' i (ce i)) (i + 1) := ns_cp_s hc rfl
      have keep : (ns_cg R C i → ce i ≠ 0) → wY_propagate_165 post (nI R) (nI C) sv am om n (nI (i + 1)) x cl cn gv (upd kn' i (ce i)) ce so cd := fun k =>
        ih (i + 1) x _ (by omega) (by omega) hc' (hx.imp (fun z => ⟨z.1, fun q hq g => by
          by_cases e : q = i
          · subst e; exact k g
          · exact z.2 q (by omega) g⟩) id)
      refine br_f (nI_ge (b := 64) (by omega) (by omega)) ⟨inx, inx, nm_r (e' := upd kn' i (ce i)) (by rw [nI_clamp (by omega)]) ⟨by decide, ?_⟩⟩
      rw [e1]
      by_cases r1 : i / 8 < R
      · refine br_f (nI_ge r1 (by omega)) ⟨by decide, ?_⟩
        rw [← e1, e2]
        by_cases r2 : i % 8 < C
        · refine br_f (nI_ge r2 (by omega)) ⟨inx, ?_⟩
          rw [nI_clamp (by omega)]
          by_cases z : ce i = 0
          · exact br_t z (nm_r (nI_1 i) (ih (i + 1) 6 _ (by omega) (by omega) hc' (Or.inr ⟨rfl, i, ⟨by omega, r1, r2⟩, z⟩)))
          · exact br_f z (nm_r (nI_1 i) (keep (fun _ => z)))
        · exact br_t (nI_le (by omega) (by omega)) (nm_r (nI_1 i) (keep (fun g => absurd g.2.2 r2)))
      · exact br_t (nI_le (by omega) (by omega)) (nm_r (nI_1 i) (keep (fun g => absurd g.2.1 r1)))
theorem yw_bad_loop {post : Int32 → SY → Prop} (hp : ∀ kn', ns_cp (fun _ => 0) kn kn' 64 → post 4 ((nI R), (nI C), 4, sv, am, om, cl, cn, gv, kn', ce, so, cd)) :
    ∀ n i kn', i ≤ 64 → 64 < n + i → ns_cp (fun _ => 0) kn kn' i → wY_propagate_129 post (nI R) (nI C) st sv am om n (nI i) cl cn gv kn' ce so cd := by
  intro n
  induction n with
  | zero => intro i kn' a1 a2; omega
  | succ n ih =>
    intro i kn' a1 a2 hc
    by_cases h : i = 64
    · subst h
      exact br_t (nI_le (a := 64) (b := 64) (by omega) (by omega)) (hp kn' hc)
    · exact br_f (nI_ge (b := 64) (by omega) (by omega)) ⟨vp_in_nI (by omega) (by omega), nm_r (ns_uc (by omega)) (nm_r (nI_1 i) (ih (i + 1) _ (by omega) (by omega) (ns_cp_s hc rfl)))⟩
theorem yw_rounds {post : Int32 → SY → Prop} (P0 : Nat → Int32) (hR : R ≤ 8) (hC : C ≤ 8) (hcn : ns_cnt R C cn)
    (h1 : ∀ P am om, ns_cls R C (ns_S R C (ns_cc cn) cl) P → ns_le P0 P → ns_blw R C (ns_S R C (ns_cc cn) cl) P0 P → wY_propagate_123 post 0 (nI R) (nI C) st sv am om cl cn gv kn P so cd)
    (h0 : ∀ P am om, ns_ok R C P → (∀ Q, ns_cls R C (ns_S R C (ns_cc cn) cl) Q → ¬ ns_le P0 Q) → wY_propagate_123 post 1 (nI R) (nI C) st sv am om cl cn gv kn P so cd) :
    ∀ n ps ch P am om, ps ≤ 66 → 67 < n + ps → (ch = 0 ∨ ch = 1) → ns_OY R C (ns_S R C (ns_cc cn) cl) P0 ps (ch = 1) P → wY_propagate_32 post n 0 ch (nI ps) (nI R) (nI C) st sv am om cl cn gv kn P so cd := by
  intro n
  induction n with
  | zero => intro ps ch P am om a1 a2; omega
  | succ n ih =>
    intro ps ch P am om a1 a2 hch hO
    rcases hch with rfl | rfl
    · have fin := h1 P am om (ns_OY_end hO (Or.inl (by decide))) hO.2.1 hO.2.2.1
      exact br_c (fun _ => fin) (fun _ => br_t rfl fin)
    · have pb := hO.2.2.2.1 rfl
      refine br_f (nI_ge (b := 70) (by omega) (by omega)) (br_f (by decide) (br_t rfl ⟨18, ?_⟩))
      have hI := ns_IY_0 hO rfl
      have ef : ((0 : Int32) = 1) = False := eq_false (by decide)
      refine yw_pass P0 hR hC hcn (fun ch P am om hch hO' => ih (ps + 1) ch P am om (by omega) (by omega) hch hO') (fun ch P am om ok nb => ?_) 18 0 0 P am om (by omega) (by omega) (Or.inl rfl) (by rw [ef]; exact hI)
      obtain ⟨n', rfl⟩ : ∃ n', n = n' + 1 := ⟨n - 1, by omega⟩
      have fin := h0 P am om ok nb
      exact br_c (fun _ => fin) (fun _ => br_c (fun _ => fin) (fun _ => br_f (by decide) fin))
theorem yw_pcopy {post : Int32 → SY → Prop} (hp : ∀ ce', ns_cp gv ce ce' 64 → ∃ n, wY_propagate_32 post n 0 1 0 (nI R) (nI C) st sv am om cl cn gv kn ce' so cd) :
    ∀ n i ce', i ≤ 64 → 64 < n + i → ns_cp gv ce ce' i → wY_propagate_2 post (nI R) (nI C) st sv am om n (nI i) cl cn gv kn ce' so cd := by
  intro n
  induction n with
  | zero => intro i ce' a1 a2; omega
  | succ n ih =>
    intro i ce' a1 a2 hc
    by_cases h : i = 64
    · subst h
      exact br_t (nI_le (a := 64) (b := 64) (by omega) (by omega)) (hp ce' hc)
    · exact br_f (nI_ge (b := 64) (by omega) (by omega)) ⟨vp_in_nI (by omega) (by omega), vp_in_nI (by omega) (by omega), nm_r (e' := upd ce' i (gv i)) (by rw [nI_clamp (by omega)]) (nm_r (nI_1 i) (ih (i + 1) _ (by omega) (by omega) (ns_cp_s hc rfl)))⟩
theorem yw_prop {post : Int32 → SY → Prop} (hR : R ≤ 8) (hC : C ≤ 8) (hcn : ns_cnt R C cn) (hg : ns_ok R C gv) (hk : ns_ok R C kn) (h64 : ∀ j, 64 ≤ j → ce j = 0)
    (hp : ∀ st' kn' ce' am om, ns_po R C (ns_S R C (ns_cc cn) cl) gv st' kn' → (∀ j, 64 ≤ j → ce' j = 0) → post st' ((nI R), (nI C), st', sv, am, om, cl, cn, gv, kn', ce', so, cd)) : wpY_propagate post ((nI R), (nI C), st, sv, am, om, cl, cn, gv, kn, ce, so, cd) := by
  refine ⟨65, yw_pcopy (fun ce' hc => ⟨68, ?_⟩) 65 0 ce (by omega) (by omega) ns_cp_0⟩
  have e : ce' = gv := ns_cp_end hc (fun j hj => by rw [h64 j hj, (hg j).2 (fun z => by have := z.1; omega)])
  rw [e]
  have et : ((1 : Int32) = 1) = True := eq_true rfl
  refine yw_rounds gv hR hC hcn (fun P am om c l b => ?_) (fun P am om ok nb => ?_) 68 0 1 gv am om (by omega) (by omega) (Or.inr rfl) (by rw [et]; exact ns_OY_0 hg)
  · refine br_t rfl ⟨65, yw_fin_loop hR hC (fun x kn' hc hx => ?_) 65 0 5 kn (by omega) (by omega) ns_cp_0 (Or.inl ⟨rfl, fun q hq => absurd hq (by omega)⟩)⟩
    have e : kn' = P := ns_cp_end hc (fun j hj => by rw [(hk j).2 (fun z => by have := z.1; omega), (c.1 j).2 (fun z => by have := z.1; omega)])
    rw [e]
    refine hp x P P am om (Or.inl ⟨c, l, b, ?_⟩) (ns_ok64 c.1)
    exact hx.imp (fun z => ⟨z.2, z.1⟩) (fun z => ⟨z.2, z.1⟩)
  · refine br_f (by decide) ⟨65, yw_bad_loop (fun kn' hc => ?_) 65 0 kn (by omega) (by omega) ns_cp_0⟩
    have e : kn' = fun _ => 0 := ns_cp_end hc (fun j hj => (hk j).2 (fun z => by have := z.1; omega))
    rw [e]
    exact hp 4 _ P am om (Or.inr ⟨nb, rfl, rfl⟩) (ns_ok64 ok)
end
end
section
/-! Y: search -/
section
variable {R C : Nat} {st sv am om : Int32} {cl cn gv kn ce so cd : Nat → Int32}
theorem yw_cols_loop {post : Int32 → SY → Prop} (hR : R ≤ 8) (hC : C ≤ 8) (hcn : ns_cnt R C cn)
    (h1 : ∀ am om, (∀ a, 8 ≤ a → ns_ing R C a → ∃ q, ns_cons R C (ns_S R C (ns_cc cn) cl) ce a q) → post 1 ((nI R), (nI C), st, sv, am, om, cl, cn, gv, kn, ce, so, cd))
    (h0 : ∀ am om a, 8 ≤ a → ns_ing R C a → (¬ ∃ q, ns_cons R C (ns_S R C (ns_cc cn) cl) ce a q) → post 0 ((nI R), (nI C), st, sv, am, om, cl, cn, gv, kn, ce, so, cd)) :
    ∀ n c am om, c ≤ C → C < n + c → (∀ q, q < c → ∃ p, ns_cons R C (ns_S R C (ns_cc cn) cl) ce (8 + q) p) → wY_colsOk_2 post n (nI c) (nI R) (nI C) st sv am om cl cn gv kn ce so cd := by
  intro n
  induction n with
  | zero => intro c am om a1 a2; omega
  | succ n ih =>
    intro c am om a1 a2 hq
    by_cases h : c = C
    · refine br_t (nI_le (by omega) (by omega)) (h1 am om (fun a a8 g => ?_))
      have ga := g.2.2 a8
      have := hq (a - 8) (by omega)
      rw [show 8 + (a - 8) = a by omega] at this
      exact this
    · refine br_f (nI_ge (by omega) (by omega)) (yw_scan (K := 1) (L := c) hR hC (by omega) (by omega) hcn (fun x am2 om2 _ _ hx => ?_))
      rw [show 1 * 8 + c = 8 + c by omega] at hx
      rcases hx with ⟨rfl, nx⟩ | ⟨x0, ex⟩
      · exact br_t rfl (h0 am2 om2 (8 + c) (by omega) ⟨by omega, fun z => by omega, fun _ => by omega⟩ nx)
      · refine br_f x0 (nm_r (nI_1 c) (ih (c + 1) am2 om2 (by omega) (by omega) (fun q hq' => ?_)))
        by_cases e : q = c
        · subst e; exact ex
        · exact hq q (by omega)
theorem yw_cols {post : Int32 → SY → Prop} (hR : R ≤ 8) (hC : C ≤ 8) (hcn : ns_cnt R C cn)
    (h1 : ∀ am om, (∀ a, 8 ≤ a → ns_ing R C a → ∃ q, ns_cons R C (ns_S R C (ns_cc cn) cl) ce a q) → post 1 ((nI R), (nI C), st, sv, am, om, cl, cn, gv, kn, ce, so, cd))
    (h0 : ∀ am om a, 8 ≤ a → ns_ing R C a → (¬ ∃ q, ns_cons R C (ns_S R C (ns_cc cn) cl) ce a q) → post 0 ((nI R), (nI C), st, sv, am, om, cl, cn, gv, kn, ce, so, cd)) : wpY_colsOk post ((nI R), (nI C), st, sv, am, om, cl, cn, gv, kn, ce, so, cd) :=
  ⟨C + 1, yw_cols_loop hR hC hcn h1 h0 (C + 1) 0 am om (by omega) (by omega) (fun q hq => absurd hq (by omega))⟩
theorem yw_next_loop {post : Int32 → SY → Prop} {d : Nat} {w : Nat → Nat} (hR : R ≤ 8) (hC : C ≤ 8) (hcn : ns_cnt R C cn) (hd : d < R)
    (h0 : ∀ am om, (∀ u, w d ≤ u → u < 2 ^ C → ns_no R C (ns_S R C (ns_cc cn) cl) gv d w u) → post (-1) ((nI R), (nI C), st, sv, am, om, cl, cn, gv, kn, (ns_gd C gv d w), so, cd))
    (h1 : ∀ v am om, ns_nx R C (ns_S R C (ns_cc cn) cl) gv d w v → post (nI v) ((nI R), (nI C), st, sv, am, om, cl, cn, gv, kn, (ns_gd C gv (d + 1) (ns_up w d (v + 1))), so, cd)) :
    ∀ n v am om, w d ≤ v → v ≤ 2 ^ C → 2 ^ C < n + v → (∀ u, w d ≤ u → u < v → ns_no R C (ns_S R C (ns_cc cn) cl) gv d w u) →
      wY_nextRow_21 post (nI d) (nI (2 ^ C)) n (nI v) (nI R) (nI C) st sv am om cl cn gv kn (ns_gd C gv d w) so cd := by
  have pw := ns_pw_le hC
  have hS : ∀ a x, ns_S R C (ns_cc cn) cl a x → x < 2 ^ ns_len R C a := fun a x h => h.1
  have hlen : ns_len R C (0 * 8 + d) = C := by simp [ns_len, show d < 8 by omega]
  intro n
  induction n with
  | zero => intro v am om a0 a1 a2; omega
  | succ n ih =>
    intro v am om a0 a1 a2 hn
    by_cases h : v = 2 ^ C
    · exact br_t (by rw [h]; exact nI_le (Nat.le_refl _) (by omega)) (h0 am om (fun u h2 h3 => hn u h2 (by omega)))
    · have step : ns_no R C (ns_S R C (ns_cc cn) cl) gv d w v → ∀ u, w d ≤ u → u < v + 1 → ns_no R C (ns_S R C (ns_cc cn) cl) gv d w u := fun z u h2 h3 => by
        by_cases e : u = v
        · subst e; exact z
        · exact hn u h2 (by omega)
      refine br_f (nI_ge (by omega) (by omega)) (yw_rev hC (by omega) (fun p hp => ?_))
      have p256 : p < 256 := Nat.lt_of_lt_of_le hp.1 pw
      refine yw_fits (K := 0) (L := d) hR hC (by omega) (by omega) hcn hlen.symm hp.1 (fun hc => ?_) (fun hc => ?_)
      · rw [show 0 * 8 + d = d by omega] at hc
        refine br_f (by decide) (yw_wr hC (by omega) p256 (fun ce1 hq1 => ?_))
        have e1 : ce1 = ns_gd C gv (d + 1) (ns_up w d (v + 1)) := ns_gd_write hC hp (fun j hj => hq1.2 j (ns_row_out hC hj)) hq1.1
        rw [e1]
        refine yw_cols hR hC hcn (fun am2 om2 hk => ?_) (fun am2 om2 a a8 g nx => ?_)
        · exact br_f (by decide) (h1 v am2 om2 ⟨a0, by omega, hn, ⟨p, hp, hc⟩, hk⟩)
        · refine br_t rfl (yw_rs hC (by omega) (fun ce2 hq2 => nm_r (nI_1 v) ?_))
          have e2 : ce2 = ns_gd C gv d w := by
            refine ns_gd_restore hC (fun j hj => ?_) hq2.1
            rw [hq2.2 j (ns_row_out hC hj)]
            simp only [ns_gd]
            by_cases z : j / 8 < d ∧ j % 8 < C
            · have c1 : j / 8 < d + 1 ∧ j % 8 < C := ⟨by omega, z.2⟩
              rw [if_pos c1, if_pos z, ns_up_n (by omega)]
            · have c1 : ¬ (j / 8 < d + 1 ∧ j % 8 < C) := by omega
              rw [if_neg c1, if_neg z]
          rw [e2]
          exact ih (v + 1) am2 om2 (by omega) (by omega) (by omega) (step (ns_no_col (w' := ns_up w d (v + 1)) g (fun r hr => ns_up_n (by omega)) ns_up_s nx))
      · rw [show 0 * 8 + d = d by omega] at hc
        exact br_t rfl (nm_r (nI_1 v) (ih (v + 1) am om (by omega) (by omega) (by omega) (step (ns_no_row hd hR hS hp hc))))
theorem yw_next {post : Int32 → SY → Prop} {d : Nat} {w : Nat → Nat} (hR : R ≤ 8) (hC : C ≤ 8) (hcn : ns_cnt R C cn) (hd : d < R) (hcd : cd d + 1 = nI (w d)) (hw : w d ≤ 2 ^ C) (hce : ∀ j, ¬ (j / 8 = d ∧ j % 8 < C) → ce j = ns_gd C gv d w j)
    (h0 : ∀ am om, (∀ u, w d ≤ u → u < 2 ^ C → ns_no R C (ns_S R C (ns_cc cn) cl) gv d w u) → post (-1) ((nI R), (nI C), st, sv, am, om, cl, cn, gv, kn, (ns_gd C gv d w), so, cd))
    (h1 : ∀ v am om, ns_nx R C (ns_S R C (ns_cc cn) cl) gv d w v → post (nI v) ((nI R), (nI C), st, sv, am, om, cl, cn, gv, kn, (ns_gd C gv (d + 1) (ns_up w d (v + 1))), so, cd)) : wpY_nextRow post ((nI R), (nI C), st, sv, am, om, cl, cn, gv, kn, ce, so, cd) (nI d) := by
  unfold wpY_nextRow
  dsimp only
  refine yw_rs hC (by omega) (fun ce1 hq1 => ?_)
  have e1 : ce1 = ns_gd C gv d w := ns_gd_restore hC (fun j hj => by rw [hq1.2 j (ns_row_out hC hj)]; exact hce j hj) hq1.1
  rw [e1]
  refine nm_r (ns_pw hC) ⟨vp_in_nI (by omega) (by omega), nm_r (e' := nI (w d)) (by rw [nI_clamp (by omega)]; exact hcd) ⟨2 ^ C + 1, ?_⟩⟩
  exact yw_next_loop hR hC hcn hd h0 h1 _ (w d) am om (Nat.le_refl _) hw (by omega) (fun u h2 h3 => by omega)
theorem yw_sto_loop {post : SY → Prop} {f : Nat} (hR : R ≤ 8) (hC : C ≤ 8) (hf : f < 2) (ok : ns_ok R C ce) (hz : ∀ q, q < 64 → so (f * 64 + q) = 0) (hp : ∀ so', ns_cq ce so so' (f * 64) 64 → post ((nI R), (nI C), st, sv, am, om, cl, cn, gv, kn, ce, so', cd)) :
    ∀ n i so', i ≤ 64 → 64 < n + i → ns_cq ce so so' (f * 64) i → wY_store_2 post (nI f) (nI R) (nI C) st sv am om n (nI i) cl cn gv kn ce so' cd := by
  intro n
  induction n with
  | zero => intro i so' a1 a2; omega
  | succ n ih =>
    intro i so' a1 a2 hq
    by_cases h : i = 64
    · subst h
      exact br_t (nI_le (a := 64) (b := 64) (by omega) (by omega)) (hp so' hq)
    · have e1 : nI i / 8 = nI (i / 8) := pk_div (d := 8) (by omega) (by omega) (by omega)
      have e2 : nI i - nI i / 8 * 8 = nI (i % 8) := pk_rem (d := 8) (by omega) (by omega) (by omega)
      have skip : ¬ ns_cg R C i → wY_store_2 post (nI f) (nI R) (nI C) st sv am om n (nI (i + 1)) cl cn gv kn ce so' cd := fun z =>
        ih (i + 1) so' (by omega) (by omega) (ns_cq_k hq (by rw [hz i (by omega), (ok i).2 z]))
      refine br_f (nI_ge (b := 64) (by omega) (by omega)) ⟨by decide, ?_⟩
      rw [e1]
      by_cases r1 : i / 8 < R
      · refine br_f (nI_ge r1 (by omega)) ⟨by decide, ?_⟩
        rw [← e1, e2]
        by_cases r2 : i % 8 < C
        · exact br_f (nI_ge r2 (by omega)) ⟨vp_in_nI (by omega) (by omega), pk_in (f * 64 + i) 128 (by omega) (ns_i64 f i), nm_r (e' := upd so' (f * 64 + i) (ce i)) (by rw [ns_i64, nI_clamp (by omega), nI_clamp (by omega)]) (nm_r (nI_1 i) (ih (i + 1) _ (by omega) (by omega) (ns_cq_s hq rfl)))⟩
        · exact br_t (nI_le (by omega) (by omega)) (nm_r (nI_1 i) (skip (fun g => r2 g.2.2)))
      · exact br_t (nI_le (by omega) (by omega)) (nm_r (nI_1 i) (skip (fun g => r1 g.2.1)))
theorem yw_sto {post : SY → Prop} {f : Nat} (hR : R ≤ 8) (hC : C ≤ 8) (hf : f < 2) (ok : ns_ok R C ce) (hz : ∀ q, q < 64 → so (f * 64 + q) = 0) (hp : ∀ so', ns_cq ce so so' (f * 64) 64 → post ((nI R), (nI C), st, sv, am, om, cl, cn, gv, kn, ce, so', cd)) : wpY_store post ((nI R), (nI C), st, sv, am, om, cl, cn, gv, kn, ce, so, cd) (nI f) :=
  ⟨65, yw_sto_loop hR hC hf ok hz hp 65 0 so (by omega) (by omega) ns_cq_0⟩
theorem yw_s142 {post : Int32 → SY → Prop} {f : Nat} (hf : f ≤ 2) (hp : post (nI f) ((nI R), (nI C), st, (nI f), am, om, cl, cn, gv, kn, ce, so, cd)) : wY_solve_142 post (nI f) (nI R) (nI C) st sv am om cl cn gv kn ce so cd := by
  by_cases e0 : f = 0
  · subst e0; exact br_t rfl hp
  · by_cases e1 : f = 1
    · subst e1; exact br_f (by decide) (br_t rfl hp)
    · have e2 : f = 2 := by omega
      subst e2; exact br_f (by decide) (br_f (by decide) hp)
theorem yw_srch {post : Int32 → SY → Prop} (hR : R ≤ 8) (hC : C ≤ 8) (hC0 : 0 < C) (hcn : ns_cnt R C cn) (hg : ns_ok R C gv)
    (hp : ∀ f so' ce' cd' am om, ns_out R C (ns_S R C (ns_cc cn) cl) gv f so' → (∀ j, 64 ≤ j → ce' j = 0) → post (nI f) ((nI R), (nI C), st, (nI f), am, om, cl, cn, gv, kn, ce', so', cd')) :
    ∀ n t f d so' ce' cd' am om, 130 ^ 8 < n + t → ns_YV R C (ns_S R C (ns_cc cn) cl) gv t f d so' ce' cd' →
      wY_solve_61 post (n + 1) (nI f) (nI d) (lN t) (nI R) (nI C) st sv am om cl cn gv kn ce' so' cd' := by
  have e130 : 130 ^ 8 < 4611686018427387904 := by decide
  have hP : ∀ r p q, ns_S R C (ns_cc cn) cl r p → ns_S R C (ns_cc cn) cl r q → ns_pop (fun i => p.testBit i) 9 = ns_pop (fun i => q.testBit i) 9 := fun r p q h k => ns_S_pop_eq hR hC h k
  intro n
  induction n with
  | zero =>
    intro t f d so' ce' cd' am om a1 hV
    obtain ⟨A, B, w, _, hL, _⟩ := hV
    have := hL.2.2.2.2
    omega
  | succ n ih =>
    intro t f d so' ce' cd' am om a1 hV
    obtain ⟨A, B, w, est, hL, hcd, hce⟩ := hV
    have tb := hL.2.2.2.2
    have dR := hL.1
    have f2 := hL.2.1
    have hb : ∀ t', t' ≤ 130 ^ 8 + 1 → ¬ (4611686018427387904 : Int64) ≤ lN t' := fun t' ht => by
      show ¬ lN 4611686018427387904 ≤ lN t'
      rw [pk_lLE (by decide) (by omega)]; omega
    obtain ⟨hcd1, hw1⟩ := hcd d (Nat.le_refl _)
    refine br_f (hb t (by omega)) (br_f (nI_pos (by omega)) (br_f (nI_ge (b := 2) f2 (by omega)) (yw_next hR hC hcn dR hcd1 hw1 hce (fun am2 om2 hn => ?_) (fun v am2 om2 hx => ?_))))
    · refine br_f (by decide) ?_
      cases d with
      | zero =>
        have o := ns_YV_none (d := 0) est hL hn
        refine nm_e (nm_r (lN_1 t) ?_)
        exact br_f (hb (t + 1) (by omega)) (br_t (by decide) (yw_s142 (ns_out_le o) (hp f so' _ cd' am2 om2 o (ns_ok64 (ns_gd_ok hR (by omega) hg)))))
      | succ e => exact nm_r (pk_m1 e) (nm_r (lN_1 t) (ih (t + 1) f e so' _ cd' am2 om2 (by omega) (ns_YV_up est hL hcd hn)))
    · have v256 : v < 256 := Nat.lt_of_lt_of_le hx.2.1 (ns_pw_le hC)
      have er : nI R - 1 = nI (R - 1) := pk_sub (b := 1) (by omega)
      refine br_t (nI_pos' (by omega)) ⟨vp_in_nI (by omega) (by omega), nm_r (ns_uc (by omega)) ?_⟩
      rw [er]
      by_cases dl : d + 1 = R
      · have ok := ns_gd_ok (w := ns_up w d (v + 1)) (d := d + 1) hR (by omega) hg
        refine br_t (by congr 1; omega) (yw_sto hR hC f2 ok (fun q hq => by rw [est]; exact ns_st_at f A B q hq f2) (fun so2 hq2 => nm_r (nI_1 f) (nm_r (lN_1 t) ?_)))
        have last := ns_YV_last hR hC hg est hL hcd dl hx rfl hq2.1 hq2.2
        by_cases f0 : f = 0
        · subst f0
          exact ih (t + 1) 1 d so2 _ _ am2 om2 (by omega) (last.2 rfl)
        · have f1 : f = 1 := by omega
          subst f1
          have o := last.1 rfl
          exact br_f (hb (t + 1) (by omega)) (br_f (nI_pos (by omega)) (br_t (nI_le (a := 2) (b := 2) (by omega) (by omega)) (yw_s142 (f := 2) (by omega) (hp 2 so2 _ _ am2 om2 o (ns_ok64 ok)))))
      · refine br_f (fun z => dl (by have := (nI_eq (by omega) (by omega)).mp z; omega)) (nm_r (nI_1 d) ⟨vp_in_nI (by omega) (by omega), nm_r (ns_uc (by omega)) (nm_r (lN_1 t) ?_)⟩)
        exact ih (t + 1) f (d + 1) so' _ _ am2 om2 (by omega) (ns_YV_down hR hC hC0 hP est hL hcd (by omega) hx rfl)
theorem yw_scopy {post : Int32 → SY → Prop} (hp : ∀ ce', ns_cp gv ce ce' 64 → ∃ n, wY_solve_61 post n 0 0 0 (nI R) (nI C) st sv am om cl cn gv kn ce' so (upd cd 0 (-1))) :
    ∀ n i ce', i ≤ 64 → 64 < n + i → ns_cp gv ce ce' i → wY_solve_24 post (nI R) (nI C) st sv am om n (nI i) cl cn gv kn ce' so cd := by
  intro n
  induction n with
  | zero => intro i ce' a1 a2; omega
  | succ n ih =>
    intro i ce' a1 a2 hc
    by_cases h : i = 64
    · subst h
      exact br_t (nI_le (a := 64) (b := 64) (by omega) (by omega)) (nm_e (hp ce' hc))
    · exact br_f (nI_ge (b := 64) (by omega) (by omega)) ⟨vp_in_nI (by omega) (by omega), vp_in_nI (by omega) (by omega), nm_r (e' := upd ce' i (gv i)) (by rw [nI_clamp (by omega)]) (nm_r (nI_1 i) (ih (i + 1) _ (by omega) (by omega) (ns_cp_s hc rfl)))⟩
theorem yw_sclr {post : Int32 → SY → Prop} (hp : ∀ so', ns_cp (fun _ => 0) so so' 128 → ∃ n, wY_solve_24 post (nI R) (nI C) st sv am om n 0 cl cn gv kn ce so' cd) :
    ∀ n i so', i ≤ 128 → 128 < n + i → ns_cp (fun _ => 0) so so' i → wY_solve_2 post (nI R) (nI C) st sv am om n (nI i) cl cn gv kn ce so' cd := by
  intro n
  induction n with
  | zero => intro i so' a1 a2; omega
  | succ n ih =>
    intro i so' a1 a2 hc
    by_cases h : i = 128
    · subst h
      exact br_t (nI_le (a := 128) (b := 128) (by omega) (by omega)) (hp so' hc)
    · exact br_f (nI_ge (b := 128) (by omega) (by omega)) ⟨vp_in_nI (by omega) (by omega), nm_r (ns_uc (by omega)) (nm_r (nI_1 i) (ih (i + 1) _ (by omega) (by omega) (ns_cp_s hc rfl)))⟩
theorem yw_solve {post : Int32 → SY → Prop} (hR : R ≤ 8) (hC : C ≤ 8) (hR0 : 0 < R) (hC0 : 0 < C) (hcn : ns_cnt R C cn) (hg : ns_ok R C gv) (h64 : ∀ j, 64 ≤ j → ce j = 0) (h128 : ∀ j, 128 ≤ j → so j = 0)
    (hp : ∀ f so' ce' cd' am om, ns_out R C (ns_S R C (ns_cc cn) cl) gv f so' → (∀ j, 64 ≤ j → ce' j = 0) → post (nI f) ((nI R), (nI C), st, (nI f), am, om, cl, cn, gv, kn, ce', so', cd')) : wpY_solve post ((nI R), (nI C), st, sv, am, om, cl, cn, gv, kn, ce, so, cd) := by
  have hP : ∀ r p q, ns_S R C (ns_cc cn) cl r p → ns_S R C (ns_cc cn) cl r q → ns_pop (fun i => p.testBit i) 9 = ns_pop (fun i => q.testBit i) 9 := fun r p q h k => ns_S_pop_eq hR hC h k
  refine ⟨129, yw_sclr (fun so1 hc1 => ⟨65, yw_scopy (fun ce1 hc => ?_) 65 0 ce (by omega) (by omega) ns_cp_0⟩) 129 0 so (by omega) (by omega) ns_cp_0⟩
  have e1 : so1 = fun _ => 0 := ns_cp_end hc1 (fun j hj => h128 j hj)
  have e : ce1 = gv := ns_cp_end hc (fun j hj => by rw [h64 j hj, (hg j).2 (fun z => by have := z.1; omega)])
  rw [e1, e]
  obtain ⟨N, hN⟩ : ∃ N, N = 130 ^ 8 + 1 := ⟨_, rfl⟩
  exact ⟨N + 1, yw_srch hR hC hC0 hcn hg hp N 0 0 0 _ gv _ am om (by omega) (ns_YV_0 hR0 hR hC hC0 hP ns_upd_s)⟩
theorem yw_r33 {post : SY → Prop} (hp : ∀ so', ns_cp (fun _ => 0) so so' 128 → post ((nI R), (nI C), st, sv, am, om, cl, cn, gv, kn, ce, so', cd)) :
    ∀ n i so', i ≤ 128 → 128 < n + i → ns_cp (fun _ => 0) so so' i → wY_reset_33 post (nI R) (nI C) st sv am om n (nI i) cl cn gv kn ce so' cd := by
  intro n
  induction n with
  | zero => intro i so' a1 a2; omega
  | succ n ih =>
    intro i so' a1 a2 hc
    by_cases h : i = 128
    · subst h
      exact br_t (nI_le (a := 128) (b := 128) (by omega) (by omega)) (hp so' hc)
    · exact br_f (nI_ge (b := 128) (by omega) (by omega)) ⟨vp_in_nI (by omega) (by omega), nm_r (ns_uc (by omega)) (nm_r (nI_1 i) (ih (i + 1) _ (by omega) (by omega) (ns_cp_s hc rfl)))⟩
theorem yw_r12 {post : SY → Prop} (hp : ∀ kn' so', ns_cp (fun _ => 0) kn kn' 64 → ns_cp (fun _ => 0) so so' 128 → post ((nI R), (nI C), st, sv, am, om, cl, cn, gv, kn', ce, so', cd)) :
    ∀ n i kn', i ≤ 64 → 64 < n + i → ns_cp (fun _ => 0) kn kn' i → wY_reset_12 post (nI R) (nI C) st sv am om n (nI i) cl cn gv kn' ce so cd := by
  intro n
  induction n with
  | zero => intro i kn' a1 a2; omega
  | succ n ih =>
    intro i kn' a1 a2 hc
    by_cases h : i = 64
    · subst h
      exact br_t (nI_le (a := 64) (b := 64) (by omega) (by omega)) ⟨129, yw_r33 (fun so' hc2 => hp kn' so' hc hc2) 129 0 so (by omega) (by omega) ns_cp_0⟩
    · exact br_f (nI_ge (b := 64) (by omega) (by omega)) ⟨vp_in_nI (by omega) (by omega), nm_r (ns_uc (by omega)) (nm_r (nI_1 i) (ih (i + 1) _ (by omega) (by omega) (ns_cp_s hc rfl)))⟩
theorem yw_rst {post : SY → Prop} (hk : ns_ok R C kn) (h128 : ∀ j, 128 ≤ j → so j = 0) (hp : post ((nI R), (nI C), 3, 3, am, om, cl, cn, gv, (fun _ => 0), ce, (fun _ => 0), cd)) : wpY_reset post ((nI R), (nI C), st, sv, am, om, cl, cn, gv, kn, ce, so, cd) :=
  ⟨65, yw_r12 (fun kn' so' h h' => by rw [ns_cp_end h (fun j hj => (hk j).2 (fun z => by have := z.1; omega)), ns_cp_end h' (fun j hj => h128 j hj)]; exact hp) 65 0 kn (by omega) (by omega) ns_cp_0⟩
end
end
section
/-! the small methods, each side -/
theorem ns_c4g {A B : Prop} {R C r c : Nat} (hr : r < R) (hc : c < C) (hR : R ≤ 8) (hC : C ≤ 8) (a : A) :
    ((nI r < 0 → B) ∧ (¬ nI r < 0 → (((nI R ≤ nI r → B) ∧ (¬ nI R ≤ nI r → (((nI c < 0 → B) ∧ (¬ nI c < 0 → (((nI c < nI C → A) ∧ (¬ nI c < nI C → B)))))))))))  :=
  br_f (nI_pos (by omega)) (br_f (nI_ge hr (by omega)) (br_f (nI_pos (by omega)) (br_t (nI_lt hc (by omega)) a)))
theorem ns_c4b {A B : Prop} {R C : Nat} {v1 v2 : Int32} (h : ns_nc R C v1 v2) (b : B) :
    ((v1 < 0 → B) ∧ (¬ v1 < 0 → (((nI R ≤ v1 → B) ∧ (¬ nI R ≤ v1 → (((v2 < 0 → B) ∧ (¬ v2 < 0 → (((v2 < nI C → A) ∧ (¬ v2 < nI C → B)))))))))))  :=
  br_c (fun _ => b) (fun h1 => br_c (fun _ => b) (fun h2 => br_c (fun _ => b) (fun h3 => br_c (fun h4 => by
    rcases h with z | z | z | z
    · exact absurd z h1
    · exact absurd z h2
    · exact absurd z h3
    · exact absurd h4 (Int32.not_lt.mpr z)) (fun _ => b))))
theorem ns_kl2 {R C : Nat} (hR : R ≤ 8) (hC : C ≤ 8) (v1 v2 : Int32) :
    (∃ K L, K < 2 ∧ L < 8 ∧ v1 = nI K ∧ v2 = nI L ∧ ns_ing R C (K * 8 + L)) ∨ ns_nl R C v1 v2 := by
  rcases ns_kl hR hC v1 v2 with ⟨L, hL, e1, e2⟩ | ⟨L, hL, e1, e2⟩ | h
  · exact Or.inl ⟨0, L, by omega, by omega, e1, e2, by omega, fun _ => by omega, fun z => by omega⟩
  · exact Or.inl ⟨1, L, by omega, by omega, e1, e2, by omega, fun z => by omega, fun _ => by omega⟩
  · exact Or.inr h
/-- how many cells are known -/
def ns_kc (kn : Nat → Int32) : Nat → Nat
  | 0 => 0
  | n + 1 => ns_kc kn n + (if kn n = 0 then 0 else 1)
theorem ns_kc_z {kn : Nat → Int32} {n : Nat} (h : kn n = 0) : ns_kc kn (n + 1) = ns_kc kn n := by simp [ns_kc, h]
theorem ns_kc_s {kn : Nat → Int32} {n : Nat} (h : ¬ kn n = 0) : ns_kc kn (n + 1) = ns_kc kn n + 1 := by simp [ns_kc, h]
/-- when a number may be appended -/
def ns_ap (R C : Nat) (cn cl : Nat → Int32) (a : Nat) (v : Int32) : Prop :=
  ¬ v < 1 ∧ v ≤ nI (ns_len R C a) ∧ ns_cc cn a < 4 ∧ (ns_sm (fun k => cl (a * 4 + k)) (ns_cc cn a) + v) + nI (ns_cc cn a) ≤ nI (ns_len R C a)
section
variable {R C : Nat} {st sv pl : Int32} {cn cl gv kn so fc fl ce bc bg : Nat → Int32}
theorem xw_li_g {post : Int32 → Prop} {K L : Nat} (hR : R ≤ 8) (hC : C ≤ 8) (hK : K < 2) (hL : L < 8) (g : ns_ing R C (K * 8 + L)) (hp : post (nI (K * 8 + L))) : wpX_lineIndex post ((nI R), (nI C), st, sv, pl, cn, cl, gv, kn, so, fc, fl, ce, bc, bg) (nI K) (nI L) := by
  by_cases h : K = 0
  · subst h
    rw [show 0 * 8 + L = L by omega] at hp g
    exact br_t rfl (br_f (nI_pos (by omega)) (br_f (nI_ge (g.2.1 hL) (by omega)) hp))
  · have e : K = 1 := by omega
    subst e
    have gl := g.2.2 (by omega)
    rw [show 1 * 8 + L = 8 + L by omega, ← ns_8p] at hp
    exact br_f (by decide) (br_t rfl (br_f (nI_pos (by omega)) (br_f (nI_ge (by omega) (by omega)) hp)))
theorem xw_li_b {post : Int32 → Prop} {v1 v2 : Int32} (h : ns_nl R C v1 v2) (hp : post (-1)) : wpX_lineIndex post ((nI R), (nI C), st, sv, pl, cn, cl, gv, kn, so, fc, fl, ce, bc, bg) v1 v2 := by
  have k : wX_lineIndex_18 post v1 v2 (nI R) (nI C) st sv pl cn cl gv kn so fc fl ce bc bg := br_c (fun a => br_c (fun _ => hp) (fun b => br_c (fun _ => hp) (fun c => absurd ⟨a, b, c⟩ h.2))) (fun _ => hp)
  exact br_c (fun a => br_c (fun _ => k) (fun b => br_c (fun _ => k) (fun c => absurd ⟨a, b, c⟩ h.1))) (fun _ => k)
theorem xw_ci_g {post : Int32 → Prop} {r c : Nat} (hR : R ≤ 8) (hC : C ≤ 8) (hr : r < R) (hc : c < C) (hp : post (nI (r * 8 + c))) : wpX_cellIndex post ((nI R), (nI C), st, sv, pl, cn, cl, gv, kn, so, fc, fl, ce, bc, bg) (nI r) (nI c) := by
  rw [← ns_i8] at hp
  exact ns_c4g hr hc hR hC hp
theorem xw_ci_b {post : Int32 → Prop} {v1 v2 : Int32} (h : ns_nc R C v1 v2) (hp : post (-1)) : wpX_cellIndex post ((nI R), (nI C), st, sv, pl, cn, cl, gv, kn, so, fc, fl, ce, bc, bg) v1 v2 := ns_c4b h hp
theorem xw_kc_loop {post : Int32 → Prop} (hp : post (nI (ns_kc kn 64))) : ∀ n i, i ≤ 64 → 64 < n + i → wX_knownCount_4 post (nI R) (nI C) st sv pl cn cl gv kn so fc fl ce bc bg n (nI (ns_kc kn i)) (nI i) := by
  intro n
  induction n with
  | zero => intro i a1 a2; omega
  | succ n ih =>
    intro i a1 a2
    by_cases h : i = 64
    · subst h
      exact br_t (nI_le (a := 64) (b := 64) (by omega) (by omega)) hp
    · refine br_f (nI_ge (b := 64) (by omega) (by omega)) ⟨vp_in_nI (by omega) (by omega), ?_⟩
      rw [nI_clamp (by omega)]
      have nx := ih (i + 1) (by omega) (by omega)
      by_cases e : kn i = 0
      · rw [ns_kc_z e] at nx; exact br_t e (nm_r (nI_1 i) nx)
      · rw [ns_kc_s e] at nx; exact br_f e (nm_r (nI_1 _) (nm_r (nI_1 i) nx))
theorem xw_kc {post : Int32 → Prop} (hp : post (nI (ns_kc kn 64))) : wpX_knownCount post ((nI R), (nI C), st, sv, pl, cn, cl, gv, kn, so, fc, fl, ce, bc, bg) := ⟨65, xw_kc_loop hp 65 0 (by omega) (by omega)⟩
theorem xw_add {post : Int32 → SX → Prop} {K L : Nat} {v : Int32} (hR : R ≤ 8) (hC : C ≤ 8) (hK : K < 2) (hL : L < 8) (g : ns_ing R C (K * 8 + L)) (hcn : ns_cnt R C cn) (hk : ns_ok R C kn) (h128 : ∀ j, 128 ≤ j → so j = 0)
    (h1 : ns_ap R C cn cl (K * 8 + L) v → post 1 ((nI R), (nI C), 3, 3, pl, (upd cn (K * 8 + L) (nI (ns_cc cn (K * 8 + L) + 1))), (upd cl ((K * 8 + L) * 4 + ns_cc cn (K * 8 + L)) v), gv, (fun _ => 0), (fun _ => 0), fc, fl, ce, bc, bg))
    (h0 : ¬ ns_ap R C cn cl (K * 8 + L) v → post 0 ((nI R), (nI C), st, sv, pl, cn, cl, gv, kn, so, fc, fl, ce, bc, bg)) : wpX_addNumber post ((nI R), (nI C), st, sv, pl, cn, cl, gv, kn, so, fc, fl, ce, bc, bg) (nI K) (nI L) v := by
  obtain ⟨c4, ec, _⟩ := hcn (K * 8 + L) (by omega)
  unfold wpX_addNumber
  dsimp only
  refine xw_li_g hR hC hK hL g (br_f (ns_nm1 (by omega)) (xw_len (by omega) ⟨vp_in_nI (by omega) (by omega), nm_r (e' := nI (ns_cc cn (K * 8 + L))) (by rw [nI_clamp (by omega)]; exact ec) ?_⟩))
  refine br_c (fun z => h0 (fun y => y.1 z)) (fun z1 => br_c (fun z => h0 (fun y => Int32.not_lt.mpr y.2.1 z)) (fun z2 => ?_))
  by_cases c3 : ns_cc cn (K * 8 + L) < 4
  · refine br_t (nI_lt (b := 4) c3 (by omega)) (xw_sum (by omega) ec c4 ?_)
    refine br_c (fun z => ?_) (fun z => h0 (fun y => z y.2.2.2))
    refine ⟨pk_in ((K * 8 + L) * 4 + ns_cc cn (K * 8 + L)) 64 (by omega) (ns_i4 _ _), nm_r (ns_ue (ns_i4 _ _) (by omega)) ⟨vp_in_nI (by omega) (by omega), nm_r (e' := upd cn (K * 8 + L) (nI (ns_cc cn (K * 8 + L) + 1))) (by rw [nI_clamp (by omega), nI_1]) ?_⟩⟩
    exact xw_rst hk h128 (h1 ⟨z1, Int32.not_lt.mp z2, c3, z⟩)
  · exact br_f (nI_nlt (b := 4) (by omega) (by omega)) (h0 (fun y => c3 y.2.2.1))
theorem xw_clear {post : Int32 → SX → Prop} {K L : Nat} (hR : R ≤ 8) (hC : C ≤ 8) (hK : K < 2) (hL : L < 8) (g : ns_ing R C (K * 8 + L)) (hk : ns_ok R C kn) (h128 : ∀ j, 128 ≤ j → so j = 0)
    (h1 : post 1 ((nI R), (nI C), 3, 3, pl, (upd cn (K * 8 + L) 0), cl, gv, (fun _ => 0), (fun _ => 0), fc, fl, ce, bc, bg)) : wpX_clearLine post ((nI R), (nI C), st, sv, pl, cn, cl, gv, kn, so, fc, fl, ce, bc, bg) (nI K) (nI L) := by
  unfold wpX_clearLine
  dsimp only
  exact xw_li_g hR hC hK hL g (br_f (ns_nm1 (by omega)) ⟨vp_in_nI (by omega) (by omega), nm_r (ns_uc (by omega)) (xw_rst hk h128 h1)⟩)
theorem xw_setg {post : Int32 → SX → Prop} {r c : Nat} {v : Int32} (hR : R ≤ 8) (hC : C ≤ 8) (hr : r < R) (hc : c < C) (hk : ns_ok R C kn) (h128 : ∀ j, 128 ≤ j → so j = 0)
    (h1 : (v = 0 ∨ v = 1 ∨ v = 2) → post 1 ((nI R), (nI C), 3, 3, pl, cn, cl, (upd gv (r * 8 + c) v), (fun _ => 0), (fun _ => 0), fc, fl, ce, bc, bg)) (h0 : ¬ (v = 0 ∨ v = 1 ∨ v = 2) → post 0 ((nI R), (nI C), st, sv, pl, cn, cl, gv, kn, so, fc, fl, ce, bc, bg)) : wpX_setGiven post ((nI R), (nI C), st, sv, pl, cn, cl, gv, kn, so, fc, fl, ce, bc, bg) (nI r) (nI c) v := by
  have put : (v = 0 ∨ v = 1 ∨ v = 2) → wX_setGiven_30 post v (nI (r * 8 + c)) (nI R) (nI C) st sv pl cn cl gv kn so fc fl ce bc bg := fun z => ⟨vp_in_nI (by omega) (by omega), nm_r (ns_uc (by omega)) (xw_rst hk h128 (h1 z))⟩
  unfold wpX_setGiven
  dsimp only
  exact xw_ci_g hR hC hr hc (br_f (ns_nm1 (by omega)) (br_c (fun z => put (Or.inl z)) (fun n0 => br_c (fun z => put (Or.inr (Or.inl z))) (fun n1 => br_c (fun z => put (Or.inr (Or.inr z))) (fun n2 => h0 (fun y => y.elim n0 (fun y => y.elim n1 n2)))))))
end
section
variable {R C : Nat} {st sv am om : Int32} {cl cn gv kn ce so cd : Nat → Int32}
theorem yw_ok_b {post : Int32 → Prop} {v1 v2 : Int32} (h : ns_nl R C v1 v2) (hp : post 0) : wpY_lineOk post ((nI R), (nI C), st, sv, am, om, cl, cn, gv, kn, ce, so, cd) v1 v2 :=
  br_c (fun a => br_c (fun _ => hp) (fun b => br_c (fun _ => hp) (fun c => absurd ⟨a, b, c⟩ h.1))) (fun _ => br_c (fun a => br_c (fun _ => hp) (fun b => br_c (fun _ => hp) (fun c => absurd ⟨a, b, c⟩ h.2))) (fun _ => hp))
theorem yw_kc_loop {post : Int32 → Prop} (hR : R ≤ 8) (hC : C ≤ 8) (hk : ns_ok R C kn) (hp : post (nI (ns_kc kn 64))) : ∀ n i, i ≤ 64 → 64 < n + i → wY_knownCount_4 post (nI R) (nI C) st sv am om cl cn gv kn ce so cd n (nI (ns_kc kn i)) (nI i) := by
  intro n
  induction n with
  | zero => intro i a1 a2; omega
  | succ n ih =>
    intro i a1 a2
    by_cases h : i = 64
    · subst h
      exact br_t (nI_le (a := 64) (b := 64) (by omega) (by omega)) hp
    · have e1 : nI i / 8 = nI (i / 8) := pk_div (d := 8) (by omega) (by omega) (by omega)
      have e2 : nI i - nI i / 8 * 8 = nI (i % 8) := pk_rem (d := 8) (by omega) (by omega) (by omega)
      have nx := ih (i + 1) (by omega) (by omega)
      have skip : ¬ ns_cg R C i → wY_knownCount_4 post (nI R) (nI C) st sv am om cl cn gv kn ce so cd n (nI (ns_kc kn i)) (nI (i + 1)) := fun z => by rw [ns_kc_z ((hk i).2 z)] at nx; exact nx
      refine br_f (nI_ge (b := 64) (by omega) (by omega)) ⟨by decide, ?_⟩
      rw [e1]
      by_cases r1 : i / 8 < R
      · refine br_f (nI_ge r1 (by omega)) ⟨by decide, ?_⟩
        rw [← e1, e2]
        by_cases r2 : i % 8 < C
        · refine br_f (nI_ge r2 (by omega)) ⟨vp_in_nI (by omega) (by omega), ?_⟩
          rw [nI_clamp (by omega)]
          by_cases e : kn i = 0
          · rw [ns_kc_z e] at nx; exact br_t e (nm_r (nI_1 i) nx)
          · rw [ns_kc_s e] at nx; exact br_f e (nm_r (nI_1 _) (nm_r (nI_1 i) nx))
        · exact br_t (nI_le (by omega) (by omega)) (nm_r (nI_1 i) (skip (fun g => r2 g.2.2)))
      · exact br_t (nI_le (by omega) (by omega)) (nm_r (nI_1 i) (skip (fun g => r1 g.2.1)))
theorem yw_kc {post : Int32 → Prop} (hR : R ≤ 8) (hC : C ≤ 8) (hk : ns_ok R C kn) (hp : post (nI (ns_kc kn 64))) : wpY_knownCount post ((nI R), (nI C), st, sv, am, om, cl, cn, gv, kn, ce, so, cd) := ⟨65, yw_kc_loop hR hC hk hp 65 0 (by omega) (by omega)⟩
theorem ns_b4k (K L k : Nat) : nI K * 32 + nI L * 4 + nI k = nI ((K * 8 + L) * 4 + k) := by rw [ns_b4, nI_add]
theorem yw_add_loop {post : Int32 → SY → Prop} {K L c : Nat} {v len : Int32} (hK : K < 2) (hL : L < 8) (hc : c < 4) (hk : ns_ok R C kn) (h128 : ∀ j, 128 ≤ j → so j = 0)
    (h1 : (ns_sm (fun k => cl ((K * 8 + L) * 4 + k)) c + v) + nI c ≤ len → post 1 ((nI R), (nI C), 3, 3, am, om, (upd cl ((K * 8 + L) * 4 + c) v), (upd cn (K * 8 + L) (nI (c + 1))), gv, (fun _ => 0), ce, (fun _ => 0), cd))
    (h0 : ¬ (ns_sm (fun k => cl ((K * 8 + L) * 4 + k)) c + v) + nI c ≤ len → post 0 ((nI R), (nI C), st, sv, am, om, cl, cn, gv, kn, ce, so, cd)) :
    ∀ n i, i ≤ c → c < n + i → wY_addNumber_58 post (nI K) (nI L) v len (nI c) (nI R) (nI C) st sv am om cl cn gv kn ce so cd n (ns_sm (fun k => cl ((K * 8 + L) * 4 + k)) i) (nI i) := by
  intro n
  induction n with
  | zero => intro i a1 a2; omega
  | succ n ih =>
    intro i a1 a2
    by_cases h : i = c
    · subst h
      refine br_t (nI_le (Nat.le_refl _) (by omega)) (br_c (fun z => ?_) h0)
      refine ⟨pk_in ((K * 8 + L) * 4 + i) 64 (by omega) (ns_b4k _ _ _), nm_r (ns_ue (ns_b4k _ _ _) (by omega)) ⟨pk_in (K * 8 + L) 16 (by omega) (ns_i8 _ _), nm_r (e' := upd cn (K * 8 + L) (nI (i + 1))) (by rw [ns_i8, nI_clamp (by omega), nI_1]) ?_⟩⟩
      exact yw_rst hk h128 (h1 z)
    · refine br_f (nI_ge (by omega) (by omega)) ⟨pk_in ((K * 8 + L) * 4 + i) 64 (by omega) (ns_b4k _ _ _), ?_⟩
      have rd : cl (nI K * 32 + nI L * 4 + nI i).toNatClampNeg = cl ((K * 8 + L) * 4 + i) := by rw [ns_b4k, nI_clamp (by omega)]
      rw [rd]
      exact nm_e (nm_r (nI_1 i) (ih (i + 1) (by omega) (by omega)))
theorem yw_add {post : Int32 → SY → Prop} {K L : Nat} {v : Int32} (hR : R ≤ 8) (hC : C ≤ 8) (hK : K < 2) (hL : L < 8) (g : ns_ing R C (K * 8 + L)) (hcn : ns_cnt R C cn) (hk : ns_ok R C kn) (h128 : ∀ j, 128 ≤ j → so j = 0)
    (h1 : ns_ap R C cn cl (K * 8 + L) v → post 1 ((nI R), (nI C), 3, 3, am, om, (upd cl ((K * 8 + L) * 4 + ns_cc cn (K * 8 + L)) v), (upd cn (K * 8 + L) (nI (ns_cc cn (K * 8 + L) + 1))), gv, (fun _ => 0), ce, (fun _ => 0), cd))
    (h0 : ¬ ns_ap R C cn cl (K * 8 + L) v → post 0 ((nI R), (nI C), st, sv, am, om, cl, cn, gv, kn, ce, so, cd)) : wpY_addNumber post ((nI R), (nI C), st, sv, am, om, cl, cn, gv, kn, ce, so, cd) (nI K) (nI L) v := by
  obtain ⟨c4, ec, _⟩ := hcn (K * 8 + L) (by omega)
  unfold wpY_addNumber
  dsimp only
  refine yw_ok_g hK hL hR hC (fun _ => ?_) (fun z => absurd g z)
  refine br_f (by decide) (yw_len hK hL (br_c (fun z => h0 (fun y => y.1 z)) (fun z1 => br_c (fun z2 => ?_) (fun z => h0 (fun y => z y.2.1)))))
  refine ⟨pk_in (K * 8 + L) 16 (by omega) (ns_i8 _ _), nm_r (e' := nI (ns_cc cn (K * 8 + L))) (by rw [ns_i8, nI_clamp (by omega)]; exact ec) ?_⟩
  by_cases c3 : ns_cc cn (K * 8 + L) < 4
  · refine br_t (nI_lt (b := 4) c3 (by omega)) ⟨ns_cc cn (K * 8 + L) + 1, ?_⟩
    exact yw_add_loop hK hL c3 hk h128 (fun z => h1 ⟨z1, z2, c3, z⟩) (fun z => h0 (fun y => z y.2.2.2)) _ 0 (by omega) (by omega)
  · exact br_f (nI_nlt (b := 4) (by omega) (by omega)) (h0 (fun y => c3 y.2.2.1))
theorem yw_clear {post : Int32 → SY → Prop} {K L : Nat} (hR : R ≤ 8) (hC : C ≤ 8) (hK : K < 2) (hL : L < 8) (g : ns_ing R C (K * 8 + L)) (hk : ns_ok R C kn) (h128 : ∀ j, 128 ≤ j → so j = 0)
    (h1 : post 1 ((nI R), (nI C), 3, 3, am, om, cl, (upd cn (K * 8 + L) 0), gv, (fun _ => 0), ce, (fun _ => 0), cd)) : wpY_clearLine post ((nI R), (nI C), st, sv, am, om, cl, cn, gv, kn, ce, so, cd) (nI K) (nI L) := by
  unfold wpY_clearLine
  dsimp only
  exact yw_ok_g hK hL hR hC (fun _ => br_f (by decide) ⟨pk_in (K * 8 + L) 16 (by omega) (ns_i8 _ _), nm_r (ns_ue (ns_i8 _ _) (by omega)) (yw_rst hk h128 h1)⟩) (fun z => absurd g z)
theorem yw_setg {post : Int32 → SY → Prop} {r c : Nat} {v : Int32} (hR : R ≤ 8) (hC : C ≤ 8) (hr : r < R) (hc : c < C) (hk : ns_ok R C kn) (h128 : ∀ j, 128 ≤ j → so j = 0)
    (h1 : (v = 0 ∨ v = 1 ∨ v = 2) → post 1 ((nI R), (nI C), 3, 3, am, om, cl, cn, (upd gv (r * 8 + c) v), (fun _ => 0), ce, (fun _ => 0), cd)) (h0 : ¬ (v = 0 ∨ v = 1 ∨ v = 2) → post 0 ((nI R), (nI C), st, sv, am, om, cl, cn, gv, kn, ce, so, cd)) : wpY_setGiven post ((nI R), (nI C), st, sv, am, om, cl, cn, gv, kn, ce, so, cd) (nI r) (nI c) v := by
  have put : (v = 0 ∨ v = 1 ∨ v = 2) → wY_setGiven_42 post (nI r) (nI c) v (nI R) (nI C) st sv am om cl cn gv kn ce so cd := fun z => ⟨pk_in (r * 8 + c) 64 (by omega) (ns_i8 _ _), nm_r (ns_ue (ns_i8 _ _) (by omega)) (yw_rst hk h128 (h1 z))⟩
  exact ns_c4g hr hc hR hC (br_c (fun z => put (Or.inl z)) (fun n0 => br_c (fun z => put (Or.inr (Or.inl z))) (fun n1 => br_c (fun z => put (Or.inr (Or.inr z))) (fun n2 => h0 (fun y => y.elim n0 (fun y => y.elim n1 n2))))))
end
end
section
/-! what is owed -/
theorem ns_cs (x : Int32) : ∃ R, 0 < R ∧ R ≤ 8 ∧ (∀ A : Int32 → Prop, A (nI R) → wpX_clampSize A x) ∧ ∀ A : Int32 → Prop, A (nI R) → (((1 ≤ x → (((x ≤ 8 → (A x)) ∧ (¬ x ≤ 8 → (A 8))))) ∧ (¬ 1 ≤ x → (A 1)))) := by
  by_cases h1 : 1 ≤ x
  · by_cases h8 : x ≤ 8
    · obtain ⟨j, hj, rfl⟩ := nI_of2 (M := 8) (n := 8) (by decide) (Int32.not_lt.mpr (Int32.le_trans (by decide) h1)) h8
      have j1 : 1 ≤ j := (nI_leI (a := 1) (by omega) (by omega)).mp h1
      exact ⟨j, by omega, hj, fun A a => br_t h1 (br_t h8 a), fun A a => br_t h1 (br_t h8 a)⟩
    · exact ⟨8, by omega, by omega, fun A a => br_t h1 (br_f h8 a), fun A a => br_t h1 (br_f h8 a)⟩
  · exact ⟨1, by omega, by omega, fun A a => br_f h1 a, fun A a => br_f h1 a⟩
theorem ns_out_128 {R C f : Nat} {S : Nat → Nat → Prop} {g so : Nat → Int32} (h : ns_out R C S g f so) : ∀ j, 128 ≤ j → so j = 0 := by
  obtain ⟨A, B, e, _⟩ := h
  intro j hj
  rw [e]; simp only [ns_st]
  rw [if_neg (by omega), if_neg (by omega)]
def ns_RL (R C : Nat) (cn gv kn so cx cy : Nat → Int32) : Prop :=
  0 < R ∧ R ≤ 8 ∧ 0 < C ∧ C ≤ 8 ∧ ns_cnt R C cn ∧ ns_ok R C gv ∧ ns_ok R C kn ∧ (∀ j, 128 ≤ j → so j = 0) ∧ (∀ j, 64 ≤ j → cx j = 0) ∧ ∀ j, 64 ≤ j → cy j = 0
def i_Rel (k : Nat) (u : SX) (v : SY) : Prop :=
  ∃ (R C : Nat) (st sv : Int32) (cn cl gv kn so : Nat → Int32) (pl : Int32) (fc fl cx bc bg : Nat → Int32) (am om : Int32) (cy cd : Nat → Int32),
    u = ((nI R), (nI C), st, sv, pl, cn, cl, gv, kn, so, fc, fl, cx, bc, bg) ∧ v = ((nI R), (nI C), st, sv, am, om, cl, cn, gv, kn, cy, so, cd) ∧ ns_RL R C cn gv kn so cx cy
theorem i_up {k : Nat} {u : SX} {v : SY} (h : i_Rel k u v) : i_Rel (k + 4) u v := h
theorem i_vc0 (k0 : Int32) (k1 : Int32) : wpX_init (fun u => wpY_init (fun v => i_Rel 2 u v) k0 k1) k0 k1 := by
  obtain ⟨R, hR0, hR, xR, yR⟩ := ns_cs k0
  obtain ⟨C, hC0, hC, xC, yC⟩ := ns_cs k1
  unfold wpX_init
  refine xR _ (xC _ ?_)
  refine yR (fun z => wY_init_83 _ k1 z 0 0 0 0 0 0 (fun _ => 0) (fun _ => 0) (fun _ => 0) (fun _ => 0) (fun _ => 0) (fun _ => 0) (fun _ => 0)) ?_
  refine yC (fun z => wY_init_108 _ z (nI R) 0 0 0 0 0 (fun _ => 0) (fun _ => 0) (fun _ => 0) (fun _ => 0) (fun _ => 0) (fun _ => 0) (fun _ => 0)) ?_
  unfold wY_init_108
  refine yw_rst (R := R) (C := C) (ns_ok_0 R C) (fun _ _ => rfl) ?_
  exact ⟨R, C, 3, 3, fun _ => 0, fun _ => 0, fun _ => 0, fun _ => 0, fun _ => 0, 0, fun _ => 0, fun _ => 0, fun _ => 0, fun _ => 0, fun _ => 0, 0, 0, fun _ => 0, fun _ => 0, rfl, rfl,
    hR0, hR, hC0, hC, (fun a _ => ⟨by rw [ns_cc_0 rfl]; omega, by rw [ns_cc_0 rfl]; rfl, fun _ => rfl⟩), ns_ok_0 R C, ns_ok_0 R C, (fun _ _ => rfl), (fun _ _ => rfl), (fun _ _ => rfl)⟩
theorem i_vc_rows {k : Nat} {u : SX} {v : SY} (I : i_Rel k u v) (hk : k + 4 ≤ 2050) : wpX_rows (fun r => wpY_rows (fun r' => r' = r ∧ i_Rel (k + 4) u v) v) u := by
  obtain ⟨R, C, st, sv, cn, cl, gv, kn, so, pl, fc, fl, cx, bc, bg, am, om, cy, cd, rfl, rfl, hI⟩ := I
  obtain ⟨hR0, hR, hC0, hC, hcn, hg, hn, h128, hx, hy⟩ := id hI
  exact ⟨rfl, ⟨R, C, st, sv, cn, cl, gv, kn, so, pl, fc, fl, cx, bc, bg, am, om, cy, cd, rfl, rfl, hI⟩⟩
theorem i_vc_cols {k : Nat} {u : SX} {v : SY} (I : i_Rel k u v) (hk : k + 4 ≤ 2050) : wpX_cols (fun r => wpY_cols (fun r' => r' = r ∧ i_Rel (k + 4) u v) v) u := by
  obtain ⟨R, C, st, sv, cn, cl, gv, kn, so, pl, fc, fl, cx, bc, bg, am, om, cy, cd, rfl, rfl, hI⟩ := I
  obtain ⟨hR0, hR, hC0, hC, hcn, hg, hn, h128, hx, hy⟩ := id hI
  exact ⟨rfl, ⟨R, C, st, sv, cn, cl, gv, kn, so, pl, fc, fl, cx, bc, bg, am, om, cy, cd, rfl, rfl, hI⟩⟩
theorem i_vc_addNumber {k : Nat} {u : SX} {v : SY} (I : i_Rel k u v) (hk : k + 4 ≤ 2050) (v1 : Int32) (v2 : Int32) (v3 : Int32) : wpX_addNumber (fun r u' => wpY_addNumber (fun r' v' => r' = r ∧ i_Rel (k + 4) u' v') v v1 v2 v3) u v1 v2 v3 := by
  obtain ⟨R, C, st, sv, cn, cl, gv, kn, so, pl, fc, fl, cx, bc, bg, am, om, cy, cd, rfl, rfl, hI⟩ := I
  obtain ⟨hR0, hR, hC0, hC, hcn, hg, hn, h128, hx, hy⟩ := id hI
  rcases ns_kl2 hR hC v1 v2 with ⟨K, L, hK, hL, rfl, rfl, g⟩ | nl
  · refine xw_add hR hC hK hL g hcn hn h128 (fun ap => yw_add hR hC hK hL g hcn hn h128 (fun _ => ⟨rfl, ?_⟩) (fun na => absurd ap na)) (fun na => yw_add hR hC hK hL g hcn hn h128 (fun ap => absurd ap na) (fun _ => ⟨rfl, ?_⟩))
    · have c3 := ap.2.2.1
      exact ⟨R, C, 3, 3, _, _, gv, _, _, pl, fc, fl, cx, bc, bg, am, om, cy, cd, rfl, rfl, hR0, hR, hC0, hC, ns_cc_upd hcn g (by omega), hg, ns_ok_0 R C, fun _ _ => rfl, hx, hy⟩
    · exact ⟨R, C, st, sv, cn, cl, gv, kn, so, pl, fc, fl, cx, bc, bg, am, om, cy, cd, rfl, rfl, hI⟩
  · unfold wpX_addNumber wpY_addNumber
    dsimp only
    exact xw_li_b nl (br_t rfl (yw_ok_b nl (br_t rfl ⟨rfl, ⟨R, C, st, sv, cn, cl, gv, kn, so, pl, fc, fl, cx, bc, bg, am, om, cy, cd, rfl, rfl, hI⟩⟩)))
theorem i_vc_clearLine {k : Nat} {u : SX} {v : SY} (I : i_Rel k u v) (hk : k + 4 ≤ 2050) (v1 : Int32) (v2 : Int32) : wpX_clearLine (fun r u' => wpY_clearLine (fun r' v' => r' = r ∧ i_Rel (k + 4) u' v') v v1 v2) u v1 v2 := by
  obtain ⟨R, C, st, sv, cn, cl, gv, kn, so, pl, fc, fl, cx, bc, bg, am, om, cy, cd, rfl, rfl, hI⟩ := I
  obtain ⟨hR0, hR, hC0, hC, hcn, hg, hn, h128, hx, hy⟩ := id hI
  rcases ns_kl2 hR hC v1 v2 with ⟨K, L, hK, hL, rfl, rfl, g⟩ | nl
  · refine xw_clear hR hC hK hL g hn h128 (yw_clear hR hC hK hL g hn h128 ⟨rfl, ?_⟩)
    exact ⟨R, C, 3, 3, _, cl, gv, _, _, pl, fc, fl, cx, bc, bg, am, om, cy, cd, rfl, rfl, hR0, hR, hC0, hC, ns_cc_upd (c := 0) hcn g (by omega), hg, ns_ok_0 R C, fun _ _ => rfl, hx, hy⟩
  · unfold wpX_clearLine wpY_clearLine
    dsimp only
    exact xw_li_b nl (br_t rfl (yw_ok_b nl (br_t rfl ⟨rfl, ⟨R, C, st, sv, cn, cl, gv, kn, so, pl, fc, fl, cx, bc, bg, am, om, cy, cd, rfl, rfl, hI⟩⟩)))
theorem i_vc_clueCount {k : Nat} {u : SX} {v : SY} (I : i_Rel k u v) (hk : k + 4 ≤ 2050) (v1 : Int32) (v2 : Int32) : wpX_clueCount (fun r => wpY_clueCount (fun r' => r' = r ∧ i_Rel (k + 4) u v) v v1 v2) u v1 v2 := by
  obtain ⟨R, C, st, sv, cn, cl, gv, kn, so, pl, fc, fl, cx, bc, bg, am, om, cy, cd, rfl, rfl, hI⟩ := I
  obtain ⟨hR0, hR, hC0, hC, hcn, hg, hn, h128, hx, hy⟩ := id hI
  unfold wpX_clueCount wpY_clueCount
  dsimp only
  rcases ns_kl2 hR hC v1 v2 with ⟨K, L, hK, hL, rfl, rfl, g⟩ | nl
  · refine xw_li_g hR hC hK hL g (br_f (ns_nm1 (by omega)) ⟨vp_in_nI (by omega) (by omega), ?_⟩)
    refine yw_ok_g hK hL hR hC (fun _ => br_f (by decide) ⟨pk_in (K * 8 + L) 16 (by omega) (ns_i8 _ _), ?_, ⟨R, C, st, sv, cn, cl, gv, kn, so, pl, fc, fl, cx, bc, bg, am, om, cy, cd, rfl, rfl, hI⟩⟩) (fun z => absurd g z)
    rw [ns_i8]
  · exact xw_li_b nl (br_t rfl (yw_ok_b nl (br_t rfl ⟨rfl, ⟨R, C, st, sv, cn, cl, gv, kn, so, pl, fc, fl, cx, bc, bg, am, om, cy, cd, rfl, rfl, hI⟩⟩)))
theorem i_vc_clueNumber {k : Nat} {u : SX} {v : SY} (I : i_Rel k u v) (hk : k + 4 ≤ 2050) (v1 : Int32) (v2 : Int32) (v3 : Int32) : wpX_clueNumber (fun r => wpY_clueNumber (fun r' => r' = r ∧ i_Rel (k + 4) u v) v v1 v2 v3) u v1 v2 v3 := by
  obtain ⟨R, C, st, sv, cn, cl, gv, kn, so, pl, fc, fl, cx, bc, bg, am, om, cy, cd, rfl, rfl, hI⟩ := I
  obtain ⟨hR0, hR, hC0, hC, hcn, hg, hn, h128, hx, hy⟩ := id hI
  unfold wpX_clueNumber wpY_clueNumber
  dsimp only
  rcases ns_kl2 hR hC v1 v2 with ⟨K, L, hK, hL, rfl, rfl, g⟩ | nl
  · obtain ⟨c4, ec, _⟩ := hcn (K * 8 + L) (by omega)
    have ra : cn (nI (K * 8 + L)).toNatClampNeg = nI (ns_cc cn (K * 8 + L)) := by rw [nI_clamp (by omega)]; exact ec
    have inx : vp_in (nI (K * 8 + L)) 16 := vp_in_nI (by omega) (by omega)
    have fin : i_Rel (k + 4) ((nI R), (nI C), st, sv, pl, cn, cl, gv, kn, so, fc, fl, cx, bc, bg) ((nI R), (nI C), st, sv, am, om, cl, cn, gv, kn, cy, so, cd) := ⟨R, C, st, sv, cn, cl, gv, kn, so, pl, fc, fl, cx, bc, bg, am, om, cy, cd, rfl, rfl, hI⟩
    have yy : ∀ (A : Prop), (vp_in (nI K * 8 + nI L) 16 ∧ A) ↔ A := fun A => ⟨fun z => z.2, fun z => ⟨pk_in (K * 8 + L) 16 (by omega) (ns_i8 _ _), z⟩⟩
    by_cases n3 : v3 < 0
    · exact xw_li_g hR hC hK hL g (br_f (ns_nm1 (by omega)) (br_t n3 (yw_ok_g hK hL hR hC (fun _ => br_f (by decide) (br_t n3 ⟨rfl, fin⟩)) (fun z => absurd g z))))
    · obtain ⟨j, hj, rfl⟩ := nI_of n3
      by_cases jc : j < ns_cc cn (K * 8 + L)
      · have lt : nI j < cn (nI (K * 8 + L)).toNatClampNeg := by rw [ra]; exact nI_lt jc (by omega)
        refine xw_li_g hR hC hK hL g (br_f (ns_nm1 (by omega)) (br_f n3 ⟨inx, br_t lt ⟨pk_in ((K * 8 + L) * 4 + j) 64 (by omega) (ns_i4 _ _), ?_⟩⟩))
        refine yw_ok_g hK hL hR hC (fun _ => br_f (by decide) (br_f n3 ((yy _).mpr (br_t (by rw [ns_i8]; exact lt) ⟨pk_in ((K * 8 + L) * 4 + j) 64 (by omega) (ns_b4k _ _ _), ?_, fin⟩)))) (fun z => absurd g z)
        rw [ns_b4k, ns_i4]
      · have nlt : ¬ nI j < cn (nI (K * 8 + L)).toNatClampNeg := by rw [ra]; exact nI_nlt (by omega) (by omega)
        refine xw_li_g hR hC hK hL g (br_f (ns_nm1 (by omega)) (br_f n3 ⟨inx, br_f nlt ?_⟩))
        exact yw_ok_g hK hL hR hC (fun _ => br_f (by decide) (br_f n3 ((yy _).mpr (br_f (by rw [ns_i8]; exact nlt) ⟨rfl, fin⟩)))) (fun z => absurd g z)
  · exact xw_li_b nl (br_t rfl (yw_ok_b nl (br_t rfl ⟨rfl, ⟨R, C, st, sv, cn, cl, gv, kn, so, pl, fc, fl, cx, bc, bg, am, om, cy, cd, rfl, rfl, hI⟩⟩)))
theorem i_vc_setGiven {k : Nat} {u : SX} {v : SY} (I : i_Rel k u v) (hk : k + 4 ≤ 2050) (v1 : Int32) (v2 : Int32) (v3 : Int32) : wpX_setGiven (fun r u' => wpY_setGiven (fun r' v' => r' = r ∧ i_Rel (k + 4) u' v') v v1 v2 v3) u v1 v2 v3 := by
  obtain ⟨R, C, st, sv, cn, cl, gv, kn, so, pl, fc, fl, cx, bc, bg, am, om, cy, cd, rfl, rfl, hI⟩ := I
  obtain ⟨hR0, hR, hC0, hC, hcn, hg, hn, h128, hx, hy⟩ := id hI
  rcases ns_rcx hR hC v1 v2 with ⟨r, c, hr, hc, rfl, rfl⟩ | nc
  · refine xw_setg hR hC hr hc hn h128 (fun ap => yw_setg hR hC hr hc hn h128 (fun _ => ⟨rfl, ?_⟩) (fun na => absurd ap na)) (fun na => yw_setg hR hC hr hc hn h128 (fun ap => absurd ap na) (fun _ => ⟨rfl, ?_⟩))
    · exact ⟨R, C, 3, 3, cn, cl, _, _, _, pl, fc, fl, cx, bc, bg, am, om, cy, cd, rfl, rfl, hR0, hR, hC0, hC, hcn, ns_ok_upd hg ⟨by omega, by omega, by omega⟩ ap, ns_ok_0 R C, fun _ _ => rfl, hx, hy⟩
    · exact ⟨R, C, st, sv, cn, cl, gv, kn, so, pl, fc, fl, cx, bc, bg, am, om, cy, cd, rfl, rfl, hI⟩
  · unfold wpX_setGiven
    dsimp only
    exact xw_ci_b nc (br_t rfl (ns_c4b nc ⟨rfl, ⟨R, C, st, sv, cn, cl, gv, kn, so, pl, fc, fl, cx, bc, bg, am, om, cy, cd, rfl, rfl, hI⟩⟩))
theorem i_vc_given {k : Nat} {u : SX} {v : SY} (I : i_Rel k u v) (hk : k + 4 ≤ 2050) (v1 : Int32) (v2 : Int32) : wpX_given (fun r => wpY_given (fun r' => r' = r ∧ i_Rel (k + 4) u v) v v1 v2) u v1 v2 := by
  obtain ⟨R, C, st, sv, cn, cl, gv, kn, so, pl, fc, fl, cx, bc, bg, am, om, cy, cd, rfl, rfl, hI⟩ := I
  obtain ⟨hR0, hR, hC0, hC, hcn, hg, hn, h128, hx, hy⟩ := id hI
  unfold wpX_given
  dsimp only
  rcases ns_rcx hR hC v1 v2 with ⟨r, c, hr, hc, rfl, rfl⟩ | nc
  · refine xw_ci_g hR hC hr hc (br_f (ns_nm1 (by omega)) ⟨vp_in_nI (by omega) (by omega), ?_⟩)
    refine ns_c4g hr hc hR hC ⟨pk_in (r * 8 + c) 64 (by omega) (ns_i8 _ _), ?_, ⟨R, C, st, sv, cn, cl, gv, kn, so, pl, fc, fl, cx, bc, bg, am, om, cy, cd, rfl, rfl, hI⟩⟩
    rw [ns_i8]
  · exact xw_ci_b nc (br_t rfl (ns_c4b nc ⟨rfl, ⟨R, C, st, sv, cn, cl, gv, kn, so, pl, fc, fl, cx, bc, bg, am, om, cy, cd, rfl, rfl, hI⟩⟩))
theorem i_vc_propagate {k : Nat} {u : SX} {v : SY} (I : i_Rel k u v) (hk : k + 4 ≤ 2050) : wpX_propagate (fun r u' => wpY_propagate (fun r' v' => r' = r ∧ i_Rel (k + 4) u' v') v) u := by
  obtain ⟨R, C, st, sv, cn, cl, gv, kn, so, pl, fc, fl, cx, bc, bg, am, om, cy, cd, rfl, rfl, hI⟩ := I
  obtain ⟨hR0, hR, hC0, hC, hcn, hg, hn, h128, hx, hy⟩ := id hI
  refine xw_prop hR hC hcn hg hn hx (fun st' kn' ce' fl' fc' pl' po h64 => yw_prop hR hC hcn hg hn hy (fun st2 kn2 ce2 am2 om2 po2 h642 => ?_))
  obtain ⟨e1, e2⟩ := ns_po_uniq po2 po
  subst e1
  subst e2
  exact ⟨rfl, R, C, _, sv, cn, cl, gv, _, so, pl', fc', fl', ce', bc, bg, am2, om2, ce2, cd, rfl, rfl, hR0, hR, hC0, hC, hcn, hg, ns_po_ok po, h128, h64, h642⟩
theorem i_vc_propagateStatus {k : Nat} {u : SX} {v : SY} (I : i_Rel k u v) (hk : k + 4 ≤ 2050) : wpX_propagateStatus (fun r => wpY_propagateStatus (fun r' => r' = r ∧ i_Rel (k + 4) u v) v) u := by
  obtain ⟨R, C, st, sv, cn, cl, gv, kn, so, pl, fc, fl, cx, bc, bg, am, om, cy, cd, rfl, rfl, hI⟩ := I
  obtain ⟨hR0, hR, hC0, hC, hcn, hg, hn, h128, hx, hy⟩ := id hI
  exact ⟨rfl, ⟨R, C, st, sv, cn, cl, gv, kn, so, pl, fc, fl, cx, bc, bg, am, om, cy, cd, rfl, rfl, hI⟩⟩
theorem i_vc_known {k : Nat} {u : SX} {v : SY} (I : i_Rel k u v) (hk : k + 4 ≤ 2050) (v1 : Int32) (v2 : Int32) : wpX_known (fun r => wpY_known (fun r' => r' = r ∧ i_Rel (k + 4) u v) v v1 v2) u v1 v2 := by
  obtain ⟨R, C, st, sv, cn, cl, gv, kn, so, pl, fc, fl, cx, bc, bg, am, om, cy, cd, rfl, rfl, hI⟩ := I
  obtain ⟨hR0, hR, hC0, hC, hcn, hg, hn, h128, hx, hy⟩ := id hI
  unfold wpX_known
  dsimp only
  rcases ns_rcx hR hC v1 v2 with ⟨r, c, hr, hc, rfl, rfl⟩ | nc
  · refine xw_ci_g hR hC hr hc (br_f (ns_nm1 (by omega)) ⟨vp_in_nI (by omega) (by omega), ?_⟩)
    refine ns_c4g hr hc hR hC ⟨pk_in (r * 8 + c) 64 (by omega) (ns_i8 _ _), ?_, ⟨R, C, st, sv, cn, cl, gv, kn, so, pl, fc, fl, cx, bc, bg, am, om, cy, cd, rfl, rfl, hI⟩⟩
    rw [ns_i8]
  · exact xw_ci_b nc (br_t rfl (ns_c4b nc ⟨rfl, ⟨R, C, st, sv, cn, cl, gv, kn, so, pl, fc, fl, cx, bc, bg, am, om, cy, cd, rfl, rfl, hI⟩⟩))
theorem i_vc_knownCount {k : Nat} {u : SX} {v : SY} (I : i_Rel k u v) (hk : k + 4 ≤ 2050) : wpX_knownCount (fun r => wpY_knownCount (fun r' => r' = r ∧ i_Rel (k + 4) u v) v) u := by
  obtain ⟨R, C, st, sv, cn, cl, gv, kn, so, pl, fc, fl, cx, bc, bg, am, om, cy, cd, rfl, rfl, hI⟩ := I
  obtain ⟨hR0, hR, hC0, hC, hcn, hg, hn, h128, hx, hy⟩ := id hI
  exact xw_kc (yw_kc hR hC hn ⟨rfl, ⟨R, C, st, sv, cn, cl, gv, kn, so, pl, fc, fl, cx, bc, bg, am, om, cy, cd, rfl, rfl, hI⟩⟩)
theorem i_vc_solve {k : Nat} {u : SX} {v : SY} (I : i_Rel k u v) (hk : k + 4 ≤ 2050) : wpX_solve (fun r u' => wpY_solve (fun r' v' => r' = r ∧ i_Rel (k + 4) u' v') v) u := by
  obtain ⟨R, C, st, sv, cn, cl, gv, kn, so, pl, fc, fl, cx, bc, bg, am, om, cy, cd, rfl, rfl, hI⟩ := I
  obtain ⟨hR0, hR, hC0, hC, hcn, hg, hn, h128, hx, hy⟩ := id hI
  refine xw_solve hR hC hcn hg hx h128 (fun f so' ce' pl' fl' fc' bc' bg' o h64 => yw_solve hR hC hR0 hC0 hcn hg hy h128 (fun f2 so2 ce2 cd2 am2 om2 o2 h642 => ?_))
  obtain ⟨e1, e2⟩ := ns_out_uniq o2 o
  subst e1
  subst e2
  exact ⟨rfl, R, C, st, _, cn, cl, gv, kn, _, pl', fc', fl', ce', bc', bg', am2, om2, ce2, cd2, rfl, rfl, hR0, hR, hC0, hC, hcn, hg, hn, ns_out_128 o, h64, h642⟩
theorem i_vc_verdict {k : Nat} {u : SX} {v : SY} (I : i_Rel k u v) (hk : k + 4 ≤ 2050) : wpX_verdict (fun r => wpY_verdict (fun r' => r' = r ∧ i_Rel (k + 4) u v) v) u := by
  obtain ⟨R, C, st, sv, cn, cl, gv, kn, so, pl, fc, fl, cx, bc, bg, am, om, cy, cd, rfl, rfl, hI⟩ := I
  obtain ⟨hR0, hR, hC0, hC, hcn, hg, hn, h128, hx, hy⟩ := id hI
  exact ⟨rfl, ⟨R, C, st, sv, cn, cl, gv, kn, so, pl, fc, fl, cx, bc, bg, am, om, cy, cd, rfl, rfl, hI⟩⟩
theorem i_vc_solutionCell {k : Nat} {u : SX} {v : SY} (I : i_Rel k u v) (hk : k + 4 ≤ 2050) (v1 : Int32) (v2 : Int32) (v3 : Int32) : wpX_solutionCell (fun r => wpY_solutionCell (fun r' => r' = r ∧ i_Rel (k + 4) u v) v v1 v2 v3) u v1 v2 v3 := by
  obtain ⟨R, C, st, sv, cn, cl, gv, kn, so, pl, fc, fl, cx, bc, bg, am, om, cy, cd, rfl, rfl, hI⟩ := I
  obtain ⟨hR0, hR, hC0, hC, hcn, hg, hn, h128, hx, hy⟩ := id hI
  have fin : i_Rel (k + 4) ((nI R), (nI C), st, sv, pl, cn, cl, gv, kn, so, fc, fl, cx, bc, bg) ((nI R), (nI C), st, sv, am, om, cl, cn, gv, kn, cy, so, cd) := ⟨R, C, st, sv, cn, cl, gv, kn, so, pl, fc, fl, cx, bc, bg, am, om, cy, cd, rfl, rfl, hI⟩
  unfold wpX_solutionCell
  dsimp only
  by_cases n0 : v1 < 0
  · have a0 : ¬ v1 = 0 := fun z => by rw [z] at n0; exact absurd n0 (by decide)
    have a1 : ¬ v1 = 1 := fun z => by rw [z] at n0; exact absurd n0 (by decide)
    rcases ns_rcx hR hC v2 v3 with ⟨r, c, hr, hc, rfl, rfl⟩ | nc
    · exact xw_ci_g hR hC hr hc (br_t n0 (br_f a0 (br_f a1 ⟨rfl, fin⟩)))
    · exact xw_ci_b nc (br_t n0 (br_f a0 (br_f a1 ⟨rfl, fin⟩)))
  · by_cases n2 : (2 : Int32) ≤ v1
    · have a0 : ¬ v1 = 0 := fun z => by rw [z] at n2; exact absurd n2 (by decide)
      have a1 : ¬ v1 = 1 := fun z => by rw [z] at n2; exact absurd n2 (by decide)
      rcases ns_rcx hR hC v2 v3 with ⟨r, c, hr, hc, rfl, rfl⟩ | nc
      · exact xw_ci_g hR hC hr hc (br_f n0 (br_t n2 (br_f a0 (br_f a1 ⟨rfl, fin⟩))))
      · exact xw_ci_b nc (br_f n0 (br_t n2 (br_f a0 (br_f a1 ⟨rfl, fin⟩))))
    · obtain ⟨q, hq, rfl⟩ := nI_of n0
      have q2 : q < 2 := by
        have := n2
        rw [show (2 : Int32) = nI 2 from rfl, nI_leI (by omega) hq] at this
        omega
      have go : ∀ {Q : Int32 → Prop}, wY_solutionCell_11 Q (nI q) v2 v3 (nI R) (nI C) st sv am om cl cn gv kn cy so cd → wpY_solutionCell Q ((nI R), (nI C), st, sv, am, om, cl, cn, gv, kn, cy, so, cd) (nI q) v2 v3 := fun w => br_c (fun _ => w) (fun z0 => br_c (fun _ => w) (fun z1 => by
        rcases (show q = 0 ∨ q = 1 by omega) with e | e
        · subst e; exact absurd rfl z0
        · subst e; exact absurd rfl z1))
      rcases ns_rcx hR hC v2 v3 with ⟨r, c, hr, hc, rfl, rfl⟩ | nc
      · have ix : nI q * 64 + nI r * 8 + nI c = nI (q * 64 + (r * 8 + c)) := by
          show nI q * nI 64 + nI r * nI 8 + nI c = _
          rw [pk_mul, pk_mul, nI_add, nI_add]; congr 1; omega
        refine xw_ci_g hR hC hr hc (br_f n0 (br_f n2 (br_f (ns_nm1 (by omega)) ⟨pk_in (q * 64 + (r * 8 + c)) 128 (by omega) (ns_i64 _ _), ?_⟩)))
        refine go (ns_c4g hr hc hR hC ⟨pk_in (q * 64 + (r * 8 + c)) 128 (by omega) ix, ?_, fin⟩)
        rw [ix, ns_i64]
      · exact xw_ci_b nc (br_f n0 (br_f n2 (br_t rfl (go (ns_c4b nc ⟨rfl, fin⟩)))))
end
