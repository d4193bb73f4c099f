/-! rounds of X's settle, passes of Y's propagate -/
section
variable {R C : Nat} {S : Nat → Nat → Prop} {P0 P P' : Nat → Int32}
/-- only lines of the grid are pending -/
def ns_pg (R C : Nat) (pl : Int32) : Prop := ∀ b, b < 32 → bt pl b = true → ns_ing R C b
def ns_pb (pl : Int32) (b : Nat) : Prop := bt pl b = true
/-- what settling keeps -/
def ns_kp (R C : Nat) (S : Nat → Nat → Prop) (P0 P : Nat → Int32) (pl : Int32) : Prop :=
  ns_ok R C P ∧ ns_le P0 P ∧ ns_blw R C S P0 P ∧ ns_pd R C S P (ns_pb pl) ∧ ns_pg R C pl
def ns_IR (R C : Nat) (S : Nat → Nat → Prop) (P0 : Nat → Int32) (rd at_ : Nat) (P : Nat → Int32) (pl : Int32) : Prop :=
  ns_kp R C S P0 P pl ∧ ns_unk P 64 + rd ≤ 64 ∧ ((∀ b, b < at_ → bt pl b = false) ∨ ns_unk P 64 + rd + 1 ≤ 64)
def ns_OR (R C : Nat) (S : Nat → Nat → Prop) (P0 : Nat → Int32) (rd : Nat) (P : Nat → Int32) (pl : Int32) : Prop :=
  ns_kp R C S P0 P pl ∧ (pl = 0 ∨ ns_unk P 64 + rd ≤ 64)
/-- how a step on line a changes the pending lines -/
def ns_pc (R C a : Nat) (P : Nat → Int32) (pl : Int32) (P' : Nat → Int32) (pl' : Int32) : Prop :=
  (∀ b, b < 32 → b ≠ a → bt pl b = true → bt pl' b = true) ∧
  (∀ i, i < ns_len R C a → P (ns_lc a i) = 0 → P' (ns_lc a i) ≠ 0 → bt pl' (ns_xl a i) = true) ∧
  ∀ b, b < 32 → bt pl' b = true → (bt pl b = true ∧ b ≠ a) ∨ ∃ i, i < ns_len R C a ∧ P (ns_lc a i) = 0 ∧ P' (ns_lc a i) ≠ 0 ∧ b = ns_xl a i
theorem ns_kp_step {a : Nat} {pl pl' : Int32} (hR : R ≤ 8) (hC : C ≤ 8) (ha : ns_ing R C a) (h : ns_kp R C S P0 P pl) (st : ns_step R C S P a P') (ex : ∃ p, ns_cons R C S P a p) (pc : ns_pc R C a P pl P' pl') : ns_kp R C S P0 P' pl' := by
  obtain ⟨h1, h2, h3, h4, h5⟩ := h
  refine ⟨ns_step_ok hR hC ha st h1, ns_le_tr h2 st.1, ns_blw_step ha h3 st, ns_pd_step hR hC ha st ex h4 (fun b hb ne z => pc.1 b (by omega) ne z) pc.2.1, fun b hb z => ?_⟩
  rcases pc.2.2 b hb z with ⟨y, _⟩ | ⟨i, hi, _, _, rfl⟩
  · exact h5 b hb y
  · exact ns_xl_ing ha hR hC hi
theorem ns_IR_0 {rd : Nat} {pl : Int32} (h : ns_OR R C S P0 rd P pl) (n : ¬ pl = 0) : ns_IR R C S P0 rd 0 P pl :=
  ⟨h.1, h.2.elim (fun z => absurd z n) id, Or.inl (fun b hb => absurd hb (by omega))⟩
theorem ns_IR_skip {rd a : Nat} {pl : Int32} (h : ns_IR R C S P0 rd a P pl) (n : bt pl a = false) : ns_IR R C S P0 rd (a + 1) P pl :=
  ⟨h.1, h.2.1, h.2.2.imp (fun z b hb => by
    by_cases e : b = a
    · subst e; exact n
    · exact z b (by omega)) id⟩
theorem ns_IR_step {rd a : Nat} {pl pl' : Int32} (hR : R ≤ 8) (hC : C ≤ 8) (ha : ns_ing R C a) (h : ns_IR R C S P0 rd a P pl) (st : ns_step R C S P a P') (ex : ∃ p, ns_cons R C S P a p) (pc : ns_pc R C a P pl P' pl') : ns_IR R C S P0 rd (a + 1) P' pl' := by
  obtain ⟨h1, h2, h3⟩ := h
  by_cases d : ∃ i, i < ns_len R C a ∧ P (ns_lc a i) = 0 ∧ P' (ns_lc a i) ≠ 0
  · obtain ⟨i, hi, z0, z1⟩ := d
    have := ns_step_unk hR hC ha st hi z0 z1
    exact ⟨ns_kp_step hR hC ha h1 st ex pc, by omega, Or.inr (by omega)⟩
  · have e : P' = P := ns_step_same st (fun i hi z0 => by
      by_cases z1 : P' (ns_lc a i) = 0
      · exact z1
      · exact absurd ⟨i, hi, z0, z1⟩ d)
    refine ⟨ns_kp_step hR hC ha h1 st ex pc, by rw [e]; exact h2, ?_⟩
    rw [e]
    refine h3.imp (fun z b hb => ?_) id
    have b32 : b < 32 := by have := ha.1; omega
    cases t : bt pl' b with
    | false => rfl
    | true =>
      rcases pc.2.2 b b32 t with ⟨y, ne⟩ | ⟨i, hi, z0, z1, _⟩
      · rw [z b (by omega)] at y; exact nomatch y
      · exact absurd ⟨i, hi, z0, z1⟩ d
theorem ns_IR_end {rd : Nat} {pl : Int32} (h : ns_IR R C S P0 rd 16 P pl) : ns_OR R C S P0 (rd + 1) P pl := by
  refine ⟨h.1, h.2.2.imp (fun z => ns_zero.mpr (fun b hb => ?_)) (fun z => by omega)⟩
  cases t : bt pl b with
  | false => rfl
  | true =>
    have := h.1.2.2.2.2 b hb t
    rw [z b this.1] at t; exact nomatch t
theorem ns_OR_0 {pl : Int32} (ok : ns_ok R C P) (pd : ns_pd R C S P (ns_pb pl)) (pg : ns_pg R C pl) : ns_OR R C S P 0 P pl :=
  ⟨⟨ok, ns_le_rfl P, ns_blw_0 P, pd, pg⟩, Or.inr (by have := ns_unk_le P 64; omega)⟩
theorem ns_OR_end {rd : Nat} {pl : Int32} (h : ns_OR R C S P0 rd P pl) (z : pl = 0 ∨ 65 ≤ rd) : ns_cls R C S P ∧ ns_le P0 P ∧ ns_blw R C S P0 P ∧ pl = 0 := by
  have e : pl = 0 := z.elim id (fun y => h.2.elim id (fun x => by omega))
  subst e
  obtain ⟨⟨h1, h2, h3, h4, h5⟩, _⟩ := h
  refine ⟨ns_pd_end h1 h4 (fun a ha z => ?_), h2, h3, rfl⟩
  have z' : bt 0 a = true := z
  rw [b_0] at z'; exact nomatch z'
/-- Y's passes -/
def ns_IY (R C : Nat) (S : Nat → Nat → Prop) (P0 : Nat → Int32) (ps li : Nat) (ch : Prop) (P : Nat → Int32) : Prop :=
  ns_ok R C P ∧ ns_le P0 P ∧ ns_blw R C S P0 P ∧ ns_unk P 64 + ps ≤ 64 ∧ (ch → ns_unk P 64 + ps + 1 ≤ 64) ∧ (¬ ch → ∀ a, a < li → ns_ing R C a → ns_stl R C S P a)
def ns_OY (R C : Nat) (S : Nat → Nat → Prop) (P0 : Nat → Int32) (ps : Nat) (ch : Prop) (P : Nat → Int32) : Prop :=
  ns_ok R C P ∧ ns_le P0 P ∧ ns_blw R C S P0 P ∧ (ch → ns_unk P 64 + ps ≤ 64) ∧ (¬ ch → ns_cls R C S P)
theorem ns_OY_0 (ok : ns_ok R C P) : ns_OY R C S P 0 True P :=
  ⟨ok, ns_le_rfl P, ns_blw_0 P, fun _ => by have := ns_unk_le P 64; omega, fun z => absurd trivial z⟩
theorem ns_IY_0 {ps : Nat} {ch : Prop} (h : ns_OY R C S P0 ps ch P) (c : ch) : ns_IY R C S P0 ps 0 False P :=
  ⟨h.1, h.2.1, h.2.2.1, h.2.2.2.1 c, fun z => z.elim, fun _ a ha => absurd ha (by omega)⟩
theorem ns_IY_skip {ps li : Nat} {ch : Prop} (h : ns_IY R C S P0 ps li ch P) (n : ¬ ns_ing R C li) : ns_IY R C S P0 ps (li + 1) ch P :=
  ⟨h.1, h.2.1, h.2.2.1, h.2.2.2.1, h.2.2.2.2.1, fun c a ha g => by
    by_cases e : a = li
    · subst e; exact absurd g n
    · exact h.2.2.2.2.2 c a (by omega) g⟩
theorem ns_IY_some {ps a : Nat} {ch : Prop} (hR : R ≤ 8) (hC : C ≤ 8) (ha : ns_ing R C a) (h : ns_IY R C S P0 ps a ch P) (st : ns_step R C S P a P') (d : ∃ i, i < ns_len R C a ∧ P (ns_lc a i) = 0 ∧ P' (ns_lc a i) ≠ 0) : ns_IY R C S P0 ps (a + 1) True P' := by
  obtain ⟨i, hi, z0, z1⟩ := d
  have u := ns_step_unk hR hC ha st hi z0 z1
  obtain ⟨h1, h2, h3, h4, h5, h6⟩ := h
  exact ⟨ns_step_ok hR hC ha st h1, ns_le_tr h2 st.1, ns_blw_step ha h3 st, by omega, fun _ => by omega, fun z => absurd trivial z⟩
theorem ns_IY_none {ps a : Nat} {ch : Prop} (h : ns_IY R C S P0 ps a ch P) (st : ns_step R C S P a P') (ex : ∃ p, ns_cons R C S P a p) (d : ∀ i, i < ns_len R C a → P (ns_lc a i) = 0 → P' (ns_lc a i) = 0) : ns_IY R C S P0 ps (a + 1) ch P' := by
  have e : P' = P := ns_step_same st d
  have s := ns_step_stl st ex
  rw [e] at s ⊢
  obtain ⟨h1, h2, h3, h4, h5, h6⟩ := h
  refine ⟨h1, h2, h3, h4, h5, fun c b hb g => ?_⟩
  by_cases eb : b = a
  · subst eb; exact s
  · exact h6 c b (by omega) g
theorem ns_IY_end {ps : Nat} {ch : Prop} (h : ns_IY R C S P0 ps 16 ch P) : ns_OY R C S P0 (ps + 1) ch P :=
  ⟨h.1, h.2.1, h.2.2.1, fun c => by have := h.2.2.2.2.1 c; omega, fun c => ⟨h.1, fun a ha => h.2.2.2.2.2 c a ha.1 ha⟩⟩
theorem ns_OY_end {ps : Nat} {ch : Prop} (h : ns_OY R C S P0 ps ch P) (z : ¬ ch ∨ 70 ≤ ps) : ns_cls R C S P := by
  by_cases c : ch
  · have := h.2.2.2.1 c
    exact z.elim (fun y => absurd c y) (fun y => by omega)
  · exact h.2.2.2.2 c
end
/-- two stored grids in one array -/
def ns_st (f : Nat) (A B : Nat → Int32) : Nat → Int32 := fun j =>
  if j < 64 then (if 1 ≤ f then A j else 0) else if j < 128 then (if 2 ≤ f then B (j - 64) else 0) else 0
theorem ns_st_0 (A B : Nat → Int32) : ns_st 0 A B = fun _ => 0 := by
  funext j; simp only [ns_st]
  split
  · rfl
  · split <;> rfl
theorem ns_st_uniq {Sl : (Nat → Int32) → Prop} {f f' : Nat} {A B A' B' : Nat → Int32} (h : ns_spec Sl f A B) (h' : ns_spec Sl f' A' B') : f = f' ∧ ns_st f A B = ns_st f' A' B' := by
  obtain ⟨e, a, b⟩ := ns_spec_uniq h h'
  subst e
  refine ⟨rfl, ?_⟩
  funext j
  simp only [ns_st]
  by_cases h1 : 1 ≤ f
  · rw [a h1]
    by_cases h2 : 2 ≤ f
    · rw [b h2]
    · rw [if_neg h2, if_neg h2]
  · have h2 : ¬ 2 ≤ f := by omega
    rw [if_neg h1, if_neg h1, if_neg h2, if_neg h2]
/-- a grid is stored as number f -/
theorem ns_st_put {f : Nat} {A B D st : Nat → Int32} (hf : f < 2) (hD : ∀ j, 64 ≤ j → D j = 0)
    (h1 : ∀ q, q < 64 → st (f * 64 + q) = D q) (h2 : ∀ j, (∀ q, q < 64 → j ≠ f * 64 + q) → st j = ns_st f A B j) :
    st = ns_st (f + 1) (if f = 0 then D else A) (if f = 0 then B else D) := by
  funext j
  by_cases e : f = 0
  · subst e
    rw [if_pos rfl, if_pos rfl]
    by_cases j64 : j < 64
    · have := h1 j j64
      rw [show 0 * 64 + j = j by omega] at this
      rw [this]; simp [ns_st, j64]
    · rw [h2 j (fun q hq => by omega)]
      simp [ns_st, j64]
  · have e1 : f = 1 := by omega
    subst e1
    rw [if_neg (by omega), if_neg (by omega)]
    by_cases j64 : j < 64
    · rw [h2 j (fun q hq => by omega)]; simp [ns_st, j64]
    · by_cases j128 : j < 128
      · have := h1 (j - 64) (by omega)
        rw [show 1 * 64 + (j - 64) = j by omega] at this
        rw [this]; simp [ns_st, j64, j128]
      · rw [h2 j (fun q hq => by omega)]; simp [ns_st, j64, j128]
/-- branch grid number d of the long array -/
def ns_gr (bg : Nat → Int32) (d : Nat) : Nat → Int32 := fun q => if q < 64 then bg (d * 64 + q) else 0
theorem ns_gr_keep {bg bg' : Nat → Int32} {d j : Nat} (hj : j ≠ d) (h : ∀ x, (∀ q, q < 64 → x ≠ d * 64 + q) → bg' x = bg x) : ns_gr bg' j = ns_gr bg j := by
  funext q
  simp only [ns_gr]
  by_cases e : q < 64
  · rw [if_pos e, if_pos e, h _ (fun r hr => by omega)]
  · rw [if_neg e, if_neg e]
theorem ns_gr_put {bg P : Nat → Int32} {d : Nat} (hP : ∀ j, 64 ≤ j → P j = 0) (h : ∀ q, q < 64 → bg (d * 64 + q) = P q) : ns_gr bg d = P := by
  funext q
  simp only [ns_gr]
  by_cases e : q < 64
  · rw [if_pos e, h q e]
  · rw [if_neg e, hP q (by omega)]
def ns_up (w : Nat → Nat) (d x : Nat) : Nat → Nat := fun r => if r = d then x else w r
theorem ns_up_s {w : Nat → Nat} {d x : Nat} : ns_up w d x d = x := by simp [ns_up]
theorem ns_up_n {w : Nat → Nat} {d x r : Nat} (h : r ≠ d) : ns_up w d x r = w r := by simp [ns_up, h]
/-- row d of the grid is restored, is written -/
theorem ns_gd_restore {C d : Nat} {g P : Nat → Int32} {w : Nat → Nat} (hC : C ≤ 8) (h : ∀ j, ¬ (j / 8 = d ∧ j % 8 < C) → P j = ns_gd C g d w j) (k : ∀ c, c < C → P (d * 8 + c) = g (d * 8 + c)) : P = ns_gd C g d w := by
  funext j
  by_cases e : j / 8 = d ∧ j % 8 < C
  · have := k (j % 8) e.2
    rw [show d * 8 + j % 8 = j by omega] at this
    rw [this, ns_gd_out (by omega)]
  · exact h j e
theorem ns_gd_write {C d v p : Nat} {g P : Nat → Int32} {w : Nat → Nat} (hC : C ≤ 8) (hp : ns_vp C v p) (h : ∀ j, ¬ (j / 8 = d ∧ j % 8 < C) → P j = ns_gd C g d w j)
    (k : ∀ c, c < C → P (d * 8 + c) = if p.testBit c = true then 2 else 1) : P = ns_gd C g (d + 1) (ns_up w d (v + 1)) := by
  funext j
  by_cases e : j / 8 = d ∧ j % 8 < C
  · have := k (j % 8) e.2
    rw [show d * 8 + j % 8 = j by omega, hp.2 _ e.2] at this
    rw [this]; simp only [ns_gd]
    have c1 : j / 8 < d + 1 ∧ j % 8 < C := ⟨by omega, e.2⟩
    rw [if_pos c1, e.1, ns_up_s]; rfl
  · rw [h j e]; simp only [ns_gd]
    by_cases z : j / 8 < d ∧ j % 8 < C
    · have c1 : j / 8 < d + 1 ∧ j % 8 < C := ⟨by omega, z.2⟩
      rw [if_pos z, if_pos c1, ns_up_n (by omega)]
    · have c1 : ¬ (j / 8 < d + 1 ∧ j % 8 < C) := by omega
      rw [if_neg z, if_neg c1]
