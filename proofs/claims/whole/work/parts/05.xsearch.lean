/-! X's search, purely: a stack of closed grids -/
theorem ns_upd_s {P : Nat → Int32} {x : Nat} {v : Int32} : upd P x v x = v := by
  show (if x = x then v else P x) = v
  rw [if_pos rfl]
theorem ns_upd_n {P : Nat → Int32} {x j : Nat} {v : Int32} (h : j ≠ x) : upd P x v j = P j := by
  show (if j = x then v else P j) = P j
  rw [if_neg h]
theorem ns_le_upd {P : Nat → Int32} {x : Nat} {v : Int32} (h : P x = 0) : ns_le P (upd P x v) := by
  intro j hj
  by_cases e : j = x
  · subst e; exact absurd h hj
  · exact ns_upd_n e
theorem ns_upd_le {P Z : Nat → Int32} {x : Nat} {v : Int32} (h : ns_le P Z) (hz : Z x = v) : ns_le (upd P x v) Z := by
  intro j hj
  by_cases e : j = x
  · subst e; rw [ns_upd_s]; exact hz
  · rw [ns_upd_n e] at hj ⊢; exact h j hj
/-- the stack below d: closed grids, each with its first unknown cell -/
def ns_fr (R C : Nat) (S : Nat → Nat → Prop) (g G : Nat → Int32) (b : Nat) : Prop :=
  ns_cls R C S G ∧ ns_le g G ∧ ns_cg R C b ∧ G b = 0 ∧ ∀ q, q < b → ns_cg R C q → G q ≠ 0
def ns_XI (R C : Nat) (S : Nat → Nat → Prop) (g : Nat → Int32) (d : Nat) (G : Nat → Nat → Int32) (b : Nat → Nat) (P : Nat → Int32) : Prop :=
  ns_ok R C P ∧ ns_le g P ∧ (∀ j, j < d → ns_fr R C S g (G j) (b j)) ∧
  (∀ i j, i < j → j < d → ns_le (upd (G i) (b i) 1) (G j)) ∧ (∀ i, i < d → ns_le (upd (G i) (b i) 1) P)
def ns_XR (d : Nat) (G : Nat → Nat → Int32) (b : Nat → Nat) (P Z : Nat → Int32) : Prop :=
  ns_le P Z ∨ ∃ j, j < d ∧ ns_le (upd (G j) (b j) 2) Z
section
variable {R C : Nat} {S : Nat → Nat → Prop} {g : Nat → Int32}
/-- what lies above the EMPTY side comes before what lies above the FILLED side -/
theorem ns_fr_lt {G Z Z' : Nat → Int32} {b : Nat} (h : ns_fr R C S g G b) (hz : ns_ok R C Z) (hz' : ns_ok R C Z')
    (l : ns_le (upd G b 1) Z) (l' : ns_le (upd G b 2) Z') : ns_lt Z Z' := by
  obtain ⟨_, _, hb, h0, hq⟩ := h
  refine ⟨b, fun q hqb => ?_, ?_, ?_⟩
  · by_cases e : ns_cg R C q
    · have n := hq q hqb e
      have u1 : upd G b 1 q = G q := ns_upd_n (by omega)
      have u2 : upd G b 2 q = G q := ns_upd_n (by omega)
      rw [l q (by rw [u1]; exact n), l' q (by rw [u2]; exact n), u1, u2]
    · rw [(hz q).2 e, (hz' q).2 e]
  · rw [l b (by rw [ns_upd_s]; decide), ns_upd_s]
  · rw [l' b (by rw [ns_upd_s]; decide), ns_upd_s]
theorem ns_XI_settle {d : Nat} {G : Nat → Nat → Int32} {b : Nat → Nat} {P P' : Nat → Int32} (h : ns_XI R C S g d G b P) (ok : ns_ok R C P') (l : ns_le P P') : ns_XI R C S g d G b P' :=
  ⟨ok, ns_le_tr h.2.1 l, h.2.2.1, h.2.2.2.1, fun i hi => ns_le_tr (h.2.2.2.2 i hi) l⟩
/-- the branch cells rise: the depth stays below the cells -/
theorem ns_XI_rise {d : Nat} {G : Nat → Nat → Int32} {b : Nat → Nat} {P : Nat → Int32} (h : ns_XI R C S g d G b P) {Q : Nat → Int32} {x i : Nat} (hi : i < d)
    (l : ns_le (upd (G i) (b i) 1) Q) (hx : ns_cg R C x) (h0 : Q x = 0) : b i < x := by
  obtain ⟨_, _, hb, _, hq⟩ := h.2.2.1 i hi
  by_cases e : b i < x
  · exact e
  · by_cases e' : x = b i
    · subst e'
      have := l (b i) (by rw [ns_upd_s]; decide)
      rw [ns_upd_s, h0] at this; exact absurd this (by decide)
    · have n := hq x (by omega) hx
      have u1 : upd (G i) (b i) 1 x = G i x := ns_upd_n e'
      have := l x (by rw [u1]; exact n)
      rw [u1, h0] at this; exact absurd this.symm n
theorem ns_XI_idx {d : Nat} {G : Nat → Nat → Int32} {b : Nat → Nat} {P : Nat → Int32} (h : ns_XI R C S g d G b P) : ∀ j, j < d → j ≤ b j := by
  intro j
  induction j with
  | zero => intro _; omega
  | succ j ih =>
    intro hj
    have f := h.2.2.1 (j + 1) hj
    have := ns_XI_rise h (by omega) (h.2.2.2.1 j (j + 1) (by omega) hj) f.2.2.1 f.2.2.2.1
    have := ih (by omega)
    omega
theorem ns_XI_depth {d : Nat} {G : Nat → Nat → Int32} {b : Nat → Nat} {P : Nat → Int32} (h : ns_XI R C S g d G b P) {x : Nat} (hx : ns_cg R C x) (h0 : P x = 0) : d ≤ x := by
  cases d with
  | zero => omega
  | succ d =>
    have := ns_XI_rise h (by omega : d < d + 1) (h.2.2.2.2 d (by omega)) hx h0
    have := ns_XI_idx h d (by omega)
    omega
theorem ns_XI_branch {d : Nat} {G G' : Nat → Nat → Int32} {b b' : Nat → Nat} {P : Nat → Int32} {x : Nat} (h : ns_XI R C S g d G b P)
    (hG : ∀ j, j < d → G' j = G j ∧ b' j = b j) (hd : G' d = P) (hx : b' d = x) (f : ns_fr R C S g P x) : ns_XI R C S g (d + 1) G' b' (upd P x 1) := by
  obtain ⟨h1, h2, h3, h4, h5⟩ := h
  have hl : ns_le P (upd P x 1) := ns_le_upd f.2.2.2.1
  refine ⟨fun j => ?_, ns_le_tr h2 hl, fun j hj => ?_, fun i j hij hj => ?_, fun i hi => ?_⟩
  · by_cases e : j = x
    · subst e; rw [ns_upd_s]; exact ⟨Or.inr (Or.inl rfl), fun z => absurd f.2.2.1 z⟩
    · rw [ns_upd_n e]; exact h1 j
  · by_cases e : j = d
    · subst e; rw [hd, hx]; exact f
    · have := hG j (by omega)
      rw [this.1, this.2]; exact h3 j (by omega)
  · have a := hG i (by omega)
    rw [a.1, a.2]
    by_cases e : j = d
    · subst e; rw [hd]; exact h5 i (by omega)
    · rw [(hG j (by omega)).1]; exact h4 i j hij (by omega)
  · by_cases e : i = d
    · subst e; rw [hd, hx]; exact ns_le_rfl _
    · have a := hG i (by omega)
      rw [a.1, a.2]; exact ns_le_tr (h5 i (by omega)) hl
theorem ns_XI_pop {d : Nat} {G : Nat → Nat → Int32} {b : Nat → Nat} {P : Nat → Int32} (h : ns_XI R C S g (d + 1) G b P) : ns_XI R C S g d G b (upd (G d) (b d) 2) := by
  obtain ⟨_, _, h3, h4, _⟩ := h
  have f := h3 d (by omega)
  have hl : ns_le (G d) (upd (G d) (b d) 2) := ns_le_upd f.2.2.2.1
  refine ⟨fun j => ?_, ns_le_tr f.2.1 hl, fun j hj => h3 j (by omega), fun i j hij hj => h4 i j hij (by omega), fun i hi => ns_le_tr (h4 i d hi (by omega)) hl⟩
  by_cases e : j = b d
  · subst e; rw [ns_upd_s]; exact ⟨Or.inr (Or.inr rfl), fun z => absurd f.2.2.1 z⟩
  · rw [ns_upd_n e]; exact f.1.1 j
/-- remaining after a settling, among solutions -/
theorem ns_XR_settle {d : Nat} {G : Nat → Nat → Int32} {b : Nat → Nat} {P P' Z : Nat → Int32} (hz : ns_cls R C S Z) (l : ns_le P P') (k : ns_blw R C S P P') : ns_XR d G b P Z ↔ ns_XR d G b P' Z :=
  ⟨fun h => h.imp (fun q => k Z hz q) id, fun h => h.imp (fun q => ns_le_tr l q) id⟩
theorem ns_XR_branch {d : Nat} {G G' : Nat → Nat → Int32} {b b' : Nat → Nat} {P Z : Nat → Int32} {x : Nat}
    (hG : ∀ j, j < d → G' j = G j ∧ b' j = b j) (hd : G' d = P) (hx : b' d = x) (h0 : P x = 0) (hz : Z x = 1 ∨ Z x = 2) :
    ns_XR d G b P Z ↔ ns_XR (d + 1) G' b' (upd P x 1) Z := by
  constructor
  · intro h
    rcases h with h | ⟨j, hj, h⟩
    · rcases hz with z | z
      · exact Or.inl (ns_upd_le h z)
      · exact Or.inr ⟨d, by omega, by rw [hd, hx]; exact ns_upd_le h z⟩
    · have a := hG j hj
      exact Or.inr ⟨j, by omega, by rw [a.1, a.2]; exact h⟩
  · intro h
    rcases h with h | ⟨j, hj, h⟩
    · exact Or.inl (ns_le_tr (ns_le_upd h0) h)
    · by_cases e : j = d
      · subst e; rw [hd, hx] at h; exact Or.inl (ns_le_tr (ns_le_upd h0) h)
      · have a := hG j (by omega)
        rw [a.1, a.2] at h
        exact Or.inr ⟨j, by omega, h⟩
/-- nothing above the cells: the top of the stack is taken back -/
theorem ns_XR_pop {d : Nat} {G : Nat → Nat → Int32} {b : Nat → Nat} {Z : Nat → Int32} (h : ∃ j, j < d + 1 ∧ ns_le (upd (G j) (b j) 2) Z) : ns_XR d G b (upd (G d) (b d) 2) Z := by
  obtain ⟨j, hj, l⟩ := h
  by_cases e : j = d
  · subst e; exact Or.inl l
  · exact Or.inr ⟨j, by omega, l⟩
theorem ns_XR_unpop {d : Nat} {G : Nat → Nat → Int32} {b : Nat → Nat} {Z : Nat → Int32} (h : ns_XR d G b (upd (G d) (b d) 2) Z) : ∃ j, j < d + 1 ∧ ns_le (upd (G j) (b j) 2) Z :=
  h.elim (fun l => ⟨d, by omega, l⟩) (fun ⟨j, hj, l⟩ => ⟨j, by omega, l⟩)
/-- a settled grid leaves both sides of its unknown cell possible, in every row -/
theorem ns_fr_pos {G : Nat → Int32} {b : Nat} {v : Int32} (hS : ∀ a p, S a p → p < 256) (hR : R ≤ 8) (hC : C ≤ 8) (h : ns_cls R C S G) (hb : ns_cg R C b) (h0 : G b = 0) (hv : v = 1 ∨ v = 2) : 0 < ns_N R C S (upd G b v) := by
  refine ns_N_pos hS (fun r hr => ?_)
  have ing : ns_ing R C r := ⟨by omega, fun _ => hr, fun z => by omega⟩
  have r8 : r < 8 := by omega
  have hlen : ns_len R C r = C := by simp [ns_len, r8]
  obtain ⟨hb1, hb2, hb3⟩ := hb
  by_cases e : b / 8 = r
  · have hlc : ns_lc r (b % 8) = b := by rw [ns_lc_row r8]; omega
    obtain ⟨⟨p1, c1, t1⟩, ⟨p0, c0, t0⟩⟩ := (h.2 r ing).2 (b % 8) (by rw [hlen]; exact hb3) (by rw [hlc]; exact h0)
    have put : ∀ (p : Nat), ns_cons R C S G r p → ((v = 2 → p.testBit (b % 8) = true) ∧ (v = 1 → p.testBit (b % 8) = false)) → ns_cons R C S (upd G b v) r p := by
      intro p hp hv'
      refine ⟨hp.1, fun i hi => ?_⟩
      by_cases ei : i = b % 8
      · subst ei; rw [hlc, ns_upd_s]; exact hv'
      · rw [ns_upd_n (by rw [ns_lc_row r8]; rw [hlen] at hi; omega)]; exact hp.2 i hi
    rcases hv with rfl | rfl
    · exact ⟨p0, put p0 c0 ⟨fun z => absurd z (by decide), fun _ => t0⟩⟩
    · exact ⟨p1, put p1 c1 ⟨fun _ => t1, fun z => absurd z (by decide)⟩⟩
  · obtain ⟨p, hp⟩ := (h.2 r ing).1
    refine ⟨p, ns_cons_eq (fun i hi => ns_upd_n ?_) hp⟩
    rw [hlen] at hi; rw [ns_lc_row r8]; omega
/-- the work that is left -/
noncomputable def ns_Ph (R C : Nat) (S : Nat → Nat → Prop) (G : Nat → Nat → Int32) (b : Nat → Nat) : Nat → Nat
  | 0 => 0
  | d + 1 => ns_Ph R C S G b d + (2 * ns_N R C S (upd (G d) (b d) 2) - 1)
theorem ns_Ph_eq {G G' : Nat → Nat → Int32} {b b' : Nat → Nat} : ∀ d, (∀ j, j < d → G' j = G j ∧ b' j = b j) → ns_Ph R C S G' b' d = ns_Ph R C S G b d := by
  intro d
  induction d with
  | zero => intro _; rfl
  | succ d ih =>
    intro h
    simp only [ns_Ph]
    rw [ih (fun j hj => h j (by omega)), (h d (by omega)).1, (h d (by omega)).2]
end
