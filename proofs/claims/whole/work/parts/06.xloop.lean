/-! X's search, one look -/
def ns_XL (R C : Nat) (S : Nat → Nat → Prop) (g : Nat → Int32) (t f : Nat) (A B : Nat → Int32) (d : Nat) (G : Nat → Nat → Int32) (b : Nat → Nat) (P : Nat → Int32) : Prop :=
  ns_XI R C S g d G b P ∧ f < 2 ∧ ns_inv (ns_sol R C S g) f A B (ns_XR d G b P) ∧ (0 < d → 0 < ns_N R C S P) ∧
  t + ns_Ph R C S G b d + (2 * ns_N R C S P - 1) ≤ 2 * 30 ^ 8
section
variable {R C : Nat} {S : Nat → Nat → Prop} {g : Nat → Int32}
theorem ns_XL_t {t f d : Nat} {A B P : Nat → Int32} {G : Nat → Nat → Int32} {b : Nat → Nat} (h : ns_XL R C S g t f A B d G b P) : t < 2 ^ 48 := by
  have := h.2.2.2.2
  have e : 2 * 30 ^ 8 < 2 ^ 48 := by decide
  omega
theorem ns_XL_0 (A B : Nat → Int32) (G : Nat → Nat → Int32) (b : Nat → Nat) (hR : R ≤ 8) (hg : ns_ok R C g) (hb : ∀ r, r < R → ns_ct (S r) 256 ≤ 30) : ns_XL R C S g 0 0 A B 0 G b g := by
  refine ⟨⟨hg, ns_le_rfl g, fun j hj => absurd hj (by omega), fun i j _ hj => absurd hj (by omega), fun i hi => absurd hi (by omega)⟩, by omega,
    ns_inv_0 A B (fun Z hZ => Or.inl hZ.2.2.1), fun z => absurd z (by omega), ?_⟩
  have := ns_N_bound (C := C) g hR hb
  simp only [ns_Ph]; omega
/-- a settled grid with an unknown cell: one level deeper -/
theorem ns_XL_branch {t f d x : Nat} {A B P P' : Nat → Int32} {G G' : Nat → Nat → Int32} {b b' : Nat → Nat} (hS : ∀ a p, S a p → p < 256) (hR : R ≤ 8) (hC : C ≤ 8)
    (h : ns_XL R C S g t f A B d G b P) (hc : ns_cls R C S P') (hl : ns_le P P') (hbl : ns_blw R C S P P')
    (hx : ns_cg R C x) (h0 : P' x = 0) (hq : ∀ q, q < x → ns_cg R C q → P' q ≠ 0)
    (hG : ∀ j, j < d → G' j = G j ∧ b' j = b j) (hd : G' d = P') (hbx : b' d = x) :
    ns_XL R C S g (t + 1) f A B (d + 1) G' b' (upd P' x 1) := by
  obtain ⟨hI, hf, hv, hp, hw⟩ := h
  have hI' := ns_XI_settle hI hc.1 hl
  have fr : ns_fr R C S g P' x := ⟨hc, hI'.2.1, hx, h0, hq⟩
  have pos1 := ns_fr_pos (v := 1) hS hR hC hc hx h0 (Or.inl rfl)
  have pos2 := ns_fr_pos (v := 2) hS hR hC hc hx h0 (Or.inr rfl)
  have hm := ns_N_mono (R := R) (C := C) (S := S) hl
  have hsp : ns_N R C S P' = ns_N R C S (upd P' x 2) + ns_N R C S (upd P' x 1) := by
    have ex : x / 8 * 8 + x % 8 = x := by omega
    have := ns_N_split (S := S) (P := P') (r := x / 8) (c := x % 8) hx.2.1 hR hx.2.2 hC (by rw [ex]; exact h0)
    rw [ex] at this; exact this
  refine ⟨ns_XI_branch hI' hG hd hbx fr, hf, ns_inv_to hv (fun Z hZ => ?_), fun _ => pos1, ?_⟩
  · refine (ns_XR_settle (ns_sol_cls hR hC hZ) hl hbl).trans (ns_XR_branch hG hd hbx h0 ?_)
    rcases (hZ.1 x).1 with z | z | z
    · exact absurd z (hZ.2.1 x hx)
    · exact Or.inl z
    · exact Or.inr z
  · simp only [ns_Ph]
    rw [ns_Ph_eq d hG, hd, hbx]; omega
/-- nothing above the cells -/
theorem ns_XL_bad {t f d : Nat} {A B P : Nat → Int32} {G : Nat → Nat → Int32} {b : Nat → Nat} (hR : R ≤ 8) (hC : C ≤ 8)
    (h : ns_XL R C S g t f A B d G b P) (hb : ∀ Q, ns_cls R C S Q → ¬ ns_le P Q) : ns_inv (ns_sol R C S g) f A B (fun Z => ∃ j, j < d ∧ ns_le (upd (G j) (b j) 2) Z) :=
  ns_inv_to h.2.2.1 (fun Z hZ => ⟨fun k => k.elim (fun l => absurd l (hb Z (ns_sol_cls hR hC hZ))) id, Or.inr⟩)
/-- the cells are a solution: how what remains changes -/
theorem ns_XL_sol {t f d : Nat} {A B P P' : Nat → Int32} {G : Nat → Nat → Int32} {b : Nat → Nat} (hR : R ≤ 8) (hC : C ≤ 8)
    (h : ns_XL R C S g t f A B d G b P) (hc : ns_cls R C S P') (hl : ns_le P P') (hbl : ns_blw R C S P P') (hf : ∀ j, ns_cg R C j → P' j ≠ 0) :
    ns_inv (ns_sol R C S g) (f + 1) (if f = 0 then P' else A) (if f = 0 then B else P') (fun Z => ∃ j, j < d ∧ ns_le (upd (G j) (b j) 2) Z) := by
  obtain ⟨hI, hf2, hv, hp, hw⟩ := h
  have hI' := ns_XI_settle hI hc.1 hl
  have sD : ns_sol R C S g P' := ns_cls_sol hc hI'.2.1 hf
  have rD : ns_XR d G b P P' := Or.inl hl
  have k : ∀ Z, ns_sol R C S g Z → ns_XR d G b P Z → Z = P' ∨ ∃ j, j < d ∧ ns_le (upd (G j) (b j) 2) Z := by
    intro Z hZ r
    exact r.imp (fun l => ns_full_le hf hZ.1 (hbl Z (ns_sol_cls hR hC hZ) l) hc.1) id
  have o : ∀ Z, ns_sol R C S g Z → (∃ j, j < d ∧ ns_le (upd (G j) (b j) 2) Z) → ns_lt P' Z := by
    intro Z hZ ⟨j, hj, l⟩
    exact ns_fr_lt (hI'.2.2.1 j hj) hc.1 hZ.1 (hI'.2.2.2.2 j hj) l
  by_cases e : f = 0
  · subst e
    rw [if_pos rfl, if_pos rfl]; exact ns_inv_A hv sD k o
  · have e1 : f = 1 := by omega
    subst e1
    rw [if_neg (by omega), if_neg (by omega)]; exact ns_inv_B hv sD rD k o
/-- the top of the stack is taken back -/
theorem ns_XL_pop {t f f' d : Nat} {A B A' B' P : Nat → Int32} {G : Nat → Nat → Int32} {b : Nat → Nat} (hS : ∀ a p, S a p → p < 256) (hR : R ≤ 8) (hC : C ≤ 8)
    (h : ns_XL R C S g t f A B (d + 1) G b P) (hf : f' < 2) (hv : ns_inv (ns_sol R C S g) f' A' B' (fun Z => ∃ j, j < d + 1 ∧ ns_le (upd (G j) (b j) 2) Z)) :
    ns_XL R C S g (t + 1) f' A' B' d G b (upd (G d) (b d) 2) := by
  obtain ⟨hI, _, _, hp, hw⟩ := h
  have f := hI.2.2.1 d (by omega)
  have pos2 := ns_fr_pos (v := 2) hS hR hC f.1 f.2.2.1 f.2.2.2.1 (Or.inr rfl)
  have := hp (by omega)
  refine ⟨ns_XI_pop hI, hf, ns_inv_to hv (fun Z _ => ⟨ns_XR_pop, ns_XR_unpop⟩), fun _ => pos2, ?_⟩
  simp only [ns_Ph] at hw; omega
end
