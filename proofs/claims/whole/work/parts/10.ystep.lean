/-! Y's search: what its loop keeps -/
def ns_ch (R C : Nat) (S : Nat → Nat → Prop) (g : Nat → Int32) (w : Nat → Nat) (r : Nat) : Prop :=
  1 ≤ w r ∧ w r ≤ 2 ^ C ∧ ∃ p, ns_vp C (w r - 1) p ∧ S r p ∧ ns_ag R C g r p
def ns_YL (R C : Nat) (S : Nat → Nat → Prop) (g : Nat → Int32) (t f : Nat) (A B : Nat → Int32) (d : Nat) (w : Nat → Nat) : Prop :=
  d < R ∧ f < 2 ∧ ns_inv (ns_sol R C S g) f A B (ns_YR C d w) ∧ (∀ r, r < d → ns_ch R C S g w r) ∧ t + ns_Ps R C S w (d + 1) ≤ 130 ^ 8
section
variable {R C : Nat} {S : Nat → Nat → Prop} {g : Nat → Int32}
theorem ns_YL_t {t f d : Nat} {A B : Nat → Int32} {w : Nat → Nat} (h : ns_YL R C S g t f A B d w) : t < 2 ^ 62 := by
  have := h.2.2.2.2
  have e : 130 ^ 8 < 2 ^ 62 := by decide
  omega
theorem ns_YL_0 {A B : Nat → Int32} {w : Nat → Nat} (hR0 : 0 < R) (hR : R ≤ 8) (hC : C ≤ 8) (hC0 : 0 < C) (hP : ∀ r p q, S r p → S r q → ns_pop (fun i => p.testBit i) 9 = ns_pop (fun i => q.testBit i) 9) (hw : w 0 = 0) :
    ns_YL R C S g 0 0 A B 0 w := by
  refine ⟨hR0, by omega, ns_inv_0 A B (fun Z hZ => ?_), fun r hr => absurd hr (by omega), by have h := ns_Ps_0 (S := S) (w := w) hR hC hC0 hP; show 0 + ns_Ps R C S w 1 ≤ _; omega⟩
  obtain ⟨v, hv, hm⟩ := ns_sol_rm hR hC hZ hR0
  exact ⟨0, by omega, fun r hr => absurd hr (by omega), v, by omega, hv, hm⟩
/-- the filling of value v fits row d: the row is chosen -/
theorem ns_ch_new {d v p : Nat} {w w' : Nat → Nat} (hd : d < R) (hR : R ≤ 8) (hC : C ≤ 8) (hv2 : v < 2 ^ C) (hp : ns_vp C v p) (hc : ns_cons R C S (ns_gd C g d w) d p) (hwd : w' d = v + 1) : ns_ch R C S g w' d := by
  have d8 : d < 8 := by omega
  have hlen : ns_len R C d = C := by simp [ns_len, d8]
  unfold ns_ch
  rw [hwd]
  refine ⟨by omega, by omega, p, hp, hc.1, fun i hi => ?_⟩
  have := hc.2 i hi
  rw [hlen] at hi
  rw [ns_gd_out (j := ns_lc d i) (by rw [ns_lc_row d8]; omega)] at this
  exact this
theorem ns_ch_old {r : Nat} {w w' : Nat → Nat} (h : ns_ch R C S g w r) (e : w' r = w r) : ns_ch R C S g w' r := by
  unfold ns_ch; rw [e]; exact h
theorem ns_YL_down {t f d v p : Nat} {A B : Nat → Int32} {w w' : Nat → Nat} (hR : R ≤ 8) (hC : C ≤ 8) (hC0 : 0 < C) (hP : ∀ r p q, S r p → S r q → ns_pop (fun i => p.testBit i) 9 = ns_pop (fun i => q.testBit i) 9)
    (h : ns_YL R C S g t f A B d w) (hd : d + 1 < R) (hv : w d ≤ v) (hv2 : v < 2 ^ C) (hn : ∀ u, w d ≤ u → u < v → ns_no R C S g d w u)
    (hp : ns_vp C v p) (hc : ns_cons R C S (ns_gd C g d w) d p) (hw : ∀ r, r < d → w' r = w r) (hwd : w' d = v + 1) (hw1 : w' (d + 1) = 0) :
    ns_YL R C S g (t + 1) f A B (d + 1) w' := by
  obtain ⟨h1, h2, h3, h4, h5⟩ := h
  refine ⟨hd, h2, ns_inv_to h3 (fun Z hZ => ns_YR_down hR hC hZ hd hv hv2 hn hw hwd hw1), fun r hr => ?_, ?_⟩
  · by_cases e : r = d
    · subst e; exact ns_ch_new h1 hR hC hv2 hp hc hwd
    · exact ns_ch_old (h4 r (by omega)) (hw r (by omega))
  · have h := ns_Ps_down (R := R) hC hC0 hP hd hv hv2 hp hc.1 hw hwd hw1
    show t + 1 + ns_Ps R C S w' (d + 2) ≤ _
    omega
theorem ns_YL_up {t f d : Nat} {A B : Nat → Int32} {w : Nat → Nat} (h : ns_YL R C S g t f A B (d + 1) w) (hn : ∀ u, w (d + 1) ≤ u → u < 2 ^ C → ns_no R C S g (d + 1) w u) : ns_YL R C S g (t + 1) f A B d w := by
  obtain ⟨h1, h2, h3, h4, h5⟩ := h
  refine ⟨by omega, h2, ns_inv_to h3 (fun Z hZ => ns_YR_up hZ hn), fun r hr => h4 r (by omega), ?_⟩
  have e : ns_Ps R C S w (d + 2) = ns_Ps R C S w (d + 1) + 1 + ns_Kv C S (d + 1) (w (d + 1)) * 130 ^ (R - 1 - (d + 1)) := rfl
  have h5' : t + ns_Ps R C S w (d + 2) ≤ 130 ^ 8 := h5
  omega
theorem ns_YL_none {t f : Nat} {A B : Nat → Int32} {w : Nat → Nat} (h : ns_YL R C S g t f A B 0 w) (hn : ∀ u, w 0 ≤ u → u < 2 ^ C → ns_no R C S g 0 w u) : ns_spec (ns_sol R C S g) f A B :=
  ns_inv_end h.2.2.1 (fun _ hZ => ns_YR_none hZ hn)
/-- the grid with all rows chosen and all columns possible is a solution -/
theorem ns_gd_sol {w : Nat → Nat} (hR : R ≤ 8) (hC : C ≤ 8) (hg : ns_ok R C g) (hc : ∀ r, r < R → ns_ch R C S g w r) (hk : ∀ a, 8 ≤ a → ns_ing R C a → ∃ q, ns_cons R C S (ns_gd C g R w) a q) : ns_sol R C S g (ns_gd C g R w) := by
  have val : ∀ r c, r < R → c < C → ns_gd C g R w (r * 8 + c) = if (w r - 1).testBit (C - 1 - c) = true then 2 else 1 := fun r c hr hc' => ns_gd_in hC hr hc'
  refine ⟨ns_gd_ok hR (Nat.le_refl R) hg, fun j hj => ?_, fun j hj => ?_, fun a ha => ?_⟩
  · have := val (j / 8) (j % 8) hj.2.1 hj.2.2
    rw [show j / 8 * 8 + j % 8 = j by omega] at this
    rw [this]; split <;> decide
  · by_cases e : j / 8 < R ∧ j % 8 < C
    · obtain ⟨_, _, p, hp, _, hag⟩ := hc (j / 8) e.1
      have r8 : j / 8 < 8 := by omega
      have a := hag (j % 8) (by simp [ns_len, r8]; exact e.2)
      have v := val (j / 8) (j % 8) e.1 e.2
      rw [ns_lc_row r8, hp.2 _ e.2] at a
      rw [show j / 8 * 8 + j % 8 = j by omega] at a v
      rw [v]
      rcases (hg j).1 with z | z | z
      · exact absurd z hj
      · rw [a.2 z, z]; rfl
      · rw [a.1 z, z]; rfl
    · exact ns_gd_out e
  · by_cases a8 : a < 8
    · have ar := ha.2.1 a8
      obtain ⟨_, _, p, hp, hs, _⟩ := hc a ar
      refine ⟨p, hs, fun i hi => ?_⟩
      have hlen : ns_len R C a = C := by simp [ns_len, a8]
      rw [hlen] at hi
      rw [ns_lc_row a8, val a i ar hi, hp.2 i hi]
      cases e : (w a - 1).testBit (C - 1 - i) with
      | true => exact ⟨fun _ => rfl, fun z => absurd z (by decide)⟩
      | false => exact ⟨fun z => absurd z (by decide), fun _ => rfl⟩
    · exact hk a (by omega) ha
theorem ns_YL_last {t f d v p : Nat} {A B : Nat → Int32} {w w' : Nat → Nat} (hR : R ≤ 8) (hC : C ≤ 8) (hg : ns_ok R C g)
    (h : ns_YL R C S g t f A B d w) (hd : d + 1 = R) (hv : w d ≤ v) (hv2 : v < 2 ^ C) (hn : ∀ u, w d ≤ u → u < v → ns_no R C S g d w u)
    (hp : ns_vp C v p) (hc : ns_cons R C S (ns_gd C g d w) d p) (hw : ∀ r, r < d → w' r = w r) (hwd : w' d = v + 1)
    (hk : ∀ a, 8 ≤ a → ns_ing R C a → ∃ q, ns_cons R C S (ns_gd C g R w') a q) :
    ns_inv (ns_sol R C S g) (f + 1) (if f = 0 then ns_gd C g R w' else A) (if f = 0 then B else ns_gd C g R w') (ns_YR C d w') ∧
    (∀ r, r < d → ns_ch R C S g w' r) ∧ t + 1 + ns_Ps R C S w' (d + 1) ≤ 130 ^ 8 := by
  obtain ⟨h1, h2, h3, h4, h5⟩ := h
  have chd : ∀ r, r < R → ns_ch R C S g w' r := by
    intro r hr
    by_cases e : r = d
    · subst e; exact ns_ch_new h1 hR hC hv2 hp hc hwd
    · exact ns_ch_old (h4 r (by omega)) (hw r (by omega))
  have sD := ns_gd_sol hR hC hg chd hk
  have rmD : ∀ r, r < R → ns_rm C (ns_gd C g R w') r (w' r - 1) := fun r hr => ns_gd_rm hC hr
  have k : ∀ Z, ns_sol R C S g Z → ns_YR C d w Z → Z = ns_gd C g R w' ∨ ns_YR C d w' Z := by
    rintro Z hZ ⟨j, hj, hr, u, hu, hu2, hm⟩
    by_cases e : j = d
    · subst e
      by_cases l : u < v
      · exact absurd hm (hn u hu l Z hZ hr)
      · by_cases l' : u = v
        · subst l'
          refine Or.inl (ns_full_le sD.2.1 hZ.1 (ns_gd_le hZ.2.2.1 (fun r hrR => ?_)) sD.1)
          by_cases er : r = j
          · subst er; rw [hwd]; exact hm
          · rw [hw r (by omega)]; exact hr r (by omega)
        · exact Or.inr ⟨j, Nat.le_refl j, fun r hrj => by rw [hw r hrj]; exact hr r hrj, u, by omega, hu2, hm⟩
    · exact Or.inr ⟨j, hj, fun r hrj => by rw [hw r (by omega)]; exact hr r hrj, u, by rw [hw j (by omega)]; exact hu, hu2, hm⟩
  have o : ∀ Z, ns_sol R C S g Z → ns_YR C d w' Z → ns_lt (ns_gd C g R w') Z := by
    rintro Z hZ ⟨j, hj, hr, u, hu, hu2, hm⟩
    have c := chd j (by omega)
    exact ns_rm_lt (u := fun r => w' r - 1) sD.1 hZ.1 hC (by have := c.1; have := c.2.1; omega) hu2 (fun r hrj => rmD r (by omega)) hr (rmD j (by omega)) hm (by have := c.1; omega)
  have rD : ns_YR C d w (ns_gd C g R w') := by
    refine ⟨d, Nat.le_refl d, fun r hrd => by rw [← hw r hrd]; exact rmD r (by omega), v, hv, hv2, ?_⟩
    have := rmD d (by omega)
    rw [hwd] at this; exact this
  refine ⟨?_, fun r hr => chd r (by omega), ?_⟩
  · by_cases e : f = 0
    · subst e; rw [if_pos rfl, if_pos rfl]; exact ns_inv_A h3 sD k o
    · have e1 : f = 1 := by omega
      subst e1
      rw [if_neg (by omega), if_neg (by omega)]; exact ns_inv_B h3 sD rD k o
  · have := ns_Ps_last (R := R) hv hv2 hp hc.1 hw hwd
    omega
end
