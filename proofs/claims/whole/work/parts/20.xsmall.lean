/-! X: lines, clue, fillings -/
section
variable {R C : Nat} {st sv pl : Int32} {cn cl gv kn so fc fl ce bc bg : Nat → Int32}
theorem xw_len {post : Int32 → Prop} {a : Nat} (ha : a < 16) (hp : post (nI (ns_len R C a))) : wpX_lineLength post ((nI R), (nI C), st, sv, pl, cn, cl, gv, kn, so, fc, fl, ce, bc, bg) (nI a) := by
  by_cases h : a < 8
  · simp only [ns_len, h, if_true] at hp
    exact br_f (ns_nge8 h) hp
  · simp only [ns_len, h, if_false] at hp
    exact br_t (ns_ge8 (by omega) (by omega)) hp
theorem xw_ing {post : Int32 → Prop} {a : Nat} (hR : R ≤ 8) (hC : C ≤ 8) (ha : a < 16) (h1 : ns_ing R C a → post 1) (h0 : ¬ ns_ing R C a → post 0) : wpX_isInGrid post ((nI R), (nI C), st, sv, pl, cn, cl, gv, kn, so, fc, fl, ce, bc, bg) (nI a) := by
  by_cases h : a < 8
  · refine br_f (ns_nge8 h) ?_
    by_cases k : a < R
    · exact br_f (nI_ge k (by omega)) (h1 ⟨ha, fun _ => k, fun z => by omega⟩)
    · exact br_t (nI_le (by omega) (by omega)) (h0 (fun z => k (z.2.1 h)))
  · refine br_t (ns_ge8 (by omega) (by omega)) ?_
    by_cases k : a - 8 < C
    · exact br_f (by rw [ns_m8 (by omega)]; exact nI_ge k (by omega)) (h1 ⟨ha, fun z => by omega, fun _ => by omega⟩)
    · exact br_t (by rw [ns_m8 (by omega)]; exact nI_le (by omega) (by omega)) (h0 (fun z => k (by have := z.2.2 (by omega); omega)))
theorem xw_lc {post : Int32 → Prop} {a i : Nat} (ha : a < 16) (hi : i < 8) (hp : post (nI (ns_lc a i))) : wpX_lineCell post (nI a) (nI i) := by
  by_cases h : a < 8
  · rw [ns_lc_row h, ← ns_i8] at hp
    exact br_f (ns_nge8 h) hp
  · rw [ns_lc_col (by omega)] at hp
    have e : nI i * 8 + nI a - 8 = nI (i * 8 + (a - 8)) := by
      rw [ns_i8]
      show nI (i * 8 + a) - nI 8 = _
      rw [pk_sub (by omega)]; congr 1; omega
    rw [← e] at hp
    exact br_t (ns_ge8 (by omega) (by omega)) hp
theorem xw_xl {post : Int32 → Prop} {a i : Nat} (ha : a < 16) (hp : post (nI (ns_xl a i))) : wpX_crossingLine post (nI a) (nI i) := by
  by_cases h : a < 8
  · simp only [ns_xl, h, if_true] at hp
    rw [← ns_8p] at hp
    exact br_f (ns_nge8 h) hp
  · simp only [ns_xl, h, if_false] at hp
    exact br_t (ns_ge8 (by omega) (by omega)) hp
theorem xw_sum_loop {post : Int32 → Prop} {a c : Nat} (ha : a < 16) (hcn : cn a = nI c) (hc : c ≤ 4) (hp : post (ns_sm (fun k => cl (a * 4 + k)) c)) :
    ∀ n i, i ≤ c → c < n + i → wX_clueSum_4 post (nI a) (nI R) (nI C) st sv pl cn cl gv kn so fc fl ce bc bg n (ns_sm (fun k => cl (a * 4 + k)) i) (nI i) := by
  intro n
  induction n with
  | zero => intro i h1 h2; omega
  | succ n ih =>
    intro i h1 h2
    have ina : vp_in (nI a) 16 := vp_in_nI ha (by omega)
    have cla : cn (nI a).toNatClampNeg = nI c := by rw [nI_clamp (by omega)]; exact hcn
    refine ⟨ina, ?_⟩
    rw [cla]
    by_cases h : i = c
    · subst h; exact br_t (nI_le (Nat.le_refl _) (by omega)) hp
    · refine br_f (nI_ge (by omega) (by omega)) ⟨pk_in (a * 4 + i) 64 (by omega) (ns_i4 a i), ?_⟩
      have rd : cl (nI a * 4 + nI i).toNatClampNeg = cl (a * 4 + i) := by rw [ns_i4, nI_clamp (by omega)]
      rw [rd]
      exact nm_e (nm_r (nI_1 i) (ih (i + 1) (by omega) (by omega)))
theorem xw_sum {post : Int32 → Prop} {a c : Nat} (ha : a < 16) (hcn : cn a = nI c) (hc : c ≤ 4) (hp : post (ns_sm (fun k => cl (a * 4 + k)) c)) : wpX_clueSum post ((nI R), (nI C), st, sv, pl, cn, cl, gv, kn, so, fc, fl, ce, bc, bg) (nI a) :=
  ⟨c + 1, xw_sum_loop ha hcn hc hp (c + 1) 0 (by omega) (by omega)⟩
theorem xw_sat_loop {post : Int32 → Prop} {a p c : Nat} (ha : a < 16) (hp : p < 256) (hcn : cn a = nI c) (hc : c ≤ 4)
    (h1 : ns_au c (fun k => cl (a * 4 + k)) (fun i => p.testBit i) 9 = some (c, 0) → post 1) (h0 : ns_au c (fun k => cl (a * 4 + k)) (fun i => p.testBit i) 9 ≠ some (c, 0) → post 0) :
    ∀ n i k r, i ≤ 9 → 9 < n + i → ns_au c (fun k => cl (a * 4 + k)) (fun i => p.testBit i) i = some (k, r) → wX_satisfiesClue_8 post (nI a) (nI p) (nI R) (nI C) st sv pl cn cl gv kn so fc fl ce bc bg n (nI k) (nI r) (nI i) := by
  intro n
  induction n with
  | zero => intro i k r hi hn; omega
  | succ n ih =>
    intro i k r hi hn e
    have le := ns_au_le _ _ _ e
    have ina : vp_in (nI a) 16 := vp_in_nI ha (by omega)
    have cla : cn (nI a).toNatClampNeg = nI c := by rw [nI_clamp (by omega)]; exact hcn
    by_cases h9 : i = 9
    · subst h9
      have r0 : r = 0 := ns_end (n := 8) (ns_off (n := 8) (by omega) 8 (by omega)) e
      subst r0
      refine br_t (nI_lt (a := 8) (b := 9) (by omega) (by omega)) ⟨ina, ?_⟩
      rw [cla]
      by_cases hk : k = c
      · subst hk; exact br_t rfl (h1 e)
      · exact br_f (fun z => hk ((nI_eq (by omega) (by omega)).mp z)) (h0 (by rw [e]; intro z; cases z; exact hk rfl))
    · refine br_f (nI_nlt (a := 8) (by omega) (by omega)) ?_
      cases hb : p.testBit i with
      | true => exact br_t (ns_tb_t hp (by omega) hb) (nm_r (nI_1 r) (nm_r (nI_1 i) (ih (i + 1) k (r + 1) (by omega) (by omega) (ns_au_t e hb))))
      | false =>
        refine br_f (ns_tb_f hp (by omega) hb) ?_
        by_cases hr : r = 0
        · subst hr; exact br_t (by decide) (nm_r (nI_1 i) (ih (i + 1) k 0 (by omega) (by omega) (ns_au_z e hb)))
        · refine br_f (nI_nle (by omega) (by omega)) ⟨ina, ?_⟩
          rw [cla]
          have none_of : ¬ (k < c ∧ cl (a * 4 + k) = nI r) → post 0 := fun z => h0 (by rw [show 9 = i + 1 + (8 - i) by omega, ns_au_n (ns_au_x e hb hr z)]; exact nofun)
          by_cases hk : k < c
          · refine br_f (nI_ge hk (by omega)) ⟨pk_in (a * 4 + k) 64 (by omega) (ns_i4 a k), ?_⟩
            have rd : cl (nI a * 4 + nI k).toNatClampNeg = cl (a * 4 + k) := by rw [ns_i4, nI_clamp (by omega)]
            rw [rd]
            by_cases hq : cl (a * 4 + k) = nI r
            · exact br_t hq (nm_r (nI_1 k) (nm_r (nI_1 i) (ih (i + 1) (k + 1) 0 (by omega) (by omega) (ns_au_e e hb hr ⟨hk, hq⟩))))
            · exact br_f hq (none_of (fun z => hq z.2))
          · exact br_t (nI_le (by omega) (by omega)) (none_of (fun z => hk z.1))
theorem xw_sat {post : Int32 → Prop} {a p : Nat} (hR : R ≤ 8) (hC : C ≤ 8) (ha : a < 16) (hcn : ns_cnt R C cn) (hp : p < 2 ^ ns_len R C a)
    (h1 : ns_S R C (ns_cc cn) cl a p → post 1) (h0 : ¬ ns_S R C (ns_cc cn) cl a p → post 0) : wpX_satisfiesClue post ((nI R), (nI C), st, sv, pl, cn, cl, gv, kn, so, fc, fl, ce, bc, bg) (nI a) (nI p) := by
  obtain ⟨c4, ce', _⟩ := hcn a ha
  have hl := ns_len_le hR hC (a := a)
  have p256 : p < 256 := Nat.lt_of_lt_of_le hp (ns_pw_le hl)
  have iff9 := ns_sat9 (c := ns_cc cn a) (cl := fun k => cl (a * 4 + k)) hl (ns_off hp)
  exact ⟨10, xw_sat_loop ha p256 ce' c4 (fun z => h1 ⟨hp, iff9.mpr z⟩) (fun z => h0 (fun y => z (iff9.mp y.2))) 10 0 0 0 (by omega) (by omega) rfl⟩
theorem xw_list_loop {post : SX → Prop} {a : Nat} (hR : R ≤ 8) (hC : C ≤ 8) (ha : a < 16) (hcn : ns_cnt R C cn)
    (hp : ∀ fl' m, ns_lst (ns_S R C (ns_cc cn) cl) fl' a m → (∀ j, (∀ q, q < 256 → j ≠ a * 256 + q) → fl' j = fl j) → post ((nI R), (nI C), st, sv, pl, cn, cl, gv, kn, so, (upd fc a (nI m)), fl', ce, bc, bg)) :
    ∀ n m k fl', m ≤ 2 ^ ns_len R C a → 2 ^ ns_len R C a < n + m → ns_lsm (ns_S R C (ns_cc cn) cl) fl' a k m → (∀ j, (∀ q, q < 256 → j ≠ a * 256 + q) → fl' j = fl j) →
      wX_listFillings_13 post (nI a) (nI (2 ^ ns_len R C a)) (nI R) (nI C) st sv pl n (nI k) (nI m) cn cl gv kn so fc fl' ce bc bg := by
  have hl := ns_len_le hR hC (a := a)
  have pw := ns_pw_le hl
  intro n
  induction n with
  | zero => intro m k fl' h1 h2; omega
  | succ n ih =>
    intro m k fl' h1 h2 hl' hk
    have ina : vp_in (nI a) 16 := vp_in_nI ha (by omega)
    have km := hl'.1
    by_cases hm : m = 2 ^ ns_len R C a
    · refine br_t (by rw [hm]; exact nI_le (Nat.le_refl _) (by omega)) ⟨ina, nm_r (by rw [nI_clamp (by omega)]) ?_⟩
      exact hp fl' k (ns_lsm_end hl' (by omega) (fun p hs => by rw [hm]; exact hs.1)) hk
    · refine br_f (nI_ge (by omega) (by omega)) ?_
      refine xw_sat hR hC ha hcn (by omega) (fun hs => ?_) (fun hs => ?_)
      · refine br_f (by decide) ⟨pk_in (a * 256 + k) 4096 (by omega) (ns_i256 a k), nm_r (by rw [ns_i256, nI_clamp (by omega)]) (nm_r (nI_1 k) (nm_r (nI_1 m) ?_))⟩
        refine ih (m + 1) (k + 1) _ (by omega) (by omega) (ns_lsm_t hl' hs) (fun j hj => ?_)
        rw [ns_upd_n (hj k (by omega))]; exact hk j hj
      · exact br_t (by decide) (nm_r (nI_1 m) (ih (m + 1) k fl' (by omega) (by omega) (ns_lsm_f hl' hs) hk))
theorem xw_list {post : SX → Prop} {a : Nat} (hR : R ≤ 8) (hC : C ≤ 8) (ha : a < 16) (hcn : ns_cnt R C cn)
    (hp : ∀ fl' m, ns_lst (ns_S R C (ns_cc cn) cl) fl' a m → (∀ j, (∀ q, q < 256 → j ≠ a * 256 + q) → fl' j = fl j) → post ((nI R), (nI C), st, sv, pl, cn, cl, gv, kn, so, (upd fc a (nI m)), fl', ce, bc, bg)) : wpX_listFillings post ((nI R), (nI C), st, sv, pl, cn, cl, gv, kn, so, fc, fl, ce, bc, bg) (nI a) := by
  unfold wpX_listFillings
  dsimp only
  refine xw_len ha ?_
  have hl := ns_len_le hR hC (a := a)
  refine nm_r (ns_pw hl) ⟨2 ^ ns_len R C a + 1, ?_⟩
  exact xw_list_loop hR hC ha hcn hp _ 0 0 fl (Nat.zero_le _) (by omega) ns_lsm_0 (fun _ _ => rfl)
end
