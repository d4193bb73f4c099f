/-! Y: rows -/
section
variable {R C : Nat} {st sv am om : Int32} {cl cn gv kn ce so cd : Nat → Int32}
theorem yw_rev_loop {post : Int32 → Prop} {v : Nat} (hC : C ≤ 8) (hv : v < 256) (hp : ∀ p, ns_vp C v p → post (nI p)) :
    ∀ n c x, c ≤ C → C < n + c → ns_rv C v c x → wY_rev_4 post (nI v) (nI R) (nI C) st sv am om cl cn gv kn ce so cd n x (nI c) := by
  intro n
  induction n with
  | zero => intro c x h1 h2; omega
  | succ n ih =>
    intro c x h1 h2 hr
    by_cases h : c = C
    · refine br_t (nI_le (by omega) (by omega)) ?_
      obtain ⟨p, hv', e⟩ := ns_rv_end hC (by rw [h] at hr; exact hr)
      rw [e]; exact hp p hv'
    · refine br_f (nI_ge (by omega) (by omega)) ?_
      rw [ns_c1c (by omega)]
      cases hb : v.testBit (C - 1 - c) with
      | true => exact br_t (ns_tb_t hv (by omega) hb) (nm_e (nm_r (nI_1 c) (ih (c + 1) _ (by omega) (by omega) (ns_rv_t (by omega) hr hb))))
      | false => exact br_f (ns_tb_f hv (by omega) hb) (nm_r (nI_1 c) (ih (c + 1) x (by omega) (by omega) (ns_rv_f hr (by rw [hb]; decide))))
theorem yw_rev {post : Int32 → Prop} {v : Nat} (hC : C ≤ 8) (hv : v < 256) (hp : ∀ p, ns_vp C v p → post (nI p)) : wpY_rev post ((nI R), (nI C), st, sv, am, om, cl, cn, gv, kn, ce, so, cd) (nI v) :=
  ⟨C + 1, yw_rev_loop hC hv hp (C + 1) 0 0 (by omega) (by omega) ns_rv_0⟩
theorem yw_wr_loop {post : SY → Prop} {d p : Nat} (hC : C ≤ 8) (hd : d < 8) (hp256 : p < 256) (hp : ∀ ce', ns_cq (fun q => if p.testBit q = true then 2 else 1) ce ce' (d * 8) C → post ((nI R), (nI C), st, sv, am, om, cl, cn, gv, kn, ce', so, cd)) :
    ∀ n c ce', c ≤ C → C < n + c → ns_cq (fun q => if p.testBit q = true then 2 else 1) ce ce' (d * 8) c → wY_writeRow_2 post (nI d) (nI p) (nI R) (nI C) st sv am om n (nI c) cl cn gv kn ce' so cd := by
  intro n
  induction n with
  | zero => intro c x h1 h2; omega
  | succ n ih =>
    intro c ce' h1 h2 hr
    by_cases h : c = C
    · exact br_t (nI_le (by omega) (by omega)) (hp ce' (by rw [h] at hr; exact hr))
    · refine br_f (nI_ge (by omega) (by omega)) ?_
      cases hb : p.testBit c with
      | true => exact br_t (ns_tb_t hp256 (by omega) hb) ⟨pk_in (d * 8 + c) 64 (by omega) (ns_i8 d c), nm_r (by rw [ns_i8, nI_clamp (by omega)]) (nm_r (nI_1 c) (ih (c + 1) _ (by omega) (by omega) (ns_cq_s hr (by simp [hb]))))⟩
      | false => exact br_f (ns_tb_f hp256 (by omega) hb) ⟨pk_in (d * 8 + c) 64 (by omega) (ns_i8 d c), nm_r (by rw [ns_i8, nI_clamp (by omega)]) (nm_r (nI_1 c) (ih (c + 1) _ (by omega) (by omega) (ns_cq_s hr (by simp [hb]))))⟩
theorem yw_wr {post : SY → Prop} {d p : Nat} (hC : C ≤ 8) (hd : d < 8) (hp256 : p < 256) (hp : ∀ ce', ns_cq (fun q => if p.testBit q = true then 2 else 1) ce ce' (d * 8) C → post ((nI R), (nI C), st, sv, am, om, cl, cn, gv, kn, ce', so, cd)) : wpY_writeRow post ((nI R), (nI C), st, sv, am, om, cl, cn, gv, kn, ce, so, cd) (nI d) (nI p) :=
  ⟨C + 1, yw_wr_loop hC hd hp256 hp (C + 1) 0 ce (by omega) (by omega) ns_cq_0⟩
theorem yw_rs_loop {post : SY → Prop} {d : Nat} (hC : C ≤ 8) (hd : d < 8) (hp : ∀ ce', ns_cq (fun q => gv (d * 8 + q)) ce ce' (d * 8) C → post ((nI R), (nI C), st, sv, am, om, cl, cn, gv, kn, ce', so, cd)) :
    ∀ n c ce', c ≤ C → C < n + c → ns_cq (fun q => gv (d * 8 + q)) ce ce' (d * 8) c → wY_restoreRow_2 post (nI d) (nI R) (nI C) st sv am om n (nI c) cl cn gv kn ce' so cd := by
  intro n
  induction n with
  | zero => intro c x h1 h2; omega
  | succ n ih =>
    intro c ce' h1 h2 hr
    by_cases h : c = C
    · exact br_t (nI_le (by omega) (by omega)) (hp ce' (by rw [h] at hr; exact hr))
    · refine br_f (nI_ge (by omega) (by omega)) ⟨pk_in (d * 8 + c) 64 (by omega) (ns_i8 d c), pk_in (d * 8 + c) 64 (by omega) (ns_i8 d c), nm_r (by rw [ns_i8, nI_clamp (by omega)]) (nm_r (nI_1 c) ?_)⟩
      exact ih (c + 1) _ (by omega) (by omega) (ns_cq_s hr rfl)
theorem yw_rs {post : SY → Prop} {d : Nat} (hC : C ≤ 8) (hd : d < 8) (hp : ∀ ce', ns_cq (fun q => gv (d * 8 + q)) ce ce' (d * 8) C → post ((nI R), (nI C), st, sv, am, om, cl, cn, gv, kn, ce', so, cd)) : wpY_restoreRow post ((nI R), (nI C), st, sv, am, om, cl, cn, gv, kn, ce, so, cd) (nI d) :=
  ⟨C + 1, yw_rs_loop hC hd hp (C + 1) 0 ce (by omega) (by omega) ns_cq_0⟩
end
