/-! ===== digest, as a call ===== -/
theorem q_digest {s m : ba_St} (h : RR s m) : ∃ v s' m', xb_digest s = some (v, s') ∧ xm_digest m = some (v, m') ∧ RR s' m' := by
  obtain ⟨s1, m1, v1, c1, c1', R1⟩ := dg_count h
  obtain ⟨m2, v2, N, np, ne, ns, pc, c2, c2', R2⟩ := dg_texts R1 v1
  obtain ⟨s3, m3, a1, a2, a3, a4, R3, -⟩ := R2.tl2
  obtain ⟨v3, c3, c3'⟩ := dg_sees a1 a2 a4 v2
  obtain ⟨v4, c4, c4'⟩ := dg_cups a2 a4 (fun c hc => (R3.2.1.2.1.2 c hc).1) v3
  obtain ⟨v5, s5, m5, c5, c5', R5⟩ := dg_pins R3 v4
  obtain ⟨v6, s6, m6, c6, c6', R6⟩ := dg_balls R5 v5
  obtain ⟨s7, m7, b1, b2, b3, b4, R7, -⟩ := R6.tl2
  obtain ⟨v7, c7, c7'⟩ := dg_sums b1 b2 b4 v6
  have h7 : s7.1 3 7 = nI N := R7.2.1.1.2.2.2.1
  obtain ⟨v8, d8, d8'⟩ := rd_late b4 h7
  have c8 : xb_late s7 = some (v8, s7) := by unfold xb_late; rw [b2, pz_bnd, d8]; rfl
  obtain ⟨v9, d9, d9'⟩ := rd_best b4 h7
  have c9 : xb_best s7 = some (v9, s7) := by unfold xb_best; rw [b2, pz_bnd, d9]; rfl
  obtain ⟨va, ca, ca'⟩ := p_jam b4 b2 (w := 0) (by omega)
  obtain ⟨vb, cb, cb'⟩ := p_jam b4 b2 (w := 1) (by omega)
  obtain ⟨vc, sc, mc, cc, cc', Rc⟩ := k_spare R7 (a := pn) (Or.inl rfl)
  obtain ⟨vd, sd, md, cd, cd', Rd⟩ := k_spare Rc (a := nI 0) (Or.inr (Or.inl rfl))
  obtain ⟨ve, se, me, ce, ce', Re⟩ := k_never Rd
  obtain ⟨vf, sf, mf, cf, cf', Rf⟩ := k_sundays Re 7 (n := 9) (w := 0) (by omega) (by omega)
  obtain ⟨vg, sg, mg, cg, cg', Rg⟩ := k_sundays Rf 7 (n := 9) (w := 1) (by omega) (by omega)
  have ja : xb_jam s7 0 = some (va, s7) := ca
  have jb : xb_jam s7 1 = some (vb, s7) := cb
  have ja' : xm_jamBy m7 0 = some va := ca'
  have jb' : xm_jamBy m7 1 = some vb := cb'
  have jc : xb_spare s7 (-1) = some (vc, sc) := cc
  have jd : xb_spare sc 0 = some (vd, sd) := cd
  have jc' : xm_spareBy m7 (-1) = some (vc, mc) := cc'
  have jd' : xm_spareBy mc 0 = some (vd, md) := cd'
  have jf : xb_sundays se 7 9 0 = some (vf, sf) := cf
  have jg : xb_sundays sf 7 9 1 = some (vg, sg) := cg
  have jf' : xm_sundaysOf me 7 9 0 = some (vf, mf) := cf'
  have jg' : xm_sundaysOf mf 7 9 1 = some (vg, mg) := cg'
  refine ⟨31 * (31 * (31 * (31 * (31 * (31 * (31 * (31 * (31 * v7 + v8.toInt64) + v9.toInt64) + va.toInt64) + vb.toInt64) + vc.toInt64) + vd.toInt64) + ve.toInt64) + vf.toInt64) + vg.toInt64, sg, mg, ?_, ?_, Rg.1⟩
  · unfold xb_digest
    rw [c1, pz_bnd]
    dsimp only
    rw [c2, pz_bnd, c3, pz_bnd]
    dsimp only
    rw [c4, pz_bnd]
    dsimp only
    rw [c5, pz_bnd]
    dsimp only
    rw [c6, pz_bnd]
    dsimp only
    rw [c7, pz_bnd]
    dsimp only
    rw [c8, pz_bn2, pz_lt, c9, pz_bn2, pz_lt, ja, pz_bn2, pz_lt, jb, pz_bn2, pz_lt, jc, pz_bn2, pz_lt, jd, pz_bn2, pz_lt, ce, pz_bn2, pz_lt, jf, pz_bn2, pz_lt, jg, pz_bn2]
  · unfold xm_digest
    rw [c1', pz_bnd]
    dsimp only
    rw [c2', pz_bnd]
    dsimp only
    rw [a3, pz_bnd, c3', pz_bnd, c4', pz_bnd, c5', pz_bnd]
    dsimp only
    rw [c6', pz_bnd]
    dsimp only
    rw [b3, pz_bnd, c7', pz_bnd, d8', pz_bnd, pz_lt, d9', pz_bnd, pz_lt, ja', pz_bnd, pz_lt, jb', pz_bnd, pz_lt, jc', pz_bn2, pz_lt, jd', pz_bn2, pz_lt, ce', pz_bn2, pz_lt, jf', pz_bn2, pz_lt, jg', pz_bn2]
