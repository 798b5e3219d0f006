/-! ===== digest ===== -/
theorem RK.tl2 {s m : ba_St} {N np ne ns : Nat} {pc : Nat → Nat} (h : RK s m N np ne ns pc) : ∃ s' m', xb_runTold s = some s' ∧ xb_runTold s' = some s' ∧ xm_lives m = some m' ∧ res 31 s' m' N ∧ RK s' m' N np ne ns pc ∧ RK s m' N np ne ns pc := by
  obtain ⟨s', m', e1, e2, e3, e4, e5⟩ := h.tl
  obtain ⟨s'', m'', d1, d2, d3, d4, d5, d6, d7⟩ := told h.2.1 h.1.cK.1
  rw [e3] at d2
  have em : m' = m'' := Option.some.inj d2
  rw [← em] at d7
  exact ⟨s', m', e1, e2, e3, e4, e5, h.tr (fun _ _ _ => rfl) d7.fr⟩
theorem RR.pars {s m : ba_St} (h : RR s m) : ∃ m1 m2 m3 N np ne ns pc, xm_readsPins m = some (s.1 2 0, m1) ∧ xm_readsCups m1 = some (s.1 2 1, m2) ∧ xm_readsBalls m2 = some (s.1 2 2, m3) ∧ RK s m3 N np ne ns pc := by
  have h' := h
  obtain ⟨n0, n1, n2, B0, B1, B2, ne, ns, H, k⟩ := h'
  obtain ⟨m1, m2, m3, e1, e2, e3, F3, F1, F2, K, P⟩ := parsed H
  have F : fr wQ m m3 := F3.mono (fun p j w => by unfold wPa at w; unfold wQ; omega)
  have H3 := H.mv (fr.rf wRun s) F K.2.2.2.2.2.2.1
  exact ⟨m1, m2, m3, _, _, ne, ns, _, e1, e2, e3, h.rd F3, K, H3.2.2.2.1⟩
theorem dg_count {s m : ba_St} (h : RR s m) : ∃ s' m' v, ba_fix xb_digest_l6 1000 (s, 17, 0) = some (s', v) ∧ ba_fix xm_digest_l6 1000 (m, 17, 0) = some (m', v) ∧ RR s' m' := by
  obtain ⟨o, u, ⟨s', m', v, rfl, rfl, R⟩, d1, d2⟩ := pf_two (F := xb_digest_l6) (E := xm_digest_l6) (fun i a b => ∃ sa mb v, a = (sa, v, nI i) ∧ b = (mb, v, nI i) ∧ RR sa mb) (fun o u => ∃ sa mb v, o = (sa, v) ∧ u = (mb, v) ∧ RR sa mb) 8
    (fun i a b hi hI => by
      obtain ⟨sa, mb, v, rfl, rfl, R⟩ := hI
      obtain ⟨w, s2, m2, e1, e2, R2⟩ := q_count R (nI i)
      have l : ¬ (8 : Int32) ≤ nI i := by rw [pz_lit 8, pz_le (by omega) (by omega)]; omega
      exact ⟨_, _, ⟨s2, m2, 31 * v + w.toInt64, rfl, rfl, R2⟩, fun K => by unfold xb_digest_l6; simp only [l, if_false, e1, pz_bn2, pz_lt, pz_succ], fun K => by unfold xm_digest_l6; simp only [l, if_false, e2, pz_bn2, pz_lt, pz_succ]⟩)
    (fun a b hI => by
      obtain ⟨sa, mb, v, rfl, rfl, R⟩ := hI
      have l : (8 : Int32) ≤ nI 8 := by decide
      exact ⟨_, _, ⟨sa, mb, v, rfl, rfl, R⟩, fun K => by unfold xb_digest_l6; simp only [l, if_true], fun K => by unfold xm_digest_l6; simp only [l, if_true]⟩) 1000 1000 0 (s, 17, 0) (m, 17, 0) (by omega) (by omega) (by omega) ⟨s, m, 17, rfl, rfl, h⟩
  exact ⟨s', m', v, d1, d2, R⟩
theorem n3l : ∀ i, i < 3 → ¬ (3 : Int32) ≤ nI i := by decide
theorem n3e : (3 : Int32) ≤ nI 3 := by decide
theorem dg_texts {s m : ba_St} (h : RR s m) (v : Int64) : ∃ m' w N np ne ns pc, ba_fix (xb_digest_l33 s) 1000 (v, 0) = some w ∧ ba_fix xm_digest_l33 1000 (m, v, 0) = some (m', w) ∧ RK s m' N np ne ns pc := by
  obtain ⟨m1, m2, m3, N, np, ne, ns, pc, e1, e2, e3, R⟩ := h.pars
  have t0 : xm_readsText m (nI 0) = some (s.1 2 0, m1) := by unfold xm_readsText; simp only [n0e0, if_true, e1, pz_bn2]
  have t1 : xm_readsText m1 (nI 1) = some (s.1 2 1, m2) := by unfold xm_readsText; simp only [n1e0, n1e1, if_true, if_false, e2, pz_bn2]
  have t2 : xm_readsText m2 (nI 2) = some (s.1 2 2, m3) := by unfold xm_readsText; simp only [n2e0, n2e1, if_false, e3, pz_bn2]
  refine ⟨m3, 31 * (31 * (31 * v + (s.1 2 0).toInt64) + (s.1 2 1).toInt64) + (s.1 2 2).toInt64, N, np, ne, ns, pc, ?_, ?_, R⟩
  · have st : ∀ (K : (Int64 × Int32) → Option Int64) (v : Int64) (i : Nat), i < 3 → xb_digest_l33 s K (v, nI i) = K (31 * v + (s.1 2 i).toInt64, nI (i + 1)) := fun K v i hi => by
      unfold xb_digest_l33; simp only [n3l i hi, if_false, pb_fault s hi, pz_bnd, pz_lt, pz_succ]
    have en : ∀ (K : (Int64 × Int32) → Option Int64) (v : Int64), xb_digest_l33 s K (v, nI 3) = some v := fun K v => by unfold xb_digest_l33; simp only [n3e, if_true]
    show ba_fix (xb_digest_l33 s) (996 + 1 + 1 + 1 + 1) (v, nI 0) = _
    rw [pz_fix, st _ _ 0 (by omega), pz_fix, st _ _ 1 (by omega), pz_fix, st _ _ 2 (by omega), pz_fix, en]
  · have st : ∀ (K : (ba_St × Int64 × Int32) → Option (ba_St × Int64)) (mb mc : ba_St) (v : Int64) (w : Int32) (i : Nat), i < 3 → xm_readsText mb (nI i) = some (w, mc) → xm_digest_l33 K (mb, v, nI i) = K (mc, 31 * v + w.toInt64, nI (i + 1)) := fun K mb mc v w i hi e => by
      unfold xm_digest_l33; simp only [n3l i hi, if_false, e, pz_bn2, pz_lt, pz_succ]
    have en : ∀ (K : (ba_St × Int64 × Int32) → Option (ba_St × Int64)) (mb : ba_St) (v : Int64), xm_digest_l33 K (mb, v, nI 3) = some (mb, v) := fun K mb v => by unfold xm_digest_l33; simp only [n3e, if_true]
    show ba_fix xm_digest_l33 (996 + 1 + 1 + 1 + 1) (m, v, nI 0) = _
    rw [pz_fix, st _ _ _ _ _ 0 (by omega) t0, pz_fix, st _ _ _ _ _ 1 (by omega) t1, pz_fix, st _ _ _ _ _ 2 (by omega) t2, pz_fix, en]
theorem dg_sees {s s' m : ba_St} {N : Nat} (e1 : xb_runTold s = some s') (e2 : xb_runTold s' = some s') (h : res 31 s' m N) (v : Int64) : ∃ w, ba_fix xb_digest_l59 1000 (s, v, 0) = some (s', w) ∧ ba_fix (xm_digest_l63 m) 1000 (v, 0) = some w := by
  obtain ⟨o, u, ⟨w, rfl, rfl⟩, d1, d2⟩ := pf_two (F := xb_digest_l59) (E := xm_digest_l63 m) (fun i a b => ∃ sa v, a = (sa, v, nI i) ∧ b = (v, nI i) ∧ xb_runTold sa = some s' ∧ (0 < i → sa = s')) (fun o u => ∃ v, o = (s', v) ∧ u = v) 72
    (fun i a b hi hI => by
      obtain ⟨sa, v, rfl, rfl, I1, -⟩ := hI
      have l : ¬ (72 : Int32) ≤ nI i := by rw [pz_lit 72, pz_le (by omega) (by omega)]; omega
      have q1 : nI i / 9 = nI (i / 9) := by rw [pz_lit 9, pz_div (by omega) (by omega) (by omega)]
      have q2 : ba_irm (nI i) 9 = nI (i % 9) := by rw [pz_lit 9, pz_rem (by omega) (by omega) (by omega)]
      obtain ⟨w, w1, w2, -⟩ := rd_sees h (t := 9) (r := i / 9) (c := i % 9) (by omega) (by omega) (by omega)
      have w1' : xc_ballIn s' 31 9 (nI (i / 9) * 9 + nI (i % 9)) = some w := by rw [show nI (i / 9) * 9 + nI (i % 9) = nI (i / 9 * 9 + i % 9) by rw [pz_lit 9, pk_mul, nI_add]]; exact w1
      have w2' : xm_seesBy m 9 (nI (i / 9)) (nI (i % 9)) = some w := w2
      have b1 : xb_within 9 24 = some 1 := w_n (k := 9) (n := 24) (by omega) (by decide)
      have b2 : xb_within (nI (i / 9)) 8 = some 1 := w_n (n := 8) (by omega) (by decide)
      have b3 : xb_within (nI (i % 9)) 9 = some 1 := w_n (n := 9) (by omega) (by decide)
      have cs : xb_sees sa 9 (nI (i / 9)) (nI (i % 9)) = some (w, s') := by unfold xb_sees; simp only [b1, b2, b3, pz_bnd, p_10, if_false, I1, w1']
      exact ⟨_, _, ⟨s', 31 * v + w.toInt64, rfl, rfl, e2, fun _ => rfl⟩, fun K => by unfold xb_digest_l59; simp only [l, if_false, q1, q2, cs, pz_bn2, pz_lt, pz_succ], fun K => by unfold xm_digest_l63; simp only [l, if_false, q1, q2, w2', pz_bnd, pz_lt, pz_succ]⟩)
    (fun a b hI => by
      obtain ⟨sa, v, rfl, rfl, -, I2⟩ := hI
      have l : (72 : Int32) ≤ nI 72 := by decide
      rw [I2 (by omega)]
      exact ⟨_, _, ⟨v, rfl, rfl⟩, fun K => by unfold xb_digest_l59; simp only [l, if_true], fun K => by unfold xm_digest_l63; simp only [l, if_true]⟩) 1000 1000 0 (s, v, 0) (v, 0) (by omega) (by omega) (by omega) ⟨s, v, rfl, rfl, e1, fun q => by omega⟩
  exact ⟨u, d1, d2⟩
theorem dg_cups {s' m : ba_St} {N : Nat} (e2 : xb_runTold s' = some s') (h : res 31 s' m N) (h7 : ∀ c, c < 9 → s'.1 7 c = m.1 8 c) (v : Int64) : ∃ w, ba_fix xb_digest_l95 1000 (s', v, 0) = some (s', w) ∧ ba_fix (xm_digest_l99 m) 1000 (v, 0) = some w := by
  have inner : ∀ c, c < 9 → ∀ v, ∃ w, ba_fix (xb_digest_l104 (nI c)) 1000 (s', v, 0) = some (s', w) ∧ ba_fix (xm_digest_l108 m (nI c)) 1000 (v, 0) = some w := fun c hc v => by
    obtain ⟨o, u, ⟨w, rfl, rfl⟩, d1, d2⟩ := pf_two (F := xb_digest_l104 (nI c)) (E := xm_digest_l108 m (nI c)) (fun i a b => ∃ v, a = (s', v, nI i) ∧ b = (v, nI i)) (fun o u => ∃ v, o = (s', v) ∧ u = v) 3
      (fun i a b hi hI => by
        obtain ⟨v, rfl, rfl⟩ := hI
        have q : xb_cup s' (nI c) (nI i) = some (cB m c i, s') := by
          rw [pb_cup h e2 (h7 c hc) hc hi]; split <;> rfl
        exact ⟨_, _, ⟨31 * v + (cB m c i).toInt64, rfl, rfl⟩, fun K => by unfold xb_digest_l104; simp only [n3l i hi, if_false, q, pz_bn2, pz_lt, pz_succ], fun K => by unfold xm_digest_l108; simp only [n3l i hi, if_false, pm_cupBy m hc hi, pz_bnd, pz_lt, pz_succ]⟩)
      (fun a b hI => by
        obtain ⟨v, rfl, rfl⟩ := hI
        exact ⟨_, _, ⟨v, rfl, rfl⟩, fun K => by unfold xb_digest_l104; simp only [n3e, if_true], fun K => by unfold xm_digest_l108; simp only [n3e, if_true]⟩) 1000 1000 0 (s', v, 0) (v, 0) (by omega) (by omega) (by omega) ⟨v, rfl, rfl⟩
    exact ⟨u, d1, d2⟩
  obtain ⟨o, u, ⟨w, rfl, rfl⟩, d1, d2⟩ := pf_two (F := xb_digest_l95) (E := xm_digest_l99 m) (fun i a b => ∃ v, a = (s', v, nI i) ∧ b = (v, nI i)) (fun o u => ∃ v, o = (s', v) ∧ u = v) 9
    (fun i a b hi hI => by
      obtain ⟨v, rfl, rfl⟩ := hI
      obtain ⟨w, c1, c2⟩ := inner i hi v
      have l : ¬ (9 : Int32) ≤ nI i := by rw [pz_lit 9, pz_le (by omega) (by omega)]; omega
      exact ⟨_, _, ⟨w, rfl, rfl⟩, fun K => by unfold xb_digest_l95; simp only [l, if_false, c1, pz_bnd, pz_lt, pz_succ], fun K => by unfold xm_digest_l99; simp only [l, if_false, c2, pz_bnd, pz_lt, pz_succ]⟩)
    (fun a b hI => by
      obtain ⟨v, rfl, rfl⟩ := hI
      have l : (9 : Int32) ≤ nI 9 := by decide
      exact ⟨_, _, ⟨v, rfl, rfl⟩, fun K => by unfold xb_digest_l95; simp only [l, if_true], fun K => by unfold xm_digest_l99; simp only [l, if_true]⟩) 1000 1000 0 (s', v, 0) (v, 0) (by omega) (by omega) (by omega) ⟨v, rfl, rfl⟩
  exact ⟨u, d1, d2⟩
theorem RK.pin {s m : ba_St} {N np ne ns : Nat} {pc : Nat → Nat} (h : RK s m N np ne ns pc) {i w : Nat} (hi : i < np) (hw : w < 3) : xb_pin s (nI i) (nI w) = some (m.1 7 (3 * i + w)) := by
  have wp := h.wp hi
  obtain ⟨R, K, S⟩ := h
  obtain ⟨n0, n1, n2, B0, B1, B2, ne2, ns2, ⟨⟨⟨-, u0⟩, -⟩, ⟨⟨-, b2, b3, b4⟩, -⟩, -⟩, -⟩ := R
  obtain ⟨⟨a1, a2, a3, a4, a5, a6, a7, a8, a9⟩, c2, c3, c4, c5, c6, c7, c8⟩ := K
  have hn0 := u0.2.1
  have hnp : nP B0 n0 ≤ 47 := by unfold nP; split <;> omega
  have enp : nP B0 n0 = np := by rw [a6, pz_eq (by omega) (by omega)] at b2; exact b2.symm
  obtain ⟨p1, p2, p3⟩ := c3 i hi
  have s6 := (c4 (pc i) p1).1 i hi rfl
  have epc : pcel B0 i = pc i := by
    by_cases q : ∀ j, j < nP B0 n0 → pcel B0 j ≠ pc i
    · have := (b4 (pc i) p1).2 q
      rw [s6] at this
      exact (pz_nopn (by omega) this).elim
    · have q' : ∃ j, j < nP B0 n0 ∧ pcel B0 j = pc i := Classical.byContradiction (fun z => q (fun j hj e => z ⟨j, hj, e⟩))
      obtain ⟨j, j1, j2⟩ := q'
      have := (b4 (pc i) p1).1 j j1 j2
      rw [s6, pz_eq (by omega) (by omega)] at this
      subst this; exact j2
  have s4 : s.1 4 i = nI (pc i) := by rw [(b3 i (by omega)).2.1, epc]
  obtain ⟨v, v1, v2, v3⟩ := c5 i hi
  have ii : ba_inb (nI i) 12 = true := pz_inb (by omega) (by omega)
  have xi : ba_ix (nI i) = i := pz_ix (by omega)
  unfold xb_pin
  rw [wp, ii, xi]
  obtain rfl | rfl | rfl : w = 0 ∨ w = 1 ∨ w = 2 := by omega
  · simp only [pz_bnd, p_10, if_false, n0e0, if_true, pz_grt, s4]
    rw [show 3 * i + 0 = 3 * i by omega, p2, pz_lit 9, pz_div (by omega) (by omega) (by omega)]
  · simp only [pz_bnd, p_10, if_false, n1e0, n1e1, if_true, pz_grt, s4]
    rw [p3, pz_lit 9, pz_rem (by omega) (by omega) (by omega)]
  · simp only [pz_bnd, p_10, if_false, n2e0, n2e1, n2e2, if_true, pz_grt, v2, v3]
theorem k_withPin {s m : ba_St} {N np ne ns : Nat} {pc : Nat → Nat} (h : RK s m N np ne ns pc) {k : Nat} (hk : k < np) (v : Int64) : ∃ w s' m', xb_withPin s v (nI k) = some (w, s') ∧ xm_tellsPin m v (nI k) = some (w, m') ∧ RK s' m' N np ne ns pc := by
  have hnp : np ≤ 12 := h.2.1.1.2.1
  obtain ⟨o, u, rfl, d1, d2⟩ := pf_two (F := xb_withPin_l6 s (nI k)) (E := xm_tellsPin_l6 m (nI k)) (fun i a b => ∃ v, a = (v, nI i) ∧ b = (v, nI i)) (fun o u => o = u) 3
    (fun i a b hi hI => by
      obtain ⟨v, rfl, rfl⟩ := hI
      have y1 : 3 * nI k + nI i = nI (3 * k + i) := by rw [pz_lit 3, pk_mul, nI_add]
      have y2 : ba_inb (nI (3 * k + i)) 36 = true := pz_inb (by omega) (by omega)
      have y3 : ba_ix (nI (3 * k + i)) = 3 * k + i := pz_ix (by omega)
      exact ⟨_, _, ⟨31 * v + (m.1 7 (3 * k + i)).toInt64, rfl, rfl⟩, fun K => by unfold xb_withPin_l6; simp only [n3l i hi, if_false, h.pin hk hi, pz_bnd, pz_lt, pz_succ], fun K => by unfold xm_tellsPin_l6; simp only [n3l i hi, if_false, y1, y2, y3, pz_grt, pz_lt, pz_succ]⟩)
    (fun a b hI => by
      obtain ⟨v, rfl, rfl⟩ := hI
      exact ⟨v, v, rfl, fun K => by unfold xb_withPin_l6; simp only [n3e, if_true], fun K => by unfold xm_tellsPin_l6; simp only [n3e, if_true]⟩) 1000 1000 0 (v, 0) (v, 0) (by omega) (by omega) (by omega) ⟨v, rfl, rfl⟩
  obtain ⟨v1, s1, m1, f1, g1, R1⟩ := k_bend h hk (w := 0) (by omega)
  obtain ⟨v2, s2, m2, f2, g2, R2⟩ := k_bend R1 hk (w := 1) (by omega)
  obtain ⟨v3, s3, m3, f3, g3, R3⟩ := k_kind R2 hk
  have f1' : xb_bend s (nI k) 0 = some (v1, s1) := f1
  have g1' : xm_bendOf m (nI k) 0 = some (v1, m1) := g1
  have f2' : xb_bend s1 (nI k) 1 = some (v2, s2) := f2
  have g2' : xm_bendOf m1 (nI k) 1 = some (v2, m2) := g2
  exact ⟨31 * (31 * (31 * o + v1.toInt64) + v2.toInt64) + v3.toInt64, s3, m3, by unfold xb_withPin; simp only [d1, pz_bnd, f1', pz_bn2, pz_lt, f2', f3], by unfold xm_tellsPin; simp only [d2, pz_bnd, g1', pz_bn2, pz_lt, g2', g3], R3⟩
theorem dg_pins {s m : ba_St} {N np ne ns : Nat} {pc : Nat → Nat} (h : RK s m N np ne ns pc) (v : Int64) : ∃ w s' m', ba_fix xb_digest_l139 1000 (s, v, 0) = some (s', w) ∧ ba_fix xm_digest_l143 1000 (m, v, 0) = some (m', w) ∧ RK s' m' N np ne ns pc := by
  have hnp : np ≤ 12 := h.2.1.1.2.1
  obtain ⟨o, u, ⟨s', m', w, rfl, rfl, R⟩, d1, d2⟩ := pf_two (F := xb_digest_l139) (E := xm_digest_l143) (fun i a b => ∃ sa mb v, a = (sa, v, nI i) ∧ b = (mb, v, nI i) ∧ RK sa mb N np ne ns pc) (fun o u => ∃ sa mb v, o = (sa, v) ∧ u = (mb, v) ∧ RK sa mb N np ne ns pc) np
    (fun i a b hi hI => by
      obtain ⟨sa, mb, v, rfl, rfl, R⟩ := hI
      obtain ⟨w, s2, m2, e1, e2, R2⟩ := k_withPin R hi v
      have l : ¬ nI np ≤ nI i := by rw [pz_le (by omega) (by omega)]; omega
      have c1 : sa.1 3 3 = nI np := R.2.1.1.2.2.2.2.2.1
      have c2 : mb.1 0 7 = nI np := R.2.1.1.2.2.2.2.2.2.1
      exact ⟨_, _, ⟨s2, m2, w, rfl, rfl, R2⟩, fun K => by unfold xb_digest_l139; simp only [c1, l, if_false, e1, pz_bn2, pz_lt, pz_succ], fun K => by unfold xm_digest_l143; simp only [c2, l, if_false, e2, pz_bn2, pz_lt, pz_succ]⟩)
    (fun a b hI => by
      obtain ⟨sa, mb, v, rfl, rfl, R⟩ := hI
      have c1 : sa.1 3 3 = nI np := R.2.1.1.2.2.2.2.2.1
      have c2 : mb.1 0 7 = nI np := R.2.1.1.2.2.2.2.2.2.1
      exact ⟨_, _, ⟨sa, mb, v, rfl, rfl, R⟩, fun K => by unfold xb_digest_l139; simp only [c1, Int32.le_refl, if_true], fun K => by unfold xm_digest_l143; simp only [c2, Int32.le_refl, if_true]⟩) 1000 1000 0 (s, v, 0) (m, v, 0) (by omega) (by omega) (by omega) ⟨s, m, v, rfl, rfl, h⟩
  exact ⟨w, s', m', d1, d2, R⟩
