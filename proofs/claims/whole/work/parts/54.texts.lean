/-! ===== pin, ball, fault, count, as calls ===== -/
theorem RR.rd {s m m' : ba_St} (h : RR s m) (F : fr wPa m m') : RR s m' := by
  have h' := h
  obtain ⟨n0, n1, n2, B0, B1, B2, ne, ns, H, k⟩ := h'
  exact h.mv (fun _ _ _ => rfl) (F.mono (fun p j w => by unfold wPa at w; unfold wQ; omega)) (by rw [F.2 0 15 (by unfold wPa; omega)]; exact H.2.2.2.2.2.1) k
theorem q_pin {s m : ba_St} (h : RR s m) (a b : Int32) : ∃ v m', xb_pin s a b = some v ∧ xm_pin m a b = some (v, m') ∧ RR s m' := by
  have h' := h
  obtain ⟨n0, n1, n2, B0, B1, B2, ne, ns, H, k⟩ := h'
  obtain ⟨m1, m2, m3, e1, e2, e3, F3, F1, F2, K, P⟩ := parsed H
  have R := h.rd F1
  obtain ⟨-, ⟨⟨-, b2, b3, -⟩, -⟩, -⟩ := H
  have hnp : nP B0 n0 ≤ 12 := K.1.2.1
  have hp := pm_isPin m1 hnp P.1 a
  unfold xm_pin xm_pin_j38 xb_pin
  rw [b2]
  rcases argN a (N := nP B0 n0) (by omega) with ⟨i, i1, rfl, w1, c1⟩ | ⟨w1, c1⟩
  · rw [if_pos c1] at hp
    obtain ⟨x1, x2, x3⟩ := b3 i i1
    obtain ⟨-, y1, y2, y3⟩ := P.2 i i1
    have i2 : ba_inb (nI i) 12 = true := pz_inb (by omega) (by omega)
    have j2 : ba_ix (nI i) = i := pz_ix (by omega)
    have q : ∀ w, w < 3 → ba_inb (3 * nI i + nI w) 36 = true ∧ ba_ix (3 * nI i + nI w) = 3 * i + w := fun w hw => by
      rw [show 3 * nI i + nI w = nI (3 * i + w) by rw [pz_lit 3, pk_mul, nI_add]]
      exact ⟨pz_inb (by omega) (by omega), pz_ix (by omega)⟩
    rcases arg_3 b with ⟨w, w0, rfl, w3, g3⟩ | ⟨w3, g3⟩
    · obtain ⟨q1, q2⟩ := q w w0
      refine ⟨m1.1 7 (3 * i + w), m1, ?_, by simp only [e1, pz_bn2, hp, g3, pz_bnd, p_10, if_false, q1, q2, pz_grt], R⟩
      obtain rfl | rfl | rfl : w = 0 ∨ w = 1 ∨ w = 2 := by omega
      · simp only [w1, pz_bnd, p_10, if_false, n0e0, if_true, i2, j2, pz_grt, x2]
        rw [show 3 * i + 0 = 3 * i by omega, y1, pz_lit 9, pz_div (by omega) (by omega) (by omega)]
      · simp only [w1, pz_bnd, p_10, if_false, n1e0, n1e1, if_true, i2, j2, pz_grt, x2]
        rw [y2, pz_lit 9, pz_rem (by omega) (by omega) (by omega)]
      · simp only [w1, pz_bnd, p_10, if_false, n2e0, n2e1, n2e2, if_true, i2, j2, pz_grt, x3]
        rw [y3]
    · obtain ⟨z0, z1, z2⟩ := no_3 w3
      exact ⟨-2, m1, by simp only [w1, z0, z1, z2, pz_bnd, p_10, if_false], by simp only [e1, pz_bn2, hp, g3, pz_bnd, p_10, p_00, if_true, if_false], R⟩
  · rw [if_neg c1] at hp
    exact ⟨-2, m1, by simp only [w1, pz_bnd, p_00, if_true], by simp only [e1, pz_bn2, hp, pz_bnd, p_00, if_true], R⟩
theorem q_ball {s m : ba_St} (h : RR s m) (a b : Int32) : ∃ v m', xb_ball s a b = some v ∧ xm_ball m a b = some (v, m') ∧ RR s m' := by
  have h' := h
  obtain ⟨n0, n1, n2, B0, B1, B2, ne, ns, H, k⟩ := h'
  obtain ⟨⟨-, -, ⟨t2, u2⟩, -, l2⟩, ⟨-, -, ⟨-, b8, b9⟩⟩, -⟩ := H
  obtain ⟨m1, e1, f1, p1⟩ := pm_readsBalls u2 l2
  have R := h.rd (f1.mono (fun p j w => by unfold wMb at w; unfold wPa; omega))
  have hnp : nB B2 n2 ≤ 12 := by unfold nB; split <;> omega
  have hp := pm_isBall m1 hnp p1.1 a
  unfold xm_ball xm_ball_j33 xb_ball
  rw [b8]
  rcases argN a (N := nB B2 n2) (by omega) with ⟨i, i1, rfl, w1, c1⟩ | ⟨w1, c1⟩
  · rw [if_pos c1] at hp
    obtain ⟨-, -, -, x2, x3⟩ := b9 i i1
    obtain ⟨-, -, -, y1, y2⟩ := p1.2 i i1
    have i2 : ba_inb (nI i) 12 = true := pz_inb (by omega) (by omega)
    have j2 : ba_ix (nI i) = i := pz_ix (by omega)
    have q : ∀ w, w < 2 → ba_inb (2 * nI i + nI w) 24 = true ∧ ba_ix (2 * nI i + nI w) = 2 * i + w := fun w hw => by
      rw [show 2 * nI i + nI w = nI (2 * i + w) by rw [pz_lit 2, pk_mul, nI_add]]
      exact ⟨pz_inb (by omega) (by omega), pz_ix (by omega)⟩
    rcases arg_2 b with ⟨w, w0, rfl, w3, g3⟩ | ⟨w3, g3⟩
    · obtain ⟨q1, q2⟩ := q w w0
      refine ⟨m1.1 9 (2 * i + w), m1, ?_, by simp only [e1, pz_bn2, hp, g3, pz_bnd, p_10, if_false, q1, q2, pz_grt], R⟩
      obtain rfl | rfl : w = 0 ∨ w = 1 := by omega
      · simp only [w1, pz_bnd, p_10, if_false, n0e0, if_true, i2, j2, pz_grt, x2]
        rw [show 2 * i + 0 = 2 * i by omega, y1]
      · simp only [w1, pz_bnd, p_10, if_false, n1e0, n1e1, if_true, i2, j2, pz_grt, x3]
        rw [y2]
    · obtain ⟨z0, z1⟩ := no_2 w3
      exact ⟨-2, m1, by simp only [w1, z0, z1, pz_bnd, p_10, if_false], by simp only [e1, pz_bn2, hp, g3, pz_bnd, p_10, p_00, if_true, if_false], R⟩
  · rw [if_neg c1] at hp
    exact ⟨-2, m1, by simp only [w1, pz_bnd, p_00, if_true], by simp only [e1, pz_bn2, hp, pz_bnd, p_00, if_true], R⟩
/-- a text read by the reference -/
theorem RR.text {s m : ba_St} (h : RR s m) {t : Nat} (ht : t < 3) : ∃ m', xm_readsText m (nI t) = some (s.1 2 t, m') ∧ RR s m' ∧ fr wPa m m' := by
  have h' := h
  obtain ⟨n0, n1, n2, B0, B1, B2, ne, ns, H, k⟩ := h'
  obtain ⟨⟨⟨t0, u0⟩, ⟨t1, u1⟩, ⟨t2, u2⟩, l1, l2⟩, ⟨⟨b1, -⟩, ⟨b5, -⟩, ⟨b7, -⟩⟩, -⟩ := H
  unfold xm_readsText
  obtain rfl | rfl | rfl : t = 0 ∨ t = 1 ∨ t = 2 := by omega
  · obtain ⟨m1, e1, f1, p1⟩ := pm_readsPins u0
    have F := f1.mono (W' := wPa) (fun p j w => by unfold wMp at w; unfold wPa; omega)
    exact ⟨m1, by simp only [n0e0, if_true, e1, pz_bn2, b1], h.rd F, F⟩
  · obtain ⟨m1, e1, f1, p1⟩ := pm_readsCups u1 l1
    have F := f1.mono (W' := wPa) (fun p j w => by unfold w8 at w; unfold wPa; omega)
    exact ⟨m1, by simp only [n1e0, n1e1, if_true, if_false, e1, pz_bn2, b5], h.rd F, F⟩
  · obtain ⟨m1, e1, f1, p1⟩ := pm_readsBalls u2 l2
    have F := f1.mono (W' := wPa) (fun p j w => by unfold wMb at w; unfold wPa; omega)
    exact ⟨m1, by simp only [n2e0, n2e1, if_false, e1, pz_bn2, b7], h.rd F, F⟩
theorem w_3 {c : Nat} (hc : c < 3) : xb_within (nI c) 3 = some 1 := by
  revert c; decide +kernel
theorem pb_fault (s : ba_St) {t : Nat} (ht : t < 3) : xb_fault s (nI t) = some (s.1 2 t) := by
  have i : ba_inb (nI t) 3 = true := pz_inb (by omega) (by omega)
  have x : ba_ix (nI t) = t := pz_ix (by omega)
  unfold xb_fault
  simp only [w_3 ht, pz_bnd, p_10, if_false, i, x, pz_grt]
theorem q_fault {s m : ba_St} (h : RR s m) (a : Int32) : ∃ v m', xb_fault s a = some v ∧ xm_fault m a = some (v, m') ∧ RR s m' := by
  unfold xm_fault
  rcases arg_t3 a with ⟨t, t1, rfl, w1, g1⟩ | ⟨w1, g1⟩
  · obtain ⟨m', e, R, -⟩ := h.text t1
    exact ⟨_, m', pb_fault s t1, by simp only [g1, pz_bnd, p_10, if_false, e, pz_bn2], R⟩
  · exact ⟨-2, m, by unfold xb_fault; simp only [w1, pz_bnd, p_00, if_true], by simp only [g1, pz_bnd, p_00, if_true], h⟩
theorem q_count {s m : ba_St} (h : RR s m) (a : Int32) : ∃ v s' m', xb_count s a = some (v, s') ∧ xm_count m a = some (v, m') ∧ RR s' m' := by
  obtain ⟨s', m', N, np, ne, ns, pc, e1, e2, e3, R', R⟩ := h.find2
  have R1 := R.1
  obtain ⟨n0, n1, n2, B0, B1, B2, ne2, ns2, H, k⟩ := R1
  obtain ⟨⟨⟨t0, u0⟩, ⟨t1, u1⟩, ⟨t2, u2⟩, -⟩, -, -, -, -, -, -, hf⟩ := H
  unfold xb_count xm_count
  rw [e2, pz_bnd]
  by_cases a0 : a = 0
  · rw [if_pos a0, if_pos a0]; exact ⟨_, s, m', rfl, by rw [R.2.1.1.2.2.2.2.2.1, R.2.1.1.2.2.2.2.2.2.1], R.1⟩
  rw [if_neg a0, if_neg a0]
  by_cases a1 : a = 1
  · rw [if_pos a1, if_pos a1]; exact ⟨_, s, m', rfl, by rw [R.2.1.1.2.2.2.1, R.2.1.1.2.2.2.2.1], R.1⟩
  rw [if_neg a1, if_neg a1]
  by_cases a2 : a = 2
  · rw [if_pos a2, if_pos a2]
    refine ⟨nI n0 + nI n1 + nI n2, s, m', ?_, ?_, R.1⟩
    · rw [show ba_inb 0 3 = true from rfl, show ba_inb 1 3 = true from rfl, show ba_inb 2 3 = true from rfl, pz_grt, pz_grt, pz_grt, show 17 + 2 * ba_ix 0 = 17 from rfl, show 17 + 2 * ba_ix 1 = 19 from rfl, show 17 + 2 * ba_ix 2 = 21 from rfl]
      have h1 : s.1 17 1 = nI n0 := t0.1
      have h2 : s.1 19 1 = nI n1 := t1.1
      have h3 : s.1 21 1 = nI n2 := t2.1
      rw [h1, h2, h3]
    · rw [show ba_inb 0 3 = true from rfl, show ba_inb 1 3 = true from rfl, show ba_inb 2 3 = true from rfl, pz_grt, pz_grt, pz_grt, show ba_ix 0 = 0 from rfl, show ba_ix 1 = 1 from rfl, show ba_ix 2 = 2 from rfl, u0.1, u1.1, u2.1]
  rw [if_neg a2, if_neg a2]
  by_cases a3 : a = 3
  · rw [if_pos a3, if_pos a3]; exact ⟨_, s, m', rfl, by rw [R.2.1.1.2.2.2.2.2.2.2.1, R.2.1.1.2.2.2.2.2.2.2.2], R.1⟩
  rw [if_neg a3, if_neg a3]
  by_cases a4 : a = 4
  · rw [if_pos a4, if_pos a4]
    obtain ⟨x, -, x1, x2⟩ := rd_score e3
    refine ⟨nI x, s', m', ?_, by rw [x2, pz_bnd], R'.1⟩
    have : xb_sum s 0 = some (nI x, s') := by
      have w1 : xb_within 0 3 = some 1 := w_3 (c := 0) (by omega)
      unfold xb_sum
      simp only [w1, e1, x1, p_00, if_true, pz_bnd, p_10, if_false]
    rw [this, pz_bn2]
  rw [if_neg a4, if_neg a4]
  by_cases a5 : a = 5
  · rw [if_pos a5, if_pos a5]; exact ⟨_, s, m', rfl, by rw [R.2.1.2.1.1], R.1⟩
  rw [if_neg a5, if_neg a5]
  by_cases a6 : a = 6
  · rw [if_pos a6, if_pos a6]
    obtain ⟨x, x1, x2⟩ := rd_board e3
    exact ⟨nI x, s', m', by rw [e1, pz_bnd, x1, pz_bnd], by rw [x2, pz_bnd], R'.1⟩
  rw [if_neg a6, if_neg a6]
  by_cases a7 : a = 7
  · rw [if_pos a7, if_pos a7]; exact ⟨_, s, m', rfl, by rw [R.2.2.2.1, R.2.2.2.2.1], R.1⟩
  rw [if_neg a7, if_neg a7]
  by_cases a8 : a = 8
  · rw [if_pos a8, if_pos a8]; exact ⟨_, s, m', rfl, by rw [hf], R.1⟩
  rw [if_neg a8, if_neg a8]
  exact ⟨-2, s, m', rfl, rfl, R.1⟩
