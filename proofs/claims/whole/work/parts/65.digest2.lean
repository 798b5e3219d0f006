/-! ===== digest, second half ===== -/
theorem pb_atk {s s' m : ba_St} {N t k w : Nat} (h : res 31 s' m N) (e1 : xb_runTold s = some s') (ht : t < 24) (hk : k < N) (wb : xb_within (nI k) (s.1 3 7) = some 1) (hw : w < 2) : xb_at s (nI t) (nI k) (nI w) = some (if nI w = 0 then m.1 21 (12 * t + k) else m.1 22 (12 * t + k), s') := by
  obtain ⟨r1, r2⟩ := rd_row h ht hk
  have w1 : xb_within (nI t) 24 = some 1 := w_n (n := 24) ht (by decide)
  unfold xb_at
  simp only [w1, wb, w_2 hw, pz_bnd, p_10, if_false, e1, r1, r2]
  by_cases q : nI w = 0 <;> simp only [q, if_true, if_false]
def dT2 (m : ba_St) (k : Nat) (v : Int64) (t : Nat) : Int64 := 31 * (31 * v + (m.1 21 (12 * t + k)).toInt64) + (m.1 22 (12 * t + k)).toInt64
theorem pm_tells (m : ba_St) {t k : Nat} (ht : t < 24) (hk : k < 12) (v : Int64) : xm_tellsTick m v (nI t) (nI k) = some (dT2 m k v t) := by
  have a0 : xm_atBy m (nI t) (nI k) 0 = some (m.1 21 (12 * t + k)) := by rw [pm_atBy m ht hk 0, if_pos rfl]
  have a1 : xm_atBy m (nI t) (nI k) 1 = some (m.1 22 (12 * t + k)) := by rw [pm_atBy m ht hk 1, if_neg (by decide)]
  unfold xm_tellsTick dT2
  simp only [a0, a1, pz_bnd, pz_lt]
theorem dg_ticks {s s' m : ba_St} {N k : Nat} (e1 : xb_runTold s = some s') (e2 : xb_runTold s' = some s') (h : res 31 s' m N) (hk : k < N) (w1 : xb_within (nI k) (s.1 3 7) = some 1) (w2 : xb_within (nI k) (s'.1 3 7) = some 1) (v : Int64) : ba_fix (xb_withBall_l38 (nI k)) 1000 (s, v, 0) = some (s', dT2 m k (dT2 m k (dT2 m k (dT2 m k v 0) 6) 13) 23) := by
  have st : ∀ (K : (ba_St × Int64 × Int32) → Option (ba_St × Int64)) (sa : ba_St) (v : Int64) (i t : Nat), i < 4 → ba_tv [0, 6, 13, 23] (nI i) = nI t → t < 24 → xb_runTold sa = some s' → xb_within (nI k) (sa.1 3 7) = some 1 → xb_withBall_l38 (nI k) K (sa, v, nI i) = K (s', dT2 m k v t, nI (i + 1)) := fun K sa v i t hi et ht er wr => by
    have l : ¬ nI 4 ≤ nI i := by rw [pz_le (by omega) (by omega)]; omega
    have ib : ba_inb (nI i) 4 = true := pz_inb (by omega) (by omega)
    have a0 := pb_atk h er ht hk wr (w := 0) (by omega)
    have a1 := pb_atk h e2 ht hk w2 (w := 1) (by omega)
    rw [if_pos (show nI 0 = 0 from rfl)] at a0
    rw [if_neg (by decide)] at a1
    have a0' : xb_at sa (nI t) (nI k) 0 = some (m.1 21 (12 * t + k), s') := a0
    have a1' : xb_at s' (nI t) (nI k) 1 = some (m.1 22 (12 * t + k), s') := a1
    unfold xb_withBall_l38 dT2
    simp only [l, if_false, ib, pz_grt, et, a0', a1', pz_bn2, pz_lt, pz_succ]
  have en : ∀ (K : (ba_St × Int64 × Int32) → Option (ba_St × Int64)) (v : Int64), xb_withBall_l38 (nI k) K (s', v, nI 4) = some (s', v) := fun K v => by unfold xb_withBall_l38; simp only [Int32.le_refl, if_true]
  show ba_fix (xb_withBall_l38 (nI k)) (995 + 1 + 1 + 1 + 1 + 1) (s, v, nI 0) = _
  rw [pz_fix, st _ _ _ 0 0 (by omega) rfl (by omega) e1 w1, pz_fix, st _ _ _ 1 6 (by omega) rfl (by omega) e2 w2, pz_fix, st _ _ _ 2 13 (by omega) rfl (by omega) e2 w2, pz_fix, st _ _ _ 3 23 (by omega) rfl (by omega) e2 w2, pz_fix, en]
theorem dg_ends {s' m : ba_St} {N k : Nat} (e2 : xb_runTold s' = some s') (h : res 31 s' m N) (hk : k < N) (hN : N ≤ 12) (w2 : xb_within (nI k) (s'.1 3 7) = some 1) (v : Int64) : ∃ w, ba_fix (xb_withBall_l100 (nI k)) 1000 (s', v, 0) = some (s', w) ∧ ba_fix (xm_tellsBall_l75 m (nI k)) 1000 (v, 0) = some w := by
  obtain ⟨o, u, ⟨w, rfl, rfl⟩, d1, d2⟩ := pf_two (F := xb_withBall_l100 (nI k)) (E := xm_tellsBall_l75 m (nI k)) (fun i a b => ∃ v, a = (s', v, nI i) ∧ b = (v, nI i)) (fun o u => ∃ v, o = (s', v) ∧ u = v) 3
    (fun i a b hi hI => by
      obtain ⟨v, rfl, rfl⟩ := hI
      have q := pb_ends h e2 hk hN hi w2 (w_3 hi)
      exact ⟨_, _, ⟨31 * v + (eB m k i).toInt64, rfl, rfl⟩, fun K => by unfold xb_withBall_l100; simp only [n3l i hi, if_false, q, pz_bn2, pz_lt, pz_succ], fun K => by unfold xm_tellsBall_l75; simp only [n3l i hi, if_false, pm_endsBy m (show k < 12 by omega) hi, pz_bnd, pz_lt, pz_succ]⟩)
    (fun a b hI => by
      obtain ⟨v, rfl, rfl⟩ := hI
      exact ⟨_, _, ⟨v, rfl, rfl⟩, fun K => by unfold xb_withBall_l100; simp only [n3e, if_true], fun K => by unfold xm_tellsBall_l75; simp only [n3e, if_true]⟩) 1000 1000 0 (s', v, 0) (v, 0) (by omega) (by omega) (by omega) ⟨v, rfl, rfl⟩
  exact ⟨u, d1, d2⟩
theorem RK.ball {s m : ba_St} {N np ne ns : Nat} {pc : Nat → Nat} (h : RK s m N np ne ns pc) {k : Nat} (hk : k < N) : xb_ball s (nI k) 0 = some (m.1 9 (2 * k)) ∧ xb_ball s (nI k) 1 = some (m.1 9 (2 * k + 1)) := by
  have wb := h.wb hk
  have hN : N ≤ 12 := h.2.1.1.1
  obtain ⟨t, u, -, -, -, q1, q2, q3, q4⟩ := h.2.1.2.2.2.2.2.2.2 k hk
  have ii : ba_inb (nI k) 12 = true := pz_inb (by omega) (by omega)
  have xi : ba_ix (nI k) = k := pz_ix (by omega)
  unfold xb_ball
  rw [wb, ii, xi]
  exact ⟨by simp only [pz_bnd, p_10, if_false, p_00, if_true, pz_grt, q1, q3], by simp only [pz_bnd, p_10, if_false, if_true, pz_grt, q2, q4]⟩
theorem k_withBall {s m : ba_St} {N np ne ns : Nat} {pc : Nat → Nat} (h : RK s m N np ne ns pc) {k : Nat} (hk : k < N) (v : Int64) : ∃ w s' m', xb_withBall s v (nI k) = some (w, s') ∧ xm_tellsBall m v (nI k) = some (w, m') ∧ RK s' m' N np ne ns pc := by
  have hN : N ≤ 12 := h.2.1.1.1
  obtain ⟨s', m', e1, e2, e3, e4, R', R⟩ := h.tl2
  obtain ⟨b0, b1⟩ := R.ball hk
  have tk := dg_ticks e1 e2 e4 hk (h.wb hk) (R'.wb hk) (31 * (31 * v + (m'.1 9 (2 * k)).toInt64) + (m'.1 9 (2 * k + 1)).toInt64)
  have t0 : ∀ v, xm_tellsTick m' v 0 (nI k) = some (dT2 m' k v 0) := fun v => pm_tells m' (t := 0) (by omega) (by omega) v
  have t6 : ∀ v, xm_tellsTick m' v 6 (nI k) = some (dT2 m' k v 6) := fun v => pm_tells m' (t := 6) (by omega) (by omega) v
  have t13 : ∀ v, xm_tellsTick m' v 13 (nI k) = some (dT2 m' k v 13) := fun v => pm_tells m' (t := 13) (by omega) (by omega) v
  have t23 : ∀ v, xm_tellsTick m' v 23 (nI k) = some (dT2 m' k v 23) := fun v => pm_tells m' (t := 23) (by omega) (by omega) v
  obtain ⟨we, n1, n2⟩ := dg_ends e2 e4 hk hN (R'.wb hk) (dT2 m' k (dT2 m' k (dT2 m' k (dT2 m' k (31 * (31 * v + (m'.1 9 (2 * k)).toInt64) + (m'.1 9 (2 * k + 1)).toInt64) 0) 6) 13) 23)
  obtain ⟨v1, s1, m1, f1, g1, R1⟩ := k_shoot R' hk (w := 0) (by omega)
  obtain ⟨v2, s2, m2, f2, g2, R2⟩ := k_shoot R1 hk (w := 1) (by omega)
  obtain ⟨v3, s3, m3, f3, g3, R3⟩ := k_time R2 hk (w := 0) (by omega)
  obtain ⟨v4, s4, m4, f4, g4, R4⟩ := k_time R3 hk (w := 1) (by omega)
  obtain ⟨v5, s5, m5, f5, g5, R5⟩ := k_forces R4 hk
  obtain ⟨v6, s6, m6, f6, g6, R6⟩ := k_ask R5 hk
  obtain ⟨v7, s7, m7, f7, g7, R7⟩ := k_chance R6 (c := 5) (by omega) hk (w := 0) (by omega)
  obtain ⟨v8, s8, m8, f8, g8, R8⟩ := k_chance R7 (c := 5) (by omega) hk (w := 1) (by omega)
  have f1' : xb_shoot s' (nI k) 0 = some (v1, s1) := f1
  have f2' : xb_shoot s1 (nI k) 1 = some (v2, s2) := f2
  have f3' : xb_time s2 (nI k) 0 = some (v3, s3) := f3
  have f4' : xb_time s3 (nI k) 1 = some (v4, s4) := f4
  have f7' : xb_chance s6 5 (nI k) 0 = some (v7, s7) := f7
  have f8' : xb_chance s7 5 (nI k) 1 = some (v8, s8) := f8
  have g1' : xm_ballBetter m' (2 * nI k + 1) 1 10 0 = some (v1, m1) := g1
  have g2' : xm_ballBetter m1 (2 * nI k + 1) 1 10 1 = some (v2, m2) := g2
  have g3' : xm_ballBetter m2 (2 * nI k) 0 24 0 = some (v3, m3) := g3
  have g4' : xm_ballBetter m3 (2 * nI k) 0 24 1 = some (v4, m4) := g4
  have g7' : xm_chanceOf m6 5 (nI k) 0 = some (v7, m7) := g7
  have g8' : xm_chanceOf m7 5 (nI k) 1 = some (v8, m8) := g8
  have y0 : 2 * nI k = nI (2 * k) := by rw [pz_lit 2, pk_mul]
  have y1 : nI (2 * k) + 1 = nI (2 * k + 1) := pz_succ _
  have i0 : ba_inb (2 * nI k) 24 = true := by rw [y0]; exact pz_inb (by omega) (by omega)
  have i1 : ba_inb (2 * nI k + 1) 24 = true := by rw [y0, y1]; exact pz_inb (by omega) (by omega)
  have x0 : ba_ix (2 * nI k) = 2 * k := by rw [y0]; exact pz_ix (by omega)
  have x1 : ba_ix (2 * nI k + 1) = 2 * k + 1 := by rw [y0, y1]; exact pz_ix (by omega)
  refine ⟨31 * (31 * (31 * (31 * (31 * (31 * (31 * (31 * we + v1.toInt64) + v2.toInt64) + v3.toInt64) + v4.toInt64) + v5.toInt64) + v6.toInt64) + v7) + v8, s8, m8, ?_, ?_, R8⟩
  · unfold xb_withBall
    simp only [b0, b1, pz_bnd, pz_lt, tk, n1, f1', f2', f3', f4', f5, f6, f7', f8', pz_bn2]
  · unfold xm_tellsBall
    simp only [e3, pz_bnd, pz_lt, i0, i1, x0, x1, pz_grt, t0, t6, t13, t23, n2, g1', g2', g3', g4', g5, g6, g7', g8', pz_bn2]
theorem dg_balls {s m : ba_St} {N np ne ns : Nat} {pc : Nat → Nat} (h : RK s m N np ne ns pc) (v : Int64) : ∃ w s' m', ba_fix xb_digest_l165 1000 (s, v, 0) = some (s', w) ∧ ba_fix xm_digest_l166 1000 (m, v, 0) = some (m', w) ∧ RK s' m' N np ne ns pc := by
  have hN : N ≤ 12 := h.2.1.1.1
  obtain ⟨o, u, ⟨s', m', w, rfl, rfl, R⟩, d1, d2⟩ := pf_two (F := xb_digest_l165) (E := xm_digest_l166) (fun i a b => ∃ sa mb v, a = (sa, v, nI i) ∧ b = (mb, v, nI i) ∧ RK sa mb N np ne ns pc) (fun o u => ∃ sa mb v, o = (sa, v) ∧ u = (mb, v) ∧ RK sa mb N np ne ns pc) N
    (fun i a b hi hI => by
      obtain ⟨sa, mb, v, rfl, rfl, R⟩ := hI
      obtain ⟨w, s2, m2, e1, e2, R2⟩ := k_withBall R hi v
      have l : ¬ nI N ≤ nI i := by rw [pz_le (by omega) (by omega)]; omega
      have c1 : sa.1 3 7 = nI N := R.2.1.1.2.2.2.1
      have c2 : mb.1 0 10 = nI N := R.2.1.1.2.2.2.2.1
      exact ⟨_, _, ⟨s2, m2, w, rfl, rfl, R2⟩, fun K => by unfold xb_digest_l165; simp only [c1, l, if_false, e1, pz_bn2, pz_lt, pz_succ], fun K => by unfold xm_digest_l166; simp only [c2, l, if_false, e2, pz_bn2, pz_lt, pz_succ]⟩)
    (fun a b hI => by
      obtain ⟨sa, mb, v, rfl, rfl, R⟩ := hI
      have c1 : sa.1 3 7 = nI N := R.2.1.1.2.2.2.1
      have c2 : mb.1 0 10 = nI N := R.2.1.1.2.2.2.2.1
      exact ⟨_, _, ⟨sa, mb, v, rfl, rfl, R⟩, fun K => by unfold xb_digest_l165; simp only [c1, Int32.le_refl, if_true], fun K => by unfold xm_digest_l166; simp only [c2, Int32.le_refl, if_true]⟩) 1000 1000 0 (s, v, 0) (m, v, 0) (by omega) (by omega) (by omega) ⟨s, m, v, rfl, rfl, h⟩
  exact ⟨w, s', m', d1, d2, R⟩
theorem dg_sums {s s' m : ba_St} {N : Nat} (e1 : xb_runTold s = some s') (e2 : xb_runTold s' = some s') (h : res 31 s' m N) (v : Int64) : ∃ w, ba_fix xb_digest_l191 1000 (s, v, 0) = some (s', w) ∧ ba_fix (xm_digest_l193 m) 1000 (v, 0) = some w := by
  obtain ⟨o, u, ⟨w, rfl, rfl⟩, d1, d2⟩ := pf_two (F := xb_digest_l191) (E := xm_digest_l193 m) (fun i a b => ∃ sa v, a = (sa, v, nI i) ∧ b = (v, nI i) ∧ xb_runTold sa = some s' ∧ (0 < i → sa = s')) (fun o u => ∃ v, o = (s', v) ∧ u = v) 3
    (fun i a b hi hI => by
      obtain ⟨sa, v, rfl, rfl, I1, -⟩ := hI
      obtain ⟨w, w1, w2⟩ := p_sum h I1 hi
      exact ⟨_, _, ⟨s', 31 * v + w.toInt64, rfl, rfl, e2, fun _ => rfl⟩, fun K => by unfold xb_digest_l191; simp only [n3l i hi, if_false, w1, pz_bn2, pz_lt, pz_succ], fun K => by unfold xm_digest_l193; simp only [n3l i hi, if_false, w2, pz_bnd, pz_lt, pz_succ]⟩)
    (fun a b hI => by
      obtain ⟨sa, v, rfl, rfl, -, I2⟩ := hI
      rw [I2 (by omega)]
      exact ⟨_, _, ⟨v, rfl, rfl⟩, fun K => by unfold xb_digest_l191; simp only [n3e, if_true], fun K => by unfold xm_digest_l193; simp only [n3e, if_true]⟩) 1000 1000 0 (s, v, 0) (v, 0) (by omega) (by omega) (by omega) ⟨s, v, rfl, rfl, e1, fun q => by omega⟩
  exact ⟨u, d1, d2⟩
