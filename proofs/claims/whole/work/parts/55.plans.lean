/-! ===== plans and searches, over RK ===== -/
theorem w_n {k n : Nat} (h : k < n) (hn : n < 2 ^ 30) : xb_within (nI k) (nI n) = some 1 := by
  rw [pb_within, if_pos ⟨nI_pos' (by omega), by rw [pz_ltN (by omega) (by omega)]; exact h⟩]
theorem w_2 {c : Nat} (hc : c < 2) : xb_within (nI c) 2 = some 1 := w_n (n := 2) hc (by decide)
theorem RK.wb {s m : ba_St} {N np ne ns : Nat} {pc : Nat → Nat} (h : RK s m N np ne ns pc) {k : Nat} (hk : k < N) : xb_within (nI k) (s.1 3 7) = some 1 := by
  rw [h.2.1.1.2.2.2.1]; exact w_n hk (by have := h.2.1.1.1; omega)
theorem RK.wp {s m : ba_St} {N np ne ns : Nat} {pc : Nat → Nat} (h : RK s m N np ne ns pc) {k : Nat} (hk : k < np) : xb_within (nI k) (s.1 3 3) = some 1 := by
  rw [h.2.1.1.2.2.2.2.2.1]; exact w_n hk (by have := h.2.1.1.2.1; omega)
theorem k_best {s m : ba_St} {N np ne ns : Nat} {pc : Nat → Nat} (h : RK s m N np ne ns pc) {th nu : Nat} (hth : th < 3) (hnu : nu < bnd3 th N np) (z : Int32) : ∃ v s' m', xb_bestChoice s (nI th) (nI nu) z = some (v, s') ∧ xsr th nu z m = some (v, m') ∧ RK s' m' N np ne ns pc := by
  obtain ⟨s', m', v, d1, d2, F, M, C⟩ := chosen h.2.1 h.1.cK.2.1 hth hnu z
  exact ⟨v, s', m', d1, d2, h.ch F M C⟩
theorem k_shoot {s m : ba_St} {N np ne ns : Nat} {pc : Nat → Nat} (h : RK s m N np ne ns pc) {k w : Nat} (hk : k < N) (hw : w < 2) : ∃ v s' m', xb_shoot s (nI k) (nI w) = some (v, s') ∧ xm_ballBetter m (2 * nI k + 1) 1 10 (nI w) = some (v, m') ∧ RK s' m' N np ne ns pc := by
  obtain ⟨v, s', m', d1, d2, R⟩ := k_best h (th := 0) (by omega) hk (nI w)
  have d1' : xb_bestChoice s 0 (nI k) (nI w) = some (v, s') := d1
  refine ⟨v, s', m', ?_, ?_, R⟩
  · unfold xb_shoot
    simp only [h.wb hk, w_2 hw, pz_bnd, p_10, if_false, d1', pz_bn2]
  · rw [show 2 * nI k + 1 = nI (2 * k + 1) by rw [pz_lit 2, pz_lit 1, pk_mul, nI_add]]; exact d2
theorem k_time {s m : ba_St} {N np ne ns : Nat} {pc : Nat → Nat} (h : RK s m N np ne ns pc) {k w : Nat} (hk : k < N) (hw : w < 2) : ∃ v s' m', xb_time s (nI k) (nI w) = some (v, s') ∧ xm_ballBetter m (2 * nI k) 0 24 (nI w) = some (v, m') ∧ RK s' m' N np ne ns pc := by
  obtain ⟨v, s', m', d1, d2, R⟩ := k_best h (th := 1) (by omega) hk (nI w)
  have d1' : xb_bestChoice s 1 (nI k) (nI w) = some (v, s') := d1
  refine ⟨v, s', m', ?_, ?_, R⟩
  · unfold xb_time
    simp only [h.wb hk, w_2 hw, pz_bnd, p_10, if_false, d1', pz_bn2]
  · rw [show 2 * nI k = nI (2 * k) by rw [pz_lit 2, pk_mul]]; exact d2
theorem k_bend {s m : ba_St} {N np ne ns : Nat} {pc : Nat → Nat} (h : RK s m N np ne ns pc) {k w : Nat} (hk : k < np) (hw : w < 2) : ∃ v s' m', xb_bend s (nI k) (nI w) = some (v, s') ∧ xm_bendOf m (nI k) (nI w) = some (v, m') ∧ RK s' m' N np ne ns pc := by
  obtain ⟨v, s', m', d1, d2, R⟩ := k_best h (th := 2) (by omega) hk (nI w)
  have d1' : xb_bestChoice s 2 (nI k) (nI w) = some (v, s') := d1
  refine ⟨v, s', m', ?_, d2, R⟩
  unfold xb_bend
  simp only [h.wp hk, w_2 hw, pz_bnd, p_10, if_false, d1', pz_bn2]
theorem k_kind {s m : ba_St} {N np ne ns : Nat} {pc : Nat → Nat} (h : RK s m N np ne ns pc) {k : Nat} (hk : k < np) : ∃ v s' m', xb_kind s (nI k) = some (v, s') ∧ xm_kindOf m (nI k) = some (v, m') ∧ RK s' m' N np ne ns pc := by
  obtain ⟨s', m', v, d1, d2, F, M⟩ := kinds h.2.1 h.2.2 hk
  refine ⟨v, s', m', ?_, d2, h.tr F.2 M⟩
  unfold xb_kind
  simp only [h.wp hk, pz_bnd, p_10, if_false, d1, pz_bn2]
theorem k_forces {s m : ba_St} {N np ne ns : Nat} {pc : Nat → Nat} (h : RK s m N np ne ns pc) {k : Nat} (hk : k < N) : ∃ v s' m', xb_forces s (nI k) = some (v, s') ∧ xm_forcesOf m (nI k) = some (v, m') ∧ RK s' m' N np ne ns pc := by
  obtain ⟨s', m', v, d1, d2, F, M⟩ := forces h.2.1 h.2.2 hk
  refine ⟨v, s', m', ?_, d2, h.tr F.2 M⟩
  unfold xb_forces
  simp only [h.wb hk, pz_bnd, p_10, if_false, d1, pz_bn2]
theorem k_ask {s m : ba_St} {N np ne ns : Nat} {pc : Nat → Nat} (h : RK s m N np ne ns pc) {k : Nat} (hk : k < N) : ∃ v s' m', xb_ask s (nI k) = some (v, s') ∧ xm_askOf m (nI k) = some (v, m') ∧ RK s' m' N np ne ns pc := by
  obtain ⟨s', m', r, g, v, d1, d2, d3, d4, F, M⟩ := asks h.2.1 h.2.2 hk
  refine ⟨v, s', m', ?_, d4, h.tr F M⟩
  unfold xb_ask
  simp only [h.wb hk, pz_bnd, p_10, if_false, d1, pz_bn2, d2, d3]
theorem k_never {s m : ba_St} {N np ne ns : Nat} {pc : Nat → Nat} (h : RK s m N np ne ns pc) : ∃ v s' m', xb_never s = some (v, s') ∧ xm_neverNow m = some (v, m') ∧ RK s' m' N np ne ns pc := by
  obtain ⟨s', m', v, d1, d2, F, M⟩ := never h.2.1 h.2.2
  exact ⟨v, s', m', d1, d2, h.tr F.2 M⟩
theorem k_spare {s m : ba_St} {N np ne ns : Nat} {pc : Nat → Nat} (h : RK s m N np ne ns pc) {a : Int32} (ha : a = pn ∨ a = nI 0 ∨ a = nI 1) : ∃ v s' m', xb_spare s a = some (v, s') ∧ xm_spareBy m a = some (v, m') ∧ RK s' m' N np ne ns pc := by
  obtain ⟨R, K, S⟩ := h
  obtain ⟨k1, k2, k3, k4⟩ := R.cK
  obtain ⟨s', m', v, d1, d2, F, M, C⟩ := spared K k3 ha
  have G : fr1 wRun s s' := fun p j w => F.2 p j (fun z => w (by unfold wS2 at z; unfold wRun; omega))
  have c : ∀ p j, p < 46 → (p ≠ 0 ∨ j < 12 ∨ 15 < j) → s'.1 p j = s.1 p j := fun p j hp hj => F.2 p j (by unfold wS2; omega)
  refine ⟨v, s', m', d1, d2, R.mv G (M.mono (fun p j w => by unfold wL at w; unfold wQ; omega)) (by rw [M.2 0 15 (by unfold wL; omega)]; exact K.2.2.2.2.2.2.1) ⟨k1.mv G (c 0 8 (by omega) (by omega)) (fun p j _ q => c p j (by omega) (by omega)), k2.mv G (c 0 9 (by omega) (by omega)) (c 0 10 (by omega) (by omega)) (c 0 11 (by omega) (by omega)), C, k4.mv G (c 0 16 (by omega) (by omega)) (fun j => c 15 j (by omega) (by omega))⟩, K.mv1 G M, S.mw G M⟩
def wQ2 (p j : Nat) : Prop := p = 9 ∨ wL p j ∨ (p = 0 ∧ j = 10)
/-- the balls read again -/
theorem RK.again {s m m1 : ba_St} {N np ne ns : Nat} {pc : Nat → Nat} (h : RK s m N np ne ns pc) (F : fr wQ2 m m1) : ∃ v m2, xm_readsBalls m1 = some (v, m2) ∧ RK s m2 N np ne ns pc := by
  obtain ⟨R, K, S⟩ := h
  have R1 := R
  obtain ⟨n0, n1, n2, B0, B1, B2, ne2, ns2, H, k⟩ := R1
  have hg := H.2.2.2.2.2.1
  obtain ⟨⟨-, -, ⟨t2, u2⟩, -, l2⟩, ⟨-, -, ⟨-, b8, b9⟩⟩, -⟩ := H
  have u2' := u2.fr F (by unfold wQ2 wL; omega) (by unfold wQ2 wL; omega)
  obtain ⟨m2, e1, f1, p1⟩ := pm_readsBalls u2' l2
  have F2 : fr wQ2 m m2 := F.tr (f1.mono (fun p j w => by unfold wMb at w; unfold wQ2; omega))
  have g1 : ∀ p j, 0 < p → p < 9 → m2.1 p j = m.1 p j := fun p j h1 h2 => F2.2 p j (by unfold wQ2 wL; omega)
  have g10 : ∀ j, m2.1 10 j = m.1 10 j := fun j => F2.2 10 j (by unfold wQ2 wL; omega)
  have g2 : ∀ j, j ≠ 10 → j ≠ 28 → j ≠ 32 → m2.1 0 j = m.1 0 j := fun j _ _ _ => F2.2 0 j (by unfold wQ2 wL; omega)
  have g23 : ∀ j, m2.1 23 j = m.1 23 j := fun j => F2.2 23 j (by unfold wQ2 wL; omega)
  have hN : nB B2 n2 ≤ 12 := by unfold nB; split <;> omega
  obtain ⟨⟨a1, a2, a3, a4, a5, a6, a7, a8, a9⟩, c2, c3, c4, c5, c6, c7, c8⟩ := K
  have eN : N = nB B2 n2 := by rw [a4, pz_eq (by omega) (by omega)] at b8; exact b8
  refine ⟨_, m2, e1, R.mv (fun _ _ _ => rfl) (F2.mono (fun p j w => by unfold wQ2 wL at w; unfold wQ; omega)) (by rw [g2 15 (by omega) (by omega) (by omega)]; exact hg) k, ⟨⟨a1, a2, a3, a4, by rw [eN]; exact p1.1, a6, by rw [g2 7 (by omega) (by omega) (by omega)]; exact a7, a8, by rw [g2 13 (by omega) (by omega) (by omega)]; exact a9⟩, ⟨by rw [g2 12 (by omega) (by omega) (by omega)]; exact c2.1, fun c hc => by rw [g1 8 c (by omega) (by omega)]; exact c2.2 c hc⟩, fun i hi => by rw [g1 7 _ (by omega) (by omega), g1 7 _ (by omega) (by omega)]; exact c3 i hi, c4, fun i hi => by rw [g1 7 _ (by omega) (by omega)]; exact c5 i hi, fun e he => by rw [g10, g10, g10]; exact c6 e he, by rw [g2 15 (by omega) (by omega) (by omega)]; exact c7, fun k hk => ?_⟩, ?_⟩
  · rw [eN] at hk
    obtain ⟨x1, x2, x3, x4, x5⟩ := b9 k hk
    obtain ⟨-, -, -, y4, y5⟩ := p1.2 k hk
    exact ⟨_, _, x1, x2, x3, x4, x5, y4, y5⟩
  · obtain ⟨w1, w2, w3, w4⟩ := S
    exact ⟨w1, w2, by rw [g2 29 (by omega) (by omega) (by omega)]; exact w3, fun e he => by rw [g23, g23, g23, g23]; exact w4 e he⟩
theorem k_sundays {s m : ba_St} {N np ne ns : Nat} {pc : Nat → Nat} (h : RK s m N np ne ns pc) (a : Int32) {n w : Nat} (hn : n ≤ 12) (hw : w < 2) : ∃ v s' m', xb_sundays s a (nI n) (nI w) = some (v, s') ∧ xm_sundaysOf m a (nI n) (nI w) = some (v, m') ∧ RK s' m' N np ne ns pc := by
  obtain ⟨s1, s2, m2, d1, d2, d3, E, F, M⟩ := drawn h.2.1 hn a (nI w)
  obtain ⟨s3, m3, e1, e2, hres, hF, hM, -⟩ := te_go (by omega) E
  have M3 : fr wQ2 m m3 := (M.mono (fun p j w => by unfold wSu at w; unfold wQ2 wL; omega)).tr (hM.fr.mono (fun p j w => by unfold wQ2; exact Or.inr (Or.inl w)))
  obtain ⟨x, m4, f1, R4⟩ := h.again M3
  have F3 : fr1 wTr s s3 := fun p j w => by
    rw [hF.2 p j (by unfold wTr at w; omega) (by unfold wTr at w; omega)]; exact F.2 p j w
  have R5 := R4.tr F3 (fr.rf wL m4)
  have l1 : ¬ nI n < 0 := by rw [pz_lit 0, pz_ltN (by omega) (by omega)]; omega
  have l2 : ¬ 12 < nI n := by rw [pz_lit 12, pz_ltN (by omega) (by omega)]; omega
  obtain ⟨y, -, y1, y2⟩ := rd_score hres
  obtain ⟨z, -, z1, z2⟩ := rd_lost hres
  have z2' : xm_manyIn m3 9 = some (nI z) := z2
  refine ⟨if nI w = 0 then nI y else nI z, s3, m4, ?_, ?_, R5⟩
  · unfold xb_sundays
    simp only [l1, l2, w_2 hw, pz_bnd, p_10, if_false, d1, pz_lt, d2, e1, y1, z1]
    by_cases c : nI w = 0 <;> simp only [c, if_true, if_false]
  · unfold xm_sundaysOf xm_sundaysOf_j80
    simp only [pz_lt, d3, pz_bnd, e2, y2, z2', f1, pz_bn2]
    by_cases c : nI w = 0 <;> simp only [c, if_true, if_false]
/-! as calls -/
theorem q_shoot {s m : ba_St} (h : RR s m) (a b : Int32) : ∃ v s' m', xb_shoot s a b = some (v, s') ∧ xm_shoot m a b = some (v, m') ∧ RR s' m' := by
  obtain ⟨_, m', N, np, ne, ns, pc, -, e2, -, -, R⟩ := h.find2
  unfold xm_shoot xm_shoot_j35
  rcases arg_b R.2.1 a with ⟨k, k1, rfl, w2, g2⟩ | ⟨w2, g2⟩
  · rcases arg_2 b with ⟨w, w0, rfl, w3, g3⟩ | ⟨w3, g3⟩
    · obtain ⟨v, s2, m2, d1, d2, R2⟩ := k_shoot R k1 w0
      exact ⟨v, s2, m2, d1, by simp only [e2, g2, g3, d2, pz_bnd, pz_bn2, p_10, if_false], R2.1⟩
    · exact ⟨-2, s, m', by unfold xb_shoot; simp only [w2, w3, pz_bnd, p_10, p_00, if_true, if_false], by simp only [e2, g2, g3, pz_bnd, p_10, p_00, if_true, if_false], R.1⟩
  · exact ⟨-2, s, m', by unfold xb_shoot; simp only [w2, pz_bnd, p_00, if_true], by simp only [e2, g2, pz_bnd, p_00, if_true], R.1⟩
theorem q_time {s m : ba_St} (h : RR s m) (a b : Int32) : ∃ v s' m', xb_time s a b = some (v, s') ∧ xm_time m a b = some (v, m') ∧ RR s' m' := by
  obtain ⟨_, m', N, np, ne, ns, pc, -, e2, -, -, R⟩ := h.find2
  unfold xm_time xm_time_j33
  rcases arg_b R.2.1 a with ⟨k, k1, rfl, w2, g2⟩ | ⟨w2, g2⟩
  · rcases arg_2 b with ⟨w, w0, rfl, w3, g3⟩ | ⟨w3, g3⟩
    · obtain ⟨v, s2, m2, d1, d2, R2⟩ := k_time R k1 w0
      exact ⟨v, s2, m2, d1, by simp only [e2, g2, g3, d2, pz_bnd, pz_bn2, p_10, if_false], R2.1⟩
    · exact ⟨-2, s, m', by unfold xb_time; simp only [w2, w3, pz_bnd, p_10, p_00, if_true, if_false], by simp only [e2, g2, g3, pz_bnd, p_10, p_00, if_true, if_false], R.1⟩
  · exact ⟨-2, s, m', by unfold xb_time; simp only [w2, pz_bnd, p_00, if_true], by simp only [e2, g2, pz_bnd, p_00, if_true], R.1⟩
theorem q_bend {s m : ba_St} (h : RR s m) (a b : Int32) : ∃ v s' m', xb_bend s a b = some (v, s') ∧ xm_bend m a b = some (v, m') ∧ RR s' m' := by
  obtain ⟨_, m', N, np, ne, ns, pc, -, e2, -, -, R⟩ := h.find2
  unfold xm_bend xm_bend_j28
  rcases arg_p R.2.1 a with ⟨k, k1, rfl, w2, g2⟩ | ⟨w2, g2⟩
  · rcases arg_2 b with ⟨w, w0, rfl, w3, g3⟩ | ⟨w3, g3⟩
    · obtain ⟨v, s2, m2, d1, d2, R2⟩ := k_bend R k1 w0
      exact ⟨v, s2, m2, d1, by simp only [e2, g2, g3, d2, pz_bnd, pz_bn2, p_10, if_false], R2.1⟩
    · exact ⟨-2, s, m', by unfold xb_bend; simp only [w2, w3, pz_bnd, p_10, p_00, if_true, if_false], by simp only [e2, g2, g3, pz_bnd, p_10, p_00, if_true, if_false], R.1⟩
  · exact ⟨-2, s, m', by unfold xb_bend; simp only [w2, pz_bnd, p_00, if_true], by simp only [e2, g2, pz_bnd, p_00, if_true], R.1⟩
theorem q_spare {s m : ba_St} (h : RR s m) (a : Int32) : ∃ v s' m', xb_spare s a = some (v, s') ∧ xm_spare m a = some (v, m') ∧ RR s' m' := by
  obtain ⟨_, m', N, np, ne, ns, pc, -, e2, -, -, R⟩ := h.find2
  unfold xm_spare
  have h1 := pm_i64 a (-1) (-1) rfl
  have h2 := pm_i64 a 1 1 rfl
  have t1 : (-1 : Int32) ≤ a ↔ -1 ≤ a.toInt := by rw [Int32.le_iff_toInt_le]; exact Iff.rfl
  have t2 : a ≤ (1 : Int32) ↔ a.toInt ≤ 1 := by rw [Int32.le_iff_toInt_le]; exact Iff.rfl
  have t3 : a < (-1 : Int32) ↔ a.toInt < -1 := by rw [Int32.lt_iff_toInt_lt]; exact Iff.rfl
  by_cases hr : (-1 : Int32) ≤ a ∧ a ≤ 1
  · have hr' := hr
    rw [t1, t2] at hr'
    have g : xm_in a.toInt64 (-1) 1 = some 1 := by rw [pm_in, if_pos ⟨h1.1.mpr hr.1, h2.2.mpr hr.2⟩]
    have ha : a = pn ∨ a = nI 0 ∨ a = nI 1 := by
      have : a.toInt = -1 ∨ a.toInt = 0 ∨ a.toInt = 1 := by omega
      rcases this with e | e | e
      · exact Or.inl (Int32.toInt_inj.mp e)
      · exact Or.inr (Or.inl (Int32.toInt_inj.mp e))
      · exact Or.inr (Or.inr (Int32.toInt_inj.mp e))
    obtain ⟨v, s2, m2, d1, d2, R2⟩ := k_spare R ha
    exact ⟨v, s2, m2, d1, by simp only [e2, g, d2, pz_bnd, pz_bn2, p_10, if_false], R2.1⟩
  · have g : xm_in a.toInt64 (-1) 1 = some 0 := by rw [pm_in, if_neg (fun z => hr ⟨h1.1.mp z.1, h2.2.mp z.2⟩)]
    refine ⟨-2, s, m', ?_, by simp only [e2, g, pz_bnd, p_00, if_true], R.1⟩
    rw [t1, t2] at hr
    unfold xb_spare
    by_cases c : a < (-1 : Int32)
    · rw [if_pos c]
    · rw [if_neg c, if_neg (by rw [t2]; rw [t3] at c; omega)]
theorem q_sundays {s m : ba_St} (h : RR s m) (a b c : Int32) : ∃ v s' m', xb_sundays s a b c = some (v, s') ∧ xm_sundays m a b c = some (v, m') ∧ RR s' m' := by
  obtain ⟨_, m', N, np, ne, ns, pc, -, e2, -, -, R⟩ := h.find2
  unfold xm_sundays xm_sundays_j33
  rcases arg_13 b with ⟨n, n1, rfl, -, g2⟩ | ⟨w2, g2⟩
  · have l1 : ¬ nI n < 0 := by rw [pz_lit 0, pz_ltN (by omega) (by omega)]; omega
    have l2 : ¬ 12 < nI n := by rw [pz_lit 12, pz_ltN (by omega) (by omega)]; omega
    rcases arg_2 c with ⟨w, w0, rfl, w3, g3⟩ | ⟨w3, g3⟩
    · obtain ⟨v, s2, m2, d1, d2, R2⟩ := k_sundays R a (show n ≤ 12 by omega) w0
      exact ⟨v, s2, m2, d1, by simp only [e2, g2, g3, d2, pz_bnd, pz_bn2, p_10, if_false], R2.1⟩
    · exact ⟨-2, s, m', by unfold xb_sundays; simp only [l1, l2, w3, pz_bnd, p_00, if_true, if_false], by simp only [e2, g2, g3, pz_bnd, p_10, p_00, if_true, if_false], R.1⟩
  · refine ⟨-2, s, m', ?_, by simp only [e2, g2, pz_bnd, p_00, if_true], R.1⟩
    unfold xb_sundays
    by_cases c1 : b < 0
    · rw [if_pos c1]
    · rw [if_neg c1, if_pos ?_]
      rw [pb_within] at w2
      by_cases c2 : 0 ≤ b ∧ b < 13
      · rw [if_pos c2] at w2; exact absurd w2 (by decide)
      · have t0 : b < 0 ↔ b.toInt < 0 := by rw [Int32.lt_iff_toInt_lt]; exact Iff.rfl
        have t1 : (0 : Int32) ≤ b ↔ 0 ≤ b.toInt := by rw [Int32.le_iff_toInt_le]; exact Iff.rfl
        have t2 : b < (13 : Int32) ↔ b.toInt < 13 := by rw [Int32.lt_iff_toInt_lt]; exact Iff.rfl
        have t3 : (12 : Int32) < b ↔ 12 < b.toInt := by rw [Int32.lt_iff_toInt_lt]; exact Iff.rfl
        rw [t0] at c1; rw [t1, t2] at c2; rw [t3]; omega
