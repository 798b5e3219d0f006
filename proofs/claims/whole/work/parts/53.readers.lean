/-! ===== readers, as calls ===== -/
theorem n0e0 : (nI 0 = (0 : Int32)) = True := eq_true rfl
theorem n1e0 : (nI 1 = (0 : Int32)) = False := by decide
theorem n1e1 : (nI 1 = (1 : Int32)) = True := eq_true rfl
theorem n2e0 : (nI 2 = (0 : Int32)) = False := by decide
theorem n2e1 : (nI 2 = (1 : Int32)) = False := by decide
theorem n2e2 : (nI 2 = (2 : Int32)) = True := eq_true rfl
theorem no_3 {x : Int32} (h : xb_within x 3 = some 0) : ¬ x = 0 ∧ ¬ x = 1 ∧ ¬ x = 2 := by
  refine ⟨?_, ?_, ?_⟩ <;> (intro e; subst e; revert h; decide +kernel)
theorem no_2 {x : Int32} (h : xb_within x 2 = some 0) : ¬ x = 0 ∧ ¬ x = 1 := by
  refine ⟨?_, ?_⟩ <;> (intro e; subst e; revert h; decide +kernel)
theorem pm_atBy (m : ba_St) {t k : Nat} (ht : t < 24) (hk : k < 12) (w : Int32) : xm_atBy m (nI t) (nI k) w = some (if w = 0 then m.1 21 (12 * t + k) else m.1 22 (12 * t + k)) := by
  have e : 12 * nI t + nI k = nI (12 * t + k) := by rw [pz_lit 12, pk_mul, nI_add]
  have i : ba_inb (nI (12 * t + k)) 288 = true := pz_inb (by omega) (by omega)
  have x : ba_ix (nI (12 * t + k)) = 12 * t + k := pz_ix (by omega)
  unfold xm_atBy
  rw [e, i, x]
  by_cases hw : w = 0 <;> simp only [hw, if_true, if_false, pz_grt]
theorem q_at {s m : ba_St} (h : RR s m) (a b c : Int32) : ∃ v s' m', xb_at s a b c = some (v, s') ∧ xm_at m a b c = some (v, m') ∧ RR s' m' := by
  obtain ⟨s', m', N, np, ne, ns, pc, e1, e2, e3, R', R⟩ := h.find2
  unfold xb_at xm_at xm_at_j36
  rcases arg_24 a with ⟨t, t1, rfl, w1, g1⟩ | ⟨w1, g1⟩
  · rcases arg_b R.2.1 b with ⟨k, k1, rfl, w2, g2⟩ | ⟨w2, g2⟩
    · rcases arg_2 c with ⟨w, w0, rfl, w3, g3⟩ | ⟨w3, g3⟩
      · obtain ⟨r1, r2⟩ := rd_row e3 t1 k1
        have g4 := pm_atBy m' t1 (k := k) (by have := R.2.1.1.1; omega) (nI w)
        refine ⟨if nI w = 0 then m'.1 21 (12 * t + k) else m'.1 22 (12 * t + k), s', m', ?_, ?_, R'.1⟩
        · simp only [w1, w2, w3, e1, r1, r2, pz_bnd, p_10, if_false]
          by_cases hw : nI w = 0 <;> simp only [hw, if_true, if_false]
        · simp only [e2, g1, g2, g3, g4, pz_bnd, p_10, if_false]
      · exact ⟨-2, s, m', by simp only [w1, w2, w3, pz_bnd, p_10, p_00, if_true, if_false], by simp only [e2, g1, g2, g3, pz_bnd, p_10, p_00, if_true, if_false], R.1⟩
    · exact ⟨-2, s, m', by simp only [w1, w2, pz_bnd, p_10, p_00, if_true, if_false], by simp only [e2, g1, g2, pz_bnd, p_10, p_00, if_true, if_false], R.1⟩
  · exact ⟨-2, s, m', by simp only [w1, pz_bnd, p_00, if_true], by simp only [e2, g1, pz_bnd, p_00, if_true], R.1⟩
theorem q_sees {s m : ba_St} (h : RR s m) (a b c : Int32) : ∃ v s' m', xb_sees s a b c = some (v, s') ∧ xm_sees m a b c = some (v, m') ∧ RR s' m' := by
  obtain ⟨s', m', N, np, ne, ns, pc, e1, e2, e3, R', R⟩ := h.find2
  unfold xb_sees xm_sees xm_sees_j40
  rcases arg_24 a with ⟨t, t1, rfl, w1, g1⟩ | ⟨w1, g1⟩
  · rcases arg_8 b with ⟨r, r1, rfl, w2, g2⟩ | ⟨w2, g2⟩
    · rcases arg_9 c with ⟨k, k1, rfl, w3, g3⟩ | ⟨w3, g3⟩
      · obtain ⟨v, v1, v2, -⟩ := rd_sees e3 t1 r1 k1
        have e : nI r * 9 + nI k = nI (r * 9 + k) := by rw [pz_lit 9, pk_mul, nI_add]
        refine ⟨v, s', m', ?_, ?_, R'.1⟩
        · simp only [w1, w2, w3, e1, e, v1, pz_bnd, p_10, if_false]
        · simp only [e2, g1, g2, g3, v2, pz_bnd, p_10, if_false]
      · exact ⟨-2, s, m', by simp only [w1, w2, w3, pz_bnd, p_10, p_00, if_true, if_false], by simp only [e2, g1, g2, g3, pz_bnd, p_10, p_00, if_true, if_false], R.1⟩
    · exact ⟨-2, s, m', by simp only [w1, w2, pz_bnd, p_10, p_00, if_true, if_false], by simp only [e2, g1, g2, pz_bnd, p_10, p_00, if_true, if_false], R.1⟩
  · exact ⟨-2, s, m', by simp only [w1, pz_bnd, p_00, if_true], by simp only [e2, g1, pz_bnd, p_00, if_true], R.1⟩
theorem rd_three {b : Nat} {s m : ba_St} {N : Nat} (h : res b s m N) : (∀ c, c < 9 → s.1 (b + 9) c = m.1 18 c ∧ s.1 (b + 10) c = m.1 19 c) ∧ (∀ k, k < N → s.1 (b + 11) k = m.1 13 k ∧ s.1 (b + 12) k = m.1 14 k ∧ s.1 (b + 13) k = m.1 15 k) ∧ s.1 b 18 = m.1 0 28 := by
  obtain ⟨np, P, Hs, D, -, hN, h4, h10⟩ := h
  obtain ⟨D1, D2, D3, D4, D5, D6, D7, D8, D9, D10, D11, D12⟩ := D
  exact ⟨D6, D7, D12⟩
def eB (m : ba_St) (k w : Nat) : Int32 := if w = 0 then m.1 13 k else if w = 1 then m.1 14 k else m.1 15 k
theorem pm_endsBy (m : ba_St) {k w : Nat} (hk : k < 12) (hw : w < 3) : xm_endsBy m (nI k) (nI w) = some (eB m k w) := by
  have i : ba_inb (nI k) 12 = true := pz_inb (by omega) (by omega)
  have x : ba_ix (nI k) = k := pz_ix (by omega)
  unfold xm_endsBy eB
  rw [i, x]
  obtain rfl | rfl | rfl : w = 0 ∨ w = 1 ∨ w = 2 := by omega
  · simp only [n0e0, if_true, pz_grt]
  · simp only [n1e0, n1e1, if_true, if_false, pz_grt, show ¬ (1 : Nat) = 0 by omega]
  · simp only [n2e0, n2e1, if_true, if_false, pz_grt, show ¬ (2 : Nat) = 0 by omega, show ¬ (2 : Nat) = 1 by omega]
theorem pb_ends {s s' m : ba_St} {N k w : Nat} (h : res 31 s' m N) (e1 : xb_runTold s = some s') (hk : k < N) (hN : N ≤ 12) (hw : w < 3) (w1 : xb_within (nI k) (s.1 3 7) = some 1) (w2 : xb_within (nI w) 3 = some 1) : xb_ends s (nI k) (nI w) = some (eB m k w, s') := by
  obtain ⟨d1, d2, d3⟩ := (rd_three h).2.1 k hk
  have i : ba_inb (nI k) 12 = true := pz_inb (by omega) (by omega)
  have x : ba_ix (nI k) = k := pz_ix (by omega)
  unfold xb_ends eB
  rw [w1, w2, e1, i, x]
  obtain rfl | rfl | rfl : w = 0 ∨ w = 1 ∨ w = 2 := by omega
  · simp only [n0e0, if_true, pz_grt, pz_bnd, p_10, if_false, d1]
  · simp only [n1e0, n1e1, if_true, if_false, pz_grt, show ¬ (1 : Nat) = 0 by omega, pz_bnd, p_10, d2]
  · simp only [n2e0, n2e1, if_true, if_false, pz_grt, show ¬ (2 : Nat) = 0 by omega, show ¬ (2 : Nat) = 1 by omega, pz_bnd, p_10, d3]
theorem q_ends {s m : ba_St} (h : RR s m) (a b : Int32) : ∃ v s' m', xb_ends s a b = some (v, s') ∧ xm_ends m a b = some (v, m') ∧ RR s' m' := by
  obtain ⟨s', m', N, np, ne, ns, pc, e1, e2, e3, R', R⟩ := h.find2
  have hN : N ≤ 12 := R.2.1.1.1
  unfold xm_ends xm_ends_j33
  rcases arg_b R.2.1 a with ⟨k, k1, rfl, w2, g2⟩ | ⟨w2, g2⟩
  · rcases arg_3 b with ⟨w, w0, rfl, w3, g3⟩ | ⟨w3, g3⟩
    · exact ⟨_, s', m', pb_ends e3 e1 k1 hN w0 w2 w3, by simp only [e2, g2, g3, pm_endsBy m' (show k < 12 by omega) w0, pz_bnd, p_10, if_false], R'.1⟩
    · exact ⟨-2, s, m', by unfold xb_ends; simp only [w2, w3, pz_bnd, p_10, p_00, if_true, if_false], by simp only [e2, g2, g3, pz_bnd, p_10, p_00, if_true, if_false], R.1⟩
  · exact ⟨-2, s, m', by unfold xb_ends; simp only [w2, pz_bnd, p_00, if_true], by simp only [e2, g2, pz_bnd, p_00, if_true], R.1⟩
theorem p_sum {s s' m : ba_St} {N w : Nat} (h : res 31 s' m N) (e1 : xb_runTold s = some s') (hw : w < 3) : ∃ v, xb_sum s (nI w) = some (v, s') ∧ xm_sumBy m (nI w) = some v := by
  have w1 : xb_within (nI w) 3 = some 1 := by
    rcases arg_3 (nI w) with ⟨k, k1, k2, w1, -⟩ | ⟨w1, -⟩
    · exact w1
    · obtain ⟨a, b, c⟩ := no_3 w1
      obtain rfl | rfl | rfl : w = 0 ∨ w = 1 ∨ w = 2 := by omega
      · exact (a rfl).elim
      · exact (b rfl).elim
      · exact (c rfl).elim
  unfold xb_sum xm_sumBy
  obtain rfl | rfl | rfl : w = 0 ∨ w = 1 ∨ w = 2 := by omega
  · obtain ⟨x, -, x1, x2⟩ := rd_score h
    exact ⟨nI x, by simp only [w1, e1, x1, n0e0, if_true, pz_bnd, p_10, if_false], by simp only [x2, n0e0, if_true, pz_bnd]⟩
  · exact ⟨m.1 0 28, by simp only [w1, e1, n1e0, n1e1, if_true, pz_bnd, p_10, if_false, (rd_three h).2.2], by simp only [n1e0, n1e1, if_true, if_false]⟩
  · obtain ⟨x, -, x1, x2⟩ := rd_lost h
    have x2' : xm_manyIn m 9 = some (nI x) := x2
    exact ⟨nI x, by simp only [w1, e1, x1, n2e0, n2e1, if_true, pz_bnd, p_10, if_false], by simp only [x2', n2e0, n2e1, if_false, pz_bnd]⟩
theorem q_sum {s m : ba_St} (h : RR s m) (a : Int32) : ∃ v s' m', xb_sum s a = some (v, s') ∧ xm_sum m a = some (v, m') ∧ RR s' m' := by
  obtain ⟨s', m', N, np, ne, ns, pc, e1, e2, e3, R', R⟩ := h.find2
  unfold xm_sum
  rcases arg_3 a with ⟨w, w0, rfl, w3, g3⟩ | ⟨w3, g3⟩
  · obtain ⟨v, v1, v2⟩ := p_sum e3 e1 w0
    exact ⟨v, s', m', v1, by simp only [e2, g3, v2, pz_bnd, p_10, if_false], R'.1⟩
  · exact ⟨-2, s, m', by unfold xb_sum; simp only [w3, pz_bnd, p_00, if_true], by simp only [e2, g3, pz_bnd, p_00, if_true], R.1⟩
theorem p_jam {s s' m : ba_St} {N w : Nat} (h : res 31 s' m N) (e1 : xb_runTold s = some s') (hw : w < 2) : ∃ v, xb_jam s (nI w) = some (v, s') ∧ xm_jamBy m (nI w) = some v := by
  have w1 : xb_within (nI w) 2 = some 1 := by
    rcases arg_2 (nI w) with ⟨k, k1, k2, w1, -⟩ | ⟨w1, -⟩
    · exact w1
    · obtain ⟨a, b⟩ := no_2 w1
      obtain rfl | rfl : w = 0 ∨ w = 1 := by omega
      · exact (a rfl).elim
      · exact (b rfl).elim
  obtain ⟨j, j1, j2, j3, j4⟩ := rd_jam h (nI w)
  have i : ba_inb (nI j) 24 = true := pz_inb (by omega) (by omega)
  have x : ba_ix (nI j) = j := pz_ix (by omega)
  refine ⟨if nI w = 0 then nI j else m.1 20 j, ?_, ?_⟩
  · unfold xb_jam
    simp only [w1, e1, j2, i, x, j4, pz_bnd, pz_grt, p_10, if_false]
    by_cases hw : nI w = 0 <;> simp only [hw, if_true, if_false]
  · unfold xm_jamBy
    simp only [j3, i, x, pz_bnd, pz_grt]
    by_cases hw : nI w = 0 <;> simp only [hw, if_true, if_false]
theorem q_jam {s m : ba_St} (h : RR s m) (a : Int32) : ∃ v s' m', xb_jam s a = some (v, s') ∧ xm_jam m a = some (v, m') ∧ RR s' m' := by
  obtain ⟨s', m', N, np, ne, ns, pc, e1, e2, e3, R', R⟩ := h.find2
  unfold xm_jam
  rcases arg_2 a with ⟨w, w0, rfl, w3, g3⟩ | ⟨w3, g3⟩
  · obtain ⟨v, v1, v2⟩ := p_jam e3 e1 w0
    exact ⟨v, s', m', v1, by simp only [e2, g3, v2, pz_bnd, p_10, if_false], R'.1⟩
  · exact ⟨-2, s, m', by unfold xb_jam; simp only [w3, pz_bnd, p_00, if_true], by simp only [e2, g3, pz_bnd, p_00, if_true], R.1⟩
def cB (m : ba_St) (c w : Nat) : Int32 := if w = 0 then m.1 8 c else if w = 1 then m.1 18 c else m.1 19 c
theorem pm_cupBy (m : ba_St) {c w : Nat} (hc : c < 9) (hw : w < 3) : xm_cupBy m (nI c) (nI w) = some (cB m c w) := by
  have i : ba_inb (nI c) 9 = true := pz_inb (by omega) (by omega)
  have x : ba_ix (nI c) = c := pz_ix (by omega)
  unfold xm_cupBy cB
  rw [i, x]
  obtain rfl | rfl | rfl : w = 0 ∨ w = 1 ∨ w = 2 := by omega
  · simp only [n0e0, if_true, pz_grt]
  · simp only [n1e0, n1e1, if_true, if_false, pz_grt, show ¬ (1 : Nat) = 0 by omega]
  · simp only [n2e0, n2e1, if_true, if_false, pz_grt, show ¬ (2 : Nat) = 0 by omega, show ¬ (2 : Nat) = 1 by omega]
theorem w_9 {c : Nat} (hc : c < 9) : xb_within (nI c) 9 = some 1 := by
  revert c; decide +kernel
/-- a cup, asked of the class -/
theorem pb_cup {s s' m : ba_St} {N c w : Nat} (h : res 31 s' m N) (e1 : xb_runTold s = some s') (h7 : s.1 7 c = m.1 8 c) (hc : c < 9) (hw : w < 3) : xb_cup s (nI c) (nI w) = some (cB m c w, if w = 0 then s else s') := by
  obtain ⟨d1, d2⟩ := (rd_three h).1 c hc
  have i : ba_inb (nI c) 9 = true := pz_inb (by omega) (by omega)
  have x : ba_ix (nI c) = c := pz_ix (by omega)
  have w1 := w_9 hc
  unfold xb_cup cB
  rw [w1, e1, i, x]
  obtain rfl | rfl | rfl : w = 0 ∨ w = 1 ∨ w = 2 := by omega
  · simp only [n0e0, if_true, pz_grt, pz_bnd, p_10, if_false, h7]
  · simp only [n1e0, n1e1, if_true, if_false, pz_grt, show ¬ (1 : Nat) = 0 by omega, pz_bnd, p_10, d1]
  · simp only [n2e0, n2e1, n2e2, if_true, if_false, pz_grt, show ¬ (2 : Nat) = 0 by omega, show ¬ (2 : Nat) = 1 by omega, pz_bnd, p_10, d2]
theorem q_cup {s m : ba_St} (h : RR s m) (a b : Int32) : ∃ v s' m', xb_cup s a b = some (v, s') ∧ xm_cup m a b = some (v, m') ∧ RR s' m' := by
  obtain ⟨s', m', N, np, ne, ns, pc, e1, e2, e3, R', R⟩ := h.find2
  unfold xm_cup xm_cup_j32
  rcases arg_9 a with ⟨c, c1, rfl, w2, g2⟩ | ⟨w2, g2⟩
  · rcases arg_3 b with ⟨w, w0, rfl, w3, g3⟩ | ⟨w3, g3⟩
    · refine ⟨_, _, m', pb_cup e3 e1 (R.2.1.2.1.2 c c1).1 c1 w0, by simp only [e2, g2, g3, pm_cupBy m' c1 w0, pz_bnd, p_10, if_false], ?_⟩
      by_cases hw : w = 0
      · rw [if_pos hw]; exact R.1
      · rw [if_neg hw]; exact R'.1
    · obtain ⟨z0, z1, z2⟩ := no_3 w3
      exact ⟨-2, s, m', by unfold xb_cup; simp only [w2, z0, z1, z2, pz_bnd, p_10, if_false], by simp only [e2, g2, g3, pz_bnd, p_10, p_00, if_true, if_false], R.1⟩
  · exact ⟨-2, s, m', by unfold xb_cup; simp only [w2, pz_bnd, p_00, if_true], by simp only [e2, g2, pz_bnd, p_00, if_true], R.1⟩
