/-! ===== lay, get ===== -/
theorem q_lay {s m : ba_St} (h : RR s m) (a b c d : Int32) : ∃ v s' m', xb_lay s a b c d = some (v, s') ∧ xm_lay m a b c d = some (v, m') ∧ RR s' m' := by
  unfold xb_lay xm_lay
  rcases arg_4 a with ⟨k, k1, rfl, w1, g1⟩ | ⟨w1, g1⟩
  · rcases arg_3 b with ⟨f, f1, rfl, w2, g2⟩ | ⟨w2, g2⟩
    · have i : ba_inb (nI k) 4 = true := pz_inb (by omega) (by omega)
      have x : ba_ix (nI k) = k := pz_ix (by omega)
      rcases p_lacks h k1 f1 c with ⟨v, u, v0, v1, e1, e2, e3⟩ | ⟨n, j, hn, hj, rfl, e1, e2, a3, a4, a5, a6, a7, a8⟩
      · refine ⟨u, ba_w s 0 7 v, ba_w m 0 4 v, ?_, ?_, rr_found h v⟩
        · simp only [w1, w2, pz_bnd, p_10, if_false, i, x, pz_grt, e1, v0, e3, pz_bn2]
        · simp only [g1, g2, pz_bnd, p_10, if_false, e2, pz_bn2, v1]
      · obtain ⟨y, y1, y2⟩ := p_put (s := s) (k := k) f1 a4 (show j < 60 by omega) d
        have z1 : 60 * nI k + nI j = nI (60 * k + j) := by rw [pz_lit 60, pk_mul, nI_add]
        have z2 : ba_inb (nI (60 * k + j)) 240 = true := pz_inb (by omega) (by omega)
        have z3 : ba_ix (nI (60 * k + j)) = 60 * k + j := pz_ix (by omega)
        refine ⟨1, ba_w s (24 + 2 * k) j y, ba_w m 3 (60 * k + j) y, ?_, ?_, (rr_put h k1 (show f ≤ 2 by omega) hn hj a3 a4 a5 a6 a7 a8 y).1⟩
        · simp only [w1, w2, pz_bnd, p_10, if_false, i, x, pz_grt, e1, p_00, if_true, y1]
        · simp only [g1, g2, pz_bnd, p_10, if_false, e2, pz_bn2, p_00, if_true, y2, z1, z2, z3, pz_grt, pz_lt]
    · exact ⟨-2, s, m, by simp only [w1, w2, pz_bnd, p_10, p_00, if_true, if_false], by simp only [g1, g2, pz_bnd, p_10, p_00, if_true, if_false], h⟩
  · exact ⟨-2, s, m, by simp only [w1, pz_bnd, p_00, if_true], by simp only [g1, pz_bnd, p_00, if_true], h⟩
theorem q_get {s m : ba_St} (h : RR s m) (a b c : Int32) : ∃ v s' m', xb_get s a b c = some (v, s') ∧ xm_get m a b c = some (v, m') ∧ RR s' m' := by
  unfold xb_get xm_get xb_get_j16 xm_get_j29
  rcases arg_4 a with ⟨k, k1, rfl, w1, g1⟩ | ⟨w1, g1⟩
  · rcases arg_3 b with ⟨f, f1, rfl, w2, g2⟩ | ⟨w2, g2⟩
    · have i : ba_inb (nI k) 4 = true := pz_inb (by omega) (by omega)
      have x : ba_ix (nI k) = k := pz_ix (by omega)
      rcases p_lacks h k1 f1 c with ⟨v, u, v0, v1, e1, e2, e3⟩ | ⟨n, j, hn, hj, rfl, e1, e2, a3, a4, a5, a6, a7, a8⟩
      · refine ⟨-2147483648, ba_w s 0 7 v, ba_w m 0 4 v, ?_, ?_, rr_found h v⟩
        · simp only [w1, w2, pz_bnd, p_10, if_false, i, x, pz_grt, e1, v0, pz_lt]
        · simp only [g1, g2, pz_bnd, p_10, if_false, e2, pz_bn2, v1]
      · have z1 : 60 * nI k + nI j = nI (60 * k + j) := by rw [pz_lit 60, pk_mul, nI_add]
        have z2 : ba_inb (nI (60 * k + j)) 240 = true := pz_inb (by omega) (by omega)
        have z3 : ba_ix (nI (60 * k + j)) = 60 * k + j := pz_ix (by omega)
        have y1 : ba_inb (nI j) 60 = true := pz_inb (by omega) (by omega)
        have y2 : ba_ix (nI j) = j := pz_ix (by omega)
        have y3 : s.1 (23 + 2 * k + 1) j = m.1 3 (60 * k + j) := by rw [show 23 + 2 * k + 1 = 24 + 2 * k by omega]; exact a8 j hj
        refine ⟨m.1 3 (60 * k + j), s, m, ?_, ?_, h⟩
        · simp only [w1, w2, pz_bnd, p_10, if_false, i, x, pz_grt, e1, p_00, if_true, y1, y2, y3]
        · simp only [g1, g2, pz_bnd, p_10, if_false, e2, pz_bn2, p_00, if_true, z1, z2, z3, pz_grt]
    · exact ⟨_, s, m, by simp only [w1, w2, pz_bnd, p_10, p_00, if_true, if_false]; rfl, by simp only [g1, g2, pz_bnd, p_10, p_00, if_true, if_false], h⟩
  · exact ⟨_, s, m, by simp only [w1, pz_bnd, p_00, if_true]; rfl, by simp only [g1, pz_bnd, p_00, if_true], h⟩
