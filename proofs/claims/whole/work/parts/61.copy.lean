/-! ===== copy ===== -/
theorem ps_has {s : ba_St} {b z : Nat} (hz : z ≤ 60) (h : s.1 b 2 = nI z) (i n : Int32) : xs_hasItems s b i n = some (if 0 ≤ i.toInt ∧ 0 ≤ n.toInt ∧ i.toInt + n.toInt ≤ z then 1 else 0) := by
  have t1 : i < (0 : Int32) ↔ i.toInt < 0 := by rw [Int32.lt_iff_toInt_lt]; exact Iff.rfl
  have t2 : n < (0 : Int32) ↔ n.toInt < 0 := by rw [Int32.lt_iff_toInt_lt]; exact Iff.rfl
  unfold xs_hasItems xs_hasItems_j22
  rw [h]
  by_cases c1 : i < 0
  · rw [if_pos c1, if_neg (by rw [t1] at c1; omega)]
  · rw [if_neg c1]
    rw [t1] at c1
    by_cases c2 : n < 0
    · rw [if_pos c2, if_neg (by rw [t2] at c2; omega)]
    · rw [if_neg c2]
      rw [t2] at c2
      have hi := i.toInt_lt
      have zi : (nI z).toInt = z := nI_toInt (by omega)
      have t3 : nI z - i < n ↔ (z : Int) - i.toInt < n.toInt := by
        rw [Int32.lt_iff_toInt_lt, Jvm.Kit.i32_sub (by rw [zi]; omega) (by rw [zi]; omega), zi]
      by_cases c3 : nI z - i < n
      · rw [if_pos c3, if_neg (by rw [t3] at c3; omega)]
      · rw [if_neg c3, if_pos (by rw [t3] at c3; omega)]
theorem pm_has (i n : Int32) (z : Nat) (hz : z ≤ 60) : ((nI z).toInt64 < i.toInt64 + n.toInt64 ↔ (z : Int) < i.toInt + n.toInt) ∧ (i.toInt64 + n.toInt64 ≤ (nI z).toInt64 ↔ i.toInt + n.toInt ≤ z) := by
  have zi : (nI z).toInt = z := nI_toInt (by omega)
  have h1 := i.toInt_lt
  have h2 := i.le_toInt
  have h3 := n.toInt_lt
  have h4 := n.le_toInt
  have e : (i.toInt64 + n.toInt64).toInt = i.toInt + n.toInt := by
    rw [Jvm.Kit.i64_add (by rw [Int32.toInt_toInt64, Int32.toInt_toInt64]; omega) (by rw [Int32.toInt_toInt64, Int32.toInt_toInt64]; omega), Int32.toInt_toInt64, Int32.toInt_toInt64]
  rw [Int64.lt_iff_toInt_lt, Int64.le_iff_toInt_le, e, Int32.toInt_toInt64, zi]
  exact ⟨Iff.rfl, Iff.rfl⟩
def wC2 (l q u p j : Nat) : Prop := p = 4 ∨ (p = 3 ∧ 60 * l + q ≤ j ∧ j < 60 * l + q + u)
theorem pm_copies (m : ba_St) {k l p q u : Nat} (hk : k < 4) (hl : l < 4) (h1 : p + u ≤ 60) (h2 : q + u ≤ 60) : ∃ m1 m2, ba_fix (xm_copy_l120 (nI k) (nI p) (nI l) (nI q) (nI u)) 1000 (m, 0) = some m1 ∧ ba_fix (xm_copy_l157 (nI l) (nI q) (nI u)) 1000 (m1, 0) = some m2 ∧ fr (wC2 l q u) m m2 ∧ ∀ j, j < u → m2.1 3 (60 * l + q + j) = m.1 3 (60 * k + p + j) := by
  obtain ⟨m1, ⟨f1, v1⟩, d1⟩ := pf_one (F := xm_copy_l120 (nI k) (nI p) (nI l) (nI q) (nI u)) (fun i a => ∃ mb, a = (mb, nI i) ∧ fr (fun p _ => p = 4) m mb ∧ ∀ j, j < i → mb.1 4 j = m.1 3 (60 * k + p + j)) (fun o => fr (fun p _ => p = 4) m o ∧ ∀ j, j < u → o.1 4 j = m.1 3 (60 * k + p + j)) u
    (fun i a hi hI => by
      obtain ⟨mb, rfl, I1, I2⟩ := hI
      have l0 : ¬ nI u ≤ nI i := by rw [pz_le (by omega) (by omega)]; omega
      have y1 : 60 * nI k + nI p + nI i = nI (60 * k + p + i) := by rw [pz_lit 60, pk_mul, nI_add, nI_add]
      have y2 : ba_inb (nI (60 * k + p + i)) 240 = true := pz_inb (by omega) (by omega)
      have y3 : ba_ix (nI (60 * k + p + i)) = 60 * k + p + i := pz_ix (by omega)
      have y4 : ba_inb (nI i) 60 = true := pz_inb (by omega) (by omega)
      have y5 : ba_ix (nI i) = i := pz_ix (by omega)
      refine ⟨(ba_w mb 4 i (mb.1 3 (60 * k + p + i)), nI (i + 1)), ⟨_, rfl, I1.w _ _ _ rfl, fun j hj => ?_⟩, fun K => ?_⟩
      · by_cases e : j = i
        · subst e; rw [pw_s]; exact I1.2 _ _ (by omega)
        · rw [pw_i _ _ _ e]; exact I2 j (by omega)
      · unfold xm_copy_l120
        simp only [l0, if_false, y1, y2, y3, y4, y5, pz_grt, pz_lt, pz_succ])
    (fun a hI => by
      obtain ⟨mb, rfl, I1, I2⟩ := hI
      exact ⟨mb, ⟨I1, I2⟩, fun K => by unfold xm_copy_l120; simp only [Int32.le_refl, if_true]⟩) 1000 0 (m, 0) (by omega) (by omega) ⟨_, rfl, fr.rf _ _, fun j hj => by omega⟩
  obtain ⟨m2, ⟨f2, v2⟩, d2⟩ := pf_one (F := xm_copy_l157 (nI l) (nI q) (nI u)) (fun i a => ∃ mb, a = (mb, nI i) ∧ fr (fun p j => p = 3 ∧ 60 * l + q ≤ j ∧ j < 60 * l + q + u) m1 mb ∧ ∀ j, j < i → mb.1 3 (60 * l + q + j) = m1.1 4 j) (fun o => fr (fun p j => p = 3 ∧ 60 * l + q ≤ j ∧ j < 60 * l + q + u) m1 o ∧ ∀ j, j < u → o.1 3 (60 * l + q + j) = m1.1 4 j) u
    (fun i a hi hI => by
      obtain ⟨mb, rfl, I1, I2⟩ := hI
      have l0 : ¬ nI u ≤ nI i := by rw [pz_le (by omega) (by omega)]; omega
      have y1 : 60 * nI l + nI q + nI i = nI (60 * l + q + i) := by rw [pz_lit 60, pk_mul, nI_add, nI_add]
      have y2 : ba_inb (nI (60 * l + q + i)) 240 = true := pz_inb (by omega) (by omega)
      have y3 : ba_ix (nI (60 * l + q + i)) = 60 * l + q + i := pz_ix (by omega)
      have y4 : ba_inb (nI i) 60 = true := pz_inb (by omega) (by omega)
      have y5 : ba_ix (nI i) = i := pz_ix (by omega)
      refine ⟨(ba_w mb 3 (60 * l + q + i) (mb.1 4 i), nI (i + 1)), ⟨_, rfl, I1.w _ _ _ (by omega), fun j hj => ?_⟩, fun K => ?_⟩
      · by_cases e : j = i
        · subst e; rw [pw_s]; exact I1.2 _ _ (by omega)
        · rw [pw_i _ _ _ (by omega)]; exact I2 j (by omega)
      · unfold xm_copy_l157
        simp only [l0, if_false, y1, y2, y3, y4, y5, pz_grt, pz_lt, pz_succ])
    (fun a hI => by
      obtain ⟨mb, rfl, I1, I2⟩ := hI
      exact ⟨mb, ⟨I1, I2⟩, fun K => by unfold xm_copy_l157; simp only [Int32.le_refl, if_true]⟩) 1000 0 (m1, 0) (by omega) (by omega) ⟨_, rfl, fr.rf _ _, fun j hj => by omega⟩
  exact ⟨m1, m2, d1, d2, (f1.mono (fun p j w => by unfold wC2; omega)).tr (f2.mono (fun p j w => by unfold wC2; omega)), fun j hj => by rw [v2 j hj, v1 j hj]⟩
theorem q_copy {s m : ba_St} (h : RR s m) (a b c d e : Int32) : ∃ v s' m', xb_copy s a b c d e = some (v, s') ∧ xm_copy m a b c d e = some (v, m') ∧ RR s' m' := by
  unfold xb_copy xm_copy xb_copy_j51 xb_copy_j99 xm_copy_j35 xm_copy_j111
  rcases arg_4 a with ⟨k, k1, rfl, w1, g1⟩ | ⟨w1, g1⟩
  · rcases arg_4 c with ⟨l, l1, rfl, w2, g2⟩ | ⟨w2, g2⟩
    · have i : ba_inb (nI k) 4 = true := pz_inb (by omega) (by omega)
      have x : ba_ix (nI k) = k := pz_ix (by omega)
      have i' : ba_inb (nI l) 4 = true := pz_inb (by omega) (by omega)
      have x' : ba_ix (nI l) = l := pz_ix (by omega)
      have fnd : ∀ v, xb_found s v = some (-10 - v, ba_w s 0 7 v) := fun v => rfl
      have gnd : ∀ v, xm_finds m v = some (-10 - v, ba_w m 0 4 v) := fun v => rfl
      rcases h.iH k1 with ⟨a1, a2⟩ | ⟨f, n, a1, a2, a3, a4, a5, a6, a7, a8⟩
      · refine ⟨-10 - 1, ba_w s 0 7 1, ba_w m 0 4 1, ?_, ?_, rr_found h 1⟩
        · simp only [w1, w2, pz_bnd, p_10, if_false, i, x, i', pz_grt, a1, n1e0, fnd, pz_bn2]
        · simp only [g1, g2, pz_bnd, p_10, if_false, i, x, pz_grt, a2, pz_pnl0, if_true, gnd, pz_bn2]
      · rcases h.iH l1 with ⟨b1, b2⟩ | ⟨f', n', b1, b2, b3, b4, b5, b6, b7, b8⟩
        · refine ⟨-10 - 1, ba_w s 0 7 1, ba_w m 0 4 1, ?_, ?_, rr_found h 1⟩
          · simp only [w1, w2, pz_bnd, p_10, if_false, i, x, i', x', pz_grt, a3, n0e0, if_true, b1, n1e0, fnd, pz_bn2]
          · simp only [g1, g2, pz_bnd, p_10, if_false, i, x, i', x', pz_grt, a5, pz_nl (show f < 2 ^ 31 by omega), b2, pz_pn0, gnd, pz_bn2]
        · by_cases ef : f = f'
          · subst ef
            have hb := ps_has a2 a6 b e
            have hd := ps_has b2 b6 d e
            have mb := pm_has b e n a2
            have md := pm_has d e n' b2
            have t1 : b < (0 : Int32) ↔ b.toInt < 0 := by rw [Int32.lt_iff_toInt_lt]; exact Iff.rfl
            have t2 : d < (0 : Int32) ↔ d.toInt < 0 := by rw [Int32.lt_iff_toInt_lt]; exact Iff.rfl
            have t3 : e < (0 : Int32) ↔ e.toInt < 0 := by rw [Int32.lt_iff_toInt_lt]; exact Iff.rfl
            by_cases ok : (0 ≤ b.toInt ∧ 0 ≤ e.toInt ∧ b.toInt + e.toInt ≤ n) ∧ (0 ≤ d.toInt ∧ 0 ≤ e.toInt ∧ d.toInt + e.toInt ≤ n')
            · rw [if_pos ok.1] at hb
              rw [if_pos ok.2] at hd
              obtain ⟨⟨o1, o2, o3⟩, o4, -, o5⟩ := ok
              obtain ⟨p, hp, rfl⟩ : ∃ p : Nat, (p : Int) = b.toInt ∧ b = nI p := ⟨b.toInt.toNat, by omega, Int32.toInt_inj.mp (by rw [nI_toInt (by omega)]; omega)⟩
              obtain ⟨q, hq, rfl⟩ : ∃ q : Nat, (q : Int) = d.toInt ∧ d = nI q := ⟨d.toInt.toNat, by omega, Int32.toInt_inj.mp (by rw [nI_toInt (by omega)]; omega)⟩
              obtain ⟨u, hu, rfl⟩ : ∃ u : Nat, (u : Int) = e.toInt ∧ e = nI u := ⟨e.toInt.toNat, by omega, Int32.toInt_inj.mp (by rw [nI_toInt (by omega)]; omega)⟩
              have pu : p + u ≤ n := by omega
              have qu : q + u ≤ n' := by omega
              obtain ⟨m1, m2, d1, d2, G, v2⟩ := pm_copies m k1 l1 (p := p) (q := q) (u := u) (by omega) (by omega)
              have ck : ba_cok (nI p) (nI q) (nI u) 60 60 = true := by
                unfold ba_cok
                rw [nI_clamp (by omega), nI_clamp (by omega), nI_clamp (by omega)]
                simp only [pz_nn (show p < 2 ^ 31 by omega), pz_nn (show q < 2 ^ 31 by omega), pz_nn (show u < 2 ^ 31 by omega), decide_true, Bool.true_and, Bool.and_eq_true, decide_eq_true_eq]
                omega
              have xp : ba_ix (nI p) = p := pz_ix (by omega)
              have xq : ba_ix (nI q) = q := pz_ix (by omega)
              have xu : ba_ix (nI u) = u := pz_ix (by omega)
              have n1 : ¬ nI p < 0 := by rw [t1]; omega
              have n2 : ¬ nI q < 0 := by rw [t2]; omega
              have n3 : ¬ nI u < 0 := by rw [t3]; omega
              have n4 : ¬ (nI n).toInt64 < (nI p).toInt64 + (nI u).toInt64 := by rw [mb.1]; omega
              have n5 : (nI q).toInt64 + (nI u).toInt64 ≤ (nI n').toInt64 := by rw [md.2]; omega
              have F : fr (wSh l) s (ba_cp s (23 + 2 * k + 1) (23 + 2 * l + 1) p q u) := ⟨rfl, fun p' j w => by rw [pcp, if_neg (by unfold wSh at w; omega)]⟩
              have F0 : ∀ j, (ba_cp s (23 + 2 * k + 1) (23 + 2 * l + 1) p q u).1 (23 + 2 * l) j = s.1 (23 + 2 * l) j := fun j => by rw [pcp, if_neg (by omega)]
              refine ⟨1, ba_cp s (23 + 2 * k + 1) (23 + 2 * l + 1) p q u, m2, ?_, ?_, rr_sheet h l1 F (G.mono (fun p' j w => by unfold wC2 at w; unfold vSh; omega)) (Or.inr ⟨f, n', b1, b2, by rw [F0]; exact b3, by rw [F0]; exact b4, by rw [G.2 _ _ (by unfold wC2; omega)]; exact b5, by rw [F0]; exact b6, by rw [G.2 _ _ (by unfold wC2; omega)]; exact b7, fun j hj => ?_⟩)⟩
              · simp only [w1, w2, pz_bnd, p_10, if_false, i, x, i', x', pz_grt, a3, n0e0, if_true, b3, a4, b4, hb, hd, ck, xp, xq, xu, pz_lt]
              · simp only [g1, g2, pz_bnd, p_10, if_false, i, x, i', x', pz_grt, a5, pz_nl (show f < 2 ^ 31 by omega), b5, pz_nn (show f < 2 ^ 31 by omega), if_true, a7, b7, n1, n2, n3, n4, n5, d1, d2]
              · rw [pcp, if_pos (by omega)]
                by_cases c0 : q ≤ j ∧ j < q + u
                · rw [if_pos c0, show 23 + 2 * k + 1 = 24 + 2 * k by omega, a8 (p + (j - q)) (by omega), show 60 * l + j = 60 * l + q + (j - q) by omega, v2 (j - q) (by omega), show 60 * k + p + (j - q) = 60 * k + (p + (j - q)) by omega]
                · rw [if_neg c0, show 23 + 2 * l + 1 = 24 + 2 * l by omega, b8 j hj, G.2 _ _ (by unfold wC2; omega)]
            · have bad : (xs_hasItems s (23 + 2 * k) b e = some 0) ∨ (xs_hasItems s (23 + 2 * k) b e = some 1 ∧ xs_hasItems s (23 + 2 * l) d e = some 0) := by
                by_cases c1 : 0 ≤ b.toInt ∧ 0 ≤ e.toInt ∧ b.toInt + e.toInt ≤ n
                · rw [if_pos c1] at hb
                  rw [if_neg (fun z => ok ⟨c1, z⟩)] at hd
                  exact Or.inr ⟨hb, hd⟩
                · rw [if_neg c1] at hb
                  exact Or.inl hb
              refine ⟨-10 - 2, ba_w s 0 7 2, ba_w m 0 4 2, ?_, ?_, rr_found h 2⟩
              · rcases bad with z | ⟨z1, z2⟩
                · simp only [w1, w2, pz_bnd, p_10, if_false, i, x, i', x', pz_grt, a3, n0e0, if_true, b3, a4, b4, z, p_00, fnd, pz_bn2]
                · simp only [w1, w2, pz_bnd, p_10, if_false, i, x, i', x', pz_grt, a3, n0e0, if_true, b3, a4, b4, z1, z2, p_00, fnd, pz_bn2]
              · simp only [g1, g2, pz_bnd, p_10, if_false, i, x, i', x', pz_grt, a5, pz_nl (show f < 2 ^ 31 by omega), b5, pz_nn (show f < 2 ^ 31 by omega), if_true, a7, b7, gnd, pz_bn2]
                by_cases c1 : b < 0
                · rw [if_pos c1]
                · rw [if_neg c1]
                  by_cases c2 : d < 0
                  · rw [if_pos c2]
                  · rw [if_neg c2]
                    by_cases c3 : e < 0
                    · rw [if_pos c3]
                    · rw [if_neg c3]
                      rw [t1] at c1; rw [t2] at c2; rw [t3] at c3
                      by_cases c4 : (nI n).toInt64 < b.toInt64 + e.toInt64
                      · rw [if_pos c4]
                      · rw [if_neg c4]
                        rw [mb.1] at c4
                        rw [if_neg (by rw [md.2]; omega)]
          · have e1 : ¬ nI f = nI f' := by rw [pz_eq (by omega) (by omega)]; exact ef
            refine ⟨-10 - 4, ba_w s 0 7 4, ba_w m 0 4 4, ?_, ?_, rr_found h 4⟩
            · simp only [w1, w2, pz_bnd, p_10, if_false, i, x, i', x', pz_grt, a3, n0e0, if_true, b3, a4, b4, e1, fnd, pz_bn2]
            · simp only [g1, g2, pz_bnd, p_10, if_false, i, x, i', x', pz_grt, a5, pz_nl (show f < 2 ^ 31 by omega), b5, pz_nn (show f' < 2 ^ 31 by omega), if_true, e1, gnd, pz_bn2]
    · exact ⟨-2, s, m, by simp only [w1, w2, pz_bnd, p_10, p_00, if_true, if_false], by simp only [g1, g2, pz_bnd, p_10, p_00, if_true, if_false], h⟩
  · exact ⟨-2, s, m, by simp only [w1, pz_bnd, p_00, if_true], by simp only [g1, pz_bnd, p_00, if_true], h⟩
