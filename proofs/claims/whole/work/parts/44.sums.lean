/-! ===== chance: both sums ===== -/
def tI (b : Nat → Int32) (c : Int32) (ne ball z : Nat) : Int64 := if bt (b z) ball = true then wI c (nI z) ne else 0
theorem pb_sum {s : ba_St} {ne : Nat} (hn : ne ≤ 8) (h : s.1 10 1 = nI ne) (c z3 : Int32) {ball : Nat} (hb : ball < 12) : ba_fix (xb_chance_l57 s c (nI ball) z3) 1000 (0, 0) = some (sI (tI (s.1 15) c ne ball) (2 ^ ne)) := by
  have p8 := pow_le8 hn
  obtain ⟨o, po, d⟩ := pf_one (F := xb_chance_l57 s c (nI ball) z3) (fun i a => a = (sI (tI (s.1 15) c ne ball) i, nI i)) (fun o => o = sI (tI (s.1 15) c ne ball) (2 ^ ne)) (2 ^ ne)
    (fun i a hi ha => by
      refine ⟨(sI (tI (s.1 15) c ne ball) (i + 1), nI (i + 1)), rfl, fun k => ?_⟩
      rw [ha]
      have l : ¬ nI (2 ^ ne) ≤ nI i := by rw [pz_le (by omega) (by omega)]; omega
      have i1 : ba_inb (nI i) 256 = true := pz_inb (by omega) (by omega)
      have j1 : ba_ix (nI i) = i := pz_ix (by omega)
      have b := bt_tst (x := s.1 15 i) (k := ball) (by omega)
      show _ = k (sI (tI (s.1 15) c ne ball) i + tI (s.1 15) c ne ball i, nI (i + 1))
      generalize sI (tI (s.1 15) c ne ball) i = S
      unfold xb_chance_l57
      cases hb' : bt (s.1 15 i) ball
      · rw [hb', if_neg (by decide)] at b
        rw [show tI (s.1 15) c ne ball i = 0 from if_neg (by rw [hb']; decide), Int64.add_zero]
        simp only [h, shl_pow ne hn, l, if_false, i1, pz_grt, j1, b, if_true, pz_lt, pz_succ]
      · rw [hb', if_pos rfl] at b
        rw [show tI (s.1 15) c ne ball i = wI c (nI i) ne from if_pos hb']
        have n1 : ¬ (1 : Int32) = 0 := by decide
        simp only [h, shl_pow ne hn, l, if_false, i1, pz_grt, j1, b, n1, pb_weight hn h, pz_bnd, pz_lt, pz_succ])
    (fun a ha => by
      refine ⟨_, rfl, fun k => ?_⟩
      rw [ha]
      unfold xb_chance_l57
      simp only [h, shl_pow ne hn, Int32.le_refl, if_true]) 1000 0 (0, 0) (Nat.zero_le _) (by omega) rfl
  rw [d, po]
theorem pm_sum {s m : ba_St} {N np ne : Nat} {pc : Nat → Nat} (K : kT s m N np ne pc) (C : ∀ m, kT s m N np ne pc → ∀ z, z < 2 ^ ne → brP (s.1 15) s m N np ne pc z) (c z3 : Int32) {ball : Nat} (hb : ball < N) : ∃ m', ba_fix (xm_chanceOf_l6 c (nI ball) z3) 1000 (m, 0, 0) = some (m', sI (tI (s.1 15) c ne ball) (2 ^ ne)) ∧ kT s (ba_w m' 0 15 0) N np ne pc ∧ fr wL m (ba_w m' 0 15 0) := by
  have hN := K.1.1
  have ne8 := K.1.2.2.1
  have p8 := pow_le8 ne8
  have g15 : m.1 0 15 = nI 0 := K.2.2.2.2.2.2.1
  have m00 : fr wL m (ba_w m 0 15 0) := ⟨rfl, fun p j _ => by
    rw [pw]; split
    · rename_i h; rw [h.1, h.2, g15]; rfl
    · rfl⟩
  obtain ⟨o, ⟨m', po, Kp, Fp⟩, d⟩ := pf_one (F := xm_chanceOf_l6 c (nI ball) z3) (fun i a => ∃ mb, a = (mb, sI (fun g => tI (s.1 15) c ne ball (2 ^ ne - 1 - g)) i, nI i) ∧ kT s (ba_w mb 0 15 0) N np ne pc ∧ fr wL m (ba_w mb 0 15 0)) (fun o => ∃ m', o = (m', sI (fun g => tI (s.1 15) c ne ball (2 ^ ne - 1 - g)) (2 ^ ne)) ∧ kT s (ba_w m' 0 15 0) N np ne pc ∧ fr wL m (ba_w m' 0 15 0)) (2 ^ ne)
    (fun i a hi hI => by
      obtain ⟨mb, rfl, Kb, Fb⟩ := hI
      obtain ⟨m2, e1, e2, K2, F2⟩ := C _ Kb (2 ^ ne - 1 - i) (by omega)
      rw [show 2 ^ ne - 1 - (2 ^ ne - 1 - i) = i by omega, pw_o] at e1
      obtain ⟨x, x1, x2, x3⟩ := e2 ball hb
      have en : mb.1 0 13 = nI ne := by have := Kb.1.2.2.2.2.2.2.2.2; rw [pw_i _ _ _ (by omega)] at this; exact this
      have en2 : m2.1 0 13 = nI ne := by have := K2.1.2.2.2.2.2.2.2.2; rw [pw_i _ _ _ (by omega)] at this; exact this
      have l : ¬ nI (2 ^ ne) ≤ nI i := by rw [pz_le (by omega) (by omega)]; omega
      have i1 : ba_inb (nI ball) 12 = true := pz_inb (by omega) (by omega)
      have j1 : ba_ix (nI ball) = ball := pz_ix (by omega)
      refine ⟨(m2, sI (fun g => tI (s.1 15) c ne ball (2 ^ ne - 1 - g)) (i + 1), nI (i + 1)), ⟨m2, rfl, K2, Fb.tr F2⟩, fun k => ?_⟩
      show _ = k (m2, sI (fun g => tI (s.1 15) c ne ball (2 ^ ne - 1 - g)) i + tI (s.1 15) c ne ball (2 ^ ne - 1 - i), nI (i + 1))
      generalize sI (fun g => tI (s.1 15) c ne ball (2 ^ ne - 1 - g)) i = S
      unfold xm_chanceOf_l6 xm_chanceOf_j41_6
      by_cases hx : x = 0
      · subst hx
        have cc : nI 0 ≤ (0 : Int32) := Int32.le_refl _
        rw [show tI (s.1 15) c ne ball (2 ^ ne - 1 - i) = 0 from if_neg (by rw [x3]; decide), Int64.add_zero]
        simp only [en, shl_pow ne ne8, l, if_false, pz_lt, e1, pz_bnd, i1, pz_grt, j1, x2, cc, if_true, pm_weight ne8 en2, vI_0, Int64.add_zero, pz_succ]
      · have cc : ¬ nI x ≤ (0 : Int32) := by rw [show (0 : Int32) = nI 0 from rfl, pz_le (by omega) (by omega)]; omega
        have hv : vI 1 c (nI i) ne = wI c (nI (2 ^ ne - 1 - i)) ne := vI_1 c (nI i) (nI (2 ^ ne - 1 - i)) ne (fun e he => by
          have := kept_gone ne ne8 (2 ^ ne - 1 - i) (by omega) e he
          rw [show 2 ^ ne - 1 - (2 ^ ne - 1 - i) = i by omega] at this; exact this)
        rw [show tI (s.1 15) c ne ball (2 ^ ne - 1 - i) = wI c (nI (2 ^ ne - 1 - i)) ne from if_pos (by rw [x3]; exact decide_eq_true (by omega))]
        simp only [en, shl_pow ne ne8, l, if_false, pz_lt, e1, pz_bnd, i1, pz_grt, j1, x2, cc, pm_weight ne8 en2, hv, pz_succ])
    (fun a hI => by
      obtain ⟨mb, rfl, Kb, Fb⟩ := hI
      have en : mb.1 0 13 = nI ne := by have := Kb.1.2.2.2.2.2.2.2.2; rw [pw_i _ _ _ (by omega)] at this; exact this
      refine ⟨_, ⟨mb, rfl, Kb, Fb⟩, fun k => ?_⟩
      unfold xm_chanceOf_l6
      simp only [en, shl_pow ne ne8, Int32.le_refl, if_true]) 1000 0 (m, 0, 0) (Nat.zero_le _) (by omega) ⟨m, rfl, K.mv (fr.rf wRun s) m00, m00⟩
  refine ⟨m', ?_, Kp, Fp⟩
  rw [d, po, sI_rev (fun z => tI (s.1 15) c ne ball z) (2 ^ ne)]
