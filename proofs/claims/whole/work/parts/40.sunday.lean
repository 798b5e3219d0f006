/-! ===== sundays ===== -/
theorem pz_ush (x : Int32) : ∃ t, t < 65536 ∧ ba_fiushr x 16 = nI t := by
  refine ⟨x.toUInt32.toNat / 65536, ?_, b_ext (fun i hi => ?_)⟩
  · have : x.toUInt32.toNat < 2 ^ 32 := x.toUInt32.toNat_lt
    omega
  · have h1 : bt (ba_fiushr x 16) i = bt x (16 + i) := b_ushr 16 (by omega) x i
    rw [h1]
    show x.toBitVec.getLsbD (16 + i) = (BitVec.ofNat 32 (x.toUInt32.toNat / 65536)).getLsbD i
    rw [BitVec.getLsbD_ofNat, show (65536 : Nat) = 2 ^ 16 from rfl, Nat.testBit_div_two_pow]
    simp only [hi, decide_true, Bool.true_and, Nat.add_comm i 16]
    rfl
theorem pz_lot (x : Int32) {d : Nat} (h0 : 0 < d) (hd : d < 2 ^ 31) : ∃ t, t < d ∧ ba_irm (ba_fiushr x 16) (nI d) = nI t := by
  obtain ⟨t, h1, h2⟩ := pz_ush x
  exact ⟨t % d, Nat.mod_lt _ h0, by rw [h2, pz_rem (by omega) h0 hd]⟩
def wSu (p j : Nat) : Prop := p = 9 ∨ (p = 0 ∧ (j = 10 ∨ j = 32))
def sd (x : Int32) : Int32 := 1103515245 * x + 12345
theorem drawn {s m : ba_St} {N np ne n : Nat} {pc : Nat → Nat} (K : kT s m N np ne pc) (hn : n ≤ 12) (a z3 : Int32) : ∃ s1 s2 m2, xc_takeTold s 46 = some s1 ∧ ba_fix (xb_sundays_l42 (nI n) z3) 1000 (ba_w s1 46 4 (nI n), a, 0) = some s2 ∧ ba_fix (xm_sundaysOf_l13 (nI n) z3) 1000 (ba_w (ba_w m 0 32 a) 0 10 (nI n), 0) = some m2 ∧ te_E 46 s2 m2 n np ne pc ∧ fr wTr s s2 ∧ fr wSu m m2 := by
  obtain ⟨s1, t1, t2, t3, t4, t5⟩ := pc_takeTold s (b := 46) (by omega)
  have E1 := te_told (by omega) K t2 t3 t4 t5
  have F1 : fr wTr s s1 := t2.mono (fun p j w => by unfold wTT at w; unfold wTr; omega)
  obtain ⟨o, u, ⟨p1, p2, p3, p4⟩, d1, d2⟩ := pf_two (F := xb_sundays_l42 (nI n) z3) (E := xm_sundaysOf_l13 (nI n) z3)
    (fun i x y => ∃ sa mb e, x = (sa, e, nI i) ∧ y = (mb, nI i) ∧ mb.1 0 32 = e ∧ fr (fun p j => p = 48 ∨ p = 49) (ba_w s1 46 4 (nI n)) sa ∧ fr wSu m mb ∧ mb.1 0 10 = nI n ∧ ∀ k, k < i → ∃ t h, t < 24 ∧ 1 ≤ h ∧ h ≤ 9 ∧ sa.1 48 k = nI t ∧ sa.1 49 k = nI h ∧ mb.1 9 (2 * k) = nI t ∧ mb.1 9 (2 * k + 1) = nI h)
    (fun o u => fr (fun p j => p = 48 ∨ p = 49) (ba_w s1 46 4 (nI n)) o ∧ fr wSu m u ∧ u.1 0 10 = nI n ∧ ∀ k, k < n → ∃ t h, t < 24 ∧ 1 ≤ h ∧ h ≤ 9 ∧ o.1 48 k = nI t ∧ o.1 49 k = nI h ∧ u.1 9 (2 * k) = nI t ∧ u.1 9 (2 * k + 1) = nI h) n
    (fun i x y hi hI => by
      obtain ⟨sa, mb, e, rfl, rfl, h1, h2, h3, h4, h5⟩ := hI
      obtain ⟨t, l1, l2⟩ := pz_lot (sd e) (d := 24) (by omega) (by omega)
      obtain ⟨h, l3, l4⟩ := pz_lot (sd (sd e)) (d := 9) (by omega) (by omega)
      have l : ¬ n ≤ i := by omega
      have i1 : ba_inb (nI i) 12 = true := pz_inb (by omega) (by omega)
      have x1 : ba_ix (nI i) = i := pz_ix (by omega)
      have q2 : 2 * nI i = nI (2 * i) := by rw [pz_lit 2, pk_mul]
      have q3 : nI (2 * i) + 1 = nI (2 * i + 1) := pz_succ _
      have i2 : ba_inb (nI (2 * i)) 24 = true := pz_inb (by omega) (by omega)
      have i3 : ba_inb (nI (2 * i + 1)) 24 = true := pz_inb (by omega) (by omega)
      have x2 : ba_ix (nI (2 * i)) = 2 * i := pz_ix (by omega)
      have x3 : ba_ix (nI (2 * i + 1)) = 2 * i + 1 := pz_ix (by omega)
      refine ⟨(ba_w (ba_w sa 48 i (nI t)) 49 i (nI (h + 1)), sd (sd e), nI (i + 1)), (ba_w (ba_w (ba_w (ba_w mb 0 32 (sd e)) 9 (2 * i) (nI t)) 0 32 (sd (sd e))) 9 (2 * i + 1) (nI (h + 1)), nI (i + 1)), ⟨_, _, _, rfl, rfl, ?_, (h2.w 48 i _ (Or.inl rfl)).w 49 i _ (Or.inr rfl), (((h3.w 0 32 _ (by unfold wSu; omega)).w 9 _ _ (by unfold wSu; omega)).w 0 32 _ (by unfold wSu; omega)).w 9 _ _ (by unfold wSu; omega), ?_, fun k hk => ?_⟩, fun k => ?_, fun k => ?_⟩
      · rw [pw_p _ _ _ _ (by omega), pw_s]
      · rw [pw_p _ _ _ _ (by omega), pw_i _ _ _ (by omega), pw_p _ _ _ _ (by omega), pw_i _ _ _ (by omega)]; exact h4
      · by_cases hk' : k = i
        · subst hk'
          refine ⟨t, h + 1, l1, by omega, by omega, ?_, pw_s _ _ _ _, ?_, pw_s _ _ _ _⟩
          · rw [pw_p _ _ _ _ (by omega), pw_s]
          · rw [pw_i _ _ _ (by omega), pw_p _ _ _ _ (by omega), pw_s]
        · obtain ⟨t', h', y1, y2, y3, y4, y5, y6, y7⟩ := h5 k (by omega)
          refine ⟨t', h', y1, y2, y3, ?_, ?_, ?_, ?_⟩
          · rw [pw_p _ _ _ _ (by omega), pw_i _ _ _ (by omega)]; exact y4
          · rw [pw_i _ _ _ (by omega), pw_p _ _ _ _ (by omega)]; exact y5
          · rw [pw_i _ _ _ (by omega), pw_p _ _ _ _ (by omega), pw_i _ _ _ (by omega), pw_p _ _ _ _ (by omega)]; exact y6
          · rw [pw_i _ _ _ (by omega), pw_p _ _ _ _ (by omega), pw_i _ _ _ (by omega), pw_p _ _ _ _ (by omega)]; exact y7
      · have ll : ¬ nI n ≤ nI i := by rw [pz_le (by omega) (by omega)]; exact l
        have c1 : xb_nextSeed e = some (sd e) := rfl
        have c2 : xb_nextSeed (sd e) = some (sd (sd e)) := rfl
        have c3 : ba_irm (ba_fiushr (sd e) 16) 24 = nI t := l2
        have c4 : ba_irm (ba_fiushr (sd (sd e)) 16) 9 = nI h := l4
        unfold xb_sundays_l42
        simp only [ll, if_false, c1, c2, pz_bnd, i1, x1, pz_grt, pz_lt, c3, c4, pz_succ]
      · have ll : ¬ nI n ≤ nI i := by rw [pz_le (by omega) (by omega)]; exact l
        have c1 : xm_lot mb 24 = some (nI t, ba_w mb 0 32 (sd e)) := by
          unfold xm_lot
          rw [pz_lt, pz_grd (by decide), pw_s, h1]
          show some (ba_irm (ba_fiushr (sd e) 16) (nI 24), ba_w mb 0 32 (sd e)) = _
          rw [l2]
        have c2 : xm_lot (ba_w (ba_w mb 0 32 (sd e)) 9 (2 * i) (nI t)) 9 = some (nI h, ba_w (ba_w (ba_w mb 0 32 (sd e)) 9 (2 * i) (nI t)) 0 32 (sd (sd e))) := by
          unfold xm_lot
          rw [pz_lt, pz_grd (by decide), pw_s, pw_p _ _ _ _ (by omega), pw_s]
          show some (ba_irm (ba_fiushr (sd (sd e)) 16) (nI 9), ba_w (ba_w (ba_w mb 0 32 (sd e)) 9 (2 * i) (nI t)) 0 32 (sd (sd e))) = _
          rw [l4]
        unfold xm_sundaysOf_l13
        simp only [ll, if_false, c1, pz_bn2, q2, i2, x2, pz_grt, pz_lt, c2, q3, i3, x3, pz_succ])
    (fun x y hI => by
      obtain ⟨sa, mb, e, rfl, rfl, h1, h2, h3, h4, h5⟩ := hI
      refine ⟨sa, mb, ⟨h2, h3, h4, h5⟩, fun k => ?_, fun k => ?_⟩
      · unfold xb_sundays_l42; simp only [Int32.le_refl, if_true]
      · unfold xm_sundaysOf_l13; simp only [Int32.le_refl, if_true]) 1000 1000 0 (ba_w s1 46 4 (nI n), a, 0) (ba_w (ba_w m 0 32 a) 0 10 (nI n), 0) (by omega) (by omega) (by omega)
    ⟨_, _, a, rfl, rfl, by rw [pw_i _ _ _ (by omega), pw_s], fr.rf _ _, ((fr.rf wSu m).w 0 32 _ (by unfold wSu; omega)).w 0 10 _ (by unfold wSu; omega), pw_s _ _ _ _, fun k hk => by omega⟩
  have f : ∀ p j, p ≠ 48 → p ≠ 49 → (p ≠ 46 ∨ j ≠ 4) → o.1 p j = s1.1 p j := fun p j q1 q2 q3 => by rw [p1.2 p j (by omega), pw, if_neg (by omega)]
  have g : ∀ p j, p ≠ 9 → (p ≠ 0 ∨ (j ≠ 10 ∧ j ≠ 32)) → u.1 p j = m.1 p j := fun p j q1 q2 => p2.2 p j (by unfold wSu; omega)
  obtain ⟨⟨a1, a2, a3, a4, a5, a6, a7, a8, a9⟩, h2, h3, h4, h5, h6, h7, h8⟩ := E1
  refine ⟨s1, o, u, t1, d1, d2, ⟨⟨hn, a2, a3, ?_, p3, ?_, ?_, ?_, ?_⟩, ⟨?_, fun c hc => ?_⟩, fun i hi => ?_, fun q hq => ?_, fun i hi => ?_, fun e he => ?_, fun e he => ?_, p4⟩, ?_, p2⟩
  · rw [p1.2 46 4 (by omega), pw_s]
  · rw [f 3 3 (by omega) (by omega) (by omega)]; exact a6
  · rw [g 0 7 (by omega) (by omega)]; exact a7
  · rw [f 10 1 (by omega) (by omega) (by omega)]; exact a8
  · rw [g 0 13 (by omega) (by omega)]; exact a9
  · rw [f 3 8 (by omega) (by omega) (by omega), g 0 12 (by omega) (by omega)]; exact h2.1
  · rw [f 7 c (by omega) (by omega) (by omega), g 8 c (by omega) (by omega)]; exact h2.2 c hc
  · rw [g 7 _ (by omega) (by omega), g 7 _ (by omega) (by omega)]; exact h3 i hi
  · rw [f 6 q (by omega) (by omega) (by omega)]; exact h4 q hq
  · rw [f 47 i (by omega) (by omega) (by omega), g 7 _ (by omega) (by omega)]; exact h5 i hi
  · rw [f 11 _ (by omega) (by omega) (by omega), f 11 _ (by omega) (by omega) (by omega), f 11 _ (by omega) (by omega) (by omega), g 10 _ (by omega) (by omega), g 10 _ (by omega) (by omega), g 10 _ (by omega) (by omega)]; exact h6 e he
  · rw [f 46 5 (by omega) (by omega) (by omega), g 0 15 (by omega) (by omega)]; exact h7 e he
  · exact (F1.w 46 4 _ (by unfold wTr; omega)).tr (p1.mono (fun p j w => by unfold wTr; omega))
