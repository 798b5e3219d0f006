/-! ===== bringers ===== -/
theorem rd_bring {s m : ba_St} {N : Nat} (h : res 46 s m N) : ∃ v, xc_bringing s 46 = some v ∧ ∀ k, k < N → ∃ x, x ≤ 25 ∧ m.1 13 k = nI x ∧ bt v k = decide (0 < x) := by
  obtain ⟨np, P, Hs, D, -, hN, h4, h10⟩ := h
  obtain ⟨D1, D2, D3, D4, D5, D6, D7, D8, D9, D10, D11, D12⟩ := D
  have val : ∀ i, i < N → ∃ x, x ≤ 25 ∧ m.1 13 i = nI x ∧ s.1 57 i = nI x := by
    intro i hi
    obtain ⟨v, hv, hvm⟩ := D11 i hi
    have hs := (D7 i hi).1
    have hbd : bd (P i) ≤ 25 := by
      have := (D1 i hi).1
      unfold bd; split
      · omega
      · split <;> omega
    exact ⟨v, by omega, hvm, by rw [show (57 : Nat) = 46 + 11 from rfl, hs, hvm]⟩
  obtain ⟨o, po, d⟩ := pf_one (F := xc_bringing_l4 46 s) (fun i a => ∃ v, a = (v, nI i) ∧ (∀ k, k < i → ∃ x, x ≤ 25 ∧ m.1 13 k = nI x ∧ bt v k = decide (0 < x)) ∧ ∀ k, i ≤ k → k < 32 → bt v k = false) (fun o => ∀ k, k < N → ∃ x, x ≤ 25 ∧ m.1 13 k = nI x ∧ bt o k = decide (0 < x)) N
    (fun i a hi hI => by
      obtain ⟨v, rfl, I1, I2⟩ := hI
      obtain ⟨x, x1, x2, x3⟩ := val i hi
      have l : ¬ nI N ≤ nI i := by rw [pz_le (by omega) (by omega)]; omega
      have i1 : ba_inb (nI i) 12 = true := pz_inb (by omega) (by omega)
      have j1 : ba_ix (nI i) = i := pz_ix (by omega)
      by_cases hx : x = 0
      · subst hx
        have c : nI 0 ≤ (0 : Int32) := Int32.le_refl _
        refine ⟨(v, nI (i + 1)), ⟨v, rfl, fun k hk => ?_, fun k q1 q2 => I2 k (by omega) q2⟩, fun k => ?_⟩
        · by_cases e : k = i
          · subst e; exact ⟨0, by omega, x2, by rw [I2 k (by omega) (by omega)]; rfl⟩
          · exact I1 k (by omega)
        · unfold xc_bringing_l4
          simp only [h4, l, if_false, i1, pz_grt, j1, x3, c, if_true, pz_lt, pz_succ]
      · have c : ¬ nI x ≤ (0 : Int32) := by rw [show (0 : Int32) = nI 0 from rfl, pz_le (by omega) (by omega)]; omega
        refine ⟨(v ||| ba_fishl 1 (nI i), nI (i + 1)), ⟨_, rfl, fun k hk => ?_, fun k q1 q2 => ?_⟩, fun k => ?_⟩
        · rw [bt_set (by omega) (by omega)]
          by_cases e : k = i
          · subst e; exact ⟨x, x1, x2, by rw [decide_eq_true rfl, Bool.or_true, decide_eq_true (by omega)]⟩
          · obtain ⟨y, y1, y2, y3⟩ := I1 k (by omega)
            exact ⟨y, y1, y2, by rw [decide_eq_false e, Bool.or_false]; exact y3⟩
        · rw [bt_set (by omega) q2, I2 k (by omega) q2, decide_eq_false (by omega)]; rfl
        · unfold xc_bringing_l4
          simp only [h4, l, if_false, i1, pz_grt, j1, x3, c, pz_lt, pz_succ])
    (fun a hI => by
      obtain ⟨v, rfl, I1, I2⟩ := hI
      refine ⟨v, I1, fun k => ?_⟩
      unfold xc_bringing_l4
      simp only [h4, Int32.le_refl, if_true]) 1000 0 (0, 0) (by omega) (by omega) ⟨0, rfl, fun k hk => by omega, fun k _ _ => b_0 k⟩
  exact ⟨o, by unfold xc_bringing; rw [d]; rfl, po⟩
theorem shl_pow : ∀ n, n ≤ 8 → ba_fishl 1 (nI n) = nI (2 ^ n) := by decide +kernel
theorem kept_gone : ∀ n, n ≤ 8 → ∀ z, z < 2 ^ n → ∀ e, e < n → bt (nI z) e = !bt (nI (2 ^ n - 1 - z)) e := by decide +kernel
theorem pow_le8 {n : Nat} (h : n ≤ 8) : 2 ^ n ≤ 256 := by calc 2 ^ n ≤ 2 ^ 8 := Nat.pow_le_pow_right (by omega) h
  _ = 256 := rfl
def wBr (p _j : Nat) : Prop := 46 ≤ p ∨ p = 15
/-- without the events not kept: who brings -/
def brP (b : Nat → Int32) (s m : ba_St) (N np ne : Nat) (pc : Nat → Nat) (z : Nat) : Prop := ∃ m', xm_lives (ba_w m 0 15 (nI (2 ^ ne - 1 - z))) = some m' ∧ (∀ k, k < N → ∃ x, x ≤ 25 ∧ m'.1 13 k = nI x ∧ bt (b z) k = decide (0 < x)) ∧ kT s (ba_w m' 0 15 0) N np ne pc ∧ fr wL m (ba_w m' 0 15 0)
theorem bringers {s m : ba_St} {N np ne : Nat} {pc : Nat → Nat} (K : kT s m N np ne pc) : ∃ s', xb_findBringers s = some s' ∧ fr wBr s s' ∧ ∀ z, z < 2 ^ ne → brP (s'.1 15) s m N np ne pc z := by
  have ne8 := K.1.2.2.1
  have p8 := pow_le8 ne8
  obtain ⟨s1, t1, t2, t3, t4, t5⟩ := pc_takeTold s (b := 46) (by omega)
  have F1 : fr wBr s s1 := t2.mono (fun p j w => by unfold wTT at w; unfold wBr; omega)
  have f1 : ∀ p j, p < 46 → s1.1 p j = s.1 p j := fun p j hp => t2.2 p j (by unfold wTT; omega)
  have T1 : tk 46 s1 := ⟨fun j hj => by rw [f1 5 j (by omega), f1 8 j (by omega), f1 9 j (by omega)]; exact t3 j hj, by rw [t4, f1 3 7 (by omega)]⟩
  have wr : ∀ p j, wBr p j → wRun p j := fun p j w => by unfold wBr at w; unfold wRun; omega
  obtain ⟨o, ⟨a1, a2⟩, d⟩ := pf_one (F := xb_findBringers_l9) (fun i a => ∃ sa, a = (sa, nI i) ∧ fr wBr s sa ∧ tk 46 sa ∧ ∀ z, z < i → brP (sa.1 15) s m N np ne pc z) (fun o => fr wBr s o ∧ ∀ z, z < 2 ^ ne → brP (o.1 15) s m N np ne pc z) (2 ^ ne)
    (fun i a hi hI => by
      obtain ⟨sa, rfl, Fa, Ta, Pa⟩ := hI
      have Ka : kT sa m N np ne pc := K.mv (Fa.mono wr) (fr.rf wL m)
      obtain ⟨s2, m2, e1, e2, hres, K2, T2, F2, M2, -⟩ := go_mask Ka Ta (x := nI i) (y := nI (2 ^ ne - 1 - i)) (kept_gone ne ne8 i hi)
      obtain ⟨v, v1, v2⟩ := rd_bring hres
      have F3 : fr wBr s s2 := Fa.tr (F2.mono (fun p j w => by unfold wTr at w; unfold wBr; omega))
      have en : sa.1 10 1 = nI ne := Ka.1.2.2.2.2.2.2.2.1
      have l : ¬ nI (2 ^ ne) ≤ nI i := by rw [pz_le (by omega) (by omega)]; omega
      have i1 : ba_inb (nI i) 256 = true := pz_inb (by omega) (by omega)
      have j1 : ba_ix (nI i) = i := pz_ix (by omega)
      refine ⟨(ba_w s2 15 i v, nI (i + 1)), ⟨_, rfl, F3.w 15 i _ (by unfold wBr; omega), ⟨fun j hj => ?_, ?_⟩, fun z hz => ?_⟩, fun k => ?_⟩
      · simp (disch := omega) only [pw_p]; exact T2.1 j hj
      · simp (disch := omega) only [pw_p]; exact T2.2
      · by_cases e : z = i
        · subst e
          exact ⟨m2, e2, fun k hk => by rw [pw_s]; exact v2 k hk, K2.back (F3.mono wr), M2⟩
        · obtain ⟨m', b1, b2, b3, b4⟩ := Pa z (by omega)
          exact ⟨m', b1, fun k hk => by rw [pw_i _ _ _ e, F2.2 15 z (by unfold wTr; omega)]; exact b2 k hk, b3, b4⟩
      · unfold xb_findBringers_l9
        simp only [en, shl_pow ne ne8, l, if_false, pz_lt, e1, pz_bnd, v1, i1, j1, pz_grt, pz_succ])
    (fun a hI => by
      obtain ⟨sa, rfl, Fa, Ta, Pa⟩ := hI
      have Ka : kT sa m N np ne pc := K.mv (Fa.mono wr) (fr.rf wL m)
      have en : sa.1 10 1 = nI ne := Ka.1.2.2.2.2.2.2.2.1
      refine ⟨sa, ⟨Fa, Pa⟩, fun k => ?_⟩
      unfold xb_findBringers_l9
      simp only [en, shl_pow ne ne8, Int32.le_refl, if_true]) 1000 0 (s1, 0) (Nat.zero_le _) (by omega) ⟨s1, rfl, F1, T1, fun z hz => by omega⟩
  exact ⟨o, by unfold xb_findBringers; rw [t1, pz_bnd, d]; rfl, a1, a2⟩
def C4 (s : ba_St) : Prop := s.1 0 16 = nI 0 ∨ (s.1 0 16 = nI 1 ∧ ∀ m N np ne pc, kT s m N np ne pc → ∀ z, z < 2 ^ ne → brP (s.1 15) s m N np ne pc z)
theorem C4.mv {s s' : ba_St} (h : C4 s) (hF : fr1 wRun s s') (h16 : s'.1 0 16 = s.1 0 16) (h15 : ∀ j, s'.1 15 j = s.1 15 j) : C4 s' := by
  unfold C4
  rw [h16, show s'.1 15 = s.1 15 from funext h15]
  rcases h with h | ⟨a1, a2⟩
  · exact Or.inl h
  · refine Or.inr ⟨a1, fun m N np ne pc K z hz => ?_⟩
    have K' : kT s m N np ne pc := kT.back (s' := (s'.1, s.2)) K ⟨rfl, hF⟩
    obtain ⟨m', b1, b2, b3, b4⟩ := a2 m N np ne pc K' z hz
    exact ⟨m', b1, b2, b3.mv (s' := (s'.1, s.2)) ⟨rfl, hF⟩ (fr.rf wL _), b4⟩
theorem brought {s m : ba_St} {N np ne : Nat} {pc : Nat → Nat} (K : kT s m N np ne pc) (h0 : s.1 0 16 = nI 0) : ∃ s', xb_findBringers s = some s' ∧ fr wBr s s' ∧ C4 (ba_w s' 0 16 1) := by
  obtain ⟨s', b1, b2, -⟩ := bringers K
  have F : fr wRun s (ba_w s' 0 16 1) := (b2.mono (fun p j w => by unfold wBr at w; unfold wRun; omega)).w 0 16 _ (by unfold wRun; omega)
  refine ⟨s', b1, b2, Or.inr ⟨pw_s _ _ _ _, fun m2 N2 np2 ne2 pc2 K2 z hz => ?_⟩⟩
  have K2' : kT s m2 N2 np2 ne2 pc2 := K2.back F
  obtain ⟨s3, c1, -, c3⟩ := bringers K2'
  rw [b1] at c1
  have e : s' = s3 := Option.some.inj c1
  subst e
  obtain ⟨m', d1, d2, d3, d4⟩ := c3 z hz
  exact ⟨m', d1, fun k hk => by rw [pw_p _ _ _ _ (by omega)]; exact d2 k hk, d3.mv F (fr.rf wL _), d4⟩
