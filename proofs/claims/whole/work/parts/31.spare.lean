/-! ===== spare ===== -/
def wSp (p j : Nat) : Prop := 46 ≤ p ∨ (p = 0 ∧ 13 ≤ j ∧ j ≤ 15)
def vS (s : ba_St) (a : Int32) : Int32 := if a = pn then s.1 0 13 else if a = 0 then s.1 0 14 else s.1 0 15
def sG (N np ne : Nat) (pc : Nat → Nat) (s0 m0 s m : ba_St) : Prop := kT s m N np ne pc ∧ tk 46 s ∧ fr wSp s0 s ∧ fr wL m0 m ∧ s.1 0 13 = pn ∧ s.1 0 14 = pn ∧ s.1 0 15 = pn
def sP (N np ne : Nat) (pc : Nat → Nat) (s0 m0 : ba_St) (a : Int32) (o : ba_St ⊕ ba_St) (u : ba_St ⊕ (Int32 × ba_St)) : Prop := (∃ s m, o = .inl s ∧ u = .inl m ∧ sG N np ne pc s0 m0 s m) ∨ ∃ s m, o = .inr s ∧ u = .inr (vS s a, m) ∧ fr wSp s0 s ∧ fr wL m0 m
theorem sG.go {N np ne : Nat} {pc : Nat → Nat} {s0 m0 s m : ba_St} (h : sG N np ne pc s0 m0 s m) (a : Int32) : ∃ s' m' v, (v = nI 0 ∨ v = nI 1) ∧ xb_losesNoneWithout s a = some (v, s') ∧ xm_isSpared m a = some (v, m') ∧ sG N np ne pc s0 m0 s' m' := by
  obtain ⟨K, T, F, M, c1, c2, c3⟩ := h
  obtain ⟨s', m', v, hv, e1, e2, K', T', F', M'⟩ := sp1 K T a
  have f : ∀ j, s'.1 0 j = s.1 0 j := fun j => F'.2 0 j (by unfold wTr; omega)
  exact ⟨s', m', v, hv, e1, e2, K', T', F.tr (F'.mono (fun p j w => by unfold wTr at w; unfold wSp; omega)), M.tr M', by rw [f]; exact c1, by rw [f]; exact c2, by rw [f]; exact c3⟩
theorem sG.ne {N np ne : Nat} {pc : Nat → Nat} {s0 m0 s m : ba_St} (h : sG N np ne pc s0 m0 s m) : m.1 0 13 = nI ne ∧ ne ≤ 8 := ⟨h.1.1.2.2.2.2.2.2.2.2, h.1.1.2.2.1⟩
theorem z1n0 : ¬ nI 1 = (0 : Int32) := by decide
theorem zpn0 : ¬ pn = (0 : Int32) := by decide
theorem z1npn : ¬ nI 1 = pn := by decide
theorem z0npn : ¬ nI 0 = pn := by decide
theorem z00 : (nI 0 = (0 : Int32)) = True := eq_true rfl
theorem sp_one {N np ne : Nat} {pc : Nat → Nat} {s0 m0 : ba_St} {a : Int32} (ha : a = pn ∨ a = nI 0 ∨ a = nI 1) {s m : ba_St} (h : sG N np ne pc s0 m0 s m) : ∃ o u, sP N np ne pc s0 m0 a o u ∧ ba_fix (xb_findSpares_l49 (nI ne)) 1000 (s, 0) = some o ∧ ba_fix (xm_spareBy_l21 a) 1000 (m, 0) = some u := by
  have ne8 := h.ne.2
  refine pf_twb (F := xb_findSpares_l49 (nI ne)) (E := xm_spareBy_l21 a) (fun i x y => ∃ s m, x = (s, nI i) ∧ y = (m, nI i) ∧ sG N np ne pc s0 m0 s m) (sP N np ne pc s0 m0 a) ne ?_ ?_ 1000 1000 0 _ _ (by omega) (by omega) (by omega) ⟨s, m, rfl, rfl, h⟩
  · rintro i x y hi ⟨s, m, rfl, rfl, G⟩
    obtain ⟨s', m', v, hv, e1, e2, G'⟩ := G.go (ba_fishl 1 (nI i))
    have l : ¬ ne ≤ i := by omega
    rcases hv with rfl | rfl
    · refine Or.inl ⟨(s', nI (i + 1)), (m', nI (i + 1)), ⟨s', m', rfl, rfl, G'⟩, fun k => ?_, fun k => ?_⟩
      · unfold xb_findSpares_l49
        simp (disch := omega) only [pz_le, l, if_false, e1, pz_bn2, pz_succ, pz_lt]; rfl
      · unfold xm_spareBy_l21
        simp (disch := omega) only [G.ne.1, pz_le, l, if_false, e2, pz_bn2, pz_succ, pz_lt]; rfl
    · refine Or.inr ⟨.inr (ba_w (ba_w s' 0 13 (nI 1)) 0 14 (nI i)), .inr (vS (ba_w (ba_w s' 0 13 (nI 1)) 0 14 (nI i)) a, m'), Or.inr ⟨_, _, rfl, rfl, (G'.2.2.1.w 0 13 _ (by unfold wSp; omega)).w 0 14 _ (by unfold wSp; omega), G'.2.2.2.1⟩, fun k => ?_, fun k => ?_⟩
      · unfold xb_findSpares_l49
        simp (disch := omega) only [pz_le, l, if_false, e1, pz_bn2, pz_lt, z1n0]; rfl
      · unfold xm_spareBy_l21
        simp (disch := omega) only [G.ne.1, pz_le, l, if_false, e2, pz_bn2, pz_lt, z1n0, ↓pz_m1]
        have q1 : (ba_w (ba_w s' 0 13 (nI 1)) 0 14 (nI i)).1 0 13 = nI 1 := by rw [pw_i _ _ _ (by omega), pw_s]
        have q2 : (ba_w (ba_w s' 0 13 (nI 1)) 0 14 (nI i)).1 0 14 = nI i := pw_s _ _ _ _
        have q3 : (ba_w (ba_w s' 0 13 (nI 1)) 0 14 (nI i)).1 0 15 = pn := by rw [pw_i _ _ _ (by omega), pw_i _ _ _ (by omega)]; exact G'.2.2.2.2.2.2
        unfold vS
        rw [q1, q2, q3]
        rcases ha with rfl | rfl | rfl
        · simp only [eq_self, if_true]; rfl
        · simp only [eq_self, z0npn, z1npn, z1n0, zpn0, z00, if_true, if_false]
        · simp only [eq_self, z0npn, z1npn, z1n0, zpn0, z00, if_true, if_false]
  · rintro x y ⟨s, m, rfl, rfl, G⟩
    refine ⟨.inl s, .inl m, Or.inl ⟨s, m, rfl, rfl, G⟩, fun k => ?_, fun k => ?_⟩
    · unfold xb_findSpares_l49
      simp only [Int32.le_refl, if_true]
    · unfold xm_spareBy_l21
      simp only [G.ne.1, Int32.le_refl, if_true]
theorem sp_two {N np ne : Nat} {pc : Nat → Nat} {s0 m0 : ba_St} {a : Int32} (ha : a = pn ∨ a = nI 0 ∨ a = nI 1) {j : Nat} (hj : j < ne) {s m : ba_St} (h : sG N np ne pc s0 m0 s m) : ∃ o u, sP N np ne pc s0 m0 a o u ∧ ba_fix (xb_findSpares_l92 (nI ne) (nI j)) 1000 (s, nI (j + 1)) = some o ∧ ba_fix (xm_spareBy_l78 a (nI j)) 1000 (m, nI (j + 1)) = some u := by
  have ne8 := h.ne.2
  refine pf_twb (F := xb_findSpares_l92 (nI ne) (nI j)) (E := xm_spareBy_l78 a (nI j)) (fun i x y => ∃ s m, x = (s, nI i) ∧ y = (m, nI i) ∧ sG N np ne pc s0 m0 s m) (sP N np ne pc s0 m0 a) ne ?_ ?_ 1000 1000 (j + 1) _ _ (by omega) (by omega) (by omega) ⟨s, m, rfl, rfl, h⟩
  · rintro i x y hi ⟨s, m, rfl, rfl, G⟩
    obtain ⟨s', m', v, hv, e1, e2, G'⟩ := G.go ((ba_fishl 1 (nI j)) ||| (ba_fishl 1 (nI i)))
    have l : ¬ ne ≤ i := by omega
    rcases hv with rfl | rfl
    · refine Or.inl ⟨(s', nI (i + 1)), (m', nI (i + 1)), ⟨s', m', rfl, rfl, G'⟩, fun k => ?_, fun k => ?_⟩
      · unfold xb_findSpares_l92
        simp (disch := omega) only [pz_le, l, if_false, e1, pz_bn2, pz_succ, pz_lt]; rfl
      · unfold xm_spareBy_l78
        simp (disch := omega) only [G.ne.1, pz_le, l, if_false, e2, pz_bn2, pz_succ, pz_lt]; rfl
    · obtain ⟨sx, hsx⟩ : ∃ sx, sx = ba_w (ba_w (ba_w s' 0 13 (nI 2)) 0 14 (nI j)) 0 15 (nI i) := ⟨_, rfl⟩
      refine Or.inr ⟨.inr sx, .inr (vS sx a, m'), Or.inr ⟨_, _, rfl, rfl, by rw [hsx]; exact ((G'.2.2.1.w 0 13 _ (by unfold wSp; omega)).w 0 14 _ (by unfold wSp; omega)).w 0 15 _ (by unfold wSp; omega), G'.2.2.2.1⟩, fun k => ?_, fun k => ?_⟩
      · rw [hsx]
        unfold xb_findSpares_l92
        simp (disch := omega) only [pz_le, l, if_false, e1, pz_bn2, pz_lt, z1n0]; rfl
      · unfold xm_spareBy_l78
        simp (disch := omega) only [G.ne.1, pz_le, l, if_false, e2, pz_bn2, pz_lt, z1n0, ↓pz_m1]
        have q1 : sx.1 0 13 = nI 2 := by rw [hsx, pw_i _ _ _ (by omega), pw_i _ _ _ (by omega), pw_s]
        have q2 : sx.1 0 14 = nI j := by rw [hsx, pw_i _ _ _ (by omega), pw_s]
        have q3 : sx.1 0 15 = nI i := by rw [hsx, pw_s]
        unfold vS
        rw [q1, q2, q3]
        rcases ha with rfl | rfl | rfl
        · simp only [eq_self, if_true]; rfl
        · simp only [eq_self, z0npn, z1npn, z1n0, zpn0, z00, if_true, if_false]
        · simp only [eq_self, z0npn, z1npn, z1n0, zpn0, z00, if_true, if_false]
  · rintro x y ⟨s, m, rfl, rfl, G⟩
    refine ⟨.inl s, .inl m, Or.inl ⟨s, m, rfl, rfl, G⟩, fun k => ?_, fun k => ?_⟩
    · unfold xb_findSpares_l92
      simp only [Int32.le_refl, if_true]
    · unfold xm_spareBy_l78
      simp only [G.ne.1, Int32.le_refl, if_true]
theorem sp_pairs {N np ne : Nat} {pc : Nat → Nat} {s0 m0 : ba_St} {a : Int32} (ha : a = pn ∨ a = nI 0 ∨ a = nI 1) {s m : ba_St} (h : sG N np ne pc s0 m0 s m) : ∃ o u, sP N np ne pc s0 m0 a o u ∧ ba_fix (xb_findSpares_l83 (nI ne)) 1000 (s, 0) = some o ∧ ba_fix (xm_spareBy_l66 a) 1000 (m, 0) = some u := by
  have ne8 := h.ne.2
  refine pf_twb (F := xb_findSpares_l83 (nI ne)) (E := xm_spareBy_l66 a) (fun i x y => ∃ s m, x = (s, nI i) ∧ y = (m, nI i) ∧ sG N np ne pc s0 m0 s m) (sP N np ne pc s0 m0 a) ne ?_ ?_ 1000 1000 0 _ _ (by omega) (by omega) (by omega) ⟨s, m, rfl, rfl, h⟩
  · rintro i x y hi ⟨s, m, rfl, rfl, G⟩
    obtain ⟨o, u, hP, e1, e2⟩ := sp_two ha hi G
    have l : ¬ ne ≤ i := by omega
    rcases hP with ⟨s', m', rfl, rfl, G'⟩ | ⟨s', m', rfl, rfl, F1, F2⟩
    · refine Or.inl ⟨(s', nI (i + 1)), (m', nI (i + 1)), ⟨s', m', rfl, rfl, G'⟩, fun k => ?_, fun k => ?_⟩
      · unfold xb_findSpares_l83
        simp (disch := omega) only [pz_le, l, if_false, pz_succ, pz_lt, e1, pz_bnd]
      · unfold xm_spareBy_l66
        simp (disch := omega) only [G.ne.1, pz_le, l, if_false, pz_succ, pz_lt, e2, pz_bnd]
    · refine Or.inr ⟨.inr s', .inr (vS s' a, m'), Or.inr ⟨_, _, rfl, rfl, F1, F2⟩, fun k => ?_, fun k => ?_⟩
      · unfold xb_findSpares_l83
        simp (disch := omega) only [pz_le, l, if_false, pz_succ, pz_lt, e1, pz_bnd]
      · unfold xm_spareBy_l66
        simp (disch := omega) only [G.ne.1, pz_le, l, if_false, pz_succ, pz_lt, e2, pz_bnd]
  · rintro x y ⟨s, m, rfl, rfl, G⟩
    refine ⟨.inl s, .inl m, Or.inl ⟨s, m, rfl, rfl, G⟩, fun k => ?_, fun k => ?_⟩
    · unfold xb_findSpares_l83
      simp only [Int32.le_refl, if_true]
    · unfold xm_spareBy_l66
      simp only [G.ne.1, Int32.le_refl, if_true]
theorem spares {s m : ba_St} {N np ne : Nat} {pc : Nat → Nat} (K : kT s m N np ne pc) {a : Int32} (ha : a = pn ∨ a = nI 0 ∨ a = nI 1) : ∃ s' m', xb_findSpares s = some s' ∧ xm_spareBy m a = some (vS s' a, m') ∧ fr wSp s s' ∧ fr wL m m' := by
  obtain ⟨s1, t1, t2, t3, t4, t5⟩ := pc_takeTold s (b := 46) (by omega)
  have F1 : fr wSp s s1 := t2.mono (fun p j w => by unfold wTT at w; unfold wSp; omega)
  have f1 : ∀ p j, p < 46 → s1.1 p j = s.1 p j := fun p j hp => t2.2 p j (by unfold wTT; omega)
  have T1 : tk 46 s1 := ⟨fun j hj => by rw [f1 5 j (by omega), f1 8 j (by omega), f1 9 j (by omega)]; exact t3 j hj, by rw [t4, f1 3 7 (by omega)]⟩
  obtain ⟨s2, hs2⟩ : ∃ s2, s2 = ba_w (ba_w (ba_w s1 0 13 pn) 0 14 pn) 0 15 pn := ⟨_, rfl⟩
  have F2 : fr wSp s s2 := by rw [hs2]; exact ((F1.w 0 13 _ (by unfold wSp; omega)).w 0 14 _ (by unfold wSp; omega)).w 0 15 _ (by unfold wSp; omega)
  have T2 : tk 46 s2 := by rw [hs2]; exact ((T1.w0 (by omega) 13 pn).w0 (by omega) 14 pn).w0 (by omega) 15 pn
  have G : sG N np ne pc s m s2 m := by
    refine ⟨K.mv (F2.mono (fun p j w => by unfold wSp at w; unfold wRun; omega)) (fr.rf wL m), T2, F2, fr.rf wL m, ?_, ?_, ?_⟩
    · rw [hs2, pw_i _ _ _ (by omega), pw_i _ _ _ (by omega), pw_s]
    · rw [hs2, pw_i _ _ _ (by omega), pw_s]
    · rw [hs2, pw_s]
  have hne : s1.1 10 1 = nI ne := by rw [f1 10 1 (by omega)]; exact K.1.2.2.2.2.2.2.2.1
  obtain ⟨s3, m3, v, hv, e1, e2, G3⟩ := G.go 0
  rcases hv with rfl | rfl
  · obtain ⟨o, u, hP, d1, d2⟩ := sp_one ha G3
    rcases hP with ⟨s4, m4, rfl, rfl, G4⟩ | ⟨s4, m4, rfl, rfl, Fs, Fm⟩
    · obtain ⟨o, u, hP, d3, d4⟩ := sp_pairs ha G4
      rcases hP with ⟨s5, m5, rfl, rfl, G5⟩ | ⟨s5, m5, rfl, rfl, Fs, Fm⟩
      · refine ⟨s5, m5, ?_, ?_, G5.2.2.1, G5.2.2.2.1⟩
        · unfold xb_findSpares
          simp only [t1, pz_bnd, pz_lt, hne, ↓pz_m1, ← hs2, e1, pz_bn2, z00, if_true, d1, d3]
        · unfold xm_spareBy
          have hv : vS s5 a = pn := by
            unfold vS
            rw [G5.2.2.2.2.1, G5.2.2.2.2.2.1, G5.2.2.2.2.2.2]
            split
            · rfl
            · split <;> rfl
          simp only [e2, pz_bn2, z00, if_true, d2, pz_bnd, d4, hv]; rfl
      · refine ⟨s5, m5, ?_, ?_, Fs, Fm⟩
        · unfold xb_findSpares
          simp only [t1, pz_bnd, pz_lt, hne, ↓pz_m1, ← hs2, e1, pz_bn2, z00, if_true, d1, d3]
        · unfold xm_spareBy
          simp only [e2, pz_bn2, z00, if_true, d2, pz_bnd, d4]
    · refine ⟨s4, m4, ?_, ?_, Fs, Fm⟩
      · unfold xb_findSpares
        simp only [t1, pz_bnd, pz_lt, hne, ↓pz_m1, ← hs2, e1, pz_bn2, z00, if_true, d1]
      · unfold xm_spareBy
        simp only [e2, pz_bn2, z00, if_true, d2, pz_bnd]
  · refine ⟨ba_w s3 0 13 0, m3, ?_, ?_, G3.2.2.1.w 0 13 _ (by unfold wSp; omega), G3.2.2.2.1⟩
    · unfold xb_findSpares
      simp only [t1, pz_bnd, pz_lt, hne, ↓pz_m1, ← hs2, e1, pz_bn2, z1n0, if_false]
    · unfold xm_spareBy
      have q1 : (ba_w s3 0 13 0).1 0 13 = 0 := pw_s _ _ _ _
      have q2 : (ba_w s3 0 13 0).1 0 14 = pn := by rw [pw_i _ _ _ (by omega)]; exact G3.2.2.2.2.2.1
      have q3 : (ba_w s3 0 13 0).1 0 15 = pn := by rw [pw_i _ _ _ (by omega)]; exact G3.2.2.2.2.2.2
      rw [e2, pz_bn2, if_neg z1n0]
      unfold vS
      rw [q1, q2, q3, ← pz_m1]
      split
      · rfl
      · rw [ite_self]
