/-! ===== the board as told, in both stores ===== -/
def kT (s m : ba_St) (N np ne : Nat) (pc : Nat → Nat) : Prop :=
  (N ≤ 12 ∧ np ≤ 12 ∧ ne ≤ 8 ∧ s.1 3 7 = nI N ∧ m.1 0 10 = nI N ∧ s.1 3 3 = nI np ∧ m.1 0 7 = nI np ∧ s.1 10 1 = nI ne ∧ m.1 0 13 = nI ne) ∧
  (s.1 3 8 = m.1 0 12 ∧ ∀ c, c < 9 → s.1 7 c = m.1 8 c ∧ ∃ v, v ≤ 9 ∧ m.1 8 c = nI v) ∧
  (∀ i, i < np → pc i < 72 ∧ m.1 7 (3 * i) = nI (pc i / 9) ∧ m.1 7 (3 * i + 1) = nI (pc i % 9)) ∧
  (∀ q, q < 72 → (∀ i, i < np → pc i = q → s.1 6 q = nI i) ∧ ((∀ i, i < np → pc i ≠ q) → s.1 6 q = pn)) ∧
  (∀ i, i < np → ∃ v, v ≤ 3 ∧ s.1 5 i = nI v ∧ m.1 7 (3 * i + 2) = nI v) ∧
  (∀ e, e < ne → ∃ k t v, k ≤ 2 ∧ t < 24 ∧ v < 12 ∧ s.1 11 (e * 4) = nI k ∧ s.1 11 (e * 4 + 1) = nI t ∧ s.1 11 (e * 4 + 2) = nI v ∧ m.1 10 (3 * e) = nI k ∧ m.1 10 (3 * e + 1) = nI t ∧ m.1 10 (3 * e + 2) = nI v) ∧
  m.1 0 15 = nI 0 ∧
  (∀ k, k < N → ∃ t h, t < 24 ∧ 1 ≤ h ∧ h ≤ 9 ∧ s.1 8 k = nI t ∧ s.1 9 k = nI h ∧ m.1 9 (2 * k) = nI t ∧ m.1 9 (2 * k + 1) = nI h)
/-- what answers may write: the courses, what is kept of searches -/
def wRun (p j : Nat) : Prop := 31 ≤ p ∨ p = 15 ∨ p = 16 ∨ (p = 0 ∧ 8 ≤ j ∧ j ≤ 16)
/-- and the reference: what it reads off texts, a run's state, gone, ways, drawn -/
def wQ (p j : Nat) : Prop := p = 7 ∨ p = 8 ∨ p = 9 ∨ (11 ≤ p ∧ p ≤ 22) ∨ p = 24 ∨ (p = 0 ∧ (j = 7 ∨ j = 10 ∨ j = 15 ∨ j = 28 ∨ j = 32))
def wL (p j : Nat) : Prop := (11 ≤ p ∧ p ≤ 22) ∨ p = 24 ∨ (p = 0 ∧ (j = 28 ∨ j = 32))
theorem te_M.fr {m m' : ba_St} (h : te_M m m') : fr wL m m' := ⟨h.1, fun p j w => h.2 p j (by unfold wL at w; omega) (by unfold wL at w; omega)⟩
theorem te_F.fr {b : Nat} {s s' : ba_St} (hb : 31 ≤ b) (h : te_F b s s') : fr wRun s s' := ⟨h.1, fun p j w => h.2 p j (by unfold wRun at w; omega) (by unfold wRun at w; omega)⟩
theorem kT.mv {s m s' m' : ba_St} {N np ne : Nat} {pc : Nat → Nat} (h : kT s m N np ne pc) (hF : fr wRun s s') (hM : fr wL m m') : kT s' m' N np ne pc := by
  have f1 : ∀ p j, 0 < p → p < 15 → s'.1 p j = s.1 p j := fun p j h1 h2 => hF.2 p j (by unfold wRun; omega)
  have g1 : ∀ p j, 0 < p → p < 11 → m'.1 p j = m.1 p j := fun p j h1 h2 => hM.2 p j (by unfold wL; omega)
  have g2 : ∀ j, j ≠ 28 → j ≠ 32 → m'.1 0 j = m.1 0 j := fun j h1 h2 => hM.2 0 j (by unfold wL; omega)
  obtain ⟨h1, h2, h3, h4, h5, h6, h7, h8⟩ := h
  refine ⟨?_, ?_, ?_, ?_, ?_, ?_, ?_, ?_⟩
  · rw [f1 3 7 (by omega) (by omega), g2 10 (by omega) (by omega), f1 3 3 (by omega) (by omega), g2 7 (by omega) (by omega), f1 10 1 (by omega) (by omega), g2 13 (by omega) (by omega)]; exact h1
  · rw [f1 3 8 (by omega) (by omega), g2 12 (by omega) (by omega)]
    refine ⟨h2.1, fun c hc => ?_⟩
    rw [f1 7 c (by omega) (by omega), g1 8 c (by omega) (by omega)]; exact h2.2 c hc
  · intro i hi
    rw [g1 7 _ (by omega) (by omega), g1 7 _ (by omega) (by omega)]; exact h3 i hi
  · intro q hq
    rw [f1 6 q (by omega) (by omega)]; exact h4 q hq
  · intro i hi
    rw [f1 5 i (by omega) (by omega), g1 7 _ (by omega) (by omega)]; exact h5 i hi
  · intro e he
    rw [f1 11 _ (by omega) (by omega), f1 11 _ (by omega) (by omega), f1 11 _ (by omega) (by omega), g1 10 _ (by omega) (by omega), g1 10 _ (by omega) (by omega), g1 10 _ (by omega) (by omega)]; exact h6 e he
  · rw [g2 15 (by omega) (by omega)]; exact h7
  · intro k hk
    rw [f1 8 k (by omega) (by omega), f1 9 k (by omega) (by omega), g1 9 _ (by omega) (by omega), g1 9 _ (by omega) (by omega)]; exact h8 k hk
def wTT (b p j : Nat) : Prop := p = b + 1 ∨ p = b + 2 ∨ p = b + 3 ∨ (p = b ∧ (j = 4 ∨ j = 5))
theorem pcok0 : ba_cok (nI 0) (nI 0) (nI 12) 12 12 = true := by decide
theorem pc_takeTold (s : ba_St) {b : Nat} (hb : 15 ≤ b) : ∃ s1, xc_takeTold s b = some s1 ∧ fr (wTT b) s s1 ∧ (∀ j, j < 12 → s1.1 (b + 1) j = s.1 5 j ∧ s1.1 (b + 2) j = s.1 8 j ∧ s1.1 (b + 3) j = s.1 9 j) ∧ s1.1 b 4 = s.1 3 7 ∧ s1.1 b 5 = ba_fishl 1 (s.1 10 1) - 1 := by
  obtain ⟨sc, hsc⟩ : ∃ sc, sc = ba_cp (ba_cp (ba_cp s 5 (b + 1) 0 0 12) 8 (b + 2) 0 0 12) 9 (b + 3) 0 0 12 := ⟨_, rfl⟩
  have hc : ∀ p j, p ≠ b + 1 → p ≠ b + 2 → p ≠ b + 3 → sc.1 p j = s.1 p j := by
    intro p j h1 h2 h3
    rw [hsc, pcp, if_neg h3, pcp, if_neg h2, pcp, if_neg h1]
  refine ⟨ba_w (ba_w sc b 4 (s.1 3 7)) b 5 (ba_fishl 1 (s.1 10 1) - 1), ?_, ⟨?_, fun p j w => ?_⟩, fun j hj => ?_, ?_, pw_s _ _ _ _⟩
  · have e1 := hc 3 7 (by omega) (by omega) (by omega)
    have e2 := hc 10 1 (by omega) (by omega) (by omega)
    have z0 : ba_ix (nI 0) = 0 := pz_ix (by omega)
    have z12 : ba_ix (nI 12) = 12 := pz_ix (by omega)
    unfold xc_takeTold xo_allEvents
    simp only [pz_lit, pcok0, pz_grt, z0, z12, pz_lt]
    rw [← hsc]
    simp (disch := omega) only [e1, e2, pw_p, pz_bnd]
  · rw [pw_2, pw_2, hsc]; rfl
  · unfold wTT at w
    rw [pw, if_neg (by omega), pw, if_neg (by omega)]
    exact hc p j (by omega) (by omega) (by omega)
  · simp (disch := omega) only [pw_p]
    refine ⟨?_, ?_, ?_⟩
    · rw [hsc, pcp, if_neg (by omega), pcp, if_neg (by omega), pcp, if_pos rfl, if_pos (by omega)]
      rw [show 0 + (j - 0) = j by omega]
    · rw [hsc, pcp, if_neg (by omega), pcp, if_pos rfl, if_pos (by omega), pcp, if_neg (by omega)]
      rw [show 0 + (j - 0) = j by omega]
    · rw [hsc, pcp, if_pos rfl, if_pos (by omega), pcp, if_neg (by omega), pcp, if_neg (by omega)]
      rw [show 0 + (j - 0) = j by omega]
  · rw [pw_i _ _ _ (by omega), pw_s]
theorem fr_TT {b : Nat} {s s' : ba_St} (hb : 31 ≤ b) (h : fr (wTT b) s s') : fr wRun s s' := h.mono (fun p j w => by unfold wTT at w; unfold wRun; omega)
/-- a course that has taken what is told -/
theorem te_told {b : Nat} (hb : 15 ≤ b) {s s1 m : ba_St} {N np ne : Nat} {pc : Nat → Nat} (h : kT s m N np ne pc) (hF : fr (wTT b) s s1) (h1 : ∀ j, j < 12 → s1.1 (b + 1) j = s.1 5 j ∧ s1.1 (b + 2) j = s.1 8 j ∧ s1.1 (b + 3) j = s.1 9 j) (h2 : s1.1 b 4 = s.1 3 7) (h3 : s1.1 b 5 = ba_fishl 1 (s.1 10 1) - 1) : te_E b s1 m N np ne pc := by
  have f1 : ∀ p j, p < b → s1.1 p j = s.1 p j := fun p j hp => hF.2 p j (by unfold wTT; omega)
  obtain ⟨⟨a1, a2, a3, a4, a5, a6, a7, a8, a9⟩, g2, g3, g4, g5, g6, g7, g8⟩ := h
  refine ⟨⟨a1, a2, a3, by rw [h2]; exact a4, a5, by rw [f1 3 3 (by omega)]; exact a6, a7, by rw [f1 10 1 (by omega)]; exact a8, a9⟩, ?_, g3, ?_, ?_, ?_, ?_, ?_⟩
  · rw [f1 3 8 (by omega)]
    exact ⟨g2.1, fun c hc => by rw [f1 7 c (by omega)]; exact g2.2 c hc⟩
  · intro q hq
    rw [f1 6 q (by omega)]; exact g4 q hq
  · intro i hi
    rw [(h1 i (by omega)).1]; exact g5 i hi
  · intro e he
    rw [f1 11 _ (by omega), f1 11 _ (by omega), f1 11 _ (by omega)]; exact g6 e he
  · intro e he
    rw [h3, a8, bt_all ne (by omega) e (by omega), g7, show nI 0 = 0 from rfl, b_0]
    simp [he]
  · intro k hk
    rw [(h1 k (by omega)).2.1, (h1 k (by omega)).2.2]; exact g8 k hk
/-- the told course holds the run of what is told -/
def CurTold (s : ba_St) : Prop := ∃ s0 s1, xc_run s0 31 = some s1 ∧ (∀ p j, 31 ≤ p → p ≤ 45 → s.1 p j = s1.1 p j) ∧ ∀ m N np ne pc, kT s m N np ne pc → te_E 31 s0 m N np ne pc
def C1 (s : ba_St) : Prop := s.1 0 8 = nI 0 ∨ (s.1 0 8 = nI 1 ∧ CurTold s)
theorem te_D.on {b : Nat} {s s' m : ba_St} {N np T U : Nat} {P : Nat → Nat} {Hs : Nat → Nat → Nat} (h : te_D b s m N np P T U Hs) (hs : ∀ p j, b ≤ p → p ≤ b + 14 → s'.1 p j = s.1 p j) : te_D b s' m N np P T U Hs := by
  have f : ∀ p, b ≤ p → p ≤ b + 14 → s'.1 p = s.1 p := fun p h1 h2 => funext fun j => hs p j h1 h2
  unfold te_D at h ⊢
  rw [f (b + 7) (by omega) (by omega), f (b + 5) (by omega) (by omega), f (b + 6) (by omega) (by omega), f b (by omega) (by omega), f (b + 1) (by omega) (by omega), f (b + 4) (by omega) (by omega), f (b + 9) (by omega) (by omega), f (b + 10) (by omega) (by omega), f (b + 11) (by omega) (by omega), f (b + 12) (by omega) (by omega), f (b + 13) (by omega) (by omega), f (b + 14) (by omega) (by omega), f (b + 8) (by omega) (by omega)]
  exact h
theorem kT.back {s s' m : ba_St} {N np ne : Nat} {pc : Nat → Nat} (h : kT s' m N np ne pc) (hF : fr wRun s s') : kT s m N np ne pc := h.mv (s' := s) ⟨hF.1.symm, fun p j w => (hF.2 p j w).symm⟩ (fr.rf wL m)
/-- a run for a course that has what it needs -/
theorem te_go {b : Nat} (hb : 31 ≤ b) {s m : ba_St} {N np ne : Nat} {pc : Nat → Nat} (E : te_E b s m N np ne pc) : ∃ s' m', xc_run s b = some s' ∧ xm_lives m = some m' ∧ res b s' m' N ∧ te_F b s s' ∧ te_M m m' ∧ te_E b s' m' N np ne pc := by
  obtain ⟨s', m', P, Hs, D, hH, hF, hM, e1, e2⟩ := te_run (by omega) E
  have E' := E.fr (by omega) hF hM
  exact ⟨s', m', e1, e2, ⟨np, P, Hs, D, hH, E.1.1, E'.1.2.2.2.1, E'.1.2.2.2.2.1⟩, hF, hM, E'⟩
/-- the class makes sure of the told run; the reference lives anew -/
theorem told {s m : ba_St} {N np ne : Nat} {pc : Nat → Nat} (h : kT s m N np ne pc) (hC : C1 s) : ∃ s' m', xb_runTold s = some s' ∧ xm_lives m = some m' ∧ res 31 s' m' N ∧ s'.1 0 8 = nI 1 ∧ CurTold s' ∧ fr (fun p j => (31 ≤ p ∧ p ≤ 45) ∨ (p = 0 ∧ j = 8)) s s' ∧ te_M m m' := by
  rcases hC with h0 | ⟨h1, s0, s1, e1, e2, e3⟩
  · obtain ⟨s1, t1, t2, t3, t4, t5⟩ := pc_takeTold s (b := 31) (by omega)
    have E := te_told (by omega) h t2 t3 t4 t5
    obtain ⟨s2, m2, e1, e2, hres, hF, hM, E'⟩ := te_go (by omega) E
    have f12 : fr (fun p j => (31 ≤ p ∧ p ≤ 45) ∨ (p = 0 ∧ j = 8)) s (ba_w s2 0 8 (nI 1)) := by
      refine fr.w ((t2.mono (fun p j w => ?_)).tr ⟨hF.1, fun p j w => hF.2 p j (by omega) (by omega)⟩) 0 8 (nI 1) (Or.inr ⟨rfl, rfl⟩)
      unfold wTT at w; omega
    refine ⟨ba_w s2 0 8 (nI 1), m2, ?_, e2, ?_, pw_s _ _ _ _, ⟨s1, s2, e1, fun p j q1 q2 => pw_p _ _ _ _ (by omega), fun m' N' np' ne' pc' hk => ?_⟩, f12, hM⟩
    · simp (disch := omega) only [xb_runTold, pz_lit, h0, if_true, t1, pz_bnd, e1, pz_lt]
    · obtain ⟨np', P, Hs, D, a, c1, c2, c3⟩ := hres
      exact ⟨np', P, Hs, D.on (fun p j q1 q2 => pw_p _ _ _ _ (by omega)), a, c1, by rw [pw_p _ _ _ _ (by omega)]; exact c2, c3⟩
    · exact te_told (by omega) (hk.back (f12.mono (fun p j w => by unfold wRun; omega))) t2 t3 t4 t5
  · have E := e3 m N np ne pc h
    obtain ⟨s2, m2, d1, d2, hres, hF, hM, E'⟩ := te_go (by omega) E
    have es : s2 = s1 := by rw [e1] at d1; exact (Option.some.inj d1).symm
    subst es
    refine ⟨s, m2, ?_, d2, ?_, h1, ⟨s0, s2, e1, e2, e3⟩, fr.rf _ _, hM⟩
    · have z : ¬ nI 1 = nI 0 := by rw [z_10]; exact fun q => q
      simp only [xb_runTold, pz_lit, h1, z, if_false]
    · obtain ⟨np', P, Hs, D, a, c1, c2, c3⟩ := hres
      exact ⟨np', P, Hs, D.on (fun p j q1 q2 => e2 p j q1 (by omega)), a, c1, by rw [e2 31 4 (by omega) (by omega)]; exact c2, c3⟩
