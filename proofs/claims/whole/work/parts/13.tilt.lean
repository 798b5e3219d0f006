/-- a tilt's column, all rows -/
theorem te_tiltcol {b : Nat} {s m : ba_St} {N np T U : Nat} {P : Nat → Nat} {Hs : Nat → Nat → Nat} (hN : N ≤ 12) (h10 : m.1 0 10 = nI N) (D : te_D b s m N np P T U Hs) {c c2 : Nat} (hc : c < 9) (hc2 : c2 < 9) (hne : c2 ≠ c) {st z1 z3 y2 : Int32} (e1 : ∀ r, nI (r * 9 + c) + st = nI (r * 9 + c2)) (e2 : nI c + st = nI c2) :
    ∃ s' m', (∃ P', te_D b s' m' N np P' T U Hs) ∧ te_F b s s' ∧ te_M m m' ∧ ba_fix (xc_tilt_l35 b z1 st z3 (nI c)) 1000 (s, 0) = some s' ∧ ba_fix (xm_tilts_l24 st y2 (nI c)) 1000 (m, 0) = some m' := by
  obtain ⟨s', m', ⟨h1, h2, h3⟩, h4, h5⟩ := pf_two (F := xc_tilt_l35 b z1 st z3 (nI c)) (E := xm_tilts_l24 st y2 (nI c))
    (fun i a a' => ∃ s' m' P', a = (s', nI i) ∧ a' = (m', nI i) ∧ te_D b s' m' N np P' T U Hs ∧ te_F b s s' ∧ te_M m m')
    (fun s' m' => (∃ P', te_D b s' m' N np P' T U Hs) ∧ te_F b s s' ∧ te_M m m') 8
    (fun i a a' hi h => by
      obtain ⟨s1, m1, P1, rfl, rfl, hD, hF, hM⟩ := h
      obtain ⟨s2, m2, P2, g1, g2, g3, g4, g5⟩ := te_tilt1 (z1 := z1) (z3 := z3) (y2 := y2) hN (by rw [hM.2 0 10 (by omega) (by omega)]; exact h10) hD hi hc hc2 hne (e1 i) e2
      exact ⟨_, _, ⟨s2, m2, P2, rfl, rfl, g1, hF.tr g2, hM.tr g3⟩, g4, g5⟩)
    (fun a a' h => by
      obtain ⟨s1, m1, P1, rfl, rfl, hD, hF, hM⟩ := h
      refine ⟨s1, m1, ⟨⟨P1, hD⟩, hF, hM⟩, fun k => ?_, fun k => ?_⟩
      · simp (disch := omega) only [xc_tilt_l35, pz_lit, Int32.le_refl, if_true]
      · simp (disch := omega) only [xm_tilts_l24, pz_lit, Int32.le_refl, if_true]) 1000 1000 0 (s, 0) (m, 0) (by omega) (by omega) (by omega) ⟨s, m, P, rfl, rfl, D, te_F.rf b s, te_M.rf m⟩
  exact ⟨s', m', h1, h2, h3, h4, h5⟩
/-- the column at the edge: nothing goes -/
theorem te_tiltedge {m : ba_St} {N : Nat} (hN : N ≤ 12) (h10 : m.1 0 10 = nI N) {c : Nat} {st y2 : Int32} (e2 : xm_isColumn (nI c + st) = some 0) : ba_fix (xm_tilts_l24 st y2 (nI c)) 1000 (m, 0) = some m := by
  obtain ⟨o, h1, h2⟩ := pf_one (F := xm_tilts_l24 st y2 (nI c)) (fun i a => a = (m, nI i)) (fun o => o = m) 8
    (fun i a hi h => by
      subst h
      refine ⟨_, rfl, fun k => ?_⟩
      have l8 : ¬ 8 ≤ i := by omega
      simp (disch := omega) only [xm_tilts_l24, ↓pz_m1, pz_lit, pz_le, l8, if_false, pm_whoAt m hN h10, pz_bnd, e2, if_true, pz_lt, nI_add]
      by_cases hq : pl_last (fun k => decide (m.1 11 k = nI i ∧ m.1 12 k = nI c)) N = pn
      · simp only [hq, if_true]
      · simp only [hq, if_false])
    (fun a h => by
      subst h
      exact ⟨m, rfl, fun k => by simp (disch := omega) only [xm_tilts_l24, pz_lit, Int32.le_refl, if_true]⟩) 1000 0 (m, 0) (by omega) (by omega) rfl
  rw [h2, h1]
theorem te_tilt {b : Nat} {s m : ba_St} {N np T U : Nat} {P : Nat → Nat} {Hs : Nat → Nat → Nat} (hN : N ≤ 12) (h10 : m.1 0 10 = nI N) (D : te_D b s m N np P T U Hs) (right : Bool) :
    ∃ s' m', (∃ P', te_D b s' m' N np P' T U Hs) ∧ te_F b s s' ∧ te_M m m' ∧ xc_tilt s b (if right = true then nI 1 else nI 0) = some s' ∧ xm_tilts m (if right = true then nI 1 else pn) = some m' := by
  have key : ∃ s' m', ((∃ P', te_D b s' m' N np P' T U Hs) ∧ te_F b s s' ∧ te_M m m') ∧ ba_fix (xc_tilt_l12 b (if right = true then nI 1 else nI 0) (if right = true then nI 1 else pn)) 1000 (s, nI 1) = some s' ∧ ba_fix (xm_tilts_l2 (if right = true then nI 1 else pn)) 999 (m, nI 1) = some m' := by
    refine pf_two (fun i a a' => 1 ≤ i ∧ ∃ s' m' P', a = (s', nI i) ∧ a' = (m', nI i) ∧ te_D b s' m' N np P' T U Hs ∧ te_F b s s' ∧ te_M m m')
      (fun s' m' => (∃ P', te_D b s' m' N np P' T U Hs) ∧ te_F b s s' ∧ te_M m m') 9 ?_ ?_ 1000 999 1 (s, nI 1) (m, nI 1) (by omega) (by omega) (by omega) ⟨by omega, s, m, P, rfl, rfl, D, te_F.rf b s, te_M.rf m⟩
    · intro i a a' hi h
      obtain ⟨h1, s1, m1, P1, rfl, rfl, hD, hF, hM⟩ := h
      have h10' : m1.1 0 10 = nI N := by rw [hM.2 0 10 (by omega) (by omega)]; exact h10
      have l9 : ¬ 9 ≤ i := by omega
      cases right with
      | true =>
        obtain ⟨s2, m2, ⟨P2, g1⟩, g2, g3, g4, g5⟩ := te_tiltcol (c := 8 - i) (c2 := 9 - i) (st := nI 1) (z1 := nI 1) (z3 := nI i) (y2 := nI i) hN h10' hD (by omega) (by omega) (by omega) (fun r => by rw [nI_add]; congr 1; omega) (by rw [nI_add]; congr 1; omega)
        refine ⟨(s2, nI (i + 1)), (m2, nI (i + 1)), ⟨by omega, s2, m2, P2, rfl, rfl, g1, hF.tr g2, hM.tr g3⟩, fun k => ?_, fun k => ?_⟩
        · simp (disch := omega) only [xc_tilt_l12, xc_tilt_j30_12, pz_lit, pz_le, l9, if_false, if_true, pz_eq, Nat.one_ne_zero, pk_sub, pz_lt, nI_add] at g4 ⊢
          rw [g4]; rfl
        · simp (disch := omega) only [xm_tilts_l2, xm_tilts_j20_2, pz_lit, pz_le, l9, if_false, if_true, pk_sub, pz_lt, nI_add, Nat.not_succ_le_zero] at g5 ⊢
          rw [g5]; rfl
      | false =>
        obtain ⟨s2, m2, ⟨P2, g1⟩, g2, g3, g4, g5⟩ := te_tiltcol (c := i) (c2 := i - 1) (st := pn) (z1 := nI 0) (z3 := nI i) (y2 := nI i) hN h10' hD (by omega) (by omega) (by omega) (fun r => by rw [pz_addpn (by omega)]; congr 1; omega) (by rw [pz_addpn (by omega)])
        refine ⟨(s2, nI (i + 1)), (m2, nI (i + 1)), ⟨by omega, s2, m2, P2, rfl, rfl, g1, hF.tr g2, hM.tr g3⟩, fun k => ?_, fun k => ?_⟩
        · simp (disch := omega) only [xc_tilt_l12, xc_tilt_j30_12, pz_lit, pz_le, l9, if_false, if_true, Bool.false_eq_true, pz_lt, nI_add] at g4 ⊢
          rw [g4]; rfl
        · simp (disch := omega) only [xm_tilts_l2, xm_tilts_j20_2, pz_lit, pz_le, l9, if_false, if_true, Bool.false_eq_true, pz_pnle, pz_lt, nI_add] at g5 ⊢
          rw [g5]; rfl
    · intro a a' h
      obtain ⟨h1, s1, m1, P1, rfl, rfl, hD, hF, hM⟩ := h
      refine ⟨s1, m1, ⟨⟨P1, hD⟩, hF, hM⟩, fun k => ?_, fun k => ?_⟩
      · simp (disch := omega) only [xc_tilt_l12, pz_lit, Int32.le_refl, if_true]
      · simp (disch := omega) only [xm_tilts_l2, pz_lit, Int32.le_refl, if_true]
  obtain ⟨s', m', ⟨g1, g2, g3⟩, g4, g5⟩ := key
  refine ⟨s', m', g1, g2, g3, ?_, ?_⟩
  · cases right with
    | true =>
      simp (disch := omega) only [xc_tilt, xc_tilt_j9, if_true, pz_lit, pz_eq, Nat.one_ne_zero, if_false] at g4 ⊢
      rw [g4]; rfl
    | false =>
      simp (disch := omega) only [xc_tilt, xc_tilt_j9, if_true, Bool.false_eq_true, ↓pz_m1, pz_lit, if_false] at g4 ⊢
      rw [g4]; rfl
  · unfold xm_tilts
    have e0 : ba_fix (xm_tilts_l2 (if right = true then nI 1 else pn)) 1000 (m, 0) = ba_fix (xm_tilts_l2 (if right = true then nI 1 else pn)) 999 (m, nI 1) := by
      rw [show (1000 : Nat) = 999 + 1 from rfl, pz_fix]
      generalize hK : ba_fix (xm_tilts_l2 (if right = true then nI 1 else pn)) 999 = K
      have l9 : ¬ 9 ≤ 0 := by omega
      cases right with
      | true =>
        have h := te_tiltedge (m := m) (c := 8) (st := nI 1) (y2 := nI 0) hN h10 (by rw [nI_add, pm_isColumn]; decide)
        simp (disch := omega) only [xm_tilts_l2, xm_tilts_j20_2, pz_lit, pz_le, l9, if_false, if_true, pk_sub, pz_lt, nI_add, Nat.not_succ_le_zero] at h ⊢
        rw [h]; rfl
      | false =>
        have h := te_tiltedge (m := m) (c := 0) (st := pn) (y2 := nI 0) hN h10 (by rw [pz_0pn, pm_isColumn]; decide)
        simp (disch := omega) only [xm_tilts_l2, xm_tilts_j20_2, pz_lit, pz_le, l9, if_false, if_true, Bool.false_eq_true, pz_pnle, pz_lt, nI_add] at h ⊢
        rw [h]; rfl
    rw [e0, g5]; rfl
