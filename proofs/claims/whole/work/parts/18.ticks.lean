/-! ===== balls come in; a tick is kept; the run ===== -/
theorem te_in1 {b : Nat} (hb : 15 ≤ b) {s m : ba_St} {N np ne T U : Nat} {pc P : Nat → Nat} {Hs : Nat → Nat → Nat} (E : te_E b s m N np ne pc) (D : te_D b s m N np P T U Hs) {k t : Nat} (hk : k < N) (ht24 : t < 24) :
    ∃ s' m' P', te_D b s' m' N np P' T U Hs ∧ te_F b s s' ∧ te_M m m' ∧ (∀ kk, xc_letIn_l2 b (nI t) kk (s, nI k) = kk (s', nI (k + 1))) ∧ (∀ kk, xm_passes_l81 (nI t) kk (m, nI k) = kk (m', nI (k + 1))) := by
  have D0 := D
  obtain ⟨⟨hN, hnp, hne, a1, h10, a3, h7, a5, a6⟩, -, -, -, -, -, -, hbl⟩ := E
  obtain ⟨D1, D2, D3, D4, D5, D6, D7, D8, D9, D10, D11, D12⟩ := D
  obtain ⟨t0, h, c1, c2, c3, e1, e2, e3, e4⟩ := hbl k hk
  obtain ⟨p1, p2, p3, p4⟩ := D1 k hk
  have lN : ¬ N ≤ k := by omega
  have hbit := D4 k (by omega)
  by_cases hw : P k = 90
  · have hbw : bt (s.1 b 10) k = true := by rw [hbit]; simp [hk, hw]
    have hrw : m.1 11 k = pn := by rw [p3]; unfold cR; rw [if_pos hw]
    have w1 : xm_whoAt m (nI 0) (nI (h - 1)) = some (s.1 (b + 5) (h - 1)) := by
      rw [pm_whoAt m hN h10, te_who hN D1 D2 (r := 0) (c := h - 1) (by omega) (by omega)]
      rw [show 0 * 9 + (h - 1) = h - 1 by omega]
    by_cases htt : t < t0
    · refine ⟨s, m, P, D0, te_F.rf b s, te_M.rf m, fun kk => ?_, fun kk => ?_⟩
      · simp (disch := omega) only [xc_letIn_l2, pz_lit, a1, pz_le, lN, if_false, pz_inb, pz_grt, pz_ix, e1, e2, pk_sub, pz_lt, bt_tN, hbw, if_true, pz_eq, Nat.one_ne_zero, pz_ltN, htt, nI_add]
      · simp (disch := omega) only [xm_passes_l81, ↓pz_m1, pz_lit, h10, pz_le, lN, if_false, pk_mul, nI_add, pz_inb, pz_grt, pz_ix, e3, e4, pk_sub, pz_lt, hrw, if_true, pz_ltN, htt]
    · rcases dO_who D2 (show h - 1 < 72 by omega) with ⟨hf, hfree⟩ | ⟨j, hj, hPj, hf⟩
      · refine ⟨ba_w (ba_w (ba_w (ba_w s b 10 (s.1 b 10 &&& (ba_fishl 1 (nI k) ^^^ (-1)))) (b + 5) (h - 1) (nI k)) (b + 6) 0 (s.1 (b + 6) 0 ||| ba_fishl 1 (nI k))) (b + 7) k (nI (h - 1)), ba_w (ba_w m 11 k (nI 0)) 12 k (nI (h - 1)), pu P k (h - 1), ⟨?_, ?_, ?_, ?_, ?_, ?_, ?_, ?_, ?_, ?_, ?_, ?_⟩, ?_, ?_, fun kk => ?_, fun kk => ?_⟩
        · simp (disch := omega) only [wa, wo]
          have g := dP_set D1 (k := k) (p := h - 1) (by omega)
          unfold cP cR cC at g
          rw [if_neg (by omega), if_neg (by omega), if_neg (by omega)] at g
          rwa [show (h - 1) / 9 = 0 by omega, show (h - 1) % 9 = h - 1 by omega] at g
        · simp (disch := omega) only [wa, wo]
          exact dO_in D2 hk hw (by omega) hfree
        · simp (disch := omega) only [wa, wo]
          exact dR_in D3 hN hk hw (by omega)
        · simp (disch := omega) only [wo, pw_s]
          exact dW_in D4 (by omega) (by omega)
        · simp (disch := omega) only [wa, wo]; exact D5
        · simp (disch := omega) only [wa, wo]; exact D6
        · simp (disch := omega) only [wa, wo]; exact D7
        · simp (disch := omega) only [wa, wo]; exact D8
        · simp (disch := omega) only [wa, wo]; exact D9
        · simp (disch := omega) only [wa, wo]; exact dX_upd _ D10 hk
        · simp (disch := omega) only [wa, wo]
          refine dV_same D11 ?_
          unfold bd; rw [if_neg (by omega), if_pos hw]; omega
        · simp (disch := omega) only [wo, pw_i]; exact D12
        · exact ((((te_F.rf b s).w _ _ _ (by omega)).w _ _ _ (by omega)).w _ _ _ (by omega)).w _ _ _ (by omega)
        · exact ((te_M.rf m).w _ _ _ (by omega)).w _ _ _ (by omega)
        · simp (disch := omega) only [xc_letIn_l2, xc_settle, ↓pz_m1, pz_lit, a1, pz_le, lN, if_false, pz_inb, pz_grt, pz_ix, e1, e2, pk_sub, pz_lt, bt_tN, hbw, if_true, pz_eq, Nat.one_ne_zero, pz_ltN, htt, hf, pw_p, pz_bnd, nI_add]
        · simp (disch := omega) only [xm_passes_l81, ↓pz_m1, pz_lit, h10, pz_le, lN, if_false, pk_mul, nI_add, pz_inb, pz_grt, pz_ix, e3, e4, pk_sub, pz_lt, hrw, if_true, pz_ltN, htt, w1, hf, pz_bnd]
      · refine ⟨s, m, P, D0, te_F.rf b s, te_M.rf m, fun kk => ?_, fun kk => ?_⟩
        · simp (disch := omega) only [xc_letIn_l2, ↓pz_m1, pz_lit, a1, pz_le, lN, if_false, pz_inb, pz_grt, pz_ix, e1, e2, pk_sub, pz_lt, bt_tN, hbw, if_true, pz_eq, Nat.one_ne_zero, pz_ltN, htt, hf, pz_pn, nI_add]
        · simp (disch := omega) only [xm_passes_l81, ↓pz_m1, pz_lit, h10, pz_le, lN, if_false, pk_mul, nI_add, pz_inb, pz_grt, pz_ix, e3, e4, pk_sub, pz_lt, hrw, if_true, pz_ltN, htt, w1, hf, pz_pn, pz_bnd]
  · have hbw : bt (s.1 b 10) k = false := by rw [hbit]; simp [hw]
    have hrw : m.1 11 k = nI (P k / 9) := by rw [p3]; unfold cR; rw [if_neg hw]
    refine ⟨s, m, P, D0, te_F.rf b s, te_M.rf m, fun kk => ?_, fun kk => ?_⟩
    · simp (disch := omega) only [xc_letIn_l2, pz_lit, a1, pz_le, lN, if_false, pz_inb, pz_grt, pz_ix, e2, pk_sub, pz_lt, bt_tN, hbw, Bool.false_eq_true, if_true, nI_add]
    · simp (disch := omega) only [xm_passes_l81, ↓pz_m1, pz_lit, h10, pz_le, lN, if_false, pk_mul, nI_add, pz_inb, pz_grt, pz_ix, e4, pk_sub, pz_lt, hrw, pz_pn]
theorem te_in {b : Nat} (hb : 15 ≤ b) {s m : ba_St} {N np ne T U : Nat} {pc P : Nat → Nat} {Hs : Nat → Nat → Nat} (E : te_E b s m N np ne pc) (D : te_D b s m N np P T U Hs) {t : Nat} (ht24 : t < 24) :
    ∃ s' m', (∃ P', te_D b s' m' N np P' T U Hs) ∧ te_F b s s' ∧ te_M m m' ∧ xc_letIn s b (nI t) = some s' ∧ ba_fix (xm_passes_l81 (nI t)) 1000 (m, 0) = some m' := by
  have hN : N ≤ 12 := E.1.1
  obtain ⟨s', m', ⟨h1, h2, h3⟩, h4, h5⟩ := pf_two (F := xc_letIn_l2 b (nI t)) (E := xm_passes_l81 (nI t))
    (fun i a a' => ∃ s' m' P', a = (s', nI i) ∧ a' = (m', nI i) ∧ te_D b s' m' N np P' T U Hs ∧ te_F b s s' ∧ te_M m m')
    (fun s' m' => (∃ P', te_D b s' m' N np P' T U Hs) ∧ te_F b s s' ∧ te_M m m') N
    (fun i a a' hi h => by
      obtain ⟨s1, m1, P1, rfl, rfl, hD, hF, hM⟩ := h
      obtain ⟨s2, m2, P2, g1, g2, g3, g4, g5⟩ := te_in1 hb (E.fr hb hF hM) hD hi ht24
      exact ⟨_, _, ⟨s2, m2, P2, rfl, rfl, g1, hF.tr g2, hM.tr g3⟩, g4, g5⟩)
    (fun a a' h => by
      obtain ⟨s1, m1, P1, rfl, rfl, hD, hF, hM⟩ := h
      have E1 := E.fr hb hF hM
      refine ⟨s1, m1, ⟨⟨P1, hD⟩, hF, hM⟩, fun k => ?_, fun k => ?_⟩
      · simp (disch := omega) only [xc_letIn_l2, E1.1.2.2.2.1, Int32.le_refl, if_true]
      · simp (disch := omega) only [xm_passes_l81, E1.1.2.2.2.2.1, Int32.le_refl, if_true]) 1000 1000 0 (s, 0) (m, 0) (by omega) (by omega) (by omega) ⟨s, m, P, rfl, rfl, D, te_F.rf b s, te_M.rf m⟩
  refine ⟨s', m', h1, h2, h3, ?_, h5⟩
  unfold xc_letIn; rw [h4]; rfl
theorem te_in0 {b : Nat} {s m : ba_St} {N np ne : Nat} {pc : Nat → Nat} (E : te_E b s m N np ne pc) (h0 : s.1 b 10 = 0) {t : Nat} : xc_letIn s b (nI t) = some s := by
  obtain ⟨⟨hN, hnp, hne, a1, h10, a3, h7, a5, a6⟩, -, -, -, -, -, -, hbl⟩ := E
  obtain ⟨o, h1, h2⟩ := pf_one (F := xc_letIn_l2 b (nI t)) (fun i a => a = (s, nI i)) (fun o => o = s) N
    (fun i a hi h => by
      subst h
      refine ⟨_, rfl, fun k => ?_⟩
      obtain ⟨t0, h, c1, c2, c3, e1, e2, e3, e4⟩ := hbl i hi
      have l : ¬ N ≤ i := by omega
      have hb0 : bt (s.1 b 10) i = false := by rw [h0, b_0]
      simp (disch := omega) only [xc_letIn_l2, pz_lit, a1, pz_le, l, if_false, pz_inb, pz_grt, pz_ix, e2, pk_sub, pz_lt, bt_tN, hb0, Bool.false_eq_true, if_true, nI_add])
    (fun a h => by
      subst h
      exact ⟨s, rfl, fun k => by simp (disch := omega) only [xc_letIn_l2, a1, Int32.le_refl, if_true]⟩) 1000 0 (s, 0) (by omega) (by omega) rfl
  unfold xc_letIn
  rw [h2, h1]; rfl
theorem te_ev0 {b : Nat} {s m : ba_St} {N np ne : Nat} {pc : Nat → Nat} (E : te_E b s m N np ne pc) (h0 : s.1 b 5 = 0) {t : Nat} : xc_doEvents s b (nI t) = some s := by
  obtain ⟨⟨hN, hnp, hne, a1, h10, a3, h7, a5, a6⟩, -⟩ := E
  obtain ⟨o, h1, h2⟩ := pf_one (F := xc_doEvents_l10 b (nI t)) (fun i a => a = (s, nI i)) (fun o => o = s) ne
    (fun i a hi h => by
      subst h
      refine ⟨_, rfl, fun k => ?_⟩
      have l : ¬ ne ≤ i := by omega
      have hb0 : bt (s.1 b 5) i = false := by rw [h0, b_0]
      simp (disch := omega) only [xc_doEvents_l10, pz_lit, a5, pz_le, l, if_false, bt_tN, hb0, Bool.false_eq_true, if_true, pz_lt, nI_add])
    (fun a h => by
      subst h
      exact ⟨s, rfl, fun k => by simp (disch := omega) only [xc_doEvents_l10, a5, Int32.le_refl, if_true]⟩) 1000 0 (s, 0) (by omega) (by omega) rfl
  unfold xc_doEvents
  rw [h2, h1]; rfl
/-- the reference keeps a tick -/
theorem pm_rec (m : ba_St) {N t : Nat} (hN : N ≤ 12) (h10 : m.1 0 10 = nI N) (ht : t < 24) : ∃ m', ba_fix (xm_passes_l159 (nI t)) 1000 (m, 0) = some m' ∧ m'.2 = m.2 ∧ (∀ p j, p ≠ 21 → p ≠ 22 → m'.1 p j = m.1 p j) ∧ (∀ k, k < N → m'.1 21 (12 * t + k) = m.1 11 k ∧ m'.1 22 (12 * t + k) = m.1 12 k) ∧ (∀ j, j < 12 * t → m'.1 21 j = m.1 21 j ∧ m'.1 22 j = m.1 22 j) := by
  obtain ⟨m', ⟨h1, h2, h3, h4⟩, h5⟩ := pf_one (F := xm_passes_l159 (nI t)) (fun i a => ∃ m', a = (m', nI i) ∧ m'.2 = m.2 ∧ (∀ p j, p ≠ 21 → p ≠ 22 → m'.1 p j = m.1 p j) ∧ (∀ k, k < i → m'.1 21 (12 * t + k) = m.1 11 k ∧ m'.1 22 (12 * t + k) = m.1 12 k) ∧ (∀ j, j < 12 * t → m'.1 21 j = m.1 21 j ∧ m'.1 22 j = m.1 22 j))
    (fun m' => m'.2 = m.2 ∧ (∀ p j, p ≠ 21 → p ≠ 22 → m'.1 p j = m.1 p j) ∧ (∀ k, k < N → m'.1 21 (12 * t + k) = m.1 11 k ∧ m'.1 22 (12 * t + k) = m.1 12 k) ∧ (∀ j, j < 12 * t → m'.1 21 j = m.1 21 j ∧ m'.1 22 j = m.1 22 j)) N
    (fun i a hi h => by
      obtain ⟨m1, rfl, g1, g2, g3, g4⟩ := h
      have l : ¬ N ≤ i := by omega
      have q10 : m1.1 0 10 = nI N := by rw [g2 0 10 (by omega) (by omega)]; exact h10
      refine ⟨(ba_w (ba_w m1 21 (12 * t + i) (m1.1 11 i)) 22 (12 * t + i) (m1.1 12 i), nI (i + 1)), ⟨_, rfl, g1, fun p j h1 h2 => ?_, fun k hk => ?_, fun j hj => ?_⟩, fun k => ?_⟩
      · rw [pw_p _ _ _ _ h2, pw_p _ _ _ _ h1]; exact g2 p j h1 h2
      · by_cases e : k = i
        · subst e
          simp (disch := omega) only [pw_p, pw_s]
          exact ⟨g2 11 k (by omega) (by omega), g2 12 k (by omega) (by omega)⟩
        · simp (disch := omega) only [pw_p, pw_i]
          exact g3 k (by omega)
      · simp (disch := omega) only [pw_p, pw_i]
        exact g4 j hj
      · simp (disch := omega) only [xm_passes_l159, pz_lit, q10, pz_le, l, if_false, pz_inb, pz_grt, pz_ix, pk_mul, nI_add, pz_lt, pw_p])
    (fun a h => by
      obtain ⟨m1, rfl, g1, g2, g3, g4⟩ := h
      have q10 : m1.1 0 10 = nI N := by rw [g2 0 10 (by omega) (by omega)]; exact h10
      exact ⟨m1, ⟨g1, g2, g3, g4⟩, fun k => by simp (disch := omega) only [xm_passes_l159, q10, Int32.le_refl, if_true]⟩) 1000 0 (m, 0) (by omega) (by omega) ⟨m, rfl, rfl, fun _ _ _ _ => rfl, fun k hk => by omega, fun _ _ => ⟨rfl, rfl⟩⟩
  exact ⟨m', h5, h1, h2, h3, h4⟩
theorem pcp (s : ba_St) (a d sp dp n p q : Nat) : (ba_cp s a d sp dp n).1 p q = if p = d then (if dp ≤ q ∧ q < dp + n then s.1 a (sp + (q - dp)) else s.1 d q) else s.1 p q := by
  unfold ba_cp
  by_cases h : p = d
  · simp only [h, if_true]
    by_cases h2 : dp ≤ q ∧ q < dp + n
    · rw [if_pos h2, pk_cpy_in h2.1 h2.2]
    · rw [if_neg h2, pk_cpy_out (by omega)]
  · simp only [h, if_false]
theorem pcok {t : Nat} (ht : t < 24) : ba_cok (nI 0) (nI (t * 12)) (nI 12) 12 288 = true := by
  unfold ba_cok
  rw [nI_clamp (n := 0) (by omega), nI_clamp (n := 12) (by omega), nI_clamp (n := t * 12) (by omega)]
  simp only [Bool.and_eq_true, decide_eq_true_eq]
  exact ⟨⟨⟨⟨nI_pos' (by omega), nI_pos' (by omega)⟩, nI_pos' (by omega)⟩, by omega⟩, by omega⟩
/-- one tick of both -/
theorem te_tick {b : Nat} (hb : 15 ≤ b) {s m : ba_St} {N np ne : Nat} {pc P : Nat → Nat} {Hs : Nat → Nat → Nat} (E : te_E b s m N np ne pc) {t : Nat} (ht24 : t < 24) (D : te_D b s m N np P t t Hs) :
    ∃ s' m' P' Hs', te_D b s' m' N np P' (t + 1) (t + 1) Hs' ∧ (∀ k, Hs' t k = P' k) ∧ te_F b s s' ∧ te_M m m' ∧ (∀ kk, xc_run_l6 b kk (s, nI t) = kk (s', nI (t + 1))) ∧ xm_passes m (nI t) = some m' := by
  have hN : N ≤ 12 := E.1.1
  obtain ⟨D1, D2, D3, D4, D5, D6, D7, D8, D9, D10, D11, D12⟩ := D
  have M0 : te_M m (ba_w m 20 t (nI 0)) := (te_M.rf m).w _ _ _ (by omega)
  have E0 := E.fr hb (te_F.rf b s) M0
  have D0 : te_D b s (ba_w m 20 t (nI 0)) N np P t (t + 1) Hs := by
    refine ⟨?_, ?_, ?_, ?_, ?_, ?_, ?_, ?_, ?_, ?_, ?_, ?_⟩
    · simp (disch := omega) only [wa, wo]; exact D1
    · exact D2
    · exact D3
    · exact D4
    · simp (disch := omega) only [wa, wo]; exact D5
    · simp (disch := omega) only [wa, wo]; exact D6
    · simp (disch := omega) only [wa, wo]; exact D7
    · simp (disch := omega) only [wa, wo]
      refine ⟨fun u hu => ?_, fun u h1 h2 => D8.2 u (by omega) h2⟩
      by_cases e : u = t
      · subst e; rw [pk_us]; exact D8.2 u (Nat.le_refl u) ht24
      · rw [pk_un e]; exact D8.1 u (by omega)
    · simp (disch := omega) only [wa, wo]; exact D9
    · exact D10
    · simp (disch := omega) only [wa, wo]; exact D11
    · simp (disch := omega) only [wa, wo]; exact D12
  obtain ⟨s1, m1, ⟨P1, g1⟩, g2, g3, g4, g5⟩ := te_events hb E0 D0 ht24
  have E1 := E0.fr hb g2 g3
  obtain ⟨s2, m2, ⟨P2, h1⟩, h2, h3, h4, h5⟩ := te_rows hb E1 g1 (t := t) (by omega) ht24
  have E2 := E1.fr hb h2 h3
  obtain ⟨s3, m3, ⟨P3, i1⟩, i2, i3, i4, i5⟩ := te_in hb E2 h1 ht24
  have E3 := E2.fr hb i2 i3
  obtain ⟨m4, j1, j2, j3, j4, j5⟩ := pm_rec m3 hN E3.1.2.2.2.2.1 ht24
  obtain ⟨K1, K2, K3, K4, K5, K6, K7, K8, K9, K10, K11, K12⟩ := i1
  have fm : ∀ p, p ≠ 21 → p ≠ 22 → m4.1 p = m3.1 p := fun p a c => funext fun j => j3 p j a c
  have fc : ∀ p, p ≠ b + 8 → (ba_cp s3 (b + 7) (b + 8) 0 (t * 12) 12).1 p = s3.1 p := fun p a => funext fun j => by rw [pcp, if_neg a]
  refine ⟨ba_cp s3 (b + 7) (b + 8) 0 (t * 12) 12, m4, P3, fun u => if u = t then P3 else Hs u, ⟨?_, ?_, ?_, ?_, ?_, ?_, ?_, ?_, ⟨?_, ?_, ?_⟩, ?_, ?_, ?_⟩, fun k => by simp, ?_, ?_, ?_, ?_⟩
  · rw [fc _ (by omega), fm 11 (by omega) (by omega), fm 12 (by omega) (by omega)]; exact K1
  · rw [fc _ (by omega)]; exact K2
  · rw [fc _ (by omega)]; exact K3
  · rw [fc _ (by omega)]; exact K4
  · rw [fc _ (by omega), fc _ (by omega), fm 16 (by omega) (by omega), fm 17 (by omega) (by omega)]; exact K5
  · rw [fc _ (by omega), fc _ (by omega), fm 18 (by omega) (by omega), fm 19 (by omega) (by omega)]; exact K6
  · rw [fc _ (by omega), fc _ (by omega), fc _ (by omega), fm 13 (by omega) (by omega), fm 14 (by omega) (by omega), fm 15 (by omega) (by omega)]; exact K7
  · rw [fc _ (by omega), fm 20 (by omega) (by omega)]; exact K8
  · intro u hu k hk
    by_cases e : u = t
    · subst e
      rw [pcp, if_pos rfl, if_pos (by omega), (j4 k hk).1, (j4 k hk).2]
      simp only [if_true]
      have := K1 k hk
      rwa [show 0 + (u * 12 + k - u * 12) = k by omega]
    · rw [pcp, if_pos rfl, if_neg (by omega), (j5 (12 * u + k) (by omega)).1, (j5 (12 * u + k) (by omega)).2]
      simp only [e, if_false]
      exact K9.1 u (by omega) k hk
  · intro u hu k j hk hj
    by_cases e : u = t
    · subst e
      simp only [if_true]
      exact fun q r => dO_inj K2 hN hk hj q r
    · simp only [e, if_false]
      exact K9.2.1 u (by omega) k j hk hj
  · intro u hu k y1 y2
    by_cases e : u = t
    · subst e
      rw [pcp, if_pos rfl, if_pos (by omega), show 0 + (u * 12 + k - u * 12) = k by omega]
      exact K10 k y1 y2
    · rw [pcp, if_pos rfl, if_neg (by omega)]
      exact K9.2.2 u (by omega) k y1 y2
  · rw [fc _ (by omega)]; exact K10
  · rw [fm 13 (by omega) (by omega)]; exact K11
  · rw [fc _ (by omega), fm 0 (by omega) (by omega)]; exact K12
  · refine ((g2.tr h2).tr i2).tr ⟨rfl, fun p j h1 h2 => ?_⟩
    rw [fc p (by omega)]
  · refine (((M0.tr g3).tr h3).tr i3).tr ⟨j2, fun p j h1 h2 => j3 p j (by omega) (by omega)⟩
  · intro kk
    have l24 : ¬ 24 ≤ t := by omega
    have fin : xc_run_j64_6 b kk s3 (nI t) = kk (ba_cp s3 (b + 7) (b + 8) 0 (t * 12) 12, nI (t + 1)) := by
      simp (disch := omega) only [xc_run_j64_6, pz_lit, pk_mul, pcok, pz_grt, pz_ix, pz_lt, nI_add]
    have mid : xc_run_j24_6 b kk s1 (nI t) = kk (ba_cp s3 (b + 7) (b + 8) 0 (t * 12) 12, nI (t + 1)) := by
      unfold xc_run_j24_6
      rw [h4, pz_bnd]
      by_cases h0 : s2.1 b 10 = 0
      · have e : s3 = s2 := by
          have h := te_in0 (t := t) E2 h0
          rw [i4] at h; exact Option.some.inj h
        rw [if_pos h0, ← e]; exact fin
      · rw [if_neg h0, i4, pz_bnd]; exact fin
    by_cases h0 : s.1 b 5 = nI 0
    · have e : s1 = s := by
        have h := te_ev0 (t := t) E0 h0
        rw [g4] at h; exact Option.some.inj h
      simp (disch := omega) only [xc_run_l6, pz_lit, pz_le, l24, if_false, h0, if_true]
      rw [← e]; exact mid
    · simp (disch := omega) only [xc_run_l6, pz_lit, pz_le, l24, if_false, h0, g4, pz_bnd]
      exact mid
  · simp (disch := omega) only [xm_passes, pz_inb, pz_grt, pz_ix, pz_lt, pz_lit, g5, pz_bnd]
    simp only [pz_lit] at h5 i5 j1
    rw [h5, pz_bnd, i5, pz_bnd, j1, pz_bnd]
