/-! ===== the balls of a row, the rows of the board ===== -/
theorem te_to {b : Nat} {s m : ba_St} {N np ne T U : Nat} {pc P : Nat → Nat} {Hs : Nat → Nat → Nat} (E : te_E b s m N np ne pc) (D : te_D b s m N np P T U Hs) {k q : Nat} (hk : k < N) (hq : P k = q) (hq72 : q < 72) : ∃ to, to < 9 ∧ xc_columnFrom s b (nI (q % 9)) (s.1 6 q) = some (nI to) ∧ xm_goesTo m (nI k) (s.1 6 q) = some (nI to) := by
  have hc : m.1 12 k = nI (q % 9) := by
    rw [(D.1 k hk).2.2.2]; unfold cC; rw [if_neg (by omega), hq]
  have hN : N ≤ 12 := E.1.1
  have hnp : np ≤ 12 := E.1.2.1
  rcases (te_pin E hq72).2 with h | ⟨i, hi, h⟩
  · refine ⟨q % 9, by omega, ?_, ?_⟩
    · rw [h]; simp (disch := omega) only [xc_columnFrom, ↓pz_m1, if_true]
    · rw [h]; simp (disch := omega) only [xm_goesTo, ↓pz_m1, if_true, pz_inb, pz_grt, pz_ix, pz_lt, hc]
  · have hw := D.2.2.2.2.1 i hi
    refine ⟨tgt (q % 9) (s.1 (b + 4) i), tgt_lt _ (by omega), ?_, ?_⟩
    · rw [h]; exact te_colC s b (by omega) (by omega) (wy_way hw)
    · rw [h]; exact te_colM m (by omega) (by omega) (by omega) hc hw
theorem te_row1 {b : Nat} (hb : 15 ≤ b) {s m : ba_St} {N np ne T U : Nat} {pc P : Nat → Nat} {Hs : Nat → Nat → Nat} (E : te_E b s m N np ne pc) (D : te_D b s m N np P T U Hs) {k r t : Nat} (hk : k < N) (hr : r < 8) (ht : t < U) (ht24 : t < 24) {z3 d : Int32} (hz : bt z3 k = decide (P k < 72 ∧ P k / 9 = r)) (hd : P k < 72 → P k / 9 = r → bt d k = false) :
    ∃ s' m' d' P', te_D b s' m' N np P' T U Hs ∧ te_F b s s' ∧ te_M m m' ∧ (∀ j, j ≠ k → P' j = P j) ∧ (∀ j, j < 32 → j ≠ k → bt d' j = bt d j) ∧ (bt d' k = true → bt d k = true ∧ P' k = P k ∨ 72 ≤ P' k ∨ r ≤ P' k / 9) ∧ (∀ kk, xc_fallFrom_l10 b (nI r) (nI t) z3 kk (s, nI k) = kk (s', nI (k + 1))) ∧ (∀ kk, xm_passes_l24 (nI t) (nI r) kk (m, d, nI k) = kk (m', d', nI (k + 1))) := by
  have E0 := E
  have D0 := D
  obtain ⟨⟨hN, hnp, hne, a1, h10, a3, h7, a5, a6⟩, -⟩ := E
  obtain ⟨D1, D2, D3, D4, D5, D6, D7, D8, D9, D10, D11, D12⟩ := D
  obtain ⟨p1, p2, p3, p4⟩ := D1 k hk
  have lN : ¬ N ≤ k := by omega
  by_cases hin : P k < 72 ∧ P k / 9 = r
  · obtain ⟨q, hq⟩ : ∃ q, P k = q := ⟨_, rfl⟩
    rw [hq] at hin
    obtain ⟨hq72, hqr⟩ := hin
    subst hqr
    have hpl : s.1 (b + 7) k = nI q := by rw [p2, hq]; unfold cP; rw [if_neg (by omega)]
    have hrw : m.1 11 k = nI (q / 9) := by rw [p3, hq]; unfold cR; rw [if_neg (by omega)]
    have hcl : m.1 12 k = nI (q % 9) := by rw [p4, hq]; unfold cC; rw [if_neg (by omega)]
    have hz1 : bt z3 k = true := by rw [hz, hq]; simp [hq72]
    have hd0 : bt d k = false := hd (by omega) (by rw [hq])
    obtain ⟨hpin, hx⟩ := te_pin E0 hq72
    obtain ⟨to, hto, hc1, hc2⟩ := te_to E0 D0 hk hq hq72
    have cl : ∀ kk, xc_fallFrom_l10 b (nI (q / 9)) (nI t) z3 kk (s, nI k) = (if 7 ≤ q / 9 then xc_fallFrom_j117_10 b kk s (nI (q / 9)) (nI t) z3 (nI k) (nI q) (s.1 6 q) (nI to) (nI ((q / 9 + 1) * 9 + to)) else ba_grd (ba_inb (nI ((q / 9 + 1) * 9 + to)) 72) (if s.1 (b + 5) (ba_ix (nI ((q / 9 + 1) * 9 + to))) = pn then xc_fallFrom_j117_10 b kk s (nI (q / 9)) (nI t) z3 (nI k) (nI q) (s.1 6 q) (nI to) (nI ((q / 9 + 1) * 9 + to)) else kk (ba_w (ba_w s (b + 13) k (s.1 (b + 13) k + nI 1)) (b + 14) t (s.1 (b + 14) t + nI 1), nI (k + 1)))) := by
      intro kk
      simp (disch := omega) only [xc_fallFrom_l10, ↓pz_m1, pz_lit, a1, pz_le, lN, if_false, bt_tN, hz1, if_true, pz_eq, Nat.one_ne_zero, pz_inb, pz_grt, pz_ix, hpl, pz_lt, pz_rem, hc1, pz_bnd, nI_add, pk_mul, pw_p]
    have dset : ∀ j, j < 32 → j ≠ k → bt (d ||| ba_fishl 1 (nI k)) j = bt d j := by
      intro j hj hjk
      rw [bt_set (by omega) hj]; simp [hjk]
    have ml : ∀ m', xm_falls m (nI t) (nI k) = some m' → ∀ kk, xm_passes_l24 (nI t) (nI (q / 9)) kk (m, d, nI k) = kk (m', d ||| ba_fishl 1 (nI k), nI (k + 1)) := by
      intro m' hm kk
      simp (disch := omega) only [xm_passes_l24, pz_lit, h10, pz_le, lN, if_false, pz_inb, pz_grt, pz_ix, hrw, if_true, pm_isIn, hd0, Bool.false_eq_true, pz_bnd, pz_lt, hm, nI_add]
    by_cases hheld : q / 9 < 7 ∧ s.1 (b + 5) ((q / 9 + 1) * 9 + to) ≠ pn
    · obtain ⟨hr7, hoc⟩ := hheld
      have l7 : ¬ 7 ≤ q / 9 := by omega
      have w1 : xm_whoAt m (nI (q / 9 + 1)) (nI to) = some (s.1 (b + 5) ((q / 9 + 1) * 9 + to)) := by rw [pm_whoAt m hN h10, te_who hN D1 D2 (by omega) hto]
      have e1 := (D7 k hk).2.2
      have e2 := D8.1 t ht
      refine ⟨ba_w (ba_w s (b + 13) k (m.1 15 k + nI 1)) (b + 14) t (m.1 20 t + nI 1), ba_w (ba_w m 15 k (m.1 15 k + nI 1)) 20 t (m.1 20 t + nI 1), d ||| ba_fishl 1 (nI k), P, ⟨?_, ?_, ?_, ?_, ?_, ?_, ?_, ?_, ?_, ?_, ?_, ?_⟩, ?_, ?_, fun _ _ => rfl, dset, fun _ => Or.inr (Or.inr (by omega)), ?_, ml _ ?_⟩
      · simp (disch := omega) only [wa, wo]; exact D1
      · simp (disch := omega) only [wa, wo]; exact D2
      · simp (disch := omega) only [wa, wo]; exact D3
      · simp (disch := omega) only [wa, wo]; exact D4
      · simp (disch := omega) only [wa, wo]; exact D5
      · simp (disch := omega) only [wa, wo]; exact D6
      · simp (disch := omega) only [wa, wo]; exact dB_he D7
      · simp (disch := omega) only [wa, wo]; exact dT_upd D8 ht
      · simp (disch := omega) only [wa, wo]; exact D9
      · simp (disch := omega) only [wa, wo]; exact D10
      · simp (disch := omega) only [wa, wo]; exact D11
      · simp (disch := omega) only [wa, wo]; exact D12
      · exact ((te_F.rf b s).w _ _ _ (by omega)).w _ _ _ (by omega)
      · exact ((te_M.rf m).w _ _ _ (by omega)).w _ _ _ (by omega)
      · intro kk
        rw [cl]
        simp (disch := omega) only [l7, if_false, pz_inb, pz_grt, pz_ix, hoc, e1, e2]
      · simp (disch := omega) only [xm_falls, ↓pz_m1, pz_lit, pz_inb, pz_grt, pz_ix, hrw, hcl, hpin, pz_bnd, hc2, pz_le, l7, if_false, nI_add, w1, hoc, pz_lt, pw_p]
    · have hfree : q / 9 < 7 → ∀ j, j < N → P j ≠ (q / 9 + 1) * 9 + to := by
        intro hr7
        rcases dO_who D2 (show (q / 9 + 1) * 9 + to < 72 by omega) with ⟨-, h⟩ | ⟨j, hj, hPj, hf⟩
        · exact h
        · exfalso
          refine hheld ⟨hr7, ?_⟩
          rw [hf]; exact pz_nopn (by omega)
      obtain ⟨s1, m1, q1, q2, q3, q4, q5, q6, q7⟩ := te_pass (t := t) (to := to) E0 D0 hk hx
      obtain ⟨s', m', P', g1, g2, g3, g4, g5, g6, g7, g8⟩ := te_leave hb (t := t) (z2 := 0) (E0.fr hb q4 q5) q1 D11 hk hq hq72 hto q2 q3 hfree q6
      refine ⟨s', m', d ||| ba_fishl 1 (nI k), P', g1, q4.tr g2, q5.tr g3, g4, dset, fun _ => ?_, ?_, ml m' ?_⟩
      · rcases g6 with h | h
        · exact Or.inr (Or.inl h)
        · exact Or.inr (Or.inr (by omega))
      · intro kk
        rw [cl]
        by_cases h7 : 7 ≤ q / 9
        · rw [if_pos h7, g7]
        · have hoc : s.1 (b + 5) ((q / 9 + 1) * 9 + to) = pn := by
            by_cases hz : s.1 (b + 5) ((q / 9 + 1) * 9 + to) = pn
            · exact hz
            · exact absurd ⟨by omega, hz⟩ hheld
          simp (disch := omega) only [h7, if_false, pz_inb, pz_grt, pz_ix, hoc, if_true, g7]
      · by_cases h7 : 7 ≤ q / 9
        · simp (disch := omega) only [xm_falls, ↓pz_m1, pz_lit, pz_inb, pz_grt, pz_ix, hrw, hcl, hpin, pz_bnd, hc2, pz_le, h7, if_true, q7, g8]
        · have hoc : s.1 (b + 5) ((q / 9 + 1) * 9 + to) = pn := by
            by_cases hz : s.1 (b + 5) ((q / 9 + 1) * 9 + to) = pn
            · exact hz
            · exact absurd ⟨by omega, hz⟩ hheld
          have w1 : xm_whoAt m (nI (q / 9 + 1)) (nI to) = some pn := by rw [pm_whoAt m hN h10, te_who hN D1 D2 (by omega) hto, hoc]
          simp (disch := omega) only [xm_falls, ↓pz_m1, pz_lit, pz_inb, pz_grt, pz_ix, hrw, hcl, hpin, pz_bnd, hc2, pz_le, h7, if_false, nI_add, w1, if_true, q7, g8]
  · refine ⟨s, m, d, P, D0, te_F.rf b s, te_M.rf m, fun _ _ => rfl, fun _ _ _ => rfl, fun h => Or.inl ⟨h, rfl⟩, fun kk => ?_, fun kk => ?_⟩
    · have hz0 : bt z3 k = false := by rw [hz]; exact decide_eq_false hin
      simp (disch := omega) only [xc_fallFrom_l10, pz_lit, a1, pz_le, lN, if_false, bt_tN, hz0, Bool.false_eq_true, if_true, pz_lt, nI_add]
    · have hrw : ¬ m.1 11 k = nI r := by
        rw [p3]; unfold cR
        by_cases e : P k = 90
        · rw [if_pos e, pz_pn' (by omega)]; exact fun h => h
        · rw [if_neg e, pz_eq (by omega) (by omega)]
          intro h
          exact hin ⟨by omega, h⟩
      simp (disch := omega) only [xm_passes_l24, pz_lit, h10, pz_le, lN, if_false, pz_inb, pz_grt, pz_ix, hrw, pz_lt, nI_add]
/-- all balls of a row -/
theorem te_row {b : Nat} (hb : 15 ≤ b) {s m : ba_St} {N np ne T U : Nat} {pc P : Nat → Nat} {Hs : Nat → Nat → Nat} (E : te_E b s m N np ne pc) (D : te_D b s m N np P T U Hs) {r t : Nat} (hr : r < 8) (ht : t < U) (ht24 : t < 24) {d : Int32} (hd : ∀ j, j < N → bt d j = true → 72 ≤ P j ∨ r + 1 ≤ P j / 9) :
    ∃ s' m' d' P', te_D b s' m' N np P' T U Hs ∧ te_F b s s' ∧ te_M m m' ∧ (∀ j, j < N → bt d' j = true → 72 ≤ P' j ∨ r ≤ P' j / 9) ∧ xc_fallFrom s b (nI r) (nI t) = some s' ∧ ba_fix (xm_passes_l24 (nI t) (nI r)) 1000 (m, d, 0) = some (m', d') := by
  have hN : N ≤ 12 := E.1.1
  obtain ⟨s', md, ⟨d', P', h1, h2, h3, h4⟩, h5, h6⟩ := pf_two (F := xc_fallFrom_l10 b (nI r) (nI t) (s.1 (b + 6) r)) (E := xm_passes_l24 (nI t) (nI r))
    (fun i a a' => ∃ s' m' d' P', a = (s', nI i) ∧ a' = (m', d', nI i) ∧ te_D b s' m' N np P' T U Hs ∧ te_F b s s' ∧ te_M m m' ∧ (∀ j, i ≤ j → P' j = P j) ∧ (∀ j, j < N → bt d' j = true → 72 ≤ P' j ∨ r ≤ P' j / 9) ∧ (∀ j, j < N → i ≤ j → bt d' j = true → 72 ≤ P' j ∨ r + 1 ≤ P' j / 9))
    (fun s' md => ∃ d' P', te_D b s' md.1 N np P' T U Hs ∧ te_F b s s' ∧ te_M m md.1 ∧ (md.2 = d' ∧ ∀ j, j < N → bt d' j = true → 72 ≤ P' j ∨ r ≤ P' j / 9)) N
    (fun i a a' hi h => by
      obtain ⟨s1, m1, d1, P1, rfl, rfl, hD, hF, hM, hP, hd1, hd2⟩ := h
      have hz : bt (s.1 (b + 6) r) i = decide (P1 i < 72 ∧ P1 i / 9 = r) := by
        rw [D.2.2.1 r hr i (by omega), hP i (Nat.le_refl i)]; simp [hi]
      obtain ⟨s2, m2, d2, P2, g1, g2, g3, g4, g5, g6, g7, g8⟩ := te_row1 hb (E.fr hb hF hM) hD hi hr ht ht24 hz (d := d1) (fun q1 q2 => by
        cases hbd : bt d1 i with
        | false => rfl
        | true =>
          have := hd2 i hi (Nat.le_refl i) hbd
          omega)
      refine ⟨_, _, ⟨s2, m2, d2, P2, rfl, rfl, g1, hF.tr g2, hM.tr g3, fun j hj => by rw [g4 j (by omega)]; exact hP j (by omega), fun j hj hbj => ?_, fun j hj hij hbj => ?_⟩, g7, g8⟩
      · by_cases e : j = i
        · subst e
          rcases g6 hbj with ⟨q, e⟩ | q | q
          · rw [e]; exact hd1 j hj q
          · exact Or.inl q
          · exact Or.inr q
        · rw [g4 j e]
          exact hd1 j hj (by rw [← g5 j (by omega) e]; exact hbj)
      · rw [g4 j (by omega)]
        exact hd2 j hj (by omega) (by rw [← g5 j (by omega) (by omega)]; exact hbj))
    (fun a a' h => by
      obtain ⟨s1, m1, d1, P1, rfl, rfl, hD, hF, hM, hP, hd1, hd2⟩ := h
      have E1 := E.fr hb hF hM
      refine ⟨s1, (m1, d1), ⟨d1, P1, hD, hF, hM, rfl, hd1⟩, fun k => ?_, fun k => ?_⟩
      · simp (disch := omega) only [xc_fallFrom_l10, E1.1.2.2.2.1, Int32.le_refl, if_true]
      · simp (disch := omega) only [xm_passes_l24, E1.1.2.2.2.2.1, Int32.le_refl, if_true]) 1000 1000 0 (s, 0) (m, d, 0) (by omega) (by omega) (by omega) ⟨s, m, d, P, rfl, rfl, D, te_F.rf b s, te_M.rf m, fun _ _ => rfl, fun j hj hbj => (hd j hj hbj).imp id (fun q => by omega), fun j hj _ hbj => hd j hj hbj⟩
  obtain ⟨m', d''⟩ := md
  obtain ⟨rfl, h4⟩ := h4
  refine ⟨s', m', d'', P', h1, h2, h3, h4, ?_, h6⟩
  simp (disch := omega) only [xc_fallFrom, pz_inb, pz_grt, pz_ix, pz_lt, h5, pz_bnd]
/-- a row without balls: the class would do nothing -/
theorem te_row0 {b : Nat} {s : ba_St} {N r t : Nat} (hN : N ≤ 12) (h4 : s.1 b 4 = nI N) (hr : r < 8) (h0 : s.1 (b + 6) r = 0) : xc_fallFrom s b (nI r) (nI t) = some s := by
  obtain ⟨o, h1, h2⟩ := pf_one (F := xc_fallFrom_l10 b (nI r) (nI t) (s.1 (b + 6) r)) (fun i a => a = (s, nI i)) (fun o => o = s) N
    (fun i a hi h => by
      subst h
      refine ⟨_, rfl, fun k => ?_⟩
      have l : ¬ N ≤ i := by omega
      have hb0 : bt (s.1 (b + 6) r) i = false := by rw [h0, b_0]
      simp (disch := omega) only [xc_fallFrom_l10, pz_lit, h4, pz_le, l, if_false, bt_tN, hb0, Bool.false_eq_true, if_true, pz_lt, nI_add])
    (fun a h => by
      subst h
      exact ⟨s, rfl, fun k => by simp (disch := omega) only [xc_fallFrom_l10, h4, Int32.le_refl, if_true]⟩) 1000 0 (s, 0) (by omega) (by omega) rfl
  simp (disch := omega) only [xc_fallFrom, pz_inb, pz_grt, pz_ix, pz_lt]
  rw [h2, h1]; rfl
def rI (i : Nat) : Int32 := if i < 8 then nI (7 - i) else pn
/-- all rows, from the lowest -/
theorem te_rows {b : Nat} (hb : 15 ≤ b) {s m : ba_St} {N np ne T U : Nat} {pc P : Nat → Nat} {Hs : Nat → Nat → Nat} (E : te_E b s m N np ne pc) (D : te_D b s m N np P T U Hs) {t : Nat} (ht : t < U) (ht24 : t < 24) :
    ∃ s' m', (∃ P', te_D b s' m' N np P' T U Hs) ∧ te_F b s s' ∧ te_M m m' ∧ ba_fix (xc_run_l27 b (nI t)) 1000 (s, 7) = some s' ∧ ba_fix (xm_passes_l17 (nI t)) 1000 (m, 0, 7) = some m' := by
  have hN : N ≤ 12 := E.1.1
  obtain ⟨s', m', ⟨h1, h2, h3⟩, h4, h5⟩ := pf_two (F := xc_run_l27 b (nI t)) (E := xm_passes_l17 (nI t))
    (fun i a a' => ∃ s' m' d' P', a = (s', rI i) ∧ a' = (m', d', rI i) ∧ te_D b s' m' N np P' T U Hs ∧ te_F b s s' ∧ te_M m m' ∧ (∀ j, j < N → bt d' j = true → 72 ≤ P' j ∨ 8 - i ≤ P' j / 9))
    (fun s' m' => (∃ P', te_D b s' m' N np P' T U Hs) ∧ te_F b s s' ∧ te_M m m') 8
    (fun i a a' hi h => by
      obtain ⟨s1, m1, d1, P1, rfl, rfl, hD, hF, hM, hd1⟩ := h
      have E1 := E.fr hb hF hM
      obtain ⟨s2, m2, d2, P2, g1, g2, g3, g4, g5, g6⟩ := te_row hb E1 hD (r := 7 - i) (by omega) ht ht24 (d := d1) (fun j hj hbj => (hd1 j hj hbj).imp id (fun q => by omega))
      have er : rI i = nI (7 - i) := by unfold rI; rw [if_pos hi]
      have er2 : nI (7 - i) + pn = rI (i + 1) := by
        unfold rI
        by_cases h7 : i = 7
        · subst h7; decide
        · rw [if_pos (by omega), pz_addpn (by omega)]; congr 1
      have hlt : (nI (7 - i) < nI 0) = False := by simp (disch := omega) only [pz_ltN]; simp
      refine ⟨(s2, rI (i + 1)), (m2, d2, rI (i + 1)), ⟨s2, m2, d2, P2, rfl, rfl, g1, hF.tr g2, hM.tr g3, fun j hj hbj => (g4 j hj hbj).imp id (fun q => by omega)⟩, fun k => ?_, fun k => ?_⟩
      · rw [er]
        by_cases h0 : s1.1 (b + 6) (7 - i) = nI 0
        · have e2 : s2 = s1 := by
            have h := te_row0 (t := t) hN E1.1.2.2.2.1 (show 7 - i < 8 by omega) h0
            rw [g5] at h; exact Option.some.inj h
          simp (disch := omega) only [xc_run_l27, ↓pz_m1, pz_lit, hlt, if_false, pz_inb, pz_grt, pz_ix, h0, if_true, pz_lt, er2, e2]
        · simp (disch := omega) only [xc_run_l27, ↓pz_m1, pz_lit, hlt, if_false, pz_inb, pz_grt, pz_ix, h0, g5, pz_bnd, pz_lt, er2]
      · rw [er]
        simp (disch := omega) only [xm_passes_l17, ↓pz_m1, pz_lit, hlt, if_false]
        simp only [pz_lit] at g6
        rw [g6]
        simp only [pz_bnd, pz_lt, er2])
    (fun a a' h => by
      obtain ⟨s1, m1, d1, P1, rfl, rfl, hD, hF, hM, hd1⟩ := h
      have hlt : (rI 8 < nI 0) = True := by unfold rI; simp (disch := omega) only [Nat.lt_irrefl, if_false, pz_pnlt]
      refine ⟨s1, m1, ⟨⟨P1, hD⟩, hF, hM⟩, fun k => ?_, fun k => ?_⟩
      · simp only [xc_run_l27, pz_lit, hlt, if_true]
      · simp only [xm_passes_l17, pz_lit, hlt, if_true]) 1000 1000 0 (s, 7) (m, 0, 7) (by omega) (by omega) (by omega) ⟨s, m, 0, P, rfl, rfl, D, te_F.rf b s, te_M.rf m, fun j hj hbj => by rw [b_0] at hbj; cases hbj⟩
  exact ⟨s', m', h1, h2, h3, h4, h5⟩
