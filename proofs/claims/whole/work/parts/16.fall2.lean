theorem upd_id {f : Nat → Int32} {k : Nat} {v : Int32} (h : v = f k) : upd f k v = f := by
  funext z
  by_cases e : z = k
  · subst e; rw [pk_us, h]
  · rw [pk_un e]
theorem i_add0 (x : Int32) : x + nI 0 = x := Int32.add_zero x
theorem dT_upd {f g : Nat → Int32} {U t : Nat} {v : Int32} (h : dT f g U) (ht : t < U) : dT (upd f t v) (upd g t v) U := by
  refine ⟨fun u hu => ?_, fun u h1 h2 => ?_⟩
  · by_cases e : u = t
    · subst e; rw [pk_us, pk_us]
    · rw [pk_un e, pk_un e]; exact h.1 u hu
  · rw [pk_un (by omega)]; exact h.2 u h1 h2
theorem pm_endN (m : ba_St) {t k to : Nat} (hk : k < 12) (hto : to < 9) (h : m.1 0 12 ≤ m.1 18 to) : xm_ending m (nI t) (nI k) (nI to) = some (ba_w (ba_w (ba_w (ba_w (ba_w m 11 k (nI 9)) 14 k (nI t)) 13 k (m.1 13 k + nI 0)) 18 to (m.1 18 to + nI 0)) 19 to (m.1 19 to + nI 0)) := by
  simp (disch := omega) only [xm_ending, xm_ending_j18, xm_ending_j37, xm_ending_j67, xm_ending_j86, xm_ending_j105, pz_lit, pz_inb, pz_grt, pz_ix, h, if_true, pz_lt, pw_p, pw_s]
theorem pm_endY (m : ba_St) {t k to : Nat} (hk : k < 12) (hto : to < 9) (h : ¬ m.1 0 12 ≤ m.1 18 to) : xm_ending m (nI t) (nI k) (nI to) = some (ba_w (ba_w (ba_w (ba_w (ba_w m 11 k (nI 8)) 14 k (nI t)) 13 k (m.1 13 k + m.1 8 to)) 18 to (m.1 18 to + nI 1)) 19 to (m.1 19 to + nI 1)) := by
  simp (disch := omega) only [xm_ending, xm_ending_j18, xm_ending_j37, xm_ending_j67, xm_ending_j86, xm_ending_j105, pz_lit, pz_inb, pz_grt, pz_ix, h, if_false, z_10, pz_lt, pw_p, pw_s]
/-- the ball leaves its cell: what the class and the reference do behind the pin -/
theorem te_leave {b : Nat} (hb : 15 ≤ b) {s m s1 m1 : ba_St} {N np ne T U : Nat} {pc P : Nat → Nat} {Hs : Nat → Nat → Nat} (E : te_E b s1 m1 N np ne pc) (D : te_D0 b s1 m1 N np P T U Hs) (hV : dV (m.1 13) N P) {k t to q : Nat} (hk : k < N) (hq : P k = q) (hq72 : q < 72) (hto : to < 9) (hbr : ∀ j, j < N → j ≠ k → m1.1 13 j = m.1 13 j) (hbk : ∃ v, v ≤ bd (P k) + 2 ∧ m1.1 13 k = nI v) (hfree : q / 9 < 7 → ∀ j, j < N → P j ≠ (q / 9 + 1) * 9 + to) {z2 : Int32} {x6 : Int32} (hps : xc_pass s b x6 (nI k) = some s1) :
    ∃ s' m' P', te_D b s' m' N np P' T U Hs ∧ te_F b s1 s' ∧ te_M m1 m' ∧ (∀ j, j ≠ k → P' j = P j) ∧ P' k ≠ 90 ∧ (72 ≤ P' k ∨ P' k / 9 = q / 9 + 1) ∧ (∀ kk z3, xc_fallFrom_j117_10 b kk s (nI (q / 9)) (nI t) z3 (nI k) (nI q) x6 (nI to) (nI ((q / 9 + 1) * 9 + to)) = kk (s', nI (k + 1))) ∧ xm_falls_j139 m1 (nI t) (nI k) (nI to) = some m' := by
  obtain ⟨⟨hN, hnp, hne, a1, h10, a3, h7, a5, a6⟩, ⟨hroom, hworth⟩, -⟩ := E
  obtain ⟨D1, D2, D3, D4, D5, D6, D7, D8, D9, D10, D12⟩ := D
  obtain ⟨v, hv, hvk⟩ := hbk
  have hrow : m1.1 11 k = nI (q / 9) := by
    rw [(D1 k hk).2.2.1]; unfold cR; rw [if_neg (by omega), hq]
  have hbd : bd (P k) = 2 * (q / 9) := by unfold bd; rw [hq, if_pos hq72]
  by_cases hr : q / 9 < 7
  · have l7 : ¬ 7 ≤ q / 9 := by omega
    have e7 : ¬ q / 9 = 7 := by omega
    refine ⟨ba_w (ba_w (ba_w (ba_w (ba_w s1 (b + 5) q pn) (b + 6) (q / 9) (s1.1 (b + 6) (q / 9) &&& (ba_fishl 1 (nI k) ^^^ (-1)))) (b + 5) ((q / 9 + 1) * 9 + to) (nI k)) (b + 6) (q / 9 + 1) (s1.1 (b + 6) (q / 9 + 1) ||| ba_fishl 1 (nI k))) (b + 7) k (nI ((q / 9 + 1) * 9 + to)), ba_w (ba_w m1 12 k (nI to)) 11 k (nI (q / 9 + 1)), pu P k ((q / 9 + 1) * 9 + to), ⟨?_, ?_, ?_, ?_, ?_, ?_, ?_, ?_, ?_, ?_, ?_, ?_⟩, ?_, ?_, ?_, ?_, ?_, ?_, ?_⟩
    · simp (disch := omega) only [wa, wo]
      have h := dP_set D1 (k := k) (p := (q / 9 + 1) * 9 + to) (by omega)
      unfold cP cR cC at h
      rw [if_neg (by omega), if_neg (by omega), if_neg (by omega)] at h
      rwa [show ((q / 9 + 1) * 9 + to) / 9 = q / 9 + 1 by omega, show ((q / 9 + 1) * 9 + to) % 9 = to by omega] at h
    · simp (disch := omega) only [wa, wo]
      have h := dO_move D2 hN (k := k) (q := (q / 9 + 1) * 9 + to) hk (by omega) (fun _ => hfree hr)
      rwa [if_pos (by omega), hq] at h
    · simp (disch := omega) only [wa, wo]
      have h := dR_move D3 hN (k := k) (p := (q / 9 + 1) * 9 + to) hk (by omega) (by omega) (by omega)
      rwa [if_pos (by omega), hq] at h
    · simp (disch := omega) only [wa, wo]
      exact dW_same D4 (by omega) (by omega)
    · simp (disch := omega) only [wa, wo]; exact D5
    · simp (disch := omega) only [wa, wo]; exact D6
    · simp (disch := omega) only [wa, wo]; exact D7
    · simp (disch := omega) only [wa, wo]; exact D8
    · simp (disch := omega) only [wa, wo]; exact D9
    · simp (disch := omega) only [wa, wo]; exact dX_upd _ D10 hk
    · simp (disch := omega) only [wa, wo]
      intro j hj
      by_cases e : j = k
      · subst e
        refine ⟨v, ?_, hvk⟩
        rw [pu_s]; unfold bd; rw [if_pos (by omega)]; omega
      · obtain ⟨u, c1, c2⟩ := hV j hj
        exact ⟨u, by rw [pu_n P _ e]; exact c1, by rw [hbr j hj e]; exact c2⟩
    · simp (disch := omega) only [wa, wo]; exact D12
    · exact (((((te_F.rf b s1).w _ _ _ (by omega)).w _ _ _ (by omega)).w _ _ _ (by omega)).w _ _ _ (by omega)).w _ _ _ (by omega)
    · exact ((te_M.rf m1).w _ _ _ (by omega)).w _ _ _ (by omega)
    · intro j hj; exact pu_n P _ hj
    · rw [pu_s]; omega
    · rw [pu_s]; omega
    · intro kk z3
      simp (disch := omega) only [xc_fallFrom_j117_10, xc_settle, hps, pz_bnd, ↓pz_m1, pz_lit, pz_inb, pz_grt, pz_ix, pz_lt, pw_p, pz_le, l7, if_false, nI_add, pw_i, pw_s]
    · simp (disch := omega) only [xm_falls_j139, pz_lit, pz_inb, pz_grt, pz_ix, pz_lt, pw_p, hrow, pz_eq, e7, if_false, nI_add]
  · have e7 : q / 9 = 7 := by omega
    have l7 : 7 ≤ q / 9 := by omega
    have hrow7 : m1.1 11 k = nI 7 := by rw [hrow, e7]
    obtain ⟨b1, b2, b3⟩ := D7 k hk
    obtain ⟨c1, c2⟩ := D6 to hto
    obtain ⟨w1, wv, w2, w3⟩ := hworth to hto
    have dO' : dO (upd (s1.1 (b + 5)) q pn) N (pu P k (72 + to)) ∧ dO (upd (s1.1 (b + 5)) q pn) N (pu P k (81 + to)) := by
      have h := dO_move D2 hN (k := k) (q := 72 + to) hk (by omega) (fun h => by omega)
      have h' := dO_move D2 hN (k := k) (q := 81 + to) hk (by omega) (fun h => by omega)
      rw [if_neg (by omega), hq] at h h'
      exact ⟨h, h'⟩
    have dR' : ∀ p, (p = 72 + to ∨ p = 81 + to) → dR (upd (s1.1 (b + 6)) (q / 9) (s1.1 (b + 6) (q / 9) &&& (ba_fishl 1 (nI k) ^^^ (-1)))) N (pu P k p) := by
      intro p hp r hr8 i hi
      have hb' := D3 r hr8 i hi
      by_cases hik : i = k
      · subst hik
        rw [pu_s]
        have np72 : ¬ p < 72 := by omega
        by_cases e2 : r = q / 9
        · subst e2
          rw [pk_us, bt_clr (by omega) hi]
          simp [np72]
        · rw [pk_un e2, hb']
          have a1 : ¬ P i / 9 = r := fun z => e2 (by rw [← hq]; exact z.symm)
          simp [a1, np72]
      · rw [pu_n P p hik, ← hb']
        by_cases e2 : r = q / 9
        · subst e2
          rw [pk_us, bt_clr (by omega) hi]
          simp [hik]
        · rw [pk_un e2]
    by_cases hfull : m1.1 0 12 ≤ m1.1 18 to
    · have hfull' : s1.1 3 8 ≤ s1.1 (b + 9) to := by rw [hroom, c1]; exact hfull
      have hem : xm_ending (ba_w m1 12 k (nI to)) (nI t) (nI k) (nI to) = _ := pm_endN (ba_w m1 12 k (nI to)) (by omega) hto (by simp (disch := omega) only [pw_p]; exact hfull)
      simp (disch := omega) only [pw_p, i_add0] at hem
      refine ⟨ba_w (ba_w (ba_w (ba_w s1 (b + 5) q pn) (b + 6) (q / 9) (s1.1 (b + 6) (q / 9) &&& (ba_fishl 1 (nI k) ^^^ (-1)))) (b + 12) k (nI t)) (b + 7) k (nI (81 + to)), ba_w (ba_w (ba_w (ba_w (ba_w (ba_w m1 12 k (nI to)) 11 k (nI 9)) 14 k (nI t)) 13 k (m1.1 13 k)) 18 to (m1.1 18 to)) 19 to (m1.1 19 to), pu P k (81 + to), ⟨?_, ?_, ?_, ?_, ?_, ?_, ?_, ?_, ?_, ?_, ?_, ?_⟩, ?_, ?_, ?_, ?_, ?_, ?_, ?_⟩
      · simp (disch := omega) only [wa, wo]
        have h := dP_set D1 (k := k) (p := 81 + to) (by omega)
        unfold cP cR cC at h
        rw [if_neg (by omega), if_neg (by omega), if_neg (by omega)] at h
        rwa [show (81 + to) / 9 = 9 by omega, show (81 + to) % 9 = to by omega] at h
      · simp (disch := omega) only [wa, wo]; exact dO'.2
      · simp (disch := omega) only [wa, wo]; exact dR' _ (Or.inr rfl)
      · simp (disch := omega) only [wa, wo]; exact dW_same D4 (by omega) (by omega)
      · simp (disch := omega) only [wa, wo]; exact D5
      · simp (disch := omega) only [wa, wo]
        rw [upd_id rfl, upd_id rfl]; exact D6
      · simp (disch := omega) only [wa, wo]
        rw [upd_id (f := m1.1 13) rfl]
        exact dB_en D7
      · simp (disch := omega) only [wa, wo]; exact D8
      · simp (disch := omega) only [wa, wo]; exact D9
      · simp (disch := omega) only [wa, wo]; exact dX_upd _ D10 hk
      · simp (disch := omega) only [wa, wo]
        rw [upd_id rfl]
        intro j hj
        by_cases e : j = k
        · subst e
          refine ⟨v, ?_, hvk⟩
          rw [pu_s]; unfold bd; rw [if_neg (by omega), if_neg (by omega)]; omega
        · obtain ⟨u, c1, c2⟩ := hV j hj
          exact ⟨u, by rw [pu_n P _ e]; exact c1, by rw [hbr j hj e]; exact c2⟩
      · simp (disch := omega) only [wa, wo]; exact D12
      · exact ((((te_F.rf b s1).w _ _ _ (by omega)).w _ _ _ (by omega)).w _ _ _ (by omega)).w _ _ _ (by omega)
      · exact ((((((te_M.rf m1).w _ _ _ (by omega)).w _ _ _ (by omega)).w _ _ _ (by omega)).w _ _ _ (by omega)).w _ _ _ (by omega)).w _ _ _ (by omega)
      · intro j hj; exact pu_n P _ hj
      · rw [pu_s]; omega
      · rw [pu_s]; omega
      · intro kk z3
        simp (disch := omega) only [xc_fallFrom_j117_10, xc_drop, hps, pz_bnd, ↓pz_m1, pz_lit, pz_inb, pz_grt, pz_ix, pz_lt, pw_p, pz_le, l7, if_true, nI_add, pw_i, pw_s, hfull']
      · simp (disch := omega) only [xm_falls_j139, pz_lit, pz_inb, pz_grt, pz_ix, pz_lt, pw_p, hrow7, if_true, hem, pz_bnd]
    · have hfull' : ¬ s1.1 3 8 ≤ m1.1 18 to := by rw [hroom]; exact hfull
      have hem : xm_ending (ba_w m1 12 k (nI to)) (nI t) (nI k) (nI to) = _ := pm_endY (ba_w m1 12 k (nI to)) (by omega) hto (by simp (disch := omega) only [pw_p]; exact hfull)
      simp (disch := omega) only [pw_p] at hem
      refine ⟨ba_w (ba_w (ba_w (ba_w (ba_w (ba_w (ba_w s1 (b + 5) q pn) (b + 6) (q / 9) (s1.1 (b + 6) (q / 9) &&& (ba_fishl 1 (nI k) ^^^ (-1)))) (b + 12) k (nI t)) (b + 9) to (m1.1 18 to + nI 1)) (b + 10) to (m1.1 19 to + nI 1)) (b + 11) k (m1.1 13 k + m1.1 8 to)) (b + 7) k (nI (72 + to)), ba_w (ba_w (ba_w (ba_w (ba_w (ba_w m1 12 k (nI to)) 11 k (nI 8)) 14 k (nI t)) 13 k (m1.1 13 k + m1.1 8 to)) 18 to (m1.1 18 to + nI 1)) 19 to (m1.1 19 to + nI 1), pu P k (72 + to), ⟨?_, ?_, ?_, ?_, ?_, ?_, ?_, ?_, ?_, ?_, ?_, ?_⟩, ?_, ?_, ?_, ?_, ?_, ?_, ?_⟩
      · simp (disch := omega) only [wa, wo]
        have h := dP_set D1 (k := k) (p := 72 + to) (by omega)
        unfold cP cR cC at h
        rw [if_neg (by omega), if_neg (by omega), if_neg (by omega)] at h
        rwa [show (72 + to) / 9 = 8 by omega, show (72 + to) % 9 = to by omega] at h
      · simp (disch := omega) only [wa, wo]; exact dO'.1
      · simp (disch := omega) only [wa, wo]; exact dR' _ (Or.inl rfl)
      · simp (disch := omega) only [wa, wo]; exact dW_same D4 (by omega) (by omega)
      · simp (disch := omega) only [wa, wo]; exact D5
      · simp (disch := omega) only [wa, wo]; exact dC_upd D6
      · simp (disch := omega) only [wa, wo]; exact dB_br (dB_en D7)
      · simp (disch := omega) only [wa, wo]; exact D8
      · simp (disch := omega) only [wa, wo]; exact D9
      · simp (disch := omega) only [wa, wo]; exact dX_upd _ D10 hk
      · simp (disch := omega) only [wa, wo]
        intro j hj
        by_cases e : j = k
        · subst e
          refine ⟨v + wv, ?_, ?_⟩
          · rw [pu_s]; unfold bd; rw [if_neg (by omega), if_neg (by omega)]; omega
          · rw [pk_us, hvk, w3, nI_add]
        · obtain ⟨u, c1, c2⟩ := hV j hj
          exact ⟨u, by rw [pu_n P _ e]; exact c1, by rw [pk_un e, hbr j hj e]; exact c2⟩
      · simp (disch := omega) only [wa, wo]; exact D12
      · exact (((((((te_F.rf b s1).w _ _ _ (by omega)).w _ _ _ (by omega)).w _ _ _ (by omega)).w _ _ _ (by omega)).w _ _ _ (by omega)).w _ _ _ (by omega)).w _ _ _ (by omega)
      · exact ((((((te_M.rf m1).w _ _ _ (by omega)).w _ _ _ (by omega)).w _ _ _ (by omega)).w _ _ _ (by omega)).w _ _ _ (by omega)).w _ _ _ (by omega)
      · intro j hj; exact pu_n P _ hj
      · rw [pu_s]; omega
      · rw [pu_s]; omega
      · intro kk z3
        simp (disch := omega) only [xc_fallFrom_j117_10, xc_drop, hps, pz_bnd, ↓pz_m1, pz_lit, pz_inb, pz_grt, pz_ix, pz_lt, pw_p, pz_le, l7, if_true, if_false, nI_add, pw_i, pw_s, hfull', c1, c2, b1, w1]
      · simp (disch := omega) only [xm_falls_j139, pz_lit, pz_inb, pz_grt, pz_ix, pz_lt, pw_p, hrow7, if_true, hem, pz_bnd]
