/-! ===== the reference's balls ===== -/
theorem pm_ball0 {v : Nat} (hv : v < 256) : xm_ballOf (nI 0) (nI v) = some (if 97 ≤ v ∧ v < 121 then nI (v - 97) else p9) := by
  unfold xm_ballOf
  simp only [pz_lit, if_true]
  rw [pm_in, pz_bnd]
  have h1 := (pm_i64 (nI v) 97 (nI 97) (by decide)).1
  have h2 := (pm_i64 (nI v) 120 (nI 120) (by decide)).2
  rw [nI_leI (by omega) (by omega)] at h1 h2
  by_cases h : 97 ≤ v ∧ v < 121
  · rw [if_pos (show (97 : Int64) ≤ (nI v).toInt64 ∧ (nI v).toInt64 ≤ 120 from ⟨h1.mpr h.1, h2.mpr (by omega)⟩), if_pos h]
    simp (disch := omega) only [pz_lit, z_10, if_false, pk_sub]
  · rw [if_neg (show ¬ ((97 : Int64) ≤ (nI v).toInt64 ∧ (nI v).toInt64 ≤ 120) from fun z => h ⟨h1.mp z.1, by have := h2.mp z.2; omega⟩), if_neg h]
    rfl
theorem pm_ball1 {v : Nat} (hv : v < 256) : xm_ballOf (nI 1) (nI v) = some (if 49 ≤ v ∧ v < 58 then nI (v - 48) else p9) := by
  unfold xm_ballOf
  simp only [pz_lit, z_10, if_true, if_false]
  rw [pm_figureOf hv (by omega) (by omega), pz_bnd]
theorem pm_ball2 {v : Nat} (hv : v < 256) : xm_ballOf (nI 2) (nI v) = some (if v = 59 then nI 0 else p9) := by
  unfold xm_ballOf
  have z1 : (nI 2 = nI 0) = False := by simp (disch := omega) only [pz_eq]; simp
  have z2 : (nI 2 = nI 1) = False := by simp (disch := omega) only [pz_eq]; simp
  simp (disch := omega) only [pz_lit, z1, z2, if_false]
  rw [pm_between hv, pz_bnd]
def wMb (p j : Nat) : Prop := p = 9 ∨ (p = 0 ∧ j = 10)
def mBl (m : ba_St) (B : Nat → Nat) (c : Nat) : Prop := m.1 0 10 = nI c ∧ ∀ i, i < c → B (3 * i) - 97 < 24 ∧ 1 ≤ B (3 * i + 1) - 48 ∧ B (3 * i + 1) - 48 ≤ 9 ∧ m.1 9 (2 * i) = nI (B (3 * i) - 97) ∧ m.1 9 (2 * i + 1) = nI (B (3 * i + 1) - 48)
def mR (m : ba_St) (B : Nat → Nat) (i : Nat) : Prop := m.1 0 10 = nI ((i + 1) / 3) ∧ ∀ p, (3 * p < i → m.1 9 (2 * p) = nI (B (3 * p) - 97)) ∧ (3 * p + 1 < i → m.1 9 (2 * p + 1) = nI (B (3 * p + 1) - 48))
theorem pm_readsBalls {m : ba_St} {n : Nat} {B : Nat → Nat} (h : mx m 2 n B) (hn35 : n ≤ 35) : ∃ m', xm_readsBalls m = some (fF (bV B) 3 n, m') ∧ fr wMb m m' ∧ mBl m' B (nB B n) := by
  have bad : ∀ {m1 : ba_St} {i : Nat}, fr wMb m m1 → fF (bV B) 3 n = nI i → i < 1000 → ∃ m', (Sum.inr (nI i, ba_w m1 0 10 (nI 0)) : ba_St ⊕ (Int32 × ba_St)) = .inr (fF (bV B) 3 n, m') ∧ fr wMb m m' ∧ mBl m' B (nB B n) := by
    intro m1 i hf hi hi2
    refine ⟨_, by rw [hi], hf.w _ _ _ (by unfold wMb; omega), ?_⟩
    have : nB B n = 0 := by unfold nB; rw [if_neg (by rw [hi]; exact pz_nopn (by omega))]
    rw [this]
    exact ⟨pw_s _ _ _ _, fun i hi => by omega⟩
  obtain ⟨o, ho, hrun⟩ := pf_brk (F := xm_readsBalls_l14 (nI n)) (fun i x => ∃ m1, x = (m1, nI i) ∧ fr wMb m m1 ∧ mR m1 B i ∧ (∀ j, j < i → bV B j = true))
    (fun o => (∃ m', o = .inr (fF (bV B) 3 n, m') ∧ fr wMb m m' ∧ mBl m' B (nB B n)) ∨ (∃ m', o = .inl m' ∧ fr wMb m m' ∧ mR m' B n ∧ (∀ j, j < n → bV B j = true))) n
    (fun i x hi hI => by
      obtain ⟨m1, rfl, hf, hQ, hV⟩ := hI
      have T1 : mx m1 2 n B := h.fr hf (by unfold wMb; omega) (by unfold wMb; omega)
      obtain ⟨hB, hby⟩ := T1.2.2 i hi
      rw [show 48 * 2 + i = 96 + i by omega] at hby
      have l : ¬ n ≤ i := by omega
      obtain ⟨p, k, hk, rfl⟩ : ∃ p k, k < 3 ∧ i = 3 * p + k := ⟨i / 3, i % 3, by omega, by omega⟩
      have hd : (3 * p + k) / 3 = p := by omega
      have hm : (3 * p + k) % 3 = k := by omega
      rcases (show k = 0 ∨ k = 1 ∨ k = 2 by omega) with rfl | rfl | rfl
      · simp only [Nat.add_zero] at hi hQ hV hB hby l hd hm
        by_cases hv : 97 ≤ B (3 * p) ∧ B (3 * p) < 121
        · left
          have hpo : xm_ballOf (nI 0) (nI (B (3 * p))) = some (nI (B (3 * p) - 97)) := by rw [pm_ball0 hB, if_pos hv]
          refine ⟨(ba_w (ba_w m1 9 (2 * p) (nI (B (3 * p) - 97))) 0 10 (nI ((3 * p + 1 + 1) / 3)), nI (3 * p + 1)), ⟨_, rfl, (hf.w _ _ _ (by unfold wMb; omega)).w _ _ _ (by unfold wMb; omega), ⟨pw_s _ _ _ _, fun r => ?_⟩, all1 hV (by rw [bV0]; exact decide_eq_true hv)⟩, fun kk => ?_⟩
          · obtain ⟨q1, q2⟩ := hQ.2 r
            simp (disch := omega) only [pw_p]
            refine ⟨fun hr => ?_, fun hr => ?_⟩
            · by_cases e : r = p
              · subst e; rw [pw_s]
              · rw [pw_i _ _ _ (by omega)]; exact q1 (by omega)
            · rw [pw_i _ _ _ (by omega)]; exact q2 (by omega)
          · simp (disch := omega) only [xm_readsBalls_l14, xm_readsBalls_j71_14, xm_readsBalls_j86_14, ↓pz_m9, pz_lit, pz_le, l, if_false, pz_rem, hm, pz_lt, nI_add, pz_inb, pz_grt, pz_ix, hby, hpo, pz_bnd, pz_no9, show ¬ 2 ≤ 0 by omega, pz_div, hd, pk_mul, Nat.add_zero, z_01, pw_p, hQ.1, show (3 * p + 1) / 3 = p by omega, show (3 * p + 1 + 1) / 3 = p by omega]
        · right
          have hpo : xm_ballOf (nI 0) (nI (B (3 * p))) = some p9 := by rw [pm_ball0 hB, if_neg hv]
          have hff : fF (bV B) 3 n = nI (3 * p) := fF_bad hV (by rw [bV0]; exact decide_eq_false hv) (by omega)
          refine ⟨_, Or.inl (bad hf hff (by omega)), fun kk => ?_⟩
          simp (disch := omega) only [Nat.add_zero, xm_readsBalls_l14, ↓pz_m9, pz_lit, pz_le, l, if_false, pz_rem, hm, pz_lt, nI_add, pz_inb, pz_grt, pz_ix, hby, hpo, if_true, pz_bnd]
      · by_cases hv : 49 ≤ B (3 * p + 1) ∧ B (3 * p + 1) < 58
        · left
          have hpo : xm_ballOf (nI 1) (nI (B (3 * p + 1))) = some (nI (B (3 * p + 1) - 48)) := by rw [pm_ball1 hB, if_pos hv]
          refine ⟨(ba_w (ba_w m1 9 (2 * p + 1) (nI (B (3 * p + 1) - 48))) 0 10 (nI ((3 * p + 1 + 1 + 1) / 3)), nI (3 * p + 1 + 1)), ⟨_, rfl, (hf.w _ _ _ (by unfold wMb; omega)).w _ _ _ (by unfold wMb; omega), ⟨pw_s _ _ _ _, fun r => ?_⟩, all1 hV (by rw [bV1]; exact decide_eq_true hv)⟩, fun kk => ?_⟩
          · obtain ⟨q1, q2⟩ := hQ.2 r
            simp (disch := omega) only [pw_p]
            refine ⟨fun hr => ?_, fun hr => ?_⟩
            · rw [pw_i _ _ _ (by omega)]; exact q1 (by omega)
            · by_cases e : r = p
              · subst e; rw [pw_s]
              · rw [pw_i _ _ _ (by omega)]; exact q2 (by omega)
          · simp (disch := omega) only [xm_readsBalls_l14, xm_readsBalls_j71_14, xm_readsBalls_j86_14, ↓pz_m9, pz_lit, pz_le, l, if_false, pz_rem, hm, pz_lt, nI_add, pz_inb, pz_grt, pz_ix, show 96 + (3 * p + 1) = 96 + (3 * p + 1) from rfl, hby, hpo, pz_bnd, pz_no9, show ¬ 2 ≤ 1 by omega, pz_div, hd, pk_mul, if_true, pw_p, hQ.1, show (3 * p + 1 + 1) / 3 = p by omega, show (3 * p + 1 + 1 + 1) / 3 = p + 1 by omega]
        · right
          have hpo : xm_ballOf (nI 1) (nI (B (3 * p + 1))) = some p9 := by rw [pm_ball1 hB, if_neg hv]
          have hff : fF (bV B) 3 n = nI (3 * p + 1) := fF_bad hV (by rw [bV1]; exact decide_eq_false hv) (by omega)
          refine ⟨_, Or.inl (bad hf hff (by omega)), fun kk => ?_⟩
          simp (disch := omega) only [xm_readsBalls_l14, ↓pz_m9, pz_lit, pz_le, l, if_false, pz_rem, hm, pz_lt, nI_add, pz_inb, pz_grt, pz_ix, hby, hpo, if_true, pz_bnd]
      · by_cases hv : B (3 * p + 2) = 59
        · left
          have hpo : xm_ballOf (nI 2) (nI (B (3 * p + 2))) = some (nI 0) := by rw [pm_ball2 hB, if_pos hv]
          have z21 : (nI 2 = nI 1) = False := by simp (disch := omega) only [pz_eq]; simp
          refine ⟨(ba_w m1 0 10 (nI ((3 * p + 2 + 1 + 1) / 3)), nI (3 * p + 2 + 1)), ⟨_, rfl, hf.w _ _ _ (by unfold wMb; omega), ⟨pw_s _ _ _ _, fun r => ?_⟩, all1 hV (by rw [bV2]; exact decide_eq_true hv)⟩, fun kk => ?_⟩
          · obtain ⟨q1, q2⟩ := hQ.2 r
            simp (disch := omega) only [pw_p]
            exact ⟨fun hr => q1 (by omega), fun hr => q2 (by omega)⟩
          · simp (disch := omega) only [xm_readsBalls_l14, xm_readsBalls_j71_14, xm_readsBalls_j86_14, ↓pz_m9, pz_lit, pz_le, l, if_false, pz_rem, hm, pz_lt, nI_add, pz_inb, pz_grt, pz_ix, hby, hpo, pz_bnd, pz_no9, Nat.le_refl, if_true, z21, hQ.1, show (3 * p + 2 + 1) / 3 = p + 1 by omega, Nat.add_zero, show (3 * p + 2 + 1 + 1) / 3 = p + 1 by omega]
        · right
          have hpo : xm_ballOf (nI 2) (nI (B (3 * p + 2))) = some p9 := by rw [pm_ball2 hB, if_neg hv]
          have hff : fF (bV B) 3 n = nI (3 * p + 2) := fF_bad hV (by rw [bV2]; exact decide_eq_false hv) (by omega)
          refine ⟨_, Or.inl (bad hf hff (by omega)), fun kk => ?_⟩
          simp (disch := omega) only [xm_readsBalls_l14, ↓pz_m9, pz_lit, pz_le, l, if_false, pz_rem, hm, pz_lt, nI_add, pz_inb, pz_grt, pz_ix, hby, hpo, if_true, pz_bnd])
    (fun x hI => by
      obtain ⟨m1, rfl, hf, hQ, hV⟩ := hI
      exact ⟨_, Or.inr ⟨m1, rfl, hf, hQ, hV⟩, fun k => by simp only [xm_readsBalls_l14, Int32.le_refl, if_true]⟩) 1000 0 (ba_w m 0 10 (nI 0), 0) (by omega) (by omega) ⟨_, rfl, (fr.rf wMb m).w _ _ _ (by unfold wMb; omega), ⟨pw_s _ _ _ _, fun p => ⟨fun h => by omega, fun h => by omega⟩⟩, fun j hj => by omega⟩
  have h0 : (ba_w m 0 10 (nI 0)).1 6 2 = nI n := by rw [pw_p _ _ _ _ (by omega)]; exact h.1
  unfold xm_readsBalls
  simp (disch := omega) only [↓pz_m1, pz_lit, pz_lt, pz_inb, pz_grt, pz_ix, h0]
  simp only [pz_lit] at hrun
  rw [hrun, pz_bnd]
  rcases ho with ⟨m', e, hf, hP⟩ | ⟨m', e, hf, hQ, hV⟩
  · subst e
    exact ⟨m', rfl, hf, hP⟩
  · subst e
    dsimp only
    have good : fF (bV B) 3 n = pn → mBl m' B (nB B n) := by
      intro hff
      unfold nB
      rw [if_pos hff]
      refine ⟨hQ.1, fun i hi => ?_⟩
      have h2 : 3 * i + 1 < n := by
        have := (fF_pn (by omega) hff).2
        omega
      have y0 := hV (3 * i) (by omega)
      have y1 := hV (3 * i + 1) (by omega)
      rw [bV0] at y0
      rw [bV1] at y1
      have y0 := of_decide_eq_true y0
      have y1 := of_decide_eq_true y1
      obtain ⟨q1, q2⟩ := hQ.2 i
      exact ⟨by omega, by omega, by omega, q1 (by omega), q2 h2⟩
    by_cases hn : n ≤ 0
    · have hff : fF (bV B) 3 n = pn := fF_ok hV (by omega)
      refine ⟨m', ?_, hf, good hff⟩
      simp (disch := omega) only [pz_le, hn, if_true, ↓pz_m1, hff]
    · by_cases h3 : n % 3 = 2
      · have hff : fF (bV B) 3 n = pn := fF_ok hV (by omega)
        refine ⟨m', ?_, hf, good hff⟩
        simp (disch := omega) only [pz_le, hn, if_false, pz_rem, pz_eq, h3, if_true, ↓pz_m1, hff]
      · have hff : fF (bV B) 3 n = nI n := fF_end hV ⟨by omega, by omega⟩
        refine ⟨ba_w m' 0 10 (nI 0), ?_, hf.w _ _ _ (by unfold wMb; omega), ?_⟩
        · simp (disch := omega) only [pz_le, hn, if_false, pz_rem, pz_eq, h3, hff]
        · have : nB B n = 0 := by unfold nB; rw [if_neg (by rw [hff]; exact pz_nopn (by omega))]
          rw [this]
          exact ⟨pw_s _ _ _ _, fun i hi => by omega⟩
