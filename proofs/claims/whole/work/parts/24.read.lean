/-! ===== what is read off a run ===== -/
def res (b : Nat) (s m : ba_St) (N : Nat) : Prop := ∃ np P Hs, te_D b s m N np P 24 24 Hs ∧ (∀ k, Hs 23 k = P k) ∧ N ≤ 12 ∧ s.1 b 4 = nI N ∧ m.1 0 10 = nI N
theorem rd_row {b : Nat} {s m : ba_St} {N t k : Nat} (h : res b s m N) (ht : t < 24) (hk : k < N) : xc_rowOf s b (nI t) (nI k) = some (m.1 21 (12 * t + k)) ∧ xc_columnOf s b (nI t) (nI k) = some (m.1 22 (12 * t + k)) := by
  obtain ⟨np, P, Hs, D, -, hN, h4, h10⟩ := h
  obtain ⟨q1, q2, q3, q4⟩ := D.2.2.2.2.2.2.2.2.1.1 t ht k hk
  rw [q3, q4]
  constructor
  · simp (disch := omega) only [xc_rowOf, ↓pz_m1, pz_lit, pk_mul, nI_add, pz_inb, pz_grt, pz_ix, pz_lt, q2]
    unfold cP cR
    by_cases e : Hs t k = 90
    · simp only [e, if_true]
    · simp (disch := omega) only [e, if_false, pz_pn, pz_div]
  · simp (disch := omega) only [xc_columnOf, ↓pz_m1, pz_lit, pk_mul, nI_add, pz_inb, pz_grt, pz_ix, pz_lt, q2]
    unfold cP cC
    by_cases e : Hs t k = 90
    · simp only [e, if_true]
    · simp (disch := omega) only [e, if_false, pz_pn, pz_rem]
/-- the last of at most one is the first -/
theorem pl_first {c : Nat → Bool} {n k : Nat} (hk : k < n) (hc : c k = true) (hu : ∀ j, j < n → c j = true → j = k) : pl_last c n = nI k :=
  pl_last_eq (fun j hj h => by rw [hu j hj h]) (fun h => by rw [h k hk] at hc; cases hc)
theorem pl_none {c : Nat → Bool} {n : Nat} (h : ∀ j, j < n → c j = false) : pl_last c n = pn :=
  pl_last_eq (fun j hj hc => by rw [h j hj] at hc; cases hc) (fun _ => rfl)
theorem pm_seesBy (m : ba_St) {N t : Nat} (hN : N ≤ 12) (ht : t < 24) (h10 : m.1 0 10 = nI N) (r c : Int32) : xm_seesBy m (nI t) r c = some (pl_last (fun k => decide (m.1 21 (12 * t + k) = r ∧ m.1 22 (12 * t + k) = c)) N) := by
  obtain ⟨o, ho, e⟩ := pf_one (F := xm_seesBy_l6 m (nI t) r c) (fun i a => a = (pl_last (fun k => decide (m.1 21 (12 * t + k) = r ∧ m.1 22 (12 * t + k) = c)) i, nI i)) (fun o => o = pl_last (fun k => decide (m.1 21 (12 * t + k) = r ∧ m.1 22 (12 * t + k) = c)) N) N
    (fun i a hi ha => ⟨(pl_last (fun k => decide (m.1 21 (12 * t + k) = r ∧ m.1 22 (12 * t + k) = c)) (i + 1), nI (i + 1)), rfl, fun k => by
      subst ha
      have h1 : ¬ N ≤ i := by omega
      simp (disch := omega) only [xm_seesBy_l6, xm_seesBy_j52_6, h10, pz_le, h1, if_false, pz_lit, pk_mul, nI_add, pz_inb, pz_grt, pz_ix, pz_lt, pl_last, decide_eq_true_eq]
      by_cases h2 : m.1 21 (12 * t + i) = r
      · by_cases h3 : m.1 22 (12 * t + i) = c
        · simp [h2, h3]
        · simp [h2, h3]
      · simp [h2]⟩)
    (fun a ha => ⟨_, rfl, fun k => by
      subst ha
      simp (disch := omega) only [xm_seesBy_l6, h10, pz_le, Nat.le_refl, if_true]⟩) 1000 0 (-1, 0) (Nat.zero_le _) (by omega) rfl
  unfold xm_seesBy
  rw [e, ho]
  rfl
theorem rd_sees {b : Nat} {s m : ba_St} {N t r c : Nat} (h : res b s m N) (ht : t < 24) (hr : r < 8) (hc : c < 9) : ∃ v, xc_ballIn s b (nI t) (nI (r * 9 + c)) = some v ∧ xm_seesBy m (nI t) (nI r) (nI c) = some v ∧ (v = pn ∨ ∃ k, k < N ∧ v = nI k) := by
  obtain ⟨np, P, Hs, D, -, hN, h4, h10⟩ := h
  obtain ⟨H1, H2, -⟩ := D.2.2.2.2.2.2.2.2.1
  have key : ∀ k, k < N → ((m.1 21 (12 * t + k) = nI r ∧ m.1 22 (12 * t + k) = nI c) ↔ Hs t k = r * 9 + c) := by
    intro k hk
    obtain ⟨q1, q2, q3, q4⟩ := H1 t ht k hk
    rw [q3, q4]
    unfold cR cC
    by_cases e : Hs t k = 90
    · rw [if_pos e, if_pos e, pz_pn' (by omega)]
      exact ⟨fun h => h.1.elim, fun h => by omega⟩
    · rw [if_neg e, if_neg e, pz_eq (by omega) (by omega), pz_eq (by omega) (by omega)]
      omega
  have keyC : ∀ k, k < N → (s.1 (b + 8) (t * 12 + k) = nI (r * 9 + c) ↔ Hs t k = r * 9 + c) := by
    intro k hk
    obtain ⟨q1, q2, q3, q4⟩ := H1 t ht k hk
    rw [q2]
    unfold cP
    by_cases e : Hs t k = 90
    · rw [if_pos e, pz_pn' (by omega)]
      exact ⟨fun h => h.elim, fun h => by omega⟩
    · rw [if_neg e, pz_eq (by omega) (by omega)]
  obtain ⟨o, ho, hrun⟩ := pf_brk (F := xc_ballIn_l2 b s (nI t) (nI (r * 9 + c))) (fun i a => a = nI i ∧ ∀ k, k < i → Hs t k ≠ r * 9 + c)
    (fun o => (∃ k, k < N ∧ Hs t k = r * 9 + c ∧ o = .inr (nI k)) ∨ ((∀ k, k < N → Hs t k ≠ r * 9 + c) ∧ o = .inl ())) N
    (fun i a hi hI => by
      obtain ⟨rfl, hI⟩ := hI
      have l : ¬ N ≤ i := by omega
      by_cases e : Hs t i = r * 9 + c
      · right
        refine ⟨_, Or.inl ⟨i, hi, e, rfl⟩, fun k => ?_⟩
        simp (disch := omega) only [xc_ballIn_l2, pz_lit, h4, pz_le, l, if_false, pk_mul, nI_add, pz_inb, pz_grt, pz_ix, (keyC i hi).mpr e, if_true]
      · left
        refine ⟨nI (i + 1), ⟨rfl, fun k hk => ?_⟩, fun k => ?_⟩
        · by_cases ek : k = i
          · subst ek; exact e
          · exact hI k (by omega)
        · have hne : ¬ s.1 (b + 8) (t * 12 + i) = nI (r * 9 + c) := fun z => e ((keyC i hi).mp z)
          simp (disch := omega) only [xc_ballIn_l2, pz_lit, h4, pz_le, l, if_false, pk_mul, nI_add, pz_inb, pz_grt, pz_ix, hne, pz_lt])
    (fun a hI => by
      obtain ⟨rfl, hI⟩ := hI
      exact ⟨_, Or.inr ⟨hI, rfl⟩, fun k => by simp (disch := omega) only [xc_ballIn_l2, h4, Int32.le_refl, if_true]⟩) 1000 0 0 (by omega) (by omega) ⟨rfl, fun k hk => by omega⟩
  simp only [pz_lit] at hrun
  rcases ho with ⟨k, hk, e, rfl⟩ | ⟨hn, rfl⟩
  · refine ⟨nI k, ?_, ?_, Or.inr ⟨k, hk, rfl⟩⟩
    · simp only [xc_ballIn, pz_lit, hrun, pz_bnd]
    · rw [pm_seesBy m hN ht h10]
      congr 1
      refine pl_first hk (decide_eq_true ((key k hk).mpr e)) (fun j hj hcj => ?_)
      have ej := (key j hj).mp (of_decide_eq_true hcj)
      exact H2 t ht j k hj hk (by omega) (by omega)
  · refine ⟨pn, ?_, ?_, Or.inl rfl⟩
    · simp only [xc_ballIn, ↓pz_m1, pz_lit, hrun, pz_bnd]
    · rw [pm_seesBy m hN ht h10]
      congr 1
      exact pl_none (fun j hj => decide_eq_false (fun z => hn j hj ((key j hj).mp z)))
theorem rd_score {b : Nat} {s m : ba_St} {N : Nat} (h : res b s m N) : ∃ x, x ≤ 300 ∧ xc_score s b = some (nI x) ∧ xm_score m = some (nI x) := by
  obtain ⟨np, P, Hs, D, -, hN, h4, h10⟩ := h
  obtain ⟨D1, D2, D3, D4, D5, D6, D7, D8, D9, D10, D11, D12⟩ := D
  obtain ⟨o, u, ⟨x, hx, rfl, rfl⟩, h1, h2⟩ := pf_two (F := xc_score_l4 b s) (E := xm_score_l4 m)
    (fun i a a' => ∃ x, x ≤ 25 * i ∧ a = (nI x, nI i) ∧ a' = (nI x, nI i)) (fun o u => ∃ x, x ≤ 300 ∧ o = nI x ∧ u = nI x) N
    (fun i a a' hi hI => by
      obtain ⟨x, hx, rfl, rfl⟩ := hI
      obtain ⟨v, hv, hvm⟩ := D11 i hi
      have hs := (D7 i hi).1
      have hbd : bd (P i) ≤ 25 := by
        have := (D1 i hi).1
        unfold bd; split
        · omega
        · split <;> omega
      have l : ¬ N ≤ i := by omega
      refine ⟨_, _, ⟨x + v, by omega, rfl, rfl⟩, fun k => ?_, fun k => ?_⟩
      · simp (disch := omega) only [xc_score_l4, pz_lit, h4, pz_le, l, if_false, pz_inb, pz_grt, pz_ix, hs, hvm, nI_add, pz_lt]
      · simp (disch := omega) only [xm_score_l4, pz_lit, h10, pz_le, l, if_false, pz_inb, pz_grt, pz_ix, hvm, nI_add, pz_lt])
    (fun a a' hI => by
      obtain ⟨x, hx, rfl, rfl⟩ := hI
      refine ⟨nI x, nI x, ⟨x, by omega, rfl, rfl⟩, fun k => ?_, fun k => ?_⟩
      · simp (disch := omega) only [xc_score_l4, h4, Int32.le_refl, if_true]
      · simp (disch := omega) only [xm_score_l4, h10, Int32.le_refl, if_true]) 1000 1000 0 (0, 0) (0, 0) (by omega) (by omega) (by omega) ⟨0, by omega, rfl, rfl⟩
  refine ⟨x, hx, ?_, ?_⟩
  · unfold xc_score; rw [h1]; rfl
  · unfold xm_score; rw [h2]; rfl
theorem rd_lost {b : Nat} {s m : ba_St} {N : Nat} (h : res b s m N) : ∃ x, x ≤ 12 ∧ xc_lost s b = some (nI x) ∧ xm_manyIn m (nI 9) = some (nI x) := by
  obtain ⟨np, P, Hs, D, -, hN, h4, h10⟩ := h
  obtain ⟨D1, -⟩ := D
  obtain ⟨o, u, ⟨x, hx, rfl, rfl⟩, h1, h2⟩ := pf_two (F := xc_lost_l4 b s) (E := xm_manyIn_l4 m (nI 9))
    (fun i a a' => ∃ x, x ≤ i ∧ a = (nI x, nI i) ∧ a' = (nI x, nI i)) (fun o u => ∃ x, x ≤ 12 ∧ o = nI x ∧ u = nI x) N
    (fun i a a' hi hI => by
      obtain ⟨x, hx, rfl, rfl⟩ := hI
      obtain ⟨p1, p2, p3, p4⟩ := D1 i hi
      have l : ¬ N ≤ i := by omega
      by_cases e : 81 ≤ P i ∧ P i ≠ 90
      · have c1 : ¬ P i < 81 := by omega
        have e9 : P i / 9 = 9 := by omega
        unfold cP at p2
        unfold cR at p3
        rw [if_neg e.2] at p2 p3
        rw [e9] at p3
        refine ⟨_, _, ⟨x + 1, by omega, rfl, rfl⟩, fun k => ?_, fun k => ?_⟩
        · simp (disch := omega) only [xc_lost_l4, pz_lit, h4, pz_le, l, if_false, pz_inb, pz_grt, pz_ix, p2, pz_ltN, c1, nI_add, pz_lt]
        · simp (disch := omega) only [xm_manyIn_l4, xm_manyIn_j28_4, pz_lit, h10, pz_le, l, if_false, pz_inb, pz_grt, pz_ix, p3, if_true, nI_add, pz_lt]
      · refine ⟨_, _, ⟨x, by omega, rfl, rfl⟩, fun k => ?_, fun k => ?_⟩
        · have hlt : (s.1 (b + 7) i < nI 81) = True := by
            rw [p2]; unfold cP
            by_cases e90 : P i = 90
            · rw [if_pos e90]; exact pz_pnlt (by omega)
            · rw [if_neg e90, pz_ltN (by omega) (by omega)]
              exact eq_true (by omega)
          simp (disch := omega) only [xc_lost_l4, pz_lit, h4, pz_le, l, if_false, pz_inb, pz_grt, pz_ix, hlt, if_true, nI_add, pz_lt]
        · have hne : ¬ m.1 11 i = nI 9 := by
            rw [p3]; unfold cR
            by_cases e90 : P i = 90
            · rw [if_pos e90, pz_pn' (by omega)]; exact fun z => z
            · rw [if_neg e90, pz_eq (by omega) (by omega)]; omega
          simp (disch := omega) only [xm_manyIn_l4, xm_manyIn_j28_4, pz_lit, h10, pz_le, l, if_false, pz_inb, pz_grt, pz_ix, hne, nI_add, pz_lt, Nat.add_zero])
    (fun a a' hI => by
      obtain ⟨x, hx, rfl, rfl⟩ := hI
      refine ⟨nI x, nI x, ⟨x, by omega, rfl, rfl⟩, fun k => ?_, fun k => ?_⟩
      · simp (disch := omega) only [xc_lost_l4, h4, Int32.le_refl, if_true]
      · simp (disch := omega) only [xm_manyIn_l4, h10, Int32.le_refl, if_true]) 1000 1000 0 (0, 0) (0, 0) (by omega) (by omega) (by omega) ⟨0, by omega, rfl, rfl⟩
  refine ⟨x, hx, ?_, ?_⟩
  · unfold xc_lost; rw [h1]; rfl
  · unfold xm_manyIn; rw [h2]; rfl
theorem rd_late {s m : ba_St} {N : Nat} (h : res 31 s m N) (h7 : s.1 3 7 = nI N) : ∃ v, ba_fix (xb_late_l8 s) 1000 (0, 0) = some v ∧ xm_lateNow m = some v := by
  obtain ⟨np, P, Hs, D, -, hN, h4, h10⟩ := h
  obtain ⟨D1, D2, D3, D4, D5, D6, D7, D8, D9, D10, D11, D12⟩ := D
  obtain ⟨o, u, rfl, h1, h2⟩ := pf_two (F := xb_late_l8 s) (E := xm_lateNow_l4 m) (fun i a a' => ∃ x, a = (x, nI i) ∧ a' = (x, nI i)) (fun o u => o = u) N
    (fun i a a' hi hI => by
      obtain ⟨x, rfl, rfl⟩ := hI
      have he := (D7 i hi).2.1
      have l : ¬ N ≤ i := by omega
      by_cases e : m.1 14 i = pn
      · refine ⟨(x ||| ba_fishl 1 (nI i), nI (i + 1)), _, ⟨_, rfl, rfl⟩, fun k => ?_, fun k => ?_⟩
        · simp (disch := omega) only [xb_late_l8, ↓pz_m1, pz_lit, h7, pz_le, l, if_false, pz_inb, pz_grt, pz_ix, he, e, if_true, nI_add, pz_lt]
        · simp (disch := omega) only [xm_lateNow_l4, xm_lateNow_j30_4, ↓pz_m1, pz_lit, h10, pz_le, l, if_false, pz_inb, pz_grt, pz_ix, e, if_true, nI_add, pz_lt]
      · refine ⟨(x, nI (i + 1)), _, ⟨_, rfl, rfl⟩, fun k => ?_, fun k => ?_⟩
        · simp (disch := omega) only [xb_late_l8, ↓pz_m1, pz_lit, h7, pz_le, l, if_false, pz_inb, pz_grt, pz_ix, he, e, nI_add, pz_lt]
        · have h0 : x ||| nI 0 = x := Int32.or_zero
          simp (disch := omega) only [xm_lateNow_l4, xm_lateNow_j30_4, ↓pz_m1, pz_lit, h10, pz_le, l, if_false, pz_inb, pz_grt, pz_ix, e, nI_add, pz_lt, h0])
    (fun a a' hI => by
      obtain ⟨x, rfl, rfl⟩ := hI
      refine ⟨x, x, rfl, fun k => ?_, fun k => ?_⟩
      · simp (disch := omega) only [xb_late_l8, h7, Int32.le_refl, if_true]
      · simp (disch := omega) only [xm_lateNow_l4, h10, Int32.le_refl, if_true]) 1000 1000 0 (0, 0) (0, 0) (by omega) (by omega) (by omega) ⟨0, rfl, rfl⟩
  exact ⟨o, h1, by unfold xm_lateNow; rw [h2]; rfl⟩
theorem pm_greater (x y : Int32) : xm_greater x y = some (if y < x then x else y) := by
  unfold xm_greater
  by_cases h : x ≤ y
  · rw [if_pos h, if_neg (Int32.not_lt.mpr h)]
  · rw [if_neg h, if_pos (Int32.not_le.mp h)]
theorem rd_best {s m : ba_St} {N : Nat} (h : res 31 s m N) (h7 : s.1 3 7 = nI N) : ∃ v, ba_fix (xb_best_l10 s) 1000 (-1, 0, 0) = some v ∧ xm_bestNow m = some v := by
  obtain ⟨np, P, Hs, D, -, hN, h4, h10⟩ := h
  obtain ⟨D1, D2, D3, D4, D5, D6, D7, D8, D9, D10, D11, D12⟩ := D
  obtain ⟨o, u, rfl, h1, h2⟩ := pf_two (F := xb_best_l10 s) (E := xm_bestNow_l6 m) (fun i a a' => ∃ x y, a = (x, y, nI i) ∧ a' = (x, y, nI i)) (fun o u => o = u) N
    (fun i a a' hi hI => by
      obtain ⟨x, y, rfl, rfl⟩ := hI
      have he := (D7 i hi).1
      have l : ¬ N ≤ i := by omega
      by_cases e : m.1 13 i ≤ y
      · have e' : ¬ y < m.1 13 i := Int32.not_lt.mpr e
        refine ⟨(x, y, nI (i + 1)), _, ⟨_, _, rfl, rfl⟩, fun k => ?_, fun k => ?_⟩
        · simp (disch := omega) only [xb_best_l10, pz_lit, h7, pz_le, l, if_false, pz_inb, pz_grt, pz_ix, he, e, if_true, nI_add, pz_lt]
        · simp (disch := omega) only [xm_bestNow_l6, xm_bestNow_j29_6, pz_lit, h10, pz_le, l, if_false, pz_inb, pz_grt, pz_ix, e, e', if_true, pm_greater, pz_bnd, nI_add, pz_lt]
      · have e' : y < m.1 13 i := Int32.not_le.mp e
        refine ⟨(nI i, m.1 13 i, nI (i + 1)), _, ⟨_, _, rfl, rfl⟩, fun k => ?_, fun k => ?_⟩
        · simp (disch := omega) only [xb_best_l10, pz_lit, h7, pz_le, l, if_false, pz_inb, pz_grt, pz_ix, he, e, nI_add, pz_lt]
        · simp (disch := omega) only [xm_bestNow_l6, xm_bestNow_j29_6, pz_lit, h10, pz_le, l, if_false, pz_inb, pz_grt, pz_ix, e, e', if_true, pm_greater, pz_bnd, nI_add, pz_lt])
    (fun a a' hI => by
      obtain ⟨x, y, rfl, rfl⟩ := hI
      refine ⟨x, x, rfl, fun k => ?_, fun k => ?_⟩
      · simp (disch := omega) only [xb_best_l10, h7, Int32.le_refl, if_true]
      · simp (disch := omega) only [xm_bestNow_l6, h10, Int32.le_refl, if_true]) 1000 1000 0 (-1, 0, 0) (-1, 0, 0) (by omega) (by omega) (by omega) ⟨_, _, rfl, rfl⟩
  exact ⟨o, h1, by unfold xm_bestNow; rw [h2]; rfl⟩
theorem rd_jam {s m : ba_St} {N : Nat} (h : res 31 s m N) (z : Int32) : ∃ j, j < 24 ∧ ba_fix (xb_jam_l19 s z) 1000 (0, 1) = some (nI j) ∧ ba_fix (xm_jamBy_l4 m z) 1000 (0, 1) = some (nI j) ∧ s.1 (31 + 14) j = m.1 20 j := by
  obtain ⟨np, P, Hs, D, -, hN, h4, h10⟩ := h
  obtain ⟨D1, D2, D3, D4, D5, D6, D7, D8, D9, D10, D11, D12⟩ := D
  obtain ⟨o, u, ⟨j, hj, rfl, rfl⟩, h1, h2⟩ := pf_two (F := xb_jam_l19 s z) (E := xm_jamBy_l4 m z) (fun i a a' => ∃ x, x < 24 ∧ a = (nI x, nI i) ∧ a' = (nI x, nI i)) (fun o u => ∃ j, j < 24 ∧ o = nI j ∧ u = nI j) 24
    (fun i a a' hi hI => by
      obtain ⟨x, hx, rfl, rfl⟩ := hI
      have e1 := D8.1 i hi
      have e2 := D8.1 x hx
      have l : ¬ 24 ≤ i := by omega
      by_cases e : m.1 20 i ≤ m.1 20 x
      · refine ⟨(nI x, nI (i + 1)), _, ⟨_, hx, rfl, rfl⟩, fun k => ?_, fun k => ?_⟩
        · simp (disch := omega) only [xb_jam_l19, pz_lit, pz_le, l, if_false, pz_inb, pz_grt, pz_ix, e1, e2, e, if_true, nI_add, pz_lt]
        · simp (disch := omega) only [xm_jamBy_l4, pz_lit, pz_le, l, if_false, pz_inb, pz_grt, pz_ix, e, if_true, nI_add, pz_lt]
      · refine ⟨(nI i, nI (i + 1)), _, ⟨_, hi, rfl, rfl⟩, fun k => ?_, fun k => ?_⟩
        · simp (disch := omega) only [xb_jam_l19, pz_lit, pz_le, l, if_false, pz_inb, pz_grt, pz_ix, e1, e2, e, nI_add, pz_lt]
        · simp (disch := omega) only [xm_jamBy_l4, pz_lit, pz_le, l, if_false, pz_inb, pz_grt, pz_ix, e, nI_add, pz_lt])
    (fun a a' hI => by
      obtain ⟨x, hx, rfl, rfl⟩ := hI
      refine ⟨nI x, nI x, ⟨x, hx, rfl, rfl⟩, fun k => ?_, fun k => ?_⟩
      · simp (disch := omega) only [xb_jam_l19, pz_lit, Int32.le_refl, if_true]
      · simp (disch := omega) only [xm_jamBy_l4, pz_lit, Int32.le_refl, if_true]) 1000 1000 1 (0, 1) (0, 1) (by omega) (by omega) (by omega) ⟨0, by omega, rfl, rfl⟩
  exact ⟨j, hj, h1, h2, D8.1 j hj⟩
