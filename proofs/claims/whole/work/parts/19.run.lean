/-! ===== the beginning of a run; the whole run ===== -/
theorem pj_fill (s : ba_St) (a n : Nat) (v : Int32) (hn : n < 1000) : ∃ s', xj_fill s a n v = some s' ∧ s'.2 = s.2 ∧ (∀ p j, p ≠ a → s'.1 p j = s.1 p j) ∧ (∀ j, j < n → s'.1 a j = v) ∧ (∀ j, n ≤ j → s'.1 a j = s.1 a j) := by
  obtain ⟨s', ⟨h1, h2, h3, h4⟩, h5⟩ := pf_one (F := xj_fill_l5 a n v (nI n)) (fun i x => ∃ s', x = (s', nI i) ∧ s'.2 = s.2 ∧ (∀ p j, p ≠ a → s'.1 p j = s.1 p j) ∧ (∀ j, j < i → s'.1 a j = v) ∧ (∀ j, i ≤ j → s'.1 a j = s.1 a j))
    (fun s' => s'.2 = s.2 ∧ (∀ p j, p ≠ a → s'.1 p j = s.1 p j) ∧ (∀ j, j < n → s'.1 a j = v) ∧ (∀ j, n ≤ j → s'.1 a j = s.1 a j)) n
    (fun i x hi h => by
      obtain ⟨s1, rfl, g1, g2, g3, g4⟩ := h
      have l : ¬ n ≤ i := by omega
      refine ⟨(ba_w s1 a i v, nI (i + 1)), ⟨_, rfl, g1, fun p j hp => by rw [pw_p _ _ _ _ hp]; exact g2 p j hp, fun j hj => ?_, fun j hj => ?_⟩, fun k => ?_⟩
      · by_cases e : j = i
        · subst e; rw [pw_s]
        · rw [pw_i _ _ _ e]; exact g3 j (by omega)
      · rw [pw_i _ _ _ (by omega)]; exact g4 j (by omega)
      · simp (disch := omega) only [xj_fill_l5, pz_lit, pz_le, l, if_false, pz_inb, pz_grt, pz_ix, pz_lt, nI_add])
    (fun x h => by
      obtain ⟨s1, rfl, g1, g2, g3, g4⟩ := h
      exact ⟨s1, ⟨g1, g2, g3, g4⟩, fun k => by simp (disch := omega) only [xj_fill_l5, Int32.le_refl, if_true]⟩) 1000 0 (s, 0) (by omega) (by omega) ⟨s, rfl, rfl, fun _ _ _ => rfl, fun j hj => by omega, fun _ _ => rfl⟩
  refine ⟨s', ?_, h1, h2, h3, h4⟩
  simp only [xj_fill, pz_lt, h5, pz_bnd]
theorem pc_ways (s : ba_St) (b : Nat) : ∃ s', ba_fix (xc_begin_l2 b) 1000 (s, 0) = some s' ∧ s'.2 = s.2 ∧ (∀ p j, p ≠ b + 4 → s'.1 p j = s.1 p j) ∧ (∀ j, j < 12 → s'.1 (b + 4) j = if s.1 (b + 1) j = nI 3 then nI 0 else if s.1 (b + 1) j = nI 1 then nI 1 else pn) := by
  obtain ⟨s', ⟨h1, h2, h3⟩, h5⟩ := pf_one (F := xc_begin_l2 b) (fun i x => ∃ s', x = (s', nI i) ∧ s'.2 = s.2 ∧ (∀ p j, p ≠ b + 4 → s'.1 p j = s.1 p j) ∧ (∀ j, j < i → s'.1 (b + 4) j = if s.1 (b + 1) j = nI 3 then nI 0 else if s.1 (b + 1) j = nI 1 then nI 1 else pn))
    (fun s' => s'.2 = s.2 ∧ (∀ p j, p ≠ b + 4 → s'.1 p j = s.1 p j) ∧ (∀ j, j < 12 → s'.1 (b + 4) j = if s.1 (b + 1) j = nI 3 then nI 0 else if s.1 (b + 1) j = nI 1 then nI 1 else pn)) 12
    (fun i x hi h => by
      obtain ⟨s1, rfl, g1, g2, g3⟩ := h
      have l : ¬ 12 ≤ i := by omega
      have e1 := g2 (b + 1) i (by omega)
      refine ⟨(ba_w s1 (b + 4) i (if s.1 (b + 1) i = nI 3 then nI 0 else if s.1 (b + 1) i = nI 1 then nI 1 else pn), nI (i + 1)), ⟨_, rfl, g1, fun p j hp => by rw [pw_p _ _ _ _ hp]; exact g2 p j hp, fun j hj => ?_⟩, fun k => ?_⟩
      · by_cases e : j = i
        · subst e; rw [pw_s]
        · rw [pw_i _ _ _ e]; exact g3 j (by omega)
      · simp (disch := omega) only [xc_begin_l2, xc_begin_j42_2, ↓pz_m1, pz_lit, pz_le, l, if_false, pz_inb, pz_grt, pz_ix, pz_lt, nI_add, e1]
        by_cases h3 : s.1 (b + 1) i = nI 3
        · simp only [h3, if_true]
        · by_cases h4 : s.1 (b + 1) i = nI 1
          · simp only [h4, if_true, z_13, if_false]
          · simp only [h3, h4, if_false])
    (fun x h => by
      obtain ⟨s1, rfl, g1, g2, g3⟩ := h
      exact ⟨s1, ⟨g1, g2, g3⟩, fun k => by simp (disch := omega) only [xc_begin_l2, pz_lit, Int32.le_refl, if_true]⟩) 1000 0 (s, 0) (by omega) (by omega) ⟨s, rfl, rfl, fun _ _ _ => rfl, fun j hj => by omega⟩
  exact ⟨s', h5, h1, h2, h3⟩
theorem bt_all : ∀ N, N ≤ 12 → ∀ i, i < 32 → bt (ba_fishl 1 (nI N) - 1) i = decide (i < N) := by decide +kernel
/-- what begin leaves -/
theorem pc_begin (s : ba_St) {b N : Nat} (hN : N ≤ 12) (h4 : s.1 b 4 = nI N) : ∃ s', xc_begin s b = some s' ∧ te_F b s s' ∧ (∀ j, j < 12 → s'.1 (b + 4) j = if s.1 (b + 1) j = nI 3 then nI 0 else if s.1 (b + 1) j = nI 1 then nI 1 else pn) ∧ (∀ j, j < 72 → s'.1 (b + 5) j = pn) ∧ (∀ j, j < 8 → s'.1 (b + 6) j = nI 0) ∧ (∀ j, j < 12 → s'.1 (b + 7) j = pn) ∧ s'.1 b 10 = ba_fishl 1 (nI N) - 1 ∧ (∀ j, j < 9 → s'.1 (b + 9) j = nI 0) ∧ (∀ j, j < 9 → s'.1 (b + 10) j = nI 0) ∧ (∀ j, j < 12 → s'.1 (b + 11) j = nI 0) ∧ (∀ j, j < 12 → s'.1 (b + 12) j = pn) ∧ (∀ j, j < 12 → s'.1 (b + 13) j = nI 0) ∧ (∀ j, j < 24 → s'.1 (b + 14) j = nI 0) ∧ s'.1 b 18 = nI 0 := by
  obtain ⟨s1, e1, f1, g1, h1⟩ := pc_ways s b
  obtain ⟨s2, e2, f2, g2, h2, -⟩ := pj_fill s1 (b + 5) 72 pn (by omega)
  obtain ⟨s3, e3, f3, g3, h3, -⟩ := pj_fill s2 (b + 6) 8 (nI 0) (by omega)
  obtain ⟨s4, e4, f4, g4, h4', -⟩ := pj_fill s3 (b + 7) 12 pn (by omega)
  have q4 : s4.1 b 4 = nI N := by rw [g4 b 4 (by omega), g3 b 4 (by omega), g2 b 4 (by omega), g1 b 4 (by omega)]; exact h4
  obtain ⟨s5, e5, f5, g5, h5, -⟩ := pj_fill (ba_w s4 b 10 (ba_fishl 1 (nI N) - 1)) (b + 9) 9 (nI 0) (by omega)
  obtain ⟨s6, e6, f6, g6, h6, -⟩ := pj_fill s5 (b + 10) 9 (nI 0) (by omega)
  obtain ⟨s7, e7, f7, g7, h7, -⟩ := pj_fill s6 (b + 11) 12 (nI 0) (by omega)
  obtain ⟨s8, e8, f8, g8, h8, -⟩ := pj_fill s7 (b + 12) 12 pn (by omega)
  obtain ⟨s9, e9, f9, g9, h9, -⟩ := pj_fill s8 (b + 13) 12 (nI 0) (by omega)
  obtain ⟨s10, e10, f10, g10, h10, -⟩ := pj_fill s9 (b + 14) 24 (nI 0) (by omega)
  refine ⟨ba_w s10 b 18 (nI 0), ?_, ⟨?_, ?_⟩, ?_, ?_, ?_, ?_, ?_, ?_, ?_, ?_, ?_, ?_, ?_, ?_⟩
  · unfold xc_begin
    rw [e1, pz_bnd]
    simp only [↓pz_m1, pz_lit] at e2 e3 e4 e5 e6 e7 e8 e9 e10 ⊢
    rw [e2, pz_bnd, e3, pz_bnd, e4, pz_bnd, q4, pz_lt, e5, pz_bnd, e6, pz_bnd, e7, pz_bnd, e8, pz_bnd, e9, pz_bnd, e10, pz_bnd, pz_lt]
  · rw [pw_2, f10, f9, f8, f7, f6, f5, pw_2, f4, f3, f2, f1]
  · intro p j c1 c2
    have a : (ba_w s10 b 18 (nI 0)).1 p j = s10.1 p j := by
      rw [pw, if_neg (by omega)]
    have c : (ba_w s4 b 10 (ba_fishl 1 (nI N) - 1)).1 p j = s4.1 p j := by
      rw [pw, if_neg (by omega)]
    rw [a, g10 p j (by omega), g9 p j (by omega), g8 p j (by omega), g7 p j (by omega), g6 p j (by omega), g5 p j (by omega), c, g4 p j (by omega), g3 p j (by omega), g2 p j (by omega), g1 p j (by omega)]
  · intro j hj
    rw [pw_p _ _ _ _ (by omega), g10 _ j (by omega), g9 _ j (by omega), g8 _ j (by omega), g7 _ j (by omega), g6 _ j (by omega), g5 _ j (by omega), pw_p _ _ _ _ (by omega), g4 _ j (by omega), g3 _ j (by omega), g2 _ j (by omega)]
    exact h1 j hj
  · intro j hj
    rw [pw_p _ _ _ _ (by omega), g10 _ j (by omega), g9 _ j (by omega), g8 _ j (by omega), g7 _ j (by omega), g6 _ j (by omega), g5 _ j (by omega), pw_p _ _ _ _ (by omega), g4 _ j (by omega), g3 _ j (by omega)]
    exact h2 j hj
  · intro j hj
    rw [pw_p _ _ _ _ (by omega), g10 _ j (by omega), g9 _ j (by omega), g8 _ j (by omega), g7 _ j (by omega), g6 _ j (by omega), g5 _ j (by omega), pw_p _ _ _ _ (by omega), g4 _ j (by omega)]
    exact h3 j hj
  · intro j hj
    rw [pw_p _ _ _ _ (by omega), g10 _ j (by omega), g9 _ j (by omega), g8 _ j (by omega), g7 _ j (by omega), g6 _ j (by omega), g5 _ j (by omega), pw_p _ _ _ _ (by omega)]
    exact h4' j hj
  · rw [pw_i _ _ _ (by omega), g10 _ _ (by omega), g9 _ _ (by omega), g8 _ _ (by omega), g7 _ _ (by omega), g6 _ _ (by omega), g5 _ _ (by omega), pw_s]
  · intro j hj
    rw [pw_p _ _ _ _ (by omega), g10 _ j (by omega), g9 _ j (by omega), g8 _ j (by omega), g7 _ j (by omega), g6 _ j (by omega)]
    exact h5 j hj
  · intro j hj
    rw [pw_p _ _ _ _ (by omega), g10 _ j (by omega), g9 _ j (by omega), g8 _ j (by omega), g7 _ j (by omega)]
    exact h6 j hj
  · intro j hj
    rw [pw_p _ _ _ _ (by omega), g10 _ j (by omega), g9 _ j (by omega), g8 _ j (by omega)]
    exact h7 j hj
  · intro j hj
    rw [pw_p _ _ _ _ (by omega), g10 _ j (by omega), g9 _ j (by omega)]
    exact h8 j hj
  · intro j hj
    rw [pw_p _ _ _ _ (by omega), g10 _ j (by omega)]
    exact h9 j hj
  · intro j hj
    rw [pw_p _ _ _ _ (by omega)]
    exact h10 j hj
  · rw [pw_s]
/-- what the reference's beginning leaves -/
theorem pm_begin (m : ba_St) : ∃ m', (∀ f : ba_St → Option ba_St, ba_bnd (ba_fix xm_lives_l2 1000 (m, 0)) (fun s8 => ba_bnd (ba_fix xm_lives_l74 1000 (s8, 0)) (fun s9 => ba_lt (ba_w s9 0 28 0) f)) = f m') ∧ te_M m m' ∧ (∀ k, k < 12 → m'.1 11 k = pn ∧ m'.1 12 k = pn ∧ m'.1 13 k = nI 0 ∧ m'.1 14 k = pn ∧ m'.1 15 k = nI 0 ∧ m'.1 17 k = nI 0 ∧ m'.1 16 k = m.1 7 (3 * k + 2)) ∧ (∀ c, c < 9 → m'.1 18 c = nI 0 ∧ m'.1 19 c = nI 0) ∧ m'.1 0 28 = nI 0 := by
  obtain ⟨m1, ⟨a1, a2⟩, a3⟩ := pf_one (F := xm_lives_l2) (fun i x => ∃ m', x = (m', nI i) ∧ te_M m m' ∧ (∀ k, k < i → m'.1 11 k = pn ∧ m'.1 12 k = pn ∧ m'.1 13 k = nI 0 ∧ m'.1 14 k = pn ∧ m'.1 15 k = nI 0 ∧ m'.1 17 k = nI 0 ∧ m'.1 16 k = m.1 7 (3 * k + 2)))
    (fun m' => te_M m m' ∧ (∀ k, k < 12 → m'.1 11 k = pn ∧ m'.1 12 k = pn ∧ m'.1 13 k = nI 0 ∧ m'.1 14 k = pn ∧ m'.1 15 k = nI 0 ∧ m'.1 17 k = nI 0 ∧ m'.1 16 k = m.1 7 (3 * k + 2))) 12
    (fun i x hi h => by
      obtain ⟨m1, rfl, g1, g2⟩ := h
      have l : ¬ 12 ≤ i := by omega
      refine ⟨(ba_w (ba_w (ba_w (ba_w (ba_w (ba_w (ba_w m1 11 i pn) 12 i pn) 13 i (nI 0)) 14 i pn) 15 i (nI 0)) 17 i (nI 0)) 16 i (m1.1 7 (3 * i + 2)), nI (i + 1)), ⟨_, rfl, ?_, fun k hk => ?_⟩, fun k => ?_⟩
      · exact ((((((g1.w _ _ _ (by omega)).w _ _ _ (by omega)).w _ _ _ (by omega)).w _ _ _ (by omega)).w _ _ _ (by omega)).w _ _ _ (by omega)).w _ _ _ (by omega)
      · by_cases e : k = i
        · subst e
          simp (disch := omega) only [pw_p, pw_s, true_and]
          exact g1.2 7 _ (by omega) (by omega)
        · simp (disch := omega) only [pw_p, pw_i]
          exact g2 k (by omega)
      · simp (disch := omega) only [xm_lives_l2, ↓pz_m1, pz_lit, pz_le, l, if_false, pz_inb, pz_grt, pz_ix, pz_lt, pk_mul, nI_add, pw_p])
    (fun x h => by
      obtain ⟨m1, rfl, g1, g2⟩ := h
      exact ⟨m1, ⟨g1, g2⟩, fun k => by simp (disch := omega) only [xm_lives_l2, pz_lit, Int32.le_refl, if_true]⟩) 1000 0 (m, 0) (by omega) (by omega) ⟨m, rfl, te_M.rf m, fun k hk => by omega⟩
  obtain ⟨m2, ⟨b1, b2, b3⟩, b4⟩ := pf_one (F := xm_lives_l74) (fun i x => ∃ m', x = (m', nI i) ∧ te_M m m' ∧ (∀ p j, p < 18 → m'.1 p j = m1.1 p j) ∧ (∀ c, c < i → m'.1 18 c = nI 0 ∧ m'.1 19 c = nI 0))
    (fun m' => te_M m m' ∧ (∀ p j, p < 18 → m'.1 p j = m1.1 p j) ∧ (∀ c, c < 9 → m'.1 18 c = nI 0 ∧ m'.1 19 c = nI 0)) 9
    (fun i x hi h => by
      obtain ⟨m3, rfl, g1, g2, g3⟩ := h
      have l : ¬ 9 ≤ i := by omega
      refine ⟨(ba_w (ba_w m3 18 i (nI 0)) 19 i (nI 0), nI (i + 1)), ⟨_, rfl, (g1.w _ _ _ (by omega)).w _ _ _ (by omega), fun p j hp => by rw [pw_p _ _ _ _ (by omega), pw_p _ _ _ _ (by omega)]; exact g2 p j hp, fun c hc => ?_⟩, fun k => ?_⟩
      · by_cases e : c = i
        · subst e
          constructor <;> simp (disch := omega) only [pw_p, pw_s]
        · simp (disch := omega) only [pw_p, pw_i]
          exact g3 c (by omega)
      · simp (disch := omega) only [xm_lives_l74, pz_lit, pz_le, l, if_false, pz_inb, pz_grt, pz_ix, pz_lt, nI_add])
    (fun x h => by
      obtain ⟨m3, rfl, g1, g2, g3⟩ := h
      exact ⟨m3, ⟨g1, g2, g3⟩, fun k => by simp (disch := omega) only [xm_lives_l74, pz_lit, Int32.le_refl, if_true]⟩) 1000 0 (m1, 0) (by omega) (by omega) ⟨m1, rfl, a1, fun _ _ _ => rfl, fun c hc => by omega⟩
  refine ⟨ba_w m2 0 28 (nI 0), fun f => ?_, b1.w _ _ _ (by omega), fun k hk => ?_, fun c hc => ?_, pw_s _ _ _ _⟩
  · rw [a3, pz_bnd, b4, pz_bnd]; rfl
  · simp (disch := omega) only [pw_p, b2]
    exact a2 k hk
  · simp (disch := omega) only [pw_p]
    exact b3 c hc
/-- THE RUN: the class's and the reference's -/
theorem te_run {b : Nat} (hb : 15 ≤ b) {s m : ba_St} {N np ne : Nat} {pc : Nat → Nat} (E : te_E b s m N np ne pc) :
    ∃ s' m' P Hs, te_D b s' m' N np P 24 24 Hs ∧ (∀ k, Hs 23 k = P k) ∧ te_F b s s' ∧ te_M m m' ∧ xc_run s b = some s' ∧ xm_lives m = some m' := by
  have E0 := E
  obtain ⟨⟨hN, hnp, hne, a1, h10, a3, h7, a5, a6⟩, -, -, -, hso, -⟩ := E
  obtain ⟨s1, c1, c2, c3, c4, c5, c6, c7, c8, c9, c10, c11, c12, c13, c14⟩ := pc_begin s hN a1
  obtain ⟨m1, d1, d2, d3, d4, d5⟩ := pm_begin m
  have D : te_D b s1 m1 N np (fun _ => 90) 0 0 (fun _ _ => 0) := by
    refine ⟨fun k hk => ?_, fun q hq => ⟨fun k _ e => by dsimp only at e; omega, fun _ => c4 q hq⟩, fun r hr i hi => ?_, fun i hi => ?_, fun i hi => ?_, fun c hc => ?_, fun k hk => ?_, ⟨fun u hu => by omega, fun u _ hu => c13 u hu⟩, ⟨fun t ht => by omega, fun t ht => by omega, fun t ht => by omega⟩, fun k h1 h2 => c6 k h2, fun k hk => ⟨0, by omega, (d3 k (by omega)).2.2.1⟩, by rw [c14, d5]⟩
    · obtain ⟨e1, e2, -⟩ := d3 k (by omega)
      refine ⟨Nat.le_refl 90, ?_, ?_, ?_⟩
      · rw [c6 k (by omega)]; rfl
      · rw [e1]; rfl
      · rw [e2]; rfl
    · rw [c5 r hr, show nI 0 = 0 from rfl, b_0]; simp
    · rw [c7, bt_all N hN i hi]; simp
    · obtain ⟨v, hv, x1, x2⟩ := hso i hi
      obtain ⟨-, -, -, -, -, y1, y2⟩ := d3 i (by omega)
      have f1 : s1.1 (b + 1) i = nI v := by rw [c2.2 (b + 1) i (by omega) (by omega)]; exact x1
      rw [f1, c3 i (by omega), x1, y1, y2, x2]
      rcases (show v = 0 ∨ v = 1 ∨ v = 2 ∨ v = 3 by omega) with rfl | rfl | rfl | rfl
      · simp only [z_03, z_01, if_false]; exact Or.inr (Or.inr ⟨Or.inl rfl, Or.inl ⟨rfl, rfl⟩⟩)
      · simp only [z_13, if_false, if_true]; exact Or.inr (Or.inr ⟨Or.inr rfl, Or.inr ⟨rfl, rfl⟩⟩)
      · simp only [z_23, show (nI 2 = nI 1) = False by simp (disch := omega) only [pz_eq]; simp, if_false]; exact Or.inr (Or.inl ⟨rfl, rfl, Or.inl ⟨rfl, rfl⟩⟩)
      · simp only [if_true]; exact Or.inl ⟨rfl, rfl, rfl⟩
    · rw [c8 c hc, c9 c hc, (d4 c hc).1, (d4 c hc).2]; exact ⟨rfl, rfl⟩
    · obtain ⟨-, -, y1, y2, y3, -⟩ := d3 k (by omega)
      rw [c10 k (by omega), c11 k (by omega), c12 k (by omega), y1, y2, y3]; exact ⟨rfl, rfl, rfl⟩
  have E1 := E0.fr hb c2 d2
  obtain ⟨s', m', ⟨P, Hs, g1, g2, g3, g4⟩, g5, g6⟩ := pf_two (F := xc_run_l6 b) (E := xm_lives_l107)
    (fun i a a' => ∃ s' m' P Hs, a = (s', nI i) ∧ a' = (m', nI i) ∧ te_D b s' m' N np P i i Hs ∧ (∀ t, i = t + 1 → ∀ k, Hs t k = P k) ∧ te_F b s s' ∧ te_M m m')
    (fun s' m' => ∃ P Hs, te_D b s' m' N np P 24 24 Hs ∧ (∀ k, Hs 23 k = P k) ∧ te_F b s s' ∧ te_M m m') 24
    (fun i a a' hi h => by
      obtain ⟨s2, m2, P2, H2, rfl, rfl, hD, hP, hF, hM⟩ := h
      obtain ⟨s3, m3, P3, H3, k1, k2, k3, k4, k5, k6⟩ := te_tick hb (E0.fr hb hF hM) hi hD
      have l : ¬ 24 ≤ i := by omega
      refine ⟨_, (m3, nI (i + 1)), ⟨s3, m3, P3, H3, rfl, rfl, k1, fun t ht k => by rw [show t = i by omega]; exact k2 k, hF.tr k3, hM.tr k4⟩, k5, fun k => ?_⟩
      simp (disch := omega) only [xm_lives_l107, pz_lit, pz_le, l, if_false, k6, pz_bnd, pz_lt, nI_add])
    (fun a a' h => by
      obtain ⟨s2, m2, P2, H2, rfl, rfl, hD, hP, hF, hM⟩ := h
      refine ⟨s2, m2, ⟨P2, H2, hD, hP 23 rfl, hF, hM⟩, fun k => ?_, fun k => ?_⟩
      · simp (disch := omega) only [xc_run_l6, pz_lit, Int32.le_refl, if_true]
      · simp (disch := omega) only [xm_lives_l107, pz_lit, Int32.le_refl, if_true]) 1000 1000 0 (s1, 0) (m1, 0) (by omega) (by omega) (by omega) ⟨s1, m1, _, _, rfl, rfl, D, fun t ht => by omega, c2, d2⟩
  refine ⟨s', m', P, Hs, g1, g2, g3, g4, ?_, ?_⟩
  · unfold xc_run
    rw [c1, pz_bnd, g5]; rfl
  · unfold xm_lives
    rw [d1, g6]; rfl
