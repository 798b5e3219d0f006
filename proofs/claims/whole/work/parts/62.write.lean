/-! ===== write, read ===== -/
theorem res.on {b : Nat} {s s' m : ba_St} {N : Nat} (h : res b s m N) (hs : ∀ p j, b ≤ p → s'.1 p j = s.1 p j) : res b s' m N := by
  obtain ⟨np, P, Hs, D, a, c1, c2, c3⟩ := h
  exact ⟨np, P, Hs, D.on (fun p j q1 _ => hs p j q1), a, c1, by rw [hs b 4 (by omega)]; exact c2, c3⟩
theorem pm_lesser24 {n : Nat} (hn : n ≤ 60) : xm_lesser (nI n) 24 = some (nI (if 24 < n then 24 else n)) ∧ ba_min (nI n) 24 = nI (if 24 < n then 24 else n) := by
  unfold xm_lesser ba_min
  rw [pz_lit 24]
  have h1 : (nI 24 ≤ nI n) ↔ 24 ≤ n := by rw [pz_le (by omega) (by omega)]
  have h2 : (nI 24 < nI n) ↔ 24 < n := by rw [pz_ltN (by omega) (by omega)]
  by_cases c : 24 < n
  · rw [if_pos c, if_pos (h2.mpr c), if_pos (h1.mpr (by omega))]; exact ⟨rfl, rfl⟩
  · rw [if_neg c, if_neg (fun z => c (h2.mp z))]
    refine ⟨?_, rfl⟩
    by_cases d : 24 ≤ n
    · rw [if_pos (h1.mpr d), show n = 24 by omega]
    · rw [if_neg (fun z => d (h1.mp z))]
theorem q_write {s m : ba_St} (h : RR s m) (a b : Int32) : ∃ v s' m', xb_write s a b = some (v, s') ∧ xm_write m a b = some (v, m') ∧ RR s' m' := by
  obtain ⟨s', m', N, np, ne, ns, pc, e1, e2, e3, R', R⟩ := h.find2
  have hN : N ≤ 12 := R.2.1.1.1
  unfold xb_write xm_write
  rcases arg_b R.2.1 a with ⟨u, u1, rfl, w1, g1⟩ | ⟨w1, g1⟩
  · rcases arg_4 b with ⟨k, k1, rfl, w2, g2⟩ | ⟨w2, g2⟩
    · have i : ba_inb (nI k) 4 = true := pz_inb (by omega) (by omega)
      have x : ba_ix (nI k) = k := pz_ix (by omega)
      have c3 : s'.1 (23 + 2 * k) 3 = s.1 (23 + 2 * k) 3 := by
        obtain ⟨n0, n1, n2, B0, B1, B2, ne2, ns2, H, q1, -⟩ := h
        obtain ⟨s'', m'', d1, -, -, -, -, -, d7, -⟩ := found H q1
        rw [e1] at d1
        have e : s' = s'' := Option.some.inj d1
        rw [e]; exact d7.2 _ _ (by omega)
      rcases R'.1.iH k1 with ⟨a1, a2⟩ | ⟨f, n, a1, a2, a3, a4, a5, a6, a7, a8⟩
      · have a1' : s.1 (23 + 2 * k) 3 = nI 1 := by rw [← c3]; exact a1
        refine ⟨-10 - 1, ba_w s 0 7 1, ba_w m' 0 4 1, ?_, ?_, rr_found R.1 1⟩
        · simp only [w1, w2, pz_bnd, p_10, if_false, i, x, pz_grt, a1', n1e0, xb_found, pz_lt, pz_bn2]
        · simp only [e2, g1, g2, pz_bnd, p_10, if_false, i, x, pz_grt, a2, pz_pn0, xm_finds, pz_lt, pz_bn2]
      · have a3' : s.1 (23 + 2 * k) 3 = nI 0 := by rw [← c3]; exact a3
        obtain ⟨l1, l2⟩ := pm_lesser24 a2
        obtain ⟨t, ht⟩ : ∃ t, t = if 24 < n then 24 else n := ⟨_, rfl⟩
        rw [← ht] at l1 l2
        have t24 : t ≤ 24 ∧ t ≤ n := by rw [ht]; split <;> omega
        obtain ⟨o, w, po, d1, d2⟩ := pf_two (F := xb_write_l65 (nI u) (nI k) (nI t)) (E := xm_write_l52 (nI u) (nI k) (nI t)) (fun i y z => ∃ sa mb, y = (sa, nI i) ∧ z = (mb, nI i) ∧ RR sa mb ∧ res 31 sa mb N ∧ sa.1 (23 + 2 * k) 3 = nI 0 ∧ sa.1 (23 + 2 * k) 1 = nI f ∧ mb.1 1 k = nI f ∧ sa.1 (23 + 2 * k) 2 = nI n ∧ mb.1 2 k = nI n ∧ ∀ j, j < n → sa.1 (24 + 2 * k) j = mb.1 3 (60 * k + j)) (fun o w => RR o w) t
          (fun r y z hr hI => by
            obtain ⟨sa, mb, rfl, rfl, I1, I2, I3, I4, I5, I6, I7, I8⟩ := hI
            have l0 : ¬ nI t ≤ nI r := by rw [pz_le (by omega) (by omega)]; omega
            obtain ⟨r1, -⟩ := rd_row I2 (show r < 24 by omega) u1
            obtain ⟨v, v1, v2⟩ := p_put (s := sa) (k := k) (show f < 3 by omega) I4 (show r < 60 by omega) (mb.1 21 (12 * r + u))
            have y1 : 60 * nI k + nI r = nI (60 * k + r) := by rw [pz_lit 60, pk_mul, nI_add]
            have y2 : ba_inb (nI (60 * k + r)) 240 = true := pz_inb (by omega) (by omega)
            have y3 : ba_ix (nI (60 * k + r)) = 60 * k + r := pz_ix (by omega)
            have z1 : 12 * nI r + nI u = nI (12 * r + u) := by rw [pz_lit 12, pk_mul, nI_add]
            have z2 : ba_inb (nI (12 * r + u)) 288 = true := pz_inb (by omega) (by omega)
            have z3 : ba_ix (nI (12 * r + u)) = 12 * r + u := pz_ix (by omega)
            obtain ⟨q1, q2⟩ := rr_put I1 k1 a1 a2 (show r < n by omega) I3 I4 I5 I6 I7 I8 v
            refine ⟨(ba_w sa (24 + 2 * k) r v, nI (r + 1)), (ba_w mb 3 (60 * k + r) v, nI (r + 1)), ⟨_, _, rfl, rfl, q1, (I2.on (fun p j hp => pw_p _ _ _ _ (by omega))).om v (by omega) (by omega), ?_, ?_, ?_, ?_, ?_, q2⟩, fun K => ?_, fun K => ?_⟩
            · rw [pw_p _ _ _ _ (by omega)]; exact I3
            · rw [pw_p _ _ _ _ (by omega)]; exact I4
            · rw [pw_p _ _ _ _ (by omega)]; exact I5
            · rw [pw_p _ _ _ _ (by omega)]; exact I6
            · rw [pw_p _ _ _ _ (by omega)]; exact I7
            · unfold xb_write_l65
              simp only [l0, if_false, i, x, pz_grt, r1, pz_bnd, v1, pz_lt, pz_succ]
            · unfold xm_write_l52
              simp only [l0, if_false, i, x, pz_grt, z1, z2, z3, I5, v2, pz_bnd, y1, y2, y3, pz_lt, pz_succ])
          (fun y z hI => by
            obtain ⟨sa, mb, rfl, rfl, I1, -⟩ := hI
            exact ⟨sa, mb, I1, fun K => by unfold xb_write_l65; simp only [Int32.le_refl, if_true], fun K => by unfold xm_write_l52; simp only [Int32.le_refl, if_true]⟩) 1000 1000 0 (s', 0) (m', 0) (by omega) (by omega) (by omega) ⟨s', m', rfl, rfl, R'.1, e3, a3, a4, a5, a6, a7, a8⟩
        refine ⟨nI t, o, w, ?_, ?_, po⟩
        · simp only [w1, w2, pz_bnd, p_10, if_false, i, x, pz_grt, a3', n0e0, if_true, e1, a6, l2, pz_lt, d1]
        · simp only [e2, g1, g2, pz_bnd, p_10, if_false, i, x, pz_grt, a5, pz_nn (show f < 2 ^ 31 by omega), if_true, a7, l1, d2]
    · exact ⟨-2, s, m', by simp only [w1, w2, pz_bnd, p_10, p_00, if_true, if_false], by simp only [e2, g1, g2, pz_bnd, p_10, p_00, if_true, if_false], R.1⟩
  · exact ⟨-2, s, m', by simp only [w1, pz_bnd, p_00, if_true], by simp only [e2, g1, pz_bnd, p_00, if_true], R.1⟩
/-- two loops side by side; the second may go once more about -/
theorem pf_tw1 {A O B U : Type} {F : (A → Option O) → A → Option O} {E : (B → Option U) → B → Option U} (I : Nat → A → B → Prop) (Po : O → U → Prop) (n : Nat) (hs : ∀ i a b, i < n → I i a b → (∃ a' b', I (i + 1) a' b' ∧ (∀ k, F k a = k a') ∧ (∀ k, E k b = k b')) ∨ ∃ o u b', Po o u ∧ (∀ k, F k a = some o) ∧ (∀ k, E k b = k b') ∧ (∀ k, E k b' = some u)) (he : ∀ a b, I n a b → ∃ o u, Po o u ∧ (∀ k, F k a = some o) ∧ (∀ k, E k b = some u)) : ∀ (f g i : Nat) (a : A) (b : B), i ≤ n → n - i < f → n - i + 1 < g → I i a b → ∃ o u, Po o u ∧ ba_fix F f a = some o ∧ ba_fix E g b = some u := by
  intro f
  induction f with
  | zero => intro g i a b h1 h2; omega
  | succ f ih =>
    intro g i a b h1 h2 hg h3
    obtain ⟨g, rfl⟩ : ∃ g', g = g' + 2 := ⟨g - 2, by omega⟩
    by_cases hi : i = n
    · subst hi
      obtain ⟨o, u, p1, p2, p3⟩ := he a b h3
      exact ⟨o, u, p1, p2 _, p3 _⟩
    · rcases hs i a b (by omega) h3 with ⟨a', b', p1, p2, p3⟩ | ⟨o, u, b', p1, p2, p3, p4⟩
      · obtain ⟨o, u, q1, q2, q3⟩ := ih (g + 1) (i + 1) a' b' (by omega) (by omega) (by omega) p1
        exact ⟨o, u, q1, by show F (ba_fix F f) a = some o; rw [p2]; exact q2, by show E (ba_fix E (g + 1)) b = some u; rw [p3]; exact q3⟩
      · refine ⟨o, u, p1, p2 _, ?_⟩
        show E (ba_fix E (g + 1)) b = some u
        rw [p3]
        exact p4 _
theorem q_read {s m : ba_St} (h : RR s m) (a : Int32) : ∃ v s' m', xb_read s a = some (v, s') ∧ xm_read m a = some (v, m') ∧ RR s' m' := by
  unfold xb_read xm_read
  rcases arg_4 a with ⟨k, k1, rfl, w1, g1⟩ | ⟨w1, g1⟩
  · have i : ba_inb (nI k) 4 = true := pz_inb (by omega) (by omega)
    have x : ba_ix (nI k) = k := pz_ix (by omega)
    rcases h.iH k1 with ⟨a1, a2⟩ | ⟨f, n, a1, a2, a3, a4, a5, a6, a7, a8⟩
    · refine ⟨-10 - 1, ba_w s 0 7 1, ba_w m 0 4 1, ?_, ?_, rr_found h 1⟩
      · simp only [w1, pz_bnd, p_10, if_false, i, x, pz_grt, a1, n1e0, xb_found, pz_lt, pz_bn2]
      · simp only [g1, pz_bnd, p_10, if_false, i, x, pz_grt, a2, pz_pn0, xm_finds, pz_lt, pz_bn2]
    · have dv : nI n / 3 = nI (n / 3) := by rw [pz_lit 3, pz_div (by omega) (by omega) (by omega)]
      obtain ⟨o, w, ⟨c, sa, mb, rfl, rfl, RR'⟩, d1, d2⟩ := pf_tw1 (F := xb_read_l57 (23 + 2 * k + 1) 60 (nI (n / 3))) (E := xm_read_l29 (nI k)) (fun i y z => ∃ sa mb, y = (sa, nI i, nI i) ∧ z = (mb, nI i, 1) ∧ RR sa mb ∧ mb.1 2 k = nI n ∧ ∀ j, j < n → sa.1 (24 + 2 * k) j = mb.1 3 (60 * k + j)) (fun o w => ∃ c sa mb, o = (sa, c) ∧ w = (mb, c) ∧ RR sa mb) (n / 3)
        (fun r y z hr hI => by
          obtain ⟨sa, mb, rfl, rfl, I1, I2, I3⟩ := hI
          have l0 : ¬ nI (n / 3) ≤ nI r := by rw [pz_le (by omega) (by omega)]; omega
          have l1 : ¬ nI n < nI (3 * r + 3) := by rw [pz_ltN (by omega) (by omega)]; omega
          have y0 : 3 * nI r = nI (3 * r) := by rw [pz_lit 3, pk_mul]
          have y1 : nI (3 * r) + 1 = nI (3 * r + 1) := by rw [pz_lit 1, nI_add]
          have y2 : nI (3 * r) + 2 = nI (3 * r + 2) := by rw [pz_lit 2, nI_add]
          have y3 : nI (3 * r) + 3 = nI (3 * r + 3) := by rw [pz_lit 3, nI_add]
          have i0 : ba_inb (nI (3 * r)) 60 = true := pz_inb (by omega) (by omega)
          have i1 : ba_inb (nI (3 * r + 1)) 60 = true := pz_inb (by omega) (by omega)
          have i2 : ba_inb (nI (3 * r + 2)) 60 = true := pz_inb (by omega) (by omega)
          have x0 : ba_ix (nI (3 * r)) = 3 * r := pz_ix (by omega)
          have x1 : ba_ix (nI (3 * r + 1)) = 3 * r + 1 := pz_ix (by omega)
          have x2 : ba_ix (nI (3 * r + 2)) = 3 * r + 2 := pz_ix (by omega)
          have z0 : 60 * nI k + nI (3 * r) = nI (60 * k + 3 * r) := by rw [pz_lit 60, pk_mul, nI_add]
          have z1 : nI (60 * k + 3 * r) + 1 = nI (60 * k + 3 * r + 1) := by rw [pz_lit 1, nI_add]
          have z2 : nI (60 * k + 3 * r) + 2 = nI (60 * k + 3 * r + 2) := by rw [pz_lit 2, nI_add]
          have j0 : ba_inb (nI (60 * k + 3 * r)) 240 = true := pz_inb (by omega) (by omega)
          have j1 : ba_inb (nI (60 * k + 3 * r + 1)) 240 = true := pz_inb (by omega) (by omega)
          have j2 : ba_inb (nI (60 * k + 3 * r + 2)) 240 = true := pz_inb (by omega) (by omega)
          have v0 : ba_ix (nI (60 * k + 3 * r)) = 60 * k + 3 * r := pz_ix (by omega)
          have v1 : ba_ix (nI (60 * k + 3 * r + 1)) = 60 * k + 3 * r + 1 := pz_ix (by omega)
          have v2 : ba_ix (nI (60 * k + 3 * r + 2)) = 60 * k + 3 * r + 2 := pz_ix (by omega)
          have t0 : sa.1 (23 + 2 * k + 1) (3 * r) = mb.1 3 (60 * k + 3 * r) := by rw [show 23 + 2 * k + 1 = 24 + 2 * k by omega]; exact I3 _ (by omega)
          have t1 : sa.1 (23 + 2 * k + 1) (3 * r + 1) = mb.1 3 (60 * k + 3 * r + 1) := by rw [show 23 + 2 * k + 1 = 24 + 2 * k by omega]; exact I3 _ (by omega)
          have t2 : sa.1 (23 + 2 * k + 1) (3 * r + 2) = mb.1 3 (60 * k + 3 * r + 2) := by rw [show 23 + 2 * k + 1 = 24 + 2 * k by omega]; exact I3 _ (by omega)
          obtain ⟨v, sb, mc, e1, e2, Rn, F, G⟩ := k_event I1 (mb.1 3 (60 * k + 3 * r)) (mb.1 3 (60 * k + 3 * r + 1)) (mb.1 3 (60 * k + 3 * r + 2))
          by_cases cv : 0 ≤ v
          · have cv' : ¬ v < 0 := Int32.not_lt.mpr cv
            refine Or.inl ⟨(sb, nI (r + 1), nI (r + 1)), (mc, nI (r + 1), 1), ⟨sb, mc, rfl, rfl, Rn, ?_, fun j hj => ?_⟩, fun K => ?_, fun K => ?_⟩
            · rw [G.2 _ _ (by unfold vEv; omega)]; exact I2
            · rw [F.2 _ _ (by unfold wEv; omega), G.2 _ _ (by unfold vEv; omega)]; exact I3 j hj
            · unfold xb_read_l57
              simp only [l0, if_false, y0, y1, y2, i0, i1, i2, x0, x1, x2, pz_grt, t0, t1, t2, e1, pz_bn2, cv, if_true, pz_lt, pz_succ]
            · unfold xm_read_l29 xm_read_j94_29 xm_read_j105_29
              simp only [p_10, if_false, i, x, pz_grt, I2, y0, y3, l1, z0, pz_lt, z1, z2, j0, j1, j2, v0, v1, v2, e2, pz_bn2, cv', pz_succ]
          · have cv' : v < 0 := Int32.not_le.mp cv
            refine Or.inr ⟨(sb, nI r), (mc, nI r), (mc, nI r, 0), ⟨_, _, _, rfl, rfl, Rn⟩, fun K => ?_, fun K => ?_, fun K => ?_⟩
            · unfold xb_read_l57
              simp only [l0, if_false, y0, y1, y2, i0, i1, i2, x0, x1, x2, pz_grt, t0, t1, t2, e1, pz_bn2, cv]
            · unfold xm_read_l29 xm_read_j94_29 xm_read_j105_29
              simp only [p_10, if_false, i, x, pz_grt, I2, y0, y3, l1, z0, pz_lt, z1, z2, j0, j1, j2, v0, v1, v2, e2, pz_bn2, cv', if_true, p_00, Int32.add_zero]
            · unfold xm_read_l29
              simp only [p_00, if_true])
        (fun y z hI => by
          obtain ⟨sa, mb, rfl, rfl, I1, I2, I3⟩ := hI
          refine ⟨(sa, nI (n / 3)), (mb, nI (n / 3)), ⟨_, _, _, rfl, rfl, I1⟩, fun K => ?_, fun K => ?_⟩
          · unfold xb_read_l57; simp only [Int32.le_refl, if_true]
          · have y0 : 3 * nI (n / 3) + 3 = nI (3 * (n / 3) + 3) := by rw [pz_lit 3, pk_mul, nI_add]
            have l1 : nI n < nI (3 * (n / 3) + 3) := by rw [pz_ltN (by omega) (by omega)]; omega
            unfold xm_read_l29
            simp only [p_10, if_false, i, x, pz_grt, I2, y0, l1, if_true]) 1000 1000 0 (s, 0, 0) (m, 0, 1) (by omega) (by omega) (by omega) ⟨s, m, rfl, rfl, h, a7, a8⟩
      refine ⟨c, sa, mb, ?_, ?_, RR'⟩
      · simp only [w1, pz_bnd, p_10, if_false, i, x, pz_grt, a3, n0e0, if_true, a6, dv, pz_lt, d1]
      · simp only [g1, pz_bnd, p_10, if_false, i, x, pz_grt, a5, pz_nn (show f < 2 ^ 31 by omega), if_true, d2]
  · exact ⟨-2, s, m, by simp only [w1, pz_bnd, p_00, if_true], by simp only [g1, pz_bnd, p_00, if_true], h⟩
