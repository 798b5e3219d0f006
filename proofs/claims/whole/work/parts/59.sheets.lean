/-! ===== findings, sheets ===== -/
theorem rr_found {s m : ba_St} (h : RR s m) (v : Int32) : RR (ba_w s 0 7 v) (ba_w m 0 4 v) := by
  obtain ⟨n0, n1, n2, B0, B1, B2, ne, ns, ⟨⟨T0, T1, T2, l1, l2⟩, hB, hV, hS, ⟨r, r1, r2, r3, r4⟩, hg, hH, hf⟩, k⟩ := h
  have ff : ∀ p j, (p ≠ 0 ∨ j ≠ 7) → (ba_w s 0 7 v).1 p j = s.1 p j := fun p j h1 => by rw [pw, if_neg (by omega)]
  have gg : ∀ p j, (p ≠ 0 ∨ j ≠ 4) → (ba_w m 0 4 v).1 p j = m.1 p j := fun p j h1 => by rw [pw, if_neg (by omega)]
  exact ⟨n0, n1, n2, B0, B1, B2, ne, ns, ⟨⟨T0.up (ff _ _ (by omega)) (fun j => ff _ _ (by omega)) (gg _ _ (by omega)) (fun j _ => gg _ _ (by omega)), T1.up (ff _ _ (by omega)) (fun j => ff _ _ (by omega)) (gg _ _ (by omega)) (fun j _ => gg _ _ (by omega)), T2.up (ff _ _ (by omega)) (fun j => ff _ _ (by omega)) (gg _ _ (by omega)) (fun j _ => gg _ _ (by omega)), l1, l2⟩, hB.up (fun p j h1 h2 h3 => ff p j (by omega)), hV.up (ff _ _ (by omega)) (fun j => ff _ _ (by omega)) (gg _ _ (by omega)) (fun j => gg _ _ (by omega)), hS.up (ff _ _ (by omega)) (fun j => ff _ _ (by omega)) (gg _ _ (by omega)) (fun j => gg _ _ (by omega)), ⟨r, r1, r2, by rw [ff _ _ (by omega)]; exact r3, by rw [gg _ _ (by omega)]; exact r4⟩, by rw [gg _ _ (by omega)]; exact hg, fun i hi => (hH i hi).up (fun j => ff _ _ (by omega)) (fun j => ff _ _ (by omega)) (gg _ _ (by omega)) (gg _ _ (by omega)) (fun j _ => gg _ _ (by omega)), by rw [pw_s, pw_s]⟩, k.mv2 (fun p j h1 h2 => ff p j (by omega)) (fun j => ff 15 j (by omega)) (fun p j h1 h2 => ff p j (by omega)) (fun j h1 h2 => ff 0 j (by omega))⟩
def wSh (k p j : Nat) : Prop := (p = 23 + 2 * k ∧ (j = 1 ∨ j = 2 ∨ j = 3)) ∨ p = 24 + 2 * k
def vSh (k p j : Nat) : Prop := ((p = 1 ∨ p = 2) ∧ j = k) ∨ (p = 3 ∧ 60 * k ≤ j ∧ j < 60 * k + 60) ∨ p = 4
theorem rr_sheet {s m s' m' : ba_St} (h : RR s m) {k : Nat} (hk : k < 4) (F : fr (wSh k) s s') (G : fr (vSh k) m m') (hh : iH s' m' k) : RR s' m' := by
  obtain ⟨n0, n1, n2, B0, B1, B2, ne, ns, ⟨⟨T0, T1, T2, l1, l2⟩, hB, hV, hS, ⟨r, r1, r2, r3, r4⟩, hg, hH, hf⟩, c⟩ := h
  have ff : ∀ p j, (p < 23 ∨ 30 < p) → s'.1 p j = s.1 p j := fun p j h1 => F.2 p j (by unfold wSh; omega)
  have gg : ∀ p j, p ≠ 1 → p ≠ 2 → p ≠ 3 → p ≠ 4 → m'.1 p j = m.1 p j := fun p j _ _ _ _ => G.2 p j (by unfold vSh; omega)
  refine ⟨n0, n1, n2, B0, B1, B2, ne, ns, ⟨⟨T0.up (ff _ _ (by omega)) (fun j => ff _ _ (by omega)) (gg _ _ (by omega) (by omega) (by omega) (by omega)) (fun j _ => gg _ _ (by omega) (by omega) (by omega) (by omega)), T1.up (ff _ _ (by omega)) (fun j => ff _ _ (by omega)) (gg _ _ (by omega) (by omega) (by omega) (by omega)) (fun j _ => gg _ _ (by omega) (by omega) (by omega) (by omega)), T2.up (ff _ _ (by omega)) (fun j => ff _ _ (by omega)) (gg _ _ (by omega) (by omega) (by omega) (by omega)) (fun j _ => gg _ _ (by omega) (by omega) (by omega) (by omega)), l1, l2⟩, hB.up (fun p j h1 h2 h3 => ff p j (by omega)), hV.up (ff _ _ (by omega)) (fun j => ff _ _ (by omega)) (gg _ _ (by omega) (by omega) (by omega) (by omega)) (fun j => gg _ _ (by omega) (by omega) (by omega) (by omega)), hS.up (ff _ _ (by omega)) (fun j => ff _ _ (by omega)) (gg _ _ (by omega) (by omega) (by omega) (by omega)) (fun j => gg _ _ (by omega) (by omega) (by omega) (by omega)), ⟨r, r1, r2, by rw [ff _ _ (by omega)]; exact r3, by rw [gg _ _ (by omega) (by omega) (by omega) (by omega)]; exact r4⟩, by rw [gg _ _ (by omega) (by omega) (by omega) (by omega)]; exact hg, fun i hi => ?_, by rw [ff _ _ (by omega), gg _ _ (by omega) (by omega) (by omega) (by omega)]; exact hf⟩, c.mv2 (fun p j h1 h2 => ff p j (by omega)) (fun j => ff 15 j (by omega)) (fun p j h1 h2 => ff p j (by omega)) (fun j h1 h2 => ff 0 j (by omega))⟩
  by_cases e : i = k
  · subst e; exact hh
  · exact (hH i hi).up (fun j => F.2 _ _ (by unfold wSh; omega)) (fun j => F.2 _ _ (by unfold wSh; omega)) (G.2 _ _ (by unfold vSh; omega)) (G.2 _ _ (by unfold vSh; omega)) (fun j hj => G.2 _ _ (by unfold vSh; omega))
theorem RR.iH {s m : ba_St} (h : RR s m) {k : Nat} (hk : k < 4) : iH s m k := by
  obtain ⟨n0, n1, n2, B0, B1, B2, ne, ns, ⟨-, -, -, -, -, -, hH, -⟩, c⟩ := h
  exact hH k hk
theorem pz_pn0 : ((0 : Int32) ≤ pn) = False := by decide
theorem pz_pnl0 : (pn < (0 : Int32)) = True := by decide
theorem pz_nn {n : Nat} (h : n < 2 ^ 31) : ((0 : Int32) ≤ nI n) = True := eq_true (nI_pos' h)
theorem pz_nl {n : Nat} (h : n < 2 ^ 31) : (nI n < (0 : Int32)) = False := eq_false (by rw [pz_lit 0, pz_ltN h (by omega)]; omega)
theorem q_sheet {s m : ba_St} (h : RR s m) (a b c : Int32) : ∃ v s' m', xb_sheet s a b c = some (v, s') ∧ xm_sheet m a b c = some (v, m') ∧ RR s' m' := by
  unfold xb_sheet xm_sheet
  rcases arg_4 a with ⟨k, k1, rfl, w1, g1⟩ | ⟨w1, g1⟩
  · rcases arg_3 b with ⟨f, f1, rfl, w2, g2⟩ | ⟨w2, g2⟩
    · by_cases c1 : c ≤ 60
      · by_cases c2 : 0 ≤ c
        · have t1 : c ≤ (60 : Int32) ↔ c.toInt ≤ 60 := by rw [Int32.le_iff_toInt_le]; exact Iff.rfl
          have t2 : (0 : Int32) ≤ c ↔ 0 ≤ c.toInt := by rw [Int32.le_iff_toInt_le]; exact Iff.rfl
          have c1' := t1.mp c1
          have c2' := t2.mp c2
          obtain ⟨n, hn, rfl⟩ : ∃ n, n ≤ 60 ∧ c = nI n := ⟨c.toInt.toNat, by omega, Int32.toInt_inj.mp (by rw [nI_toInt (by omega)]; omega)⟩
          have i : ba_inb (nI k) 4 = true := pz_inb (by omega) (by omega)
          have x : ba_ix (nI k) = k := pz_ix (by omega)
          obtain ⟨s1, e1, -, d1, d2, d3⟩ := pj_fill (ba_w (ba_w (ba_w s (23 + 2 * k) 1 (nI f)) (23 + 2 * k) 2 (nI n)) (23 + 2 * k) 3 0) (23 + 2 * k + 1) 60 0 (by omega)
          have F : fr1 (wSh k) s s1 := fun p j w => by
            rw [d1 p j (by unfold wSh at w; omega), pw, if_neg (by unfold wSh at w; omega), pw, if_neg (by unfold wSh at w; omega), pw, if_neg (by unfold wSh at w; omega)]
          obtain ⟨mo, po, dm⟩ := pf_one (F := xm_sheet_l55 (nI k) (nI n)) (fun i a => ∃ mb, a = (mb, nI i) ∧ fr (fun p j => p = 3 ∧ 60 * k ≤ j ∧ j < 60 * k + 60) (ba_w (ba_w m 1 k (nI f)) 2 k (nI n)) mb ∧ ∀ j, j < i → mb.1 3 (60 * k + j) = 0) (fun o => fr (fun p j => p = 3 ∧ 60 * k ≤ j ∧ j < 60 * k + 60) (ba_w (ba_w m 1 k (nI f)) 2 k (nI n)) o ∧ ∀ j, j < n → o.1 3 (60 * k + j) = 0) n
            (fun i a hi hI => by
              obtain ⟨mb, rfl, I1, I2⟩ := hI
              have l : ¬ nI n ≤ nI i := by rw [pz_le (by omega) (by omega)]; omega
              have y1 : 60 * nI k + nI i = nI (60 * k + i) := by rw [pz_lit 60, pk_mul, nI_add]
              have y2 : ba_inb (nI (60 * k + i)) 240 = true := pz_inb (by omega) (by omega)
              have y3 : ba_ix (nI (60 * k + i)) = 60 * k + i := pz_ix (by omega)
              refine ⟨(ba_w mb 3 (60 * k + i) 0, nI (i + 1)), ⟨_, rfl, I1.w _ _ _ (by omega), fun j hj => ?_⟩, fun K => ?_⟩
              · by_cases e : j = i
                · subst e; exact pw_s _ _ _ _
                · rw [pw_i _ _ _ (by omega)]; exact I2 j (by omega)
              · unfold xm_sheet_l55
                simp only [l, if_false, y1, y2, y3, pz_grt, pz_lt, pz_succ])
            (fun a hI => by
              obtain ⟨mb, rfl, I1, I2⟩ := hI
              exact ⟨mb, ⟨I1, I2⟩, fun K => by unfold xm_sheet_l55; simp only [Int32.le_refl, if_true]⟩) 1000 0 (ba_w (ba_w m 1 k (nI f)) 2 k (nI n), 0) (by omega) (by omega) ⟨_, rfl, fr.rf _ _, fun j hj => by omega⟩
          have G : fr (vSh k) m mo := (((fr.rf (vSh k) m).w 1 k _ (by unfold vSh; omega)).w 2 k _ (by unfold vSh; omega)).tr (po.1.mono (fun p j w => by unfold vSh; omega))
          refine ⟨nI n, s1, mo, ?_, ?_, rr_sheet (s' := (s1.1, s.2)) h k1 ⟨rfl, F⟩ G (Or.inr ⟨f, n, by omega, hn, ?_, ?_, ?_, ?_, ?_, fun j hj => ?_⟩)⟩
          · have er : xs_renew s (23 + 2 * k) (nI f) (nI n) = some s1 := by
              unfold xs_renew
              simp only [pz_lt, e1, pz_bnd]
            simp only [w1, w2, pz_bnd, p_10, if_false, c1, c2, if_true, i, x, pz_grt, er]
          · simp only [g1, g2, pz_bnd, p_10, if_false, c1, c2, if_true, i, x, pz_grt, pz_lt, dm]
          · show s1.1 (23 + 2 * k) 3 = nI 0
            rw [d1 _ _ (by omega), pw_s]; rfl
          · show s1.1 (23 + 2 * k) 1 = nI f
            rw [d1 _ _ (by omega), pw_i _ _ _ (by omega), pw_i _ _ _ (by omega), pw_s]
          · rw [po.1.2 _ _ (by omega), pw_p _ _ _ _ (by omega), pw_s]
          · show s1.1 (23 + 2 * k) 2 = nI n
            rw [d1 _ _ (by omega), pw_i _ _ _ (by omega), pw_s]
          · rw [po.1.2 _ _ (by omega), pw_s]
          · show s1.1 (24 + 2 * k) j = _
            rw [po.2 j hj, show 24 + 2 * k = 23 + 2 * k + 1 by omega, d2 j (by omega)]
        · refine ⟨-10 - 5, ba_w s 0 7 5, ba_w m 0 4 5, ?_, ?_, rr_found h 5⟩
          · simp only [w1, w2, pz_bnd, p_10, if_false, c1, c2, if_true, xb_found, pz_lt, pz_bn2]
          · simp only [g1, g2, pz_bnd, p_10, if_false, c1, c2, if_true, xm_finds, pz_lt, pz_bn2]
      · exact ⟨-2, s, m, by simp only [w1, w2, c1, pz_bnd, p_10, if_false], by simp only [g1, g2, c1, pz_bnd, p_10, if_false], h⟩
    · exact ⟨-2, s, m, by simp only [w1, w2, pz_bnd, p_10, p_00, if_true, if_false], by simp only [g1, g2, pz_bnd, p_10, p_00, if_true, if_false], h⟩
  · exact ⟨-2, s, m, by simp only [w1, pz_bnd, p_00, if_true], by simp only [g1, pz_bnd, p_00, if_true], h⟩
theorem q_lose {s m : ba_St} (h : RR s m) (a : Int32) : ∃ v s' m', xb_lose s a = some (v, s') ∧ xm_lose m a = some (v, m') ∧ RR s' m' := by
  unfold xb_lose xm_lose
  rcases arg_4 a with ⟨k, k1, rfl, w1, g1⟩ | ⟨w1, g1⟩
  · have i : ba_inb (nI k) 4 = true := pz_inb (by omega) (by omega)
    have x : ba_ix (nI k) = k := pz_ix (by omega)
    rcases h.iH k1 with ⟨a1, a2⟩ | ⟨f, n, a1, a2, a3, a4, a5, a6, a7, a8⟩
    · refine ⟨-10 - 1, ba_w s 0 7 1, ba_w m 0 4 1, ?_, ?_, rr_found h 1⟩
      · simp only [w1, pz_bnd, p_10, if_false, i, x, pz_grt, a1, n1e0, xb_found, pz_lt, pz_bn2]
      · simp only [g1, pz_bnd, p_10, if_false, i, x, pz_grt, a2, pz_pn0, xm_finds, pz_lt, pz_bn2]
    · have e2 : (ba_w s (23 + 2 * k) 3 1).1 (23 + 2 * k) 2 = nI n := by rw [pw_i _ _ _ (by omega)]; exact a6
      have e3 : (ba_w m 1 k (-1)).1 2 k = nI n := by rw [pw_p _ _ _ _ (by omega)]; exact a7
      refine ⟨nI n, ba_w s (23 + 2 * k) 3 1, ba_w m 1 k (-1), ?_, ?_, rr_sheet h k1 ((fr.rf _ s).w _ _ _ (by unfold wSh; omega)) ((fr.rf _ m).w _ _ _ (by unfold vSh; omega)) (Or.inl ⟨pw_s _ _ _ _, pw_s _ _ _ _⟩)⟩
      · simp only [w1, pz_bnd, p_10, if_false, i, x, pz_grt, a3, n0e0, if_true, pz_lt, e2]
      · simp only [g1, pz_bnd, p_10, if_false, i, x, pz_grt, a5, pz_nn (show f < 2 ^ 31 by omega), if_true, pz_lt, e3]
  · exact ⟨-2, s, m, by simp only [w1, pz_bnd, p_00, if_true], by simp only [g1, pz_bnd, p_00, if_true], h⟩
/-- what item i lacks, in both -/
theorem p_lacks {s m : ba_St} (h : RR s m) {k : Nat} (k1 : k < 4) {f : Nat} (hf : f < 3) (c : Int32) : (∃ v u : Int32, ¬ v = 0 ∧ ¬ u = 0 ∧ xs_findingFor s (23 + 2 * k) (nI f) c = some v ∧ xm_lacks m (nI k) (nI f) c = some (u, ba_w m 0 4 v) ∧ xb_found s v = some (u, ba_w s 0 7 v)) ∨ ∃ n j, n ≤ 60 ∧ j < n ∧ c = nI j ∧ xs_findingFor s (23 + 2 * k) (nI f) c = some 0 ∧ xm_lacks m (nI k) (nI f) c = some (0, m) ∧ s.1 (23 + 2 * k) 3 = nI 0 ∧ s.1 (23 + 2 * k) 1 = nI f ∧ m.1 1 k = nI f ∧ s.1 (23 + 2 * k) 2 = nI n ∧ m.1 2 k = nI n ∧ ∀ j, j < n → s.1 (24 + 2 * k) j = m.1 3 (60 * k + j) := by
  have i : ba_inb (nI k) 4 = true := pz_inb (by omega) (by omega)
  have x : ba_ix (nI k) = k := pz_ix (by omega)
  unfold xs_findingFor xm_lacks
  rcases h.iH k1 with ⟨a1, a2⟩ | ⟨f', n, a1, a2, a3, a4, a5, a6, a7, a8⟩
  · refine Or.inl ⟨1, -10 - 1, by decide, by decide, ?_, ?_, rfl⟩
    · simp only [a1, n1e0, if_false]
    · simp only [i, x, pz_grt, a2, pz_pn0, if_false, xm_finds, pz_lt, pz_bn2]
  · by_cases e : f = f'
    · subst e
      rcases arg_n c n (by omega) with ⟨j, j1, rfl, w, g⟩ | ⟨w, g⟩
      · refine Or.inr ⟨n, j, a2, j1, rfl, ?_, ?_, a3, a4, a5, a6, a7, a8⟩
        · simp only [a3, n0e0, if_true, a4, a6, w, pz_bnd, p_10, if_false]
        · simp only [i, x, pz_grt, a5, pz_nn (show f < 2 ^ 31 by omega), if_true, a7, g, pz_bnd, p_10, if_false]
      · refine Or.inl ⟨2, -10 - 2, by decide, by decide, ?_, ?_, rfl⟩
        · simp only [a3, n0e0, if_true, a4, a6, w, pz_bnd, p_00]
        · simp only [i, x, pz_grt, a5, pz_nn (show f < 2 ^ 31 by omega), if_true, a7, g, pz_bnd, p_00, xm_finds, pz_lt, pz_bn2]
    · have e1 : ¬ nI f = nI f' := by rw [pz_eq (by omega) (by omega)]; exact e
      have e2 : ¬ nI f' = nI f := fun z => e1 z.symm
      refine Or.inl ⟨3, -10 - 3, by decide, by decide, ?_, ?_, rfl⟩
      · simp only [a3, n0e0, if_true, a4, e1, if_false]
      · simp only [i, x, pz_grt, a5, pz_nn (show f' < 2 ^ 31 by omega), if_true, e2, if_false, xm_finds, pz_lt, pz_bn2]
theorem p_put {s : ba_St} {k f j : Nat} (hf : f < 3) (h1 : s.1 (23 + 2 * k) 1 = nI f) (hj : j < 60) (v : Int32) : ∃ x, xs_put s (23 + 2 * k) (nI j) v = some (ba_w s (24 + 2 * k) j x) ∧ xm_cut (nI f) v = some x := by
  have i : ba_inb (nI j) 60 = true := pz_inb (by omega) (by omega)
  have x : ba_ix (nI j) = j := pz_ix (by omega)
  unfold xs_put xm_cut
  rw [show 23 + 2 * k + 1 = 24 + 2 * k by omega, h1, i, x]
  obtain rfl | rfl | rfl : f = 0 ∨ f = 1 ∨ f = 2 := by omega
  · exact ⟨ba_i8 v, by simp only [n0e0, if_true, pz_grt, pz_lt], by simp only [n0e0, if_true]⟩
  · exact ⟨ba_i16 v, by simp only [n1e0, n1e1, if_true, if_false, pz_grt, pz_lt], by simp only [n1e0, n1e1, if_true, if_false]⟩
  · exact ⟨v, by simp only [n2e0, n2e1, if_false, pz_grt, pz_lt], by simp only [n2e0, n2e1, if_false]⟩
theorem rr_put {s m : ba_St} (h : RR s m) {k : Nat} (k1 : k < 4) {f n j : Nat} (hf : f ≤ 2) (hn : n ≤ 60) (hj : j < n) (a3 : s.1 (23 + 2 * k) 3 = nI 0) (a4 : s.1 (23 + 2 * k) 1 = nI f) (a5 : m.1 1 k = nI f) (a6 : s.1 (23 + 2 * k) 2 = nI n) (a7 : m.1 2 k = nI n) (a8 : ∀ j, j < n → s.1 (24 + 2 * k) j = m.1 3 (60 * k + j)) (x : Int32) : RR (ba_w s (24 + 2 * k) j x) (ba_w m 3 (60 * k + j) x) ∧ ∀ q, q < n → (ba_w s (24 + 2 * k) j x).1 (24 + 2 * k) q = (ba_w m 3 (60 * k + j) x).1 3 (60 * k + q) := by
  have key : ∀ q, q < n → (ba_w s (24 + 2 * k) j x).1 (24 + 2 * k) q = (ba_w m 3 (60 * k + j) x).1 3 (60 * k + q) := fun q hq => by
    by_cases e : q = j
    · subst e; rw [pw_s, pw_s]
    · rw [pw_i _ _ _ e, pw_i _ _ _ (by omega)]; exact a8 q hq
  refine ⟨rr_sheet h k1 ((fr.rf _ s).w _ _ _ (by unfold wSh; omega)) ((fr.rf _ m).w _ _ _ (by unfold vSh; omega)) (Or.inr ⟨f, n, hf, hn, ?_, ?_, ?_, ?_, ?_, key⟩), key⟩
  · rw [pw_p _ _ _ _ (by omega)]; exact a3
  · rw [pw_p _ _ _ _ (by omega)]; exact a4
  · rw [pw_p _ _ _ _ (by omega)]; exact a5
  · rw [pw_p _ _ _ _ (by omega)]; exact a6
  · rw [pw_p _ _ _ _ (by omega)]; exact a7
