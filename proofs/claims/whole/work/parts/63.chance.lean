/-! ===== chance: lowest terms ===== -/
def wNat (c : Nat) (z : Int32) : Nat → Nat
  | 0 => 1
  | n + 1 => wNat c z n * (if bt z n = true then c else 16 - c)
theorem nI_16 : ∀ c, c < 17 → (16 : Int32) - nI c = nI (16 - c) := by decide +kernel
theorem qN_i (c : Nat) (h : c < 2 ^ 31) : qN (nI c).toInt64 c := by
  unfold qN; rw [Int32.toInt_toInt64, nI_toInt h]
theorem wNat_le {c : Nat} (hc : c < 17) (z : Int32) : ∀ n, wNat c z n ≤ 16 ^ n := by
  intro n
  induction n with
  | zero => exact Nat.le_refl _
  | succ n ih =>
    show wNat c z n * _ ≤ 16 ^ n * 16
    exact Nat.mul_le_mul ih (by split <;> omega)
theorem pow16 {n : Nat} (h : n ≤ 8) : 16 ^ n ≤ 4294967296 := by
  calc 16 ^ n ≤ 16 ^ 8 := Nat.pow_le_pow_right (by omega) h
    _ = 4294967296 := by decide
theorem qN_w {c : Nat} (hc : c < 17) (z : Int32) : ∀ n, n ≤ 8 → qN (wI (nI c) z n) (wNat c z n) := by
  intro n
  induction n with
  | zero => intro _; rfl
  | succ n ih =>
    intro hn
    have h := ih (by omega)
    have l1 := Nat.le_trans (wNat_le hc z n) (pow16 (by omega))
    obtain ⟨y, b, hb, hy, e1, e2⟩ : ∃ (y : Int64) (b : Nat), b ≤ 16 ∧ qN y b ∧ (if bt z n = true then (nI c).toInt64 else (16 - nI c).toInt64) = y ∧ (if bt z n = true then c else 16 - c) = b := by
      by_cases q : bt z n = true
      · exact ⟨(nI c).toInt64, c, by omega, qN_i c (by omega), if_pos q, if_pos q⟩
      · exact ⟨(16 - nI c).toInt64, 16 - c, by omega, by rw [nI_16 c hc]; exact qN_i _ (by omega), if_neg q, if_neg q⟩
    show qN (wI (nI c) z n * _) (wNat c z n * _)
    rw [e1, e2]
    unfold qN at h hy ⊢
    have m1 : ((wNat c z n : Nat) : Int) * (b : Nat) = ((wNat c z n * b : Nat) : Int) := (Int.natCast_mul _ _).symm
    have m2 : wNat c z n * b ≤ 4294967296 * 16 := Nat.mul_le_mul l1 hb
    rw [Jvm.Kit.i64_mul (by rw [h, hy, m1]; omega) (by rw [h, hy, m1]; omega), h, hy, m1]
theorem qN_sum (f : Nat → Int64) (hf : ∀ k, ∃ t, t ≤ 4294967296 ∧ qN (f k) t) : ∀ n, n ≤ 256 → ∃ A, A ≤ n * 4294967296 ∧ qN (sI f n) A := by
  intro n
  induction n with
  | zero => intro _; exact ⟨0, by omega, rfl⟩
  | succ n ih =>
    intro hn
    obtain ⟨A, a1, a2⟩ := ih (by omega)
    obtain ⟨t, t1, t2⟩ := hf n
    refine ⟨A + t, by omega, ?_⟩
    show qN (sI f n + f n) _
    unfold qN at a2 t2 ⊢
    rw [Jvm.Kit.i64_add (by rw [a2, t2]; omega) (by rw [a2, t2]; omega), a2, t2]
    omega
theorem qN_t (b : Nat → Int32) {c ne : Nat} (hc : c < 17) (hn : ne ≤ 8) (ball k : Nat) : ∃ t, t ≤ 4294967296 ∧ qN (tI b (nI c) ne ball k) t := by
  unfold tI
  by_cases q : bt (b k) ball = true
  · rw [if_pos q]; exact ⟨_, Nat.le_trans (wNat_le hc (nI k) ne) (pow16 hn), qN_w hc (nI k) ne hn⟩
  · rw [if_neg q]; exact ⟨0, by omega, rfl⟩
theorem qN_below : ∀ n, n ≤ 8 → (ba_flshl 1 (4 * nI n)).toInt = ((2 ^ (4 * n) : Nat) : Int) := by decide +kernel
theorem odd_gcd {p : Nat} (h : ¬ p % 2 = 0) (k : Nat) : Nat.gcd p (2 ^ k) = 1 := by
  have h1 : Nat.gcd p 2 = 1 := by
    rw [Nat.gcd_comm, Nat.gcd_rec, show p % 2 = 1 by omega]; decide
  exact Nat.Coprime.pow_right k h1
/-- the class halves while it can -/
theorem pb_halves (s : ba_St) (z : Int32) {A e : Nat} (he : e ≤ 32) {x y : Int64} (hx : qN x A) (hy : qN y (2 ^ e)) : ∃ u v p i, ba_fix (xb_chance_l125 s z) 1000 (x, y, 0) = some (u, v) ∧ qN u p ∧ qN v (2 ^ (e - i)) ∧ p * 2 ^ i = A ∧ i ≤ e ∧ Nat.gcd p (2 ^ (e - i)) = 1 := by
  obtain ⟨o, ⟨u, v, p, i, rfl, h1, h2, h3, h4, h5⟩, d⟩ := pf_brk (F := xb_chance_l125 s z) (fun i a => ∃ x y p, a = (x, y, nI i) ∧ qN x p ∧ qN y (2 ^ (e - i)) ∧ p * 2 ^ i = A ∧ i ≤ e) (fun o => ∃ u v p i, o = (u, v) ∧ qN u p ∧ qN v (2 ^ (e - i)) ∧ p * 2 ^ i = A ∧ i ≤ e ∧ Nat.gcd p (2 ^ (e - i)) = 1) 32
    (fun i a hi hI => by
      obtain ⟨x, y, p, rfl, I1, I2, I3, I4⟩ := hI
      have l0 : ¬ (32 : Int32) ≤ nI i := by rw [pz_lit 32, pz_le (by omega) (by omega)]; omega
      have l1 : y ≤ 1 ↔ 2 ^ (e - i) ≤ 1 := by
        rw [Int64.le_iff_toInt_le, I2, show (1 : Int64).toInt = 1 from rfl]; omega
      by_cases c1 : i = e
      · subst c1
        refine Or.inr ⟨(x, y), ⟨x, y, p, i, rfl, I1, I2, I3, I4, ?_⟩, fun K => ?_⟩
        · rw [Nat.sub_self, Nat.pow_zero, Nat.gcd_one_right]
        · have l2 : y ≤ 1 := l1.mpr (by rw [Nat.sub_self, Nat.pow_zero]; omega)
          unfold xb_chance_l125
          simp only [l0, if_false, l2, if_true]
      · have ep : 2 ^ (e - i) = 2 ^ (e - (i + 1)) * 2 := by rw [← Nat.pow_succ]; congr 1; omega
        have l2 : ¬ y ≤ 1 := fun q => by
          have := l1.mp q
          have hp : 0 < 2 ^ (e - (i + 1)) := Nat.pow_pos (by omega)
          omega
        have hr := qN_rem I1 (y := 2) (b := 2) rfl
        by_cases c2 : p % 2 = 0
        · have l3 : ba_lrm x 2 = 0 := (qN_0 hr).mpr c2
          refine Or.inl ⟨(x / 2, y / 2, nI (i + 1)), ⟨x / 2, y / 2, p / 2, rfl, qN_div I1 (y := 2) (b := 2) rfl, ?_, ?_, by omega⟩, fun K => ?_⟩
          · have h := qN_div I2 (y := 2) (b := 2) rfl
            rw [ep, Nat.mul_div_cancel _ (by omega)] at h; exact h
          · rw [Nat.pow_succ, Nat.mul_comm (2 ^ i) 2, ← Nat.mul_assoc, show p / 2 * 2 = p by omega]; exact I3
          · unfold xb_chance_l125
            simp only [l0, if_false, l2, l3, if_true, pz_lt, pz_succ]
        · have l3 : ¬ ba_lrm x 2 = 0 := fun q => c2 ((qN_0 hr).mp q)
          refine Or.inr ⟨(x, y), ⟨x, y, p, i, rfl, I1, I2, I3, I4, odd_gcd c2 _⟩, fun K => ?_⟩
          unfold xb_chance_l125
          simp only [l0, if_false, l2, l3])
    (fun a hI => by
      obtain ⟨x, y, p, rfl, I1, I2, I3, I4⟩ := hI
      have e32 : e = 32 := by omega
      subst e32
      exact ⟨(x, y), ⟨x, y, p, 32, rfl, I1, I2, I3, I4, by rw [Nat.sub_self, Nat.pow_zero, Nat.gcd_one_right]⟩, fun K => by unfold xb_chance_l125; simp only [show (32 : Int32) ≤ nI 32 from by decide, if_true]⟩) 1000 0 (x, y, 0) (by omega) (by omega) ⟨x, y, A, rfl, hx, hy, by rw [Nat.pow_zero, Nat.mul_one], by omega⟩
  exact ⟨u, v, p, i, d, h1, h2, h3, h4, h5⟩
theorem pm_part {A e : Nat} (he : e ≤ 32) {x y : Int64} (hx : qN x A) (hy : qN y (2 ^ e)) {p i : Nat} (h3 : p * 2 ^ i = A) (h4 : i ≤ e) (h5 : Nat.gcd p (2 ^ (e - i)) = 1) {u v : Int64} (hu : qN u p) (hv : qN v (2 ^ (e - i))) (z : Int32) : xm_part x y z = some (if z = 0 then u else v) := by
  have pe : 2 ^ e < 2 ^ 33 := Nat.pow_lt_pow_right (by omega) (by omega)
  obtain ⟨g, g1, g2⟩ := pm_gcd x y z 33 1000 A (2 ^ e) x y hx hy pe (by omega)
  have ee : 2 ^ e = 2 ^ (e - i) * 2 ^ i := by rw [← Nat.pow_add]; congr 1; omega
  have pi : 0 < 2 ^ i := Nat.pow_pos (by omega)
  have gg : Nat.gcd A (2 ^ e) = 2 ^ i := by rw [← h3, ee, Nat.gcd_mul_right, h5, Nat.one_mul]
  rw [gg] at g2
  have g0 : ¬ g = 0 := fun q => by have := (qN_0 g2).mp q; omega
  have d1 : x / g = u := by
    have h := qN_div hx g2
    rw [← h3, Nat.mul_div_cancel _ pi] at h
    exact qN_inj h hu
  have d2 : y / g = v := by
    have h := qN_div hy g2
    rw [ee, Nat.mul_div_cancel _ pi] at h
    exact qN_inj h hv
  unfold xm_part xm_part_j41
  simp only [g1, pz_bnd, g0, not_false_eq_true, decide_true, pz_grt, d1, d2]
  by_cases c : z = 0 <;> simp only [c, if_true, if_false]
/-- the class knows the bringers -/
theorem k_known {s m : ba_St} {N np ne ns : Nat} {pc : Nat → Nat} (h : RK s m N np ne ns pc) : ∃ s', RK s' m N np ne ns pc ∧ (∀ m, kT s' m N np ne pc → ∀ z, z < 2 ^ ne → brP (s'.1 15) s' m N np ne pc z) ∧ ∀ a b c, (if s.1 0 16 = 0 then ba_bnd (xb_findBringers s) fun s1 => ba_lt (ba_w s1 0 16 1) fun s2 => xb_chance_j51 s2 a b c else xb_chance_j51 s a b c) = xb_chance_j51 s' a b c := by
  obtain ⟨R, K, S⟩ := h
  obtain ⟨k1, k2, k3, k4⟩ := R.cK
  rcases id k4 with h0 | ⟨h1, h2⟩
  · obtain ⟨s1, b1, b2, C⟩ := brought K h0
    have F : fr wRun s (ba_w s1 0 16 1) := (b2.mono (fun p j w => by unfold wBr at w; unfold wRun; omega)).w 0 16 _ (by unfold wRun; omega)
    have c : ∀ p j, p < 46 → p ≠ 15 → (p ≠ 0 ∨ j ≠ 16) → (ba_w s1 0 16 1).1 p j = s.1 p j := fun p j q1 q2 q3 => by
      rw [pw, if_neg (by omega), b2.2 p j (by unfold wBr; omega)]
    have R1 : RR (ba_w s1 0 16 1) m := by
      refine R.mv F.2 (fr.rf wQ m) K.2.2.2.2.2.2.1 ⟨k1.mv F.2 (c 0 8 (by omega) (by omega) (by omega)) (fun p j q1 q2 => c p j (by omega) (by omega) (by omega)), k2.mv F.2 (c 0 9 (by omega) (by omega) (by omega)) (c 0 10 (by omega) (by omega) (by omega)) (c 0 11 (by omega) (by omega) (by omega)), k3.mv F.2 (c 0 12 (by omega) (by omega) (by omega)) (c 0 13 (by omega) (by omega) (by omega)) (c 0 14 (by omega) (by omega) (by omega)) (c 0 15 (by omega) (by omega) (by omega)), C⟩
    refine ⟨ba_w s1 0 16 1, ⟨R1, K.mv1 F.2 (fr.rf wL m), S.mw F.2 (fr.rf wL m)⟩, ?_, fun a b d => ?_⟩
    · rcases C with q | ⟨-, q⟩
      · rw [pw_s] at q; exact absurd q (by decide)
      · exact fun m2 K2 => q m2 N np ne pc K2
    · have h0' : s.1 0 16 = 0 := h0
      rw [if_pos h0', b1, pz_bnd, pz_lt]
  · refine ⟨s, ⟨R, K, S⟩, fun m2 K2 => h2 m2 N np ne pc K2, fun a b d => ?_⟩
    have h1' : ¬ s.1 0 16 = 0 := by rw [h1]; exact z1n0
    rw [if_neg h1']
theorem k_chance {s m : ba_St} {N np ne ns : Nat} {pc : Nat → Nat} (h : RK s m N np ne ns pc) {c ball w : Nat} (hc : c < 17) (hb : ball < N) (hw : w < 2) : ∃ v s' m', xb_chance s (nI c) (nI ball) (nI w) = some (v, s') ∧ xm_chanceOf m (nI c) (nI ball) (nI w) = some (v, m') ∧ RK s' m' N np ne ns pc := by
  have ne8 : ne ≤ 8 := h.2.1.1.2.2.1
  have hN : N ≤ 12 := h.2.1.1.1
  obtain ⟨s', R, C, E⟩ := k_known h
  obtain ⟨m', d1, K', F'⟩ := pm_sum R.2.1 C (nI c) (nI w) hb
  have en : s'.1 10 1 = nI ne := R.2.1.1.2.2.2.2.2.2.2.1
  have en' : (ba_w m' 0 15 0).1 0 13 = nI ne := K'.1.2.2.2.2.2.2.2.2
  have d2 := pb_sum ne8 en (nI c) (nI w) (ball := ball) (by omega)
  have p8 := pow_le8 ne8
  obtain ⟨A, -, hA⟩ := qN_sum (tI (s'.1 15) (nI c) ne ball) (qN_t (s'.1 15) hc ne8 ball) (2 ^ ne) p8
  have hQ : qN (ba_flshl 1 (4 * nI ne)) (2 ^ (4 * ne)) := qN_below ne ne8
  obtain ⟨u, v, p, i, l1, l2, l3, l4, l5, l6⟩ := pb_halves s' (nI w) (show 4 * ne ≤ 32 by omega) hA hQ
  have hp := pm_part (show 4 * ne ≤ 32 by omega) hA hQ l4 l5 l6 l2 l3 (nI w)
  have G : RK s' (ba_w m' 0 15 0) N np ne ns pc := R.tr (fun _ _ _ => rfl) F'
  refine ⟨if nI w = 0 then u else v, s', ba_w m' 0 15 0, ?_, ?_, G⟩
  · have w1 : xb_within (nI c) 17 = some 1 := w_n (n := 17) hc (by decide)
    unfold xb_chance
    simp only [w1, h.wb hb, w_2 hw, pz_bnd, p_10, if_false]
    rw [E]
    unfold xb_chance_j51 xb_chance_j172
    simp only [d2, pz_bnd, en, pz_lt, l1]
    by_cases q : nI w = 0 <;> simp only [q, if_true, if_false]
  · unfold xm_chanceOf
    simp only [d1, pz_bnd, pz_lt, en', hp]
theorem q_chance {s m : ba_St} (h : RR s m) (a b c : Int32) : ∃ v s' m', xb_chance s a b c = some (v, s') ∧ xm_chance m a b c = some (v, m') ∧ RR s' m' := by
  obtain ⟨_, m', N, np, ne, ns, pc, -, e2, -, -, R⟩ := h.find2
  have no : xm_no (-2) = some (-9223372036854775806) := by decide +kernel
  unfold xm_chance xm_chance_j41
  rcases arg_17 a with ⟨k, k1, rfl, w1, g1⟩ | ⟨w1, g1⟩
  · rcases arg_b R.2.1 b with ⟨l, l1, rfl, w2, g2⟩ | ⟨w2, g2⟩
    · rcases arg_2 c with ⟨w, w0, rfl, w3, g3⟩ | ⟨w3, g3⟩
      · obtain ⟨v, s2, m2, d1, d2, R2⟩ := k_chance R k1 l1 w0
        exact ⟨v, s2, m2, d1, by simp only [e2, g1, g2, g3, d2, pz_bnd, pz_bn2, p_10, if_false], R2.1⟩
      · exact ⟨_, s, m', by unfold xb_chance xb_chance_j31; simp only [w1, w2, w3, pz_bnd, p_10, p_00, if_true, if_false]; rfl, by simp only [e2, g1, g2, g3, no, pz_bnd, p_10, p_00, if_true, if_false], R.1⟩
    · exact ⟨_, s, m', by unfold xb_chance xb_chance_j31; simp only [w1, w2, pz_bnd, p_10, p_00, if_true, if_false]; rfl, by simp only [e2, g1, g2, no, pz_bnd, p_10, p_00, if_true, if_false], R.1⟩
  · exact ⟨_, s, m', by unfold xb_chance xb_chance_j31; simp only [w1, pz_bnd, p_00, if_true]; rfl, by simp only [e2, g1, no, pz_bnd, p_00, if_true], R.1⟩
