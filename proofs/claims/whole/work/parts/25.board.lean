/-! ===== how many are on the board ===== -/
def ct (c : Nat → Bool) : Nat → Nat
  | 0 => 0
  | n + 1 => ct c n + (if c n = true then 1 else 0)
theorem ct_cong {p q : Nat → Bool} : ∀ {n : Nat}, (∀ k, k < n → p k = q k) → ct p n = ct q n
  | 0, _ => rfl
  | n + 1, h => by
    unfold ct
    rw [ct_cong (fun k hk => h k (by omega)), h n (by omega)]
theorem ct_or {p q : Nat → Bool} : ∀ {n : Nat}, (∀ k, k < n → ¬ (p k = true ∧ q k = true)) → ct (fun k => p k || q k) n = ct p n + ct q n
  | 0, _ => rfl
  | n + 1, h => by
    have h1 := h n (by omega)
    have ih := ct_or (p := p) (q := q) (n := n) (fun k hk => h k (by omega))
    unfold ct
    rw [ih]
    cases hp : p n <;> cases hq : q n <;> simp_all <;> omega
theorem ct_le (c : Nat → Bool) : ∀ n, ct c n ≤ n
  | 0 => Nat.le_refl 0
  | n + 1 => by
    have := ct_le c n
    unfold ct; split <;> omega
theorem ct_cut {p : Nat → Bool} {N : Nat} : ∀ (d : Nat), ct (fun k => decide (k < N) && p k) (N + d) = ct p N
  | 0 => ct_cong (fun k hk => by simp [show k < N by omega])
  | d + 1 => by
    show ct (fun k => decide (k < N) && p k) (N + d) + _ = _
    rw [ct_cut d]
    have : ¬ N + d < N := by omega
    simp [this]
theorem pj_bits0 : ∀ a, a < 64 → ∀ c, c < 64 → xj_bitCount (nI (64 * a + c)) = some (nI (ct (fun i => bt (nI (64 * a + c)) i) 12)) := by decide +kernel
theorem pj_bits (n : Nat) (h : n < 4096) : xj_bitCount (nI n) = some (nI (ct (fun i => bt (nI n) i) 12)) := by
  have h1 := pj_bits0 (n / 64) (by omega) (n % 64) (by omega)
  rwa [show 64 * (n / 64) + n % 64 = n by omega] at h1
theorem pj_bitCount {x : Int32} (h : ∀ i, 12 ≤ i → i < 32 → bt x i = false) : xj_bitCount x = some (nI (ct (fun i => bt x i) 12)) := by
  obtain ⟨n, hn⟩ : ∃ n, n = x.toBitVec.toNat := ⟨_, rfl⟩
  have hlt : n < 2 ^ 12 := by
    rw [hn]
    apply Nat.lt_pow_two_of_testBit
    intro i hi
    by_cases h32 : i < 32
    · exact h i hi h32
    · exact BitVec.getLsbD_of_ge _ _ (by omega)
  have hx : x = nI n := by
    apply Int32.toBitVec_inj.mp
    show x.toBitVec = BitVec.ofNat 32 n
    rw [hn]
    simp
  rw [hx]
  exact pj_bits n (by omega)
theorem rd_board {b : Nat} {s m : ba_St} {N : Nat} (h : res b s m N) : ∃ x, xc_onBoard s b = some (nI x) ∧ xm_onBoard m = some (nI x) := by
  obtain ⟨np, P, Hs, D, -, hN, h4, h10⟩ := h
  obtain ⟨D1, D2, D3, D4, D5, D6, D7, D8, D9, D10, D11, D12⟩ := D
  refine ⟨ct (fun k => decide (P k < 72)) N, ?_, ?_⟩
  · obtain ⟨o, rfl, h1⟩ := pf_one (F := xc_onBoard_l4 b s) (fun i a => a = (nI (ct (fun k => decide (k < N ∧ P k < 72 ∧ P k / 9 < i)) 12), nI i)) (fun o => o = nI (ct (fun k => decide (P k < 72)) N)) 8
      (fun i a hi ha => by
        subst ha
        have l : ¬ 8 ≤ i := by omega
        have hbc := pj_bitCount (x := s.1 (b + 6) i) (fun j h1 h2 => by rw [D3 i hi j h2]; exact decide_eq_false (by omega))
        have e1 : ct (fun j => bt (s.1 (b + 6) i) j) 12 = ct (fun k => decide (k < N ∧ P k < 72 ∧ P k / 9 = i)) 12 := ct_cong (fun k hk => D3 i hi k (by omega))
        have e2 : ct (fun k => decide (k < N ∧ P k < 72 ∧ P k / 9 < i + 1)) 12 = ct (fun k => decide (k < N ∧ P k < 72 ∧ P k / 9 < i)) 12 + ct (fun k => decide (k < N ∧ P k < 72 ∧ P k / 9 = i)) 12 := by
          rw [← ct_or (fun k hk z => by have a := of_decide_eq_true z.1; have c := of_decide_eq_true z.2; omega)]
          refine ct_cong (fun k hk => ?_)
          rw [← Bool.decide_or]
          exact decide_eq_decide.mpr (by omega)
        refine ⟨_, rfl, fun k => ?_⟩
        simp (disch := omega) only [xc_onBoard_l4, pz_lit, pz_le, l, if_false, pz_inb, pz_grt, pz_ix, hbc, pz_bnd, pz_lt, nI_add, e1, e2])
      (fun a ha => by
        subst ha
        refine ⟨_, ?_, fun k => by simp (disch := omega) only [xc_onBoard_l4, pz_lit, Int32.le_refl, if_true]; rfl⟩
        congr 1
        rw [← ct_cut (p := fun k => decide (P k < 72)) (N := N) (12 - N), show N + (12 - N) = 12 by omega]
        refine ct_cong (fun k hk => ?_)
        rw [← Bool.decide_and]
        exact decide_eq_decide.mpr (by omega)) 1000 0 (0, 0) (by omega) (by omega) (by
        congr 1
        rw [show (0 : Int32) = nI 0 from rfl]
        congr 1
        rw [ct_cong (q := fun _ => false) (fun k hk => decide_eq_false (by omega))]
        decide)
    unfold xc_onBoard; rw [h1]; rfl
  · obtain ⟨o, rfl, h1⟩ := pf_one (F := xm_onBoard_l4 m) (fun i a => a = (nI (ct (fun k => decide (P k < 72)) i), nI i)) (fun o => o = nI (ct (fun k => decide (P k < 72)) N)) N
      (fun i a hi ha => by
        subst ha
        have l : ¬ N ≤ i := by omega
        obtain ⟨p1, p2, p3, p4⟩ := D1 i hi
        have hin : xm_in (Int32.toInt64 (m.1 11 i)) 0 7 = some (if P i < 72 then 1 else 0) := by
          rw [pm_in]
          have a1 := (pm_i64 (m.1 11 i) 0 (nI 0) (by decide)).1
          have a2 := (pm_i64 (m.1 11 i) 7 (nI 7) (by decide)).2
          rw [p3] at a1 a2 ⊢
          unfold cR at a1 a2 ⊢
          by_cases e : P i = 90
          · rw [if_pos e] at a1 a2 ⊢
            rw [pz_lepn (by omega)] at a1
            rw [if_neg (fun z => (a1.mp z.1)), if_neg (by omega)]
          · rw [if_neg e] at a1 a2 ⊢
            rw [pz_le (by omega) (by omega)] at a1 a2
            by_cases hl : P i < 72
            · rw [if_pos ⟨a1.mpr (by omega), a2.mpr (by omega)⟩, if_pos hl]
            · rw [if_neg (fun z => by have := a2.mp z.2; omega), if_neg hl]
        refine ⟨_, rfl, fun k => ?_⟩
        by_cases hl : P i < 72
        · simp (disch := omega) only [xm_onBoard_l4, xm_onBoard_j35_4, pz_lit, h10, pz_le, l, if_false, pz_inb, pz_grt, pz_ix, hin, hl, if_true, pz_bnd, z_10, pz_lt, nI_add, ct, decide_true]
        · simp (disch := omega) only [xm_onBoard_l4, xm_onBoard_j35_4, pz_lit, h10, pz_le, l, if_false, pz_inb, pz_grt, pz_ix, hin, hl, if_true, pz_bnd, pz_lt, nI_add, ct, decide_false, Bool.false_eq_true])
      (fun a ha => by
        subst ha
        exact ⟨_, rfl, fun k => by simp (disch := omega) only [xm_onBoard_l4, h10, Int32.le_refl, if_true]⟩) 1000 0 (0, 0) (by omega) (by omega) rfl
    unfold xm_onBoard; rw [h1]; rfl
