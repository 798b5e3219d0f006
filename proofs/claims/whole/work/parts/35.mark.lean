/-! ===== marks: six places in a long ===== -/
def bL (x : Int64) (i : Nat) : Bool := x.toBitVec.getLsbD i
theorem bL_or (x y : Int64) (i : Nat) : bL (x ||| y) i = (bL x i || bL y i) := by unfold bL; rw [Int64.toBitVec_or, BitVec.getLsbD_or]
theorem bL_0 (i : Nat) : bL 0 i = false := BitVec.getLsbD_zero
theorem bL_x : ∀ x, x < 256 → ∀ i, i < 64 → bL (nI x).toInt64 i = x.testBit i := by decide +kernel
theorem bL_s8 (x : Int64) {i : Nat} (hi : i < 64) : bL (ba_flshl x 8) i = (decide (8 ≤ i) && bL x (i - 8)) := by
  unfold bL ba_flshl
  rw [Int64.toBitVec_shiftLeft]
  rw [show ((Int32.toInt64 8 &&& 63).toBitVec.smod 64) = (8#64) by decide +kernel]
  rw [show x.toBitVec <<< (8#64) = x.toBitVec <<< 8 from rfl, BitVec.getLsbD_shiftLeft]
  rcases Nat.lt_or_ge i 8 with h | h
  · simp [h, Nat.not_le.mpr h]
  · simp [hi, h, Nat.not_lt.mpr h]
/-- the mark of n numbers from f on -/
def mkF (X : Nat → Nat) (f : Nat) : Nat → Int64
  | 0 => 0
  | n + 1 => ba_flshl (mkF X f n) 8 ||| (nI (X (f + n))).toInt64
theorem mkF_bit {X : Nat → Nat} {f : Nat} : ∀ n, n ≤ 6 → (∀ k, k < n → X (f + k) < 256) → ∀ i, i < 64 → bL (mkF X f n) i = (decide (i < 8 * n) && (X (f + (n - 1 - i / 8))).testBit (i % 8)) := by
  intro n
  induction n with
  | zero => intro _ _ i hi; simp [mkF, bL_0]
  | succ n ih =>
    intro hn hX i hi
    show bL (ba_flshl (mkF X f n) 8 ||| (nI (X (f + n))).toInt64) i = _
    have hx := hX n (by omega)
    rw [bL_or, bL_s8 _ hi, bL_x _ hx i hi]
    by_cases h : 8 ≤ i
    · have ht : (X (f + n)).testBit i = false := Nat.testBit_lt_two_pow (Nat.lt_of_lt_of_le hx (by calc 256 = 2 ^ 8 := rfl
        _ ≤ 2 ^ i := Nat.pow_le_pow_right (by omega) h))
      rw [ih (by omega) (fun k hk => hX k (by omega)) (i - 8) (by omega), ht]
      rw [show (n - 1 - (i - 8) / 8) = (n + 1 - 1 - i / 8) by omega, show (i - 8) % 8 = i % 8 by omega]
      simp only [h, decide_true, Bool.true_and, Bool.or_false]
      congr 1
      exact decide_eq_decide.mpr (by omega)
    · rw [show n + 1 - 1 - i / 8 = n by omega, show i % 8 = i by omega]
      have : i < 8 * (n + 1) := by omega
      simp [h, this]
theorem mkF_inj {X Y : Nat → Nat} {f : Nat} (hX : ∀ k, k < 6 → X (f + k) < 256) (hY : ∀ k, k < 6 → Y (f + k) < 256) : mkF X f 6 = mkF Y f 6 ↔ ∀ k, k < 6 → X (f + k) = Y (f + k) := by
  constructor
  · intro h k hk
    refine Nat.eq_of_testBit_eq (fun j => ?_)
    by_cases hj : j < 8
    · have hb : bL (mkF X f 6) ((5 - k) * 8 + j) = bL (mkF Y f 6) ((5 - k) * 8 + j) := by rw [h]
      rw [mkF_bit 6 (by omega) hX _ (by omega), mkF_bit 6 (by omega) hY _ (by omega)] at hb
      rw [show 6 - 1 - ((5 - k) * 8 + j) / 8 = k by omega, show ((5 - k) * 8 + j) % 8 = j by omega] at hb
      have hl : (5 - k) * 8 + j < 8 * 6 := by omega
      simpa [hl] using hb
    · have hp : 256 ≤ 2 ^ j := by calc 256 = 2 ^ 8 := rfl
        _ ≤ 2 ^ j := Nat.pow_le_pow_right (by omega) (by omega)
      rw [Nat.testBit_lt_two_pow (Nat.lt_of_lt_of_le (hX k hk) hp), Nat.testBit_lt_two_pow (Nat.lt_of_lt_of_le (hY k hk) hp)]
  · intro h
    have : ∀ n, n ≤ 6 → mkF X f n = mkF Y f n := by
      intro n
      induction n with
      | zero => intro _; rfl
      | succ n ih =>
        intro hn
        show ba_flshl (mkF X f n) 8 ||| (nI (X (f + n))).toInt64 = ba_flshl (mkF Y f n) 8 ||| (nI (Y (f + n))).toInt64
        rw [ih (by omega), h n (by omega)]
    exact this 6 (by omega)
/-- a place as the marks tell it -/
def xP (N : Nat) (H : Nat → Nat) (k : Nat) : Nat := if N ≤ k then 0 else if H k = 90 then 0 else H k + 1
theorem xP_le {N : Nat} {H : Nat → Nat} (h : ∀ k, k < N → H k ≤ 90) (k : Nat) : xP N H k < 256 := by
  unfold xP
  split
  · omega
  · split
    · omega
    · have := h k (by omega); omega
theorem pc_mark {s m : ba_St} {N : Nat} {Hs : Nat → Nat → Nat} (hN : N ≤ 12) (H : dH (s.1 54) (m.1 21) (m.1 22) N 24 Hs) {t f : Nat} (ht : t < 24) (hf : f = 0 ∨ f = 6) : xc_mark s 46 (nI t) (nI f) = some (mkF (xP N (Hs t)) f 6) := by
  obtain ⟨H1, -, H3⟩ := H
  have pl : ∀ k, k < 12 → s.1 54 (t * 12 + k) + 1 = nI (xP N (Hs t) k) := by
    intro k hk
    unfold xP
    by_cases h : N ≤ k
    · rw [if_pos h, H3 t ht k h hk]; rfl
    · rw [if_neg h, (H1 t ht k (by omega)).2.1]
      unfold cP
      by_cases h9 : Hs t k = 90
      · rw [if_pos h9, if_pos h9]; rfl
      · rw [if_neg h9, if_neg h9, pz_succ]
  obtain ⟨o, po, d⟩ := pf_one (F := xc_mark_l5 46 s (nI t) (nI f)) (fun i a => a = (mkF (xP N (Hs t)) f i, nI (f + i))) (fun o => o = mkF (xP N (Hs t)) f 6) 6
    (fun i a hi ha => by
      refine ⟨(mkF (xP N (Hs t)) f (i + 1), nI (f + i + 1)), by rw [Nat.add_assoc], fun k => ?_⟩
      rw [ha]
      have e6 : nI f + 6 = nI (f + 6) := by rw [pz_lit 6, nI_add]
      have l : ¬ f + 6 ≤ f + i := by omega
      have ex : nI t * 12 + nI (f + i) = nI (t * 12 + (f + i)) := by rw [pz_lit 12, pk_mul, nI_add]
      have i1 : ba_inb (nI (t * 12 + (f + i))) 288 = true := pz_inb (by omega) (by omega)
      have x1 : ba_ix (nI (t * 12 + (f + i))) = t * 12 + (f + i) := pz_ix (by omega)
      have p := pl (f + i) (by omega)
      unfold xc_mark_l5
      simp (disch := omega) only [e6, pz_le, l, if_false, ex, i1, x1, pz_grt, pz_lt, pz_succ]
      rw [show 46 + 8 = 54 from rfl, p]
      rfl)
    (fun a ha => by
      refine ⟨mkF (xP N (Hs t)) f 6, rfl, fun k => ?_⟩
      rw [ha]
      have e6 : nI f + 6 = nI (f + 6) := by rw [pz_lit 6, nI_add]
      unfold xc_mark_l5
      simp only [e6, Int32.le_refl, if_true]) 1000 0 (0, nI f) (by omega) (by omega) rfl
  unfold xc_mark
  rw [d, po]; rfl
