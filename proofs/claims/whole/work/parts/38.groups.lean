/-! ===== ask: the groups ===== -/
theorem way_inj : ∀ p, p < 91 → ∀ q, q < 91 → 10 * cR p + cC p = 10 * cR q + cC q → p = q := by decide +kernel
theorem wx_iff {N : Nat} {H G : Nat → Nat} (hH : ∀ k, k < N → H k ≤ 90) (hG : ∀ k, k < N → G k ≤ 90) (k : Nat) : wV N H k = wV N G k ↔ xP N H k = xP N G k := by
  unfold wV xP
  by_cases h : N ≤ k
  · simp only [h, if_true]
  · simp only [h, if_false]
    have a := hH k (by omega)
    have b := hG k (by omega)
    constructor
    · intro q
      rw [way_inj _ (by omega) _ (by omega) q]
    · intro q
      have : H k = G k := by
        split at q <;> split at q <;> omega
      rw [this]
/-- the two runs look alike at a tick -/
abbrev lk (N : Nat) (Hv : Nat → Nat → Nat → Nat) (t v w : Nat) : Prop := ∀ k, k < 12 → xP N (Hv v t) k = xP N (Hv w t) k
theorem pm_same {N : Nat} {s m : ba_St} {r : Nat} {acc : Int32} {Hv : Nat → Nat → Nat → Nat} (A : aI N 9 s m r acc Hv) {t v w : Nat} (ht : t < 24) (hv : 1 ≤ v ∧ v ≤ 9) (hw : 1 ≤ w ∧ w ≤ 9) : ∃ x, xm_same m (nI v) (nI w) (nI t) = some x ∧ ((x = nI 1 ∧ lk N Hv t v w) ∨ (x = nI 0 ∧ ¬ lk N Hv t v w)) := by
  obtain ⟨-, -, A2, -⟩ := A
  obtain ⟨v1, v2⟩ := A2 v hv.1 hv.2
  obtain ⟨w1, w2⟩ := A2 w hw.1 hw.2
  have q12 : 12 * nI t = nI (12 * t) := by rw [pz_lit 12, pk_mul]
  have q24 : nI (12 * t) + 12 = nI (12 * t + 12) := by rw [pz_lit 12, nI_add]
  obtain ⟨o, po, d⟩ := pf_one (F := xm_same_l9 m (nI v) (nI w) (nI t)) (fun i a => (a = (nI 1, nI (12 * t + i)) ∧ ∀ k, k < i → xP N (Hv v t) k = xP N (Hv w t) k) ∨ (a = (nI 0, nI (12 * t + i)) ∧ ∃ k, k < i ∧ xP N (Hv v t) k ≠ xP N (Hv w t) k)) (fun o => (o = nI 1 ∧ lk N Hv t v w) ∨ (o = nI 0 ∧ ¬ lk N Hv t v w)) 12
    (fun i a hi hI => by
      have l : ¬ 12 * t + 12 ≤ 12 * t + i := by omega
      have ev : 288 * nI v + nI (12 * t + i) = nI (288 * v + (12 * t + i)) := by rw [pz_lit 288, pk_mul, nI_add]
      have ew : 288 * nI w + nI (12 * t + i) = nI (288 * w + (12 * t + i)) := by rw [pz_lit 288, pk_mul, nI_add]
      have iv : ba_inb (nI (288 * v + (12 * t + i))) 2880 = true := pz_inb (by omega) (by omega)
      have iw : ba_inb (nI (288 * w + (12 * t + i))) 2880 = true := pz_inb (by omega) (by omega)
      have xv : ba_ix (nI (288 * v + (12 * t + i))) = 288 * v + (12 * t + i) := pz_ix (by omega)
      have xw : ba_ix (nI (288 * w + (12 * t + i))) = 288 * w + (12 * t + i) := pz_ix (by omega)
      have hwx := wx_iff (N := N) (H := Hv v t) (G := Hv w t) (fun k hk => v1 t k ht hk) (fun k hk => w1 t k ht hk) i
      rcases hI with ⟨rfl, h⟩ | ⟨rfl, h⟩
      · by_cases hq : xP N (Hv v t) i = xP N (Hv w t) i
        · refine ⟨(nI 1, nI (12 * t + i + 1)), Or.inl ⟨by rw [Nat.add_assoc], fun k hk => ?_⟩, fun k => ?_⟩
          · by_cases e : k = i
            · rw [e]; exact hq
            · exact h k (by omega)
          · unfold xm_same_l9
            simp (disch := omega) only [q12, q24, pz_le, l, if_false, z1n0, ev, ew, iv, iw, xv, xw, pz_grt, v2 t i ht hi, w2 t i ht hi, hwx.mpr hq, if_true, pz_lt, pz_succ]
            rfl
        · have hne : ¬ wV N (Hv v t) i = wV N (Hv w t) i := fun z => hq (hwx.mp z)
          refine ⟨(nI 0, nI (12 * t + i + 1)), Or.inr ⟨by rw [Nat.add_assoc], i, by omega, hq⟩, fun k => ?_⟩
          unfold xm_same_l9 xm_same_j59_9
          simp (disch := omega) only [q12, q24, pz_le, l, if_false, z1n0, ev, ew, iv, iw, xv, xw, pz_grt, v2 t i ht hi, w2 t i ht hi, hne, pz_lt, pz_succ]
          rfl
      · obtain ⟨k0, k1, k2⟩ := h
        refine ⟨(nI 0, nI (12 * t + i + 1)), Or.inr ⟨by rw [Nat.add_assoc], k0, by omega, k2⟩, fun k => ?_⟩
        unfold xm_same_l9 xm_same_j59_9
        simp (disch := omega) only [q12, q24, pz_le, l, if_false, z00, if_true, pz_lt, pz_succ]
        rfl)
    (fun a hI => by
      rcases hI with ⟨rfl, h⟩ | ⟨rfl, k0, k1, k2⟩
      · refine ⟨nI 1, Or.inl ⟨rfl, h⟩, fun k => ?_⟩
        unfold xm_same_l9
        simp only [q12, q24, Int32.le_refl, if_true]
      · refine ⟨nI 0, Or.inr ⟨rfl, fun z => k2 (z k0 k1)⟩, fun k => ?_⟩
        unfold xm_same_l9
        simp only [q12, q24, Int32.le_refl, if_true]) 1000 0 (nI 1, nI (12 * t)) (by omega) (by omega) (Or.inl ⟨rfl, fun k hk => by omega⟩)
  have d' : ba_fix (xm_same_l9 m (nI v) (nI w) (nI t)) 1000 (1, nI (12 * t)) = some o := d
  refine ⟨o, ?_, po⟩
  unfold xm_same
  rw [q12, pz_lt, d', pz_bnd]
  rcases po with ⟨rfl, -⟩ | ⟨rfl, -⟩ <;> rfl
/-- marks alike: the same -/
theorem mk_iff {N : Nat} {Hv : Nat → Nat → Nat → Nat} {t v w : Nat} (hv : ∀ k, k < N → Hv v t k ≤ 90) (hw : ∀ k, k < N → Hv w t k ≤ 90) : (mkF (xP N (Hv v t)) 0 6 = mkF (xP N (Hv w t)) 0 6 ∧ mkF (xP N (Hv v t)) 6 6 = mkF (xP N (Hv w t)) 6 6) ↔ lk N Hv t v w := by
  rw [mkF_inj (fun k _ => xP_le hv _) (fun k _ => xP_le hw _), mkF_inj (fun k _ => xP_le hv _) (fun k _ => xP_le hw _)]
  constructor
  · rintro ⟨a, b⟩ k hk
    by_cases h : k < 6
    · have := a k h; rw [Nat.zero_add] at this; exact this
    · have := b (k - 6) (by omega); rw [show 6 + (k - 6) = k by omega] at this; exact this
  · intro h
    exact ⟨fun k hk => h _ (by omega), fun k hk => h _ (by omega)⟩
/-- sums and greatest ones, by rank and by force -/
def cs (f : Nat → Nat) : Nat → Nat
  | 0 => 0
  | n + 1 => cs f n + f n
def cx (f : Nat → Nat) : Nat → Nat
  | 0 => 0
  | n + 1 => Nat.max (cx f n) (f n)
theorem cs_rk {acc : Int32} {f g : Nat → Nat} : ∀ i, (∀ v, v < i → (bt acc (v + 1) = true → g v = f (rk acc v)) ∧ (bt acc (v + 1) = false → g v = 0)) → cs f (rk acc i) = cs g i := by
  intro i
  induction i with
  | zero => intro _; rfl
  | succ i ih =>
    intro h
    obtain ⟨h1, h2⟩ := h i (by omega)
    show cs f (rk acc i + (if bt acc (i + 1) = true then 1 else 0)) = cs g i + g i
    cases hb : bt acc (i + 1)
    · rw [h2 hb, if_neg (by decide), Nat.add_zero, Nat.add_zero]; exact ih (fun v hv => h v (by omega))
    · rw [h1 hb, if_pos rfl]
      show cs f (rk acc i) + f (rk acc i) = _
      rw [ih (fun v hv => h v (by omega))]
theorem cx_rk {acc : Int32} {f g : Nat → Nat} : ∀ i, (∀ v, v < i → (bt acc (v + 1) = true → g v = f (rk acc v)) ∧ (bt acc (v + 1) = false → g v = 0)) → cx f (rk acc i) = cx g i := by
  intro i
  induction i with
  | zero => intro _; rfl
  | succ i ih =>
    intro h
    obtain ⟨h1, h2⟩ := h i (by omega)
    show cx f (rk acc i + (if bt acc (i + 1) = true then 1 else 0)) = Nat.max (cx g i) (g i)
    cases hb : bt acc (i + 1)
    · rw [h2 hb, if_neg (by decide), Nat.add_zero, ih (fun v hv => h v (by omega))]
      exact (Nat.max_eq_left (Nat.zero_le _)).symm
    · rw [h1 hb, if_pos rfl]
      show Nat.max (cx f (rk acc i)) (f (rk acc i)) = _
      rw [ih (fun v hv => h v (by omega))]
theorem cs_le {f : Nat → Nat} (h : ∀ k, f k ≤ 1) : ∀ n, cs f n ≤ n := by
  intro n
  induction n with
  | zero => exact Nat.le_refl _
  | succ n ih => have := h n; show cs f n + f n ≤ n + 1; omega
theorem cx_le {f : Nat → Nat} {B : Nat} (h : ∀ k, f k ≤ B) : ∀ n, cx f n ≤ B := by
  intro n
  induction n with
  | zero => exact Nat.zero_le _
  | succ n ih => exact Nat.max_le.mpr ⟨ih, h n⟩
