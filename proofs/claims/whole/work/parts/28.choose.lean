/-! ===== one thing chosen otherwise ===== -/
theorem te_E.up {b : Nat} (hb : 15 ≤ b) {s m s' m' : ba_St} {N np ne : Nat} {pc : Nat → Nat} (h : te_E b s m N np ne pc) (f1 : ∀ p j, p < b → p ≠ 0 → s'.1 p j = s.1 p j) (f2 : s'.1 b 4 = s.1 b 4) (g0 : ∀ j, j ≠ 15 → j ≠ 28 → j ≠ 32 → m'.1 0 j = m.1 0 j) (g1 : ∀ i, i < np → m'.1 7 (3 * i) = m.1 7 (3 * i) ∧ m'.1 7 (3 * i + 1) = m.1 7 (3 * i + 1)) (g8 : ∀ j, m'.1 8 j = m.1 8 j) (g10 : ∀ j, m'.1 10 j = m.1 10 j)
    (k5 : ∀ i, i < np → ∃ v, v ≤ 3 ∧ s'.1 (b + 1) i = nI v ∧ m'.1 7 (3 * i + 2) = nI v)
    (k7 : ∀ e, e < ne → bt (s'.1 b 5) e = !bt (m'.1 0 15) e)
    (k8 : ∀ k, k < N → ∃ t h, t < 24 ∧ 1 ≤ h ∧ h ≤ 9 ∧ s'.1 (b + 2) k = nI t ∧ s'.1 (b + 3) k = nI h ∧ m'.1 9 (2 * k) = nI t ∧ m'.1 9 (2 * k + 1) = nI h) : te_E b s' m' N np ne pc := by
  obtain ⟨h1, h2, h3, h4, h5, h6, h7, h8⟩ := h
  refine ⟨?_, ?_, ?_, ?_, k5, ?_, k7, k8⟩
  · rw [f2, g0 10 (by omega) (by omega) (by omega), f1 3 3 (by omega) (by omega), g0 7 (by omega) (by omega) (by omega), f1 10 1 (by omega) (by omega), g0 13 (by omega) (by omega) (by omega)]; exact h1
  · rw [f1 3 8 (by omega) (by omega), g0 12 (by omega) (by omega) (by omega)]
    refine ⟨h2.1, fun c hc => ?_⟩
    rw [f1 7 c (by omega) (by omega), g8]; exact h2.2 c hc
  · intro i hi
    rw [(g1 i hi).1, (g1 i hi).2]; exact h3 i hi
  · intro q hq
    rw [f1 6 q (by omega) (by omega)]; exact h4 q hq
  · intro e he
    rw [f1 11 _ (by omega) (by omega), f1 11 _ (by omega) (by omega), f1 11 _ (by omega) (by omega), g10, g10, g10]; exact h6 e he
def mp (th : Nat) : Nat := if th = 2 then 7 else 9
def mi (th nu : Nat) : Nat := if th = 0 then 2 * nu + 1 else if th = 1 then 2 * nu else 3 * nu + 2
def lo (th : Nat) : Nat := if th = 0 then 1 else 0
def hiC (th : Nat) : Nat := if th = 0 then 10 else if th = 1 then 24 else 4
def bnd3 (th N np : Nat) : Nat := if th = 2 then np else N
theorem te_alt {b : Nat} (hb : 15 ≤ b) {s m : ba_St} {N np ne : Nat} {pc : Nat → Nat} (h : te_E b s m N np ne pc) {th nu v : Nat} (hth : th < 3) (hnu : nu < bnd3 th N np) (hl : lo th ≤ v) (hh : v < hiC th) : te_E b (ba_w s (b + 3 - th) nu (nI v)) (ba_w m (mp th) (mi th nu) (nI v)) N np ne pc := by
  have H := h
  obtain ⟨h1, h2, h3, h4, h5, h6, h7, h8⟩ := h
  have e7 : ∀ j, (ba_w m (mp th) (mi th nu) (nI v)).1 0 j = m.1 0 j := fun j => by rw [pw, if_neg (by unfold mp; split <;> omega)]
  have f1 : ∀ p j, p < b → p ≠ 0 → (ba_w s (b + 3 - th) nu (nI v)).1 p j = s.1 p j := fun p j q _ => by rw [pw, if_neg (by omega)]
  have f2 : ∀ j, (ba_w s (b + 3 - th) nu (nI v)).1 b j = s.1 b j := fun j => by rw [pw, if_neg (by omega)]
  refine H.up hb f1 (f2 4) (fun j _ _ _ => e7 j) (fun i hi => ?_) (fun j => ?_) (fun j => ?_) (fun i hi => ?_) (fun e he => ?_) (fun k hk => ?_)
  · unfold mp mi
    constructor <;> (rw [pw, if_neg (by split <;> (try split) <;> (try split) <;> omega)])
  · rw [pw, if_neg (by unfold mp; split <;> omega)]
  · rw [pw, if_neg (by unfold mp; split <;> omega)]
  · obtain ⟨x, x1, x2, x3⟩ := h5 i hi
    by_cases ht : th = 2
    · subst ht
      by_cases hi' : i = nu
      · subst hi'
        exact ⟨v, by unfold hiC at hh; simp at hh; omega, by rw [pw, if_pos ⟨by omega, rfl⟩], by rw [pw, if_pos ⟨rfl, rfl⟩]⟩
      · exact ⟨x, x1, by rw [pw, if_neg (by omega)]; exact x2, by rw [pw, if_neg (by unfold mi; simp; omega)]; exact x3⟩
    · exact ⟨x, x1, by rw [pw, if_neg (by omega)]; exact x2, by rw [pw, if_neg (by unfold mp; rw [if_neg ht]; omega)]; exact x3⟩
  · rw [f2, e7]; exact h7 e he
  · obtain ⟨t, g, x1, x2, x3, x4, x5, x6, x7⟩ := h8 k hk
    by_cases ht : th = 2
    · subst ht
      refine ⟨t, g, x1, x2, x3, ?_, ?_, ?_, ?_⟩
      · rw [pw, if_neg (by omega)]; exact x4
      · rw [pw, if_neg (by omega)]; exact x5
      · rw [pw, if_neg (by unfold mp; simp)]; exact x6
      · rw [pw, if_neg (by unfold mp; simp)]; exact x7
    · by_cases h0 : th = 0
      · subst h0
        by_cases hk' : k = nu
        · subst hk'
          refine ⟨t, v, x1, by unfold lo at hl; simpa using hl, by unfold hiC at hh; simp at hh; omega, ?_, ?_, ?_, ?_⟩
          · rw [pw, if_neg (by omega)]; exact x4
          · rw [pw, if_pos ⟨by omega, rfl⟩]
          · rw [pw, if_neg (by unfold mi; simp)]; exact x6
          · rw [pw, if_pos ⟨rfl, rfl⟩]
        · refine ⟨t, g, x1, x2, x3, ?_, ?_, ?_, ?_⟩
          · rw [pw, if_neg (by omega)]; exact x4
          · rw [pw, if_neg (by omega)]; exact x5
          · rw [pw, if_neg (by unfold mi; simp; omega)]; exact x6
          · rw [pw, if_neg (by unfold mi; simp; omega)]; exact x7
      · have h1 : th = 1 := by omega
        subst h1
        by_cases hk' : k = nu
        · subst hk'
          refine ⟨v, g, by unfold hiC at hh; simpa using hh, x2, x3, ?_, ?_, ?_, ?_⟩
          · rw [pw, if_pos ⟨by omega, rfl⟩]
          · rw [pw, if_neg (by omega)]; exact x5
          · rw [pw, if_pos ⟨rfl, rfl⟩]
          · rw [pw, if_neg (by unfold mi; simp)]; exact x7
        · refine ⟨t, g, x1, x2, x3, ?_, ?_, ?_, ?_⟩
          · rw [pw, if_neg (by omega)]; exact x4
          · rw [pw, if_neg (by omega)]; exact x5
          · rw [pw, if_neg (by unfold mi; simp; omega)]; exact x6
          · rw [pw, if_neg (by unfold mi; simp; omega)]; exact x7
theorem pc_choose (s : ba_St) (b : Nat) {th nu : Nat} (hth : th < 3) (hnu : nu < 12) (v : Int32) : xc_choose s b (nI th) (nI nu) v = some (ba_w s (b + 3 - th) nu v) := by
  have hi : ba_inb (nI nu) 12 = true := pz_inb hnu (by omega)
  have hx : ba_ix (nI nu) = nu := pz_ix (by omega)
  have h3 : th = 0 ∨ th = 1 ∨ th = 2 := by omega
  rcases h3 with h | h | h <;> subst h <;> simp (disch := omega) only [xc_choose, pz_lit, pz_eq, hi, hx, pz_grt, pz_lt, if_true, if_false] <;> rfl
/-- the reference's search, both kinds -/
def xsM (p i h : Nat) (k : (ba_St × Int32 × Int32 × Int32) → Option (ba_St × Int32 × Int32)) (a : (ba_St × Int32 × Int32 × Int32)) : Option (ba_St × Int32 × Int32) :=
  if nI h ≤ a.2.2.2 then some (a.1, a.2.1, a.2.2.1)
  else ba_bnd (xm_lives (ba_w a.1 p i a.2.2.2)) fun m1 => ba_bnd (xm_score m1) fun v => k (m1, (if v ≤ a.2.2.1 then a.2.1 else a.2.2.2), (if a.2.2.1 < v then v else a.2.2.1), a.2.2.2 + 1)
theorem xsM_ball {i h : Nat} (hi : i < 24) (w x : Int32) : xm_ballBetter_l17 (nI i) (nI h) w x = xsM 9 i h := by
  funext k ⟨s, z6, z7, z8⟩
  have h1 : ba_inb (nI i) 24 = true := pz_inb hi (by omega)
  have h2 : ba_ix (nI i) = i := pz_ix (by omega)
  unfold xm_ballBetter_l17 xsM xm_ballBetter_j55_17
  simp only [h1, h2, pz_grt, pz_lt, pm_greater, pz_bnd]
  congr 1; congr 1; funext m1; congr 1; funext v; split <;> rfl
theorem xsM_bend {i : Nat} (hi : i < 12) (w x : Int32) : xm_bendOf_l20 (nI i) w x = xsM 7 (3 * i + 2) 4 := by
  funext k ⟨s, z6, z7, z8⟩
  have e : 3 * nI i + 2 = nI (3 * i + 2) := by rw [pz_lit 3, pz_lit 2, pk_mul, nI_add]
  have h1 : ba_inb (nI (3 * i + 2)) 36 = true := pz_inb (by omega) (by omega)
  have h2 : ba_ix (nI (3 * i + 2)) = 3 * i + 2 := pz_ix (by omega)
  unfold xm_bendOf_l20 xsM xm_bendOf_j62_20
  simp only [e, h1, h2, pz_grt, pz_lt, pm_greater, pz_bnd]
  rw [show (4 : Int32) = nI 4 from rfl]
  congr 1; congr 1; funext m1; congr 1; funext v; split <;> rfl
