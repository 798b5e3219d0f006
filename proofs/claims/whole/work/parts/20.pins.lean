/-! ===== texts: what they spell ===== -/
def fB (V : Nat → Bool) : Nat → Nat
  | 0 => 0
  | n + 1 => if fB V n < n then fB V n else if V n = true then n + 1 else n
theorem fB_all {V : Nat → Bool} : ∀ {n : Nat}, (∀ j, j < n → V j = true) → fB V n = n
  | 0, _ => rfl
  | n + 1, h => by
    have ih := fB_all (n := n) (fun j hj => h j (by omega))
    unfold fB
    rw [ih, if_neg (by omega), if_pos (h n (by omega))]
theorem fB_at {V : Nat → Bool} {i : Nat} (h1 : ∀ j, j < i → V j = true) (h2 : V i = false) : ∀ {n : Nat}, i < n → fB V n = i
  | 0, h => by omega
  | n + 1, h => by
    by_cases e : i = n
    · subst e
      unfold fB
      rw [fB_all h1, if_neg (by omega), h2]
      simp
    · have ih := fB_at h1 h2 (n := n) (by omega)
      unfold fB
      rw [ih, if_pos (by omega)]
/-- the fault of a text of n bytes, in groups of q with a sign behind each but the last -/
def fF (V : Nat → Bool) (q n : Nat) : Int32 := if fB V n < n then nI (fB V n) else if 0 < n ∧ n % q ≠ q - 1 then nI n else pn
theorem fF_bad {V : Nat → Bool} {q n i : Nat} (h1 : ∀ j, j < i → V j = true) (h2 : V i = false) (h3 : i < n) : fF V q n = nI i := by
  unfold fF; rw [fB_at h1 h2 h3, if_pos h3]
theorem fF_end {V : Nat → Bool} {q n : Nat} (h1 : ∀ j, j < n → V j = true) (h2 : 0 < n ∧ n % q ≠ q - 1) : fF V q n = nI n := by
  unfold fF; rw [fB_all h1, if_neg (by omega), if_pos h2]
theorem fF_ok {V : Nat → Bool} {q n : Nat} (h1 : ∀ j, j < n → V j = true) (h2 : ¬ (0 < n ∧ n % q ≠ q - 1)) : fF V q n = pn := by
  unfold fF; rw [fB_all h1, if_neg (by omega), if_neg h2]
theorem fF_pn {V : Nat → Bool} {q n : Nat} (hn : n < 2 ^ 31) (h : fF V q n = pn) : (∀ j, j < n → V j = true) ∧ ¬ (0 < n ∧ n % q ≠ q - 1) := by
  have hle : ∀ n, fB V n ≤ n := by
    intro n
    induction n with
    | zero => exact Nat.le_refl 0
    | succ n ih =>
      unfold fB
      split
      · omega
      · split <;> omega
  have hall : ∀ n, fB V n = n → ∀ j, j < n → V j = true := by
    intro n
    induction n with
    | zero => intro _ j hj; omega
    | succ n ih =>
      intro e j hj
      have hl := hle n
      unfold fB at e
      split at e
      · omega
      · rename_i h1
        split at e
        · rename_i h2
          by_cases ej : j = n
          · subst ej; exact h2
          · exact ih (by omega) j (by omega)
        · omega
  unfold fF at h
  split at h
  · exact absurd h (pz_nopn (by omega))
  · rename_i h1
    split at h
    · exact absurd h (pz_nopn hn)
    · rename_i h2
      exact ⟨hall n (by have := hle n; omega), h2⟩
def tx (s : ba_St) (a n : Nat) (B : Nat → Nat) : Prop := s.1 a 1 = nI n ∧ n ≤ ba_tl a ∧ ba_tl a ≤ 47 ∧ ∀ j, j < n → B j < 256 ∧ s.1 (a + 1) j = nI (B j)
theorem pb_within (x y : Int32) : xb_within x y = some (if 0 ≤ x ∧ x < y then 1 else 0) := by
  unfold xb_within
  by_cases h1 : x < 0
  · have h2 : ¬ 0 ≤ x := Int32.not_le.mpr h1
    simp [h1, h2, xb_within_j13]
  · have h2 : 0 ≤ x := Int32.not_lt.mp h1
    by_cases h3 : y ≤ x
    · have h4 : ¬ x < y := Int32.not_lt.mpr h3
      simp [h1, h2, h3, h4, xb_within_j13]
    · have h4 : x < y := Int32.not_le.mp h3
      simp [h1, h2, h3, h4]
theorem pt_byteAt {s : ba_St} {a n : Nat} {B : Nat → Nat} (h : tx s a n B) {i : Nat} (hi : i < 1000) : xt_byteAt s a (nI i) = some (if i < n then nI (B i) else pn) := by
  obtain ⟨h1, h2, h3, h4⟩ := h
  have l0 : ¬ i < 0 := by omega
  by_cases hin : i < n
  · have l1 : ¬ n ≤ i := by omega
    simp (disch := omega) only [xt_byteAt, pz_lit, pz_ltN, l0, if_false, h1, pz_le, l1, pz_inb, pz_grt, pz_ix, hin, if_true, (h4 i hin).2]
  · have l1 : n ≤ i := by omega
    simp (disch := omega) only [xt_byteAt, xt_byteAt_j21, ↓pz_m1, pz_lit, pz_ltN, l0, if_false, h1, pz_le, l1, hin, if_true]
theorem pt_cnt {s : ba_St} {a n : Nat} {B : Nat → Nat} (h : tx s a n B) {c i q : Nat} (hi : i < 1000) (hc : c < 1000) (hq : q < 1000) : xt_countedFrom s a (nI c) (nI i) (nI q) = some (if i < n ∧ c ≤ B i ∧ B i < c + q then nI (B i - c) else pn) := by
  unfold xt_countedFrom
  rw [pt_byteAt h hi, pz_bnd, pz_lt, pb_within, pz_bnd]
  obtain ⟨h1, h2, h3, h4⟩ := h
  by_cases hin : i < n
  · have hB := (h4 i hin).1
    rw [if_pos hin]
    by_cases hcB : c ≤ B i
    · rw [pk_sub hcB]
      by_cases hlt : B i < c + q
      · rw [if_pos (show 0 ≤ nI (B i - c) ∧ nI (B i - c) < nI q from ⟨nI_pos' (by omega), nI_lt (by omega) (by omega)⟩), if_pos (show i < n ∧ c ≤ B i ∧ B i < c + q from ⟨hin, hcB, hlt⟩)]
        simp only [pz_lit, z_10, if_false]
      · rw [if_neg (show ¬ (0 ≤ nI (B i - c) ∧ nI (B i - c) < nI q) from fun z => nI_nlt (by omega) (by omega) z.2), if_neg (show ¬ (i < n ∧ c ≤ B i ∧ B i < c + q) from fun z => hlt z.2.2)]
        simp only [if_true]; rfl
    · have hneg : ¬ (0 ≤ nI (B i) - nI c ∧ nI (B i) - nI c < nI q) := fun z => by
        have := pk_sneg (a := B i) (b := c) (by omega) (by omega)
        exact absurd (Int32.lt_of_lt_of_le this z.1) (Int32.lt_irrefl)
      rw [if_neg hneg, if_neg (show ¬ (i < n ∧ c ≤ B i ∧ B i < c + q) from fun z => hcB z.2.1)]
      simp only [if_true]; rfl
  · rw [if_neg hin]
    have hneg : ¬ (0 ≤ pn - nI c ∧ pn - nI c < nI q) := fun z => by
      have e : (pn - nI c).toInt = -1 - (c : Int) := by
        rw [Int32.toInt_sub, nI_toInt (by omega), show pn.toInt = -1 by decide]
        exact Int.bmod_eq_of_le (by omega) (by omega)
      have z1 := Int32.le_iff_toInt_le.mp z.1
      rw [e, Int32.toInt_zero] at z1
      omega
    rw [if_neg hneg, if_neg (show ¬ (i < n ∧ c ≤ B i ∧ B i < c + q) from fun z => hin z.1)]
    simp only [if_true]; rfl
/-! pins -/
def pcel (B : Nat → Nat) (i : Nat) : Nat := (B (4 * i) - 48) * 9 + (B (4 * i + 1) - 48)
def psor (c : Nat) : Nat := if c = 108 then 0 else if c = 114 then 1 else if c = 116 then 2 else 3
theorem psor_le (c : Nat) : psor c ≤ 3 := by
  unfold psor
  split
  · omega
  · split
    · omega
    · split <;> omega
def pV (B : Nat → Nat) (j : Nat) : Bool := if j % 4 = 0 then decide (48 ≤ B j ∧ B j < 56) else if j % 4 = 1 then decide (48 ≤ B j ∧ B j < 57) && decide (∀ i, i < j / 4 → pcel B i ≠ pcel B (j / 4)) else if j % 4 = 2 then decide (B j = 108 ∨ B j = 114 ∨ B j = 116 ∨ B j = 98) else decide (B j = 59)
def nP (B : Nat → Nat) (n : Nat) : Nat := if fF (pV B) 4 n = pn then (n + 1) / 4 else 0
theorem pV0 (B : Nat → Nat) (p : Nat) : pV B (4 * p) = decide (48 ≤ B (4 * p) ∧ B (4 * p) < 56) := by
  unfold pV; rw [if_pos (by omega)]
theorem pV1 (B : Nat → Nat) (p : Nat) : pV B (4 * p + 1) = (decide (48 ≤ B (4 * p + 1) ∧ B (4 * p + 1) < 57) && decide (∀ i, i < p → pcel B i ≠ pcel B p)) := by
  unfold pV; rw [if_neg (by omega), if_pos (by omega), show (4 * p + 1) / 4 = p by omega]
theorem pV2 (B : Nat → Nat) (p : Nat) : pV B (4 * p + 2) = decide (B (4 * p + 2) = 108 ∨ B (4 * p + 2) = 114 ∨ B (4 * p + 2) = 116 ∨ B (4 * p + 2) = 98) := by
  unfold pV; rw [if_neg (by omega), if_neg (by omega), if_pos (by omega)]
theorem pV3 (B : Nat → Nat) (p : Nat) : pV B (4 * p + 3) = decide (B (4 * p + 3) = 59) := by
  unfold pV; rw [if_neg (by omega), if_neg (by omega), if_neg (by omega)]
theorem all1 {V : Nat → Bool} {i : Nat} (h : ∀ j, j < i → V j = true) (h2 : V i = true) : ∀ j, j < i + 1 → V j = true := fun j hj => by
  by_cases e : j = i
  · subst e; exact h2
  · exact h j (by omega)
/-- the class's pins, c of them, as the bytes spell them -/
def bP (s : ba_St) (B : Nat → Nat) (c : Nat) : Prop := s.1 3 3 = nI c ∧ (∀ i, i < c → pcel B i < 72 ∧ s.1 4 i = nI (pcel B i) ∧ s.1 5 i = nI (psor (B (4 * i + 2)))) ∧ (∀ q, q < 72 → (∀ i, i < c → pcel B i = q → s.1 6 q = nI i) ∧ ((∀ i, i < c → pcel B i ≠ q) → s.1 6 q = pn))
def fr (W : Nat → Nat → Prop) (s s' : ba_St) : Prop := s'.2 = s.2 ∧ ∀ p j, ¬ W p j → s'.1 p j = s.1 p j
theorem fr.rf (W : Nat → Nat → Prop) (s : ba_St) : fr W s s := ⟨rfl, fun _ _ _ => rfl⟩
theorem fr.tr {W : Nat → Nat → Prop} {s s' s'' : ba_St} (h : fr W s s') (g : fr W s' s'') : fr W s s'' := ⟨g.1.trans h.1, fun p j w => (g.2 p j w).trans (h.2 p j w)⟩
theorem fr.w {W : Nat → Nat → Prop} {s s' : ba_St} (h : fr W s s') (p j : Nat) (v : Int32) (hp : W p j) : fr W s (ba_w s' p j v) := by
  refine ⟨h.1, fun a i w => ?_⟩
  rw [pw, if_neg (by rintro ⟨rfl, rfl⟩; exact w hp)]
  exact h.2 a i w
theorem fr.mono {W W' : Nat → Nat → Prop} {s s' : ba_St} (h : fr W s s') (hw : ∀ p j, W p j → W' p j) : fr W' s s' := ⟨h.1, fun p j w => h.2 p j (fun z => w (hw p j z))⟩
def wPin (p j : Nat) : Prop := p = 3 ∧ j = 3 ∨ p = 4 ∨ p = 5 ∨ p = 6
theorem psort (c : Nat) (hc : c < 256) : xo_sortOf (nI c) = some (if c = 108 ∨ c = 114 ∨ c = 116 ∨ c = 98 then nI (psor c) else pn) := by
  simp (disch := omega) only [xo_sortOf, ↓pz_m1, pz_lit, pz_eq]
  unfold psor
  by_cases h1 : c = 98
  · subst h1; simp
  · by_cases h2 : c = 108
    · subst h2; simp
    · by_cases h3 : c = 114
      · subst h3; simp
      · by_cases h4 : c = 116
        · subst h4; simp
        · simp [h1, h2, h3, h4]
theorem bP_add {s : ba_St} {B : Nat → Nat} {p : Nat} (h : bP s B p) (hp : p < 12) (hc : pcel B p < 72) (hfree : ∀ i, i < p → pcel B i ≠ pcel B p) : ∃ s', xo_addPin s (nI (pcel B p)) (nI (psor (B (4 * p + 2)))) = some s' ∧ fr wPin s s' ∧ bP s' B (p + 1) := by
  obtain ⟨h1, h2, h3⟩ := h
  refine ⟨ba_w (ba_w (ba_w (ba_w s 4 p (nI (pcel B p))) 5 p (nI (psor (B (4 * p + 2))))) 6 (pcel B p) (nI p)) 3 3 (nI (p + 1)), ?_, ?_, ?_, ?_, ?_⟩
  · simp (disch := omega) only [xo_addPin, h1, pz_inb, pz_grt, pz_ix, pz_lt, pw_p, pz_lit, nI_add]
  · exact ((((fr.rf wPin s).w _ _ _ (by unfold wPin; omega)).w _ _ _ (by unfold wPin; omega)).w _ _ _ (by unfold wPin; omega)).w _ _ _ (by unfold wPin; omega)
  · rw [pw_s]
  · intro i hi
    simp (disch := omega) only [pw_p]
    by_cases e : i = p
    · subst e
      simp (disch := omega) only [pw_s, pw_p]
      exact ⟨hc, trivial, trivial⟩
    · simp (disch := omega) only [pw_i, pw_p]
      exact h2 i (by omega)
  · intro q hq
    simp (disch := omega) only [pw_p]
    by_cases e : q = pcel B p
    · subst e
      rw [pw_s]
      refine ⟨fun i hi e2 => ?_, fun hn => absurd rfl (hn p (by omega))⟩
      by_cases ei : i = p
      · rw [ei]
      · exact absurd e2 (hfree i (by omega))
    · rw [pw_i _ _ _ e]
      simp (disch := omega) only [pw_p]
      obtain ⟨g1, g2⟩ := h3 q hq
      refine ⟨fun i hi e2 => ?_, fun hn => g2 (fun i hi => hn i (by omega))⟩
      by_cases ei : i = p
      · subst ei; exact absurd e2.symm e
      · exact g1 i (by omega) e2
theorem tx.fr {s s' : ba_St} {W : Nat → Nat → Prop} {a n : Nat} {B : Nat → Nat} (h : tx s a n B) (f : fr W s s') (h1 : ¬ W a 1) (h2 : ∀ j, ¬ W (a + 1) j) : tx s' a n B := by
  obtain ⟨b1, b2, b3, b4⟩ := h
  exact ⟨by rw [f.2 a 1 h1]; exact b1, b2, b3, fun j hj => by rw [f.2 (a + 1) j (h2 j)]; exact b4 j hj⟩
/-- the class's scan of the pins -/
theorem po_scanPins {s : ba_St} {a n : Nat} {B : Nat → Nat} (ha : 15 ≤ a) (h : tx s a n B) (hb : bP s B 0) (hn : 0 < n) : ∃ s', xo_scanPins s a = some (fF (pV B) 4 n, s') ∧ fr wPin s s' ∧ (fF (pV B) 4 n = pn → bP s' B ((n + 1) / 4)) := by
  have hn47 : n ≤ 47 := by have := h.2.1; have := h.2.2.1; omega
  obtain ⟨o, ⟨s', e, hfr, hok⟩, hrun⟩ := pf_brk (F := xo_scanPins_l11 a) (fun p x => ∃ s1, x = (s1, nI p) ∧ fr wPin s s1 ∧ bP s1 B p ∧ (∀ j, j < 4 * p → pV B j = true) ∧ 4 * p ≤ n)
    (fun o => ∃ s', o = .inr (fF (pV B) 4 n, s') ∧ fr wPin s s' ∧ (fF (pV B) 4 n = pn → bP s' B ((n + 1) / 4))) 12
    (fun p x hp hI => by
      obtain ⟨s1, rfl, hf, hP, hV, hle⟩ := hI
      have T1 : tx s1 a n B := h.fr hf (by unfold wPin; omega) (by unfold wPin; omega)
      have l12 : ¬ 12 ≤ p := by omega
      have stop : ∀ i, fF (pV B) 4 n = nI i → i < 1000 → ∃ s', (Sum.inr (nI i, s1) : ba_St ⊕ (Int32 × ba_St)) = .inr (fF (pV B) 4 n, s') ∧ fr wPin s s' ∧ (fF (pV B) 4 n = pn → bP s' B ((n + 1) / 4)) := fun i hi hi2 => ⟨s1, by rw [hi], hf, fun e => by rw [hi] at e; exact absurd e (pz_nopn (by omega))⟩
      by_cases c0 : 4 * p < n ∧ 48 ≤ B (4 * p) ∧ B (4 * p) < 48 + 8
      · have v0 : pV B (4 * p) = true := by rw [pV0]; exact decide_eq_true ⟨c0.2.1, by omega⟩
        have V1 := all1 hV v0
        by_cases c1 : 4 * p + 1 < n ∧ 48 ≤ B (4 * p + 1) ∧ B (4 * p + 1) < 48 + 9
        · have hcell : (B (4 * p) - 48) * 9 + (B (4 * p + 1) - 48) = pcel B p := rfl
          have hc72 : pcel B p < 72 := by unfold pcel; omega
          by_cases cf : ∀ i, i < p → pcel B i ≠ pcel B p
          · have v1 : pV B (4 * p + 1) = true := by
              rw [pV1, Bool.and_eq_true]; exact ⟨decide_eq_true ⟨c1.2.1, by omega⟩, decide_eq_true cf⟩
            have V2 := all1 V1 v1
            have hpin : s1.1 6 (pcel B p) = pn := (hP.2.2 _ hc72).2 cf
            by_cases c2 : 4 * p + 2 < n
            · have hB2 := (T1.2.2.2 _ c2).1
              by_cases cs : B (4 * p + 2) = 108 ∨ B (4 * p + 2) = 114 ∨ B (4 * p + 2) = 116 ∨ B (4 * p + 2) = 98
              · have v2 : pV B (4 * p + 2) = true := by rw [pV2]; exact decide_eq_true cs
                have V3 := all1 V2 v2
                obtain ⟨s2, d1, d2, d3⟩ := bP_add hP hp hc72 cf
                have T2 : tx s2 a n B := T1.fr d2 (by unfold wPin; omega) (by unfold wPin; omega)
                have hps : psor (B (4 * p + 2)) ≤ 3 := psor_le _
                by_cases c3 : n = 4 * p + 3
                · right
                  have hff : fF (pV B) 4 n = pn := fF_ok (by rw [c3]; exact V3) (by omega)
                  refine ⟨_, ⟨s2, rfl, hf.tr d2, fun _ => by rw [show (n + 1) / 4 = p + 1 by omega]; exact d3⟩, fun k => ?_⟩
                  simp (disch := omega) only [xo_scanPins_l11, ↓pz_m1, pz_lit, pz_le, l12, if_false, pk_mul, pz_lt, pt_cnt T1, c0, c1, and_self, if_true, pz_bnd, pz_pn, nI_add, hcell, pz_inb, pz_grt, pz_ix, hpin, pt_byteAt T1, c2, psort _ hB2, cs, d1, T2.1, hff]
                  rw [if_pos (by rw [c3])]
                · by_cases c4 : 4 * p + 3 < n
                  · have hne : ¬ nI n = nI (4 * p + 3) := by rw [pz_eq (by omega) (by omega)]; omega
                    by_cases cb : B (4 * p + 3) = 59
                    · left
                      have v3 : pV B (4 * p + 3) = true := by rw [pV3]; exact decide_eq_true cb
                      refine ⟨(s2, nI (p + 1)), ⟨s2, rfl, hf.tr d2, d3, all1 V3 v3, by omega⟩, fun k => ?_⟩
                      simp (disch := omega) only [xo_scanPins_l11, ↓pz_m1, pz_lit, pz_le, l12, if_false, pk_mul, pz_lt, pt_cnt T1, c0, c1, and_self, if_true, pz_bnd, pz_pn, nI_add, hcell, pz_inb, pz_grt, pz_ix, hpin, pt_byteAt T1, c2, psort _ hB2, cs, d1, T2.1, hne, pt_byteAt T2, c4, cb]
                    · right
                      have hff : fF (pV B) 4 n = nI (4 * p + 3) := fF_bad V3 (by rw [pV3]; exact decide_eq_false cb) c4
                      have hB3 := (T1.2.2.2 _ c4).1
                      refine ⟨_, ⟨s2, rfl, hf.tr d2, fun e => by rw [hff] at e; exact absurd e (pz_nopn (by omega))⟩, fun k => ?_⟩
                      simp (disch := omega) only [xo_scanPins_l11, ↓pz_m1, pz_lit, pz_le, l12, if_false, pk_mul, pz_lt, pt_cnt T1, c0, c1, and_self, if_true, pz_bnd, pz_pn, nI_add, hcell, pz_inb, pz_grt, pz_ix, hpin, pt_byteAt T1, c2, psort _ hB2, cs, d1, T2.1, hne, pt_byteAt T2, c4, cb, pz_eq, hff]
                  · omega
              · right
                have hff : fF (pV B) 4 n = nI (4 * p + 2) := fF_bad V2 (by rw [pV2]; exact decide_eq_false cs) c2
                refine ⟨_, stop _ hff (by omega), fun k => ?_⟩
                simp (disch := omega) only [xo_scanPins_l11, ↓pz_m1, pz_lit, pz_le, l12, if_false, pk_mul, pz_lt, pt_cnt T1, c0, c1, and_self, if_true, pz_bnd, pz_pn, nI_add, hcell, pz_inb, pz_grt, pz_ix, hpin, pt_byteAt T1, c2, psort _ hB2, cs]
            · right
              have hnn : n = 4 * p + 2 := by omega
              have hff : fF (pV B) 4 n = nI (4 * p + 2) := by rw [hnn]; exact fF_end V2 ⟨by omega, by omega⟩
              refine ⟨_, stop _ hff (by omega), fun k => ?_⟩
              have hso : xo_sortOf pn = some pn := by decide
              simp (disch := omega) only [xo_scanPins_l11, ↓pz_m1, pz_lit, pz_le, l12, if_false, pk_mul, pz_lt, pt_cnt T1, c0, c1, and_self, if_true, pz_bnd, pz_pn, nI_add, hcell, pz_inb, pz_grt, pz_ix, hpin, pt_byteAt T1, c2, hso]
          · right
            have hff : fF (pV B) 4 n = nI (4 * p + 1) := fF_bad V1 (by rw [pV1, decide_eq_false cf, Bool.and_false]) c1.1
            have hpin : ¬ s1.1 6 (pcel B p) = pn := by
              obtain ⟨i, hi⟩ := Classical.not_forall.mp cf
              obtain ⟨hi1, hi2⟩ := Classical.not_imp.mp hi
              rw [(hP.2.2 _ hc72).1 i hi1 (Classical.not_not.mp hi2)]
              exact pz_nopn (by omega)
            refine ⟨_, stop _ hff (by omega), fun k => ?_⟩
            simp (disch := omega) only [xo_scanPins_l11, xo_scanPins_j76_11, ↓pz_m1, pz_lit, pz_le, l12, if_false, pk_mul, pz_lt, pt_cnt T1, c0, c1, and_self, if_true, pz_bnd, pz_pn, nI_add, hcell, pz_inb, pz_grt, pz_ix, hpin]
        · right
          have hff : fF (pV B) 4 n = nI (4 * p + 1) := by
            by_cases e : n = 4 * p + 1
            · rw [e]; exact fF_end V1 ⟨by omega, by omega⟩
            · exact fF_bad V1 (by rw [pV1, decide_eq_false (by omega), Bool.false_and]) (by omega)
          refine ⟨_, stop _ hff (by omega), fun k => ?_⟩
          simp (disch := omega) only [xo_scanPins_l11, xo_scanPins_j76_11, ↓pz_m1, pz_lit, pz_le, l12, if_false, pk_mul, pz_lt, pt_cnt T1, c0, c1, and_self, if_true, pz_bnd, pz_pn, nI_add]
      · right
        have hff : fF (pV B) 4 n = nI (4 * p) := by
          by_cases e : n = 4 * p
          · rw [e]; exact fF_end hV ⟨by omega, by omega⟩
          · exact fF_bad hV (by rw [pV0]; exact decide_eq_false (by omega)) (by omega)
        refine ⟨_, stop _ hff (by omega), fun k => ?_⟩
        simp (disch := omega) only [xo_scanPins_l11, ↓pz_m1, pz_lit, pz_le, l12, if_false, pk_mul, pz_lt, pt_cnt T1, c0, pz_bnd, if_true])
    (fun x hI => by
      obtain ⟨s1, rfl, hf, hP, hV, hle⟩ := hI
      exact absurd hle (by omega)) 1000 0 (s, 0) (by omega) (by omega) ⟨s, rfl, fr.rf _ _, hb, fun j hj => by omega, by omega⟩
  refine ⟨s', ?_, hfr, hok⟩
  have hne : ¬ nI n = nI 0 := by rw [pz_eq (by omega) (by omega)]; omega
  unfold xo_scanPins
  simp only [pz_lit, h.1, hne, if_false]
  simp only [pz_lit] at hrun
  rw [hrun, pz_bnd, e]
