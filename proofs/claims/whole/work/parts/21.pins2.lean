/-! ===== pins: the class takes them, the reference reads them ===== -/
theorem po_clearPins (s : ba_St) (B : Nat → Nat) : ∃ s', xo_clearPins s = some s' ∧ fr wPin s s' ∧ bP s' B 0 := by
  obtain ⟨s', e1, f1, g1, h1, h2⟩ := pj_fill (ba_w s 3 3 (nI 0)) 6 72 pn (by omega)
  refine ⟨s', ?_, ⟨by rw [f1, pw_2], fun p j w => ?_⟩, ?_, fun i hi => by omega, fun q hq => ⟨fun i hi => by omega, fun _ => h1 q hq⟩⟩
  · simp only [xo_clearPins, ↓pz_m1, pz_lit, pz_lt] at e1 ⊢
    rw [e1, pz_bnd]
  · unfold wPin at w
    rw [g1 p j (by omega), pw, if_neg (by omega)]
  · rw [g1 3 3 (by omega), pw_s]
theorem po_takePins {s : ba_St} {a n : Nat} {B : Nat → Nat} (ha : 15 ≤ a) (h : tx s a n B) : ∃ s', xo_takePins s a = some (fF (pV B) 4 n, s') ∧ fr wPin s s' ∧ bP s' B (nP B n) := by
  obtain ⟨s1, e1, f1, b1⟩ := po_clearPins s B
  have T1 : tx s1 a n B := h.fr f1 (by unfold wPin; omega) (by unfold wPin; omega)
  have hn47 : n ≤ 47 := by have := h.2.1; have := h.2.2.1; omega
  unfold xo_takePins
  rw [e1, pz_bnd]
  by_cases hn : 0 < n
  · obtain ⟨s2, e2, f2, b2⟩ := po_scanPins ha T1 b1 hn
    rw [e2, pz_bn2]
    by_cases hf : fF (pV B) 4 n = pn
    · refine ⟨s2, ?_, f1.tr f2, ?_⟩
      · rw [hf]; simp only [↓pz_m1, if_true]
      · unfold nP; rw [if_pos hf]; exact b2 hf
    · obtain ⟨s3, e3, f3, b3⟩ := po_clearPins s2 B
      refine ⟨s3, ?_, (f1.tr f2).tr f3, ?_⟩
      · simp only [↓pz_m1, hf, if_false, e3, pz_bnd]
      · unfold nP; rw [if_neg hf]; exact b3
  · have hn0 : n = 0 := by omega
    subst hn0
    have hf : fF (pV B) 4 0 = pn := fF_ok (fun j hj => by omega) (by omega)
    refine ⟨s1, ?_, f1, ?_⟩
    · unfold xo_scanPins
      rw [T1.1]
      simp only [pz_lit, if_true, pz_bn2, ↓pz_m1, hf]
    · unfold nP; rw [if_pos hf]; exact b1
/-! the reference -/
def p9 : Int32 := -9
theorem pz_m9 : (-9 : Int32) = p9 := rfl
theorem pz_no9 {k : Nat} (h : k < 2 ^ 31) : (nI k = p9) = False := by
  apply eq_false
  intro e
  have h1 := congrArg Int32.toInt e
  rw [nI_toInt h] at h1
  have h2 : p9.toInt = -9 := by decide
  omega
def mx (m : ba_St) (t n : Nat) (B : Nat → Nat) : Prop := m.1 6 t = nI n ∧ n ≤ 47 ∧ ∀ j, j < n → B j < 256 ∧ m.1 5 (48 * t + j) = nI (B j)
theorem pm_figureOf {v lo hi : Nat} (hv : v < 256) (hl : lo < 10) (hh : hi < 10) : xm_figureOf (nI v) (nI lo) (nI hi) = some (if 48 + lo ≤ v ∧ v < 48 + hi + 1 then nI (v - 48) else p9) := by
  unfold xm_figureOf
  simp only [pz_lit, nI_add]
  rw [pm_in, pz_bnd]
  have h1 := (pm_i64 (nI v) (Int32.toInt64 (nI (48 + lo))) (nI (48 + lo)) rfl).1
  have h2 := (pm_i64 (nI v) (Int32.toInt64 (nI (48 + hi))) (nI (48 + hi)) rfl).2
  rw [nI_leI (by omega) (by omega)] at h1 h2
  by_cases h : 48 + lo ≤ v ∧ v < 48 + hi + 1
  · rw [if_pos (show Int32.toInt64 (nI (48 + lo)) ≤ (nI v).toInt64 ∧ (nI v).toInt64 ≤ Int32.toInt64 (nI (48 + hi)) from ⟨h1.mpr h.1, h2.mpr (by omega)⟩), if_pos h]
    simp (disch := omega) only [pz_lit, z_10, if_false, pk_sub]
  · rw [if_neg (show ¬ (Int32.toInt64 (nI (48 + lo)) ≤ (nI v).toInt64 ∧ (nI v).toInt64 ≤ Int32.toInt64 (nI (48 + hi))) from fun z => h ⟨h1.mp z.1, by have := h2.mp z.2; omega⟩), if_neg h]
    rfl
theorem pm_between {v : Nat} (hv : v < 256) : xm_between (nI v) = some (if v = 59 then nI 0 else p9) := by
  simp (disch := omega) only [xm_between, ↓pz_m9, pz_lit, pz_eq]
  by_cases h : v = 59 <;> simp only [h, if_true, if_false]
theorem pm_pin0 {v : Nat} (hv : v < 256) : xm_pinOf (nI 0) (nI v) = some (if 48 ≤ v ∧ v < 56 then nI (v - 48) else p9) := by
  unfold xm_pinOf
  simp only [pz_lit, if_true]
  rw [pm_figureOf hv (by omega) (by omega), pz_bnd]
theorem pm_pin1 {v : Nat} (hv : v < 256) : xm_pinOf (nI 1) (nI v) = some (if 48 ≤ v ∧ v < 57 then nI (v - 48) else p9) := by
  unfold xm_pinOf
  simp only [pz_lit, z_10, if_true, if_false]
  rw [pm_figureOf hv (by omega) (by omega), pz_bnd]
theorem pm_pin2 {v : Nat} (hv : v < 256) : xm_pinOf (nI 2) (nI v) = some (if v = 108 ∨ v = 114 ∨ v = 116 ∨ v = 98 then nI (psor v) else p9) := by
  unfold xm_pinOf psor
  have z1 : (nI 2 = nI 0) = False := by simp (disch := omega) only [pz_eq]; simp
  have z2 : (nI 2 = nI 1) = False := by simp (disch := omega) only [pz_eq]; simp
  simp (disch := omega) only [↓pz_m9, pz_lit, z1, z2, if_true, if_false, pz_eq]
  by_cases h2 : v = 108
  · subst h2; simp
  · by_cases h3 : v = 114
    · subst h3; simp
    · by_cases h4 : v = 116
      · subst h4; simp
      · by_cases h1 : v = 98
        · subst h1; simp
        · simp [h1, h2, h3, h4]
theorem pm_pin3 {v : Nat} (hv : v < 256) : xm_pinOf (nI 3) (nI v) = some (if v = 59 then nI 0 else p9) := by
  unfold xm_pinOf
  have z1 : (nI 3 = nI 0) = False := by simp (disch := omega) only [pz_eq]; simp
  have z2 : (nI 3 = nI 1) = False := by simp (disch := omega) only [pz_eq]; simp
  simp (disch := omega) only [pz_lit, z1, z2, z_32, if_false]
  rw [pm_between hv, pz_bnd]
def anyB (c : Nat → Bool) : Nat → Bool
  | 0 => false
  | n + 1 => anyB c n || c n
theorem anyB_iff {c : Nat → Bool} : ∀ {n : Nat}, anyB c n = true ↔ ∃ i, i < n ∧ c i = true
  | 0 => by simp [anyB]
  | n + 1 => by
    unfold anyB
    rw [Bool.or_eq_true, anyB_iff]
    constructor
    · rintro (⟨i, h1, h2⟩ | h)
      · exact ⟨i, by omega, h2⟩
      · exact ⟨n, by omega, h⟩
    · rintro ⟨i, h1, h2⟩
      by_cases e : i = n
      · subst e; exact Or.inr h2
      · exact Or.inl ⟨i, by omega, h2⟩
theorem pm_isTaken (m : ba_St) {o : Nat} (ho : o < 12) : xm_isTaken m (nI o) = some (if anyB (fun j => decide (m.1 7 (3 * j) = m.1 7 (3 * o) ∧ m.1 7 (3 * j + 1) = m.1 7 (3 * o + 1))) o = true then nI 1 else nI 0) := by
  obtain ⟨r, h1, h2⟩ := pf_one (F := xm_isTaken_l4 m (nI o)) (fun i a => a = (if anyB (fun j => decide (m.1 7 (3 * j) = m.1 7 (3 * o) ∧ m.1 7 (3 * j + 1) = m.1 7 (3 * o + 1))) i = true then nI 1 else nI 0, nI i)) (fun r => r = if anyB (fun j => decide (m.1 7 (3 * j) = m.1 7 (3 * o) ∧ m.1 7 (3 * j + 1) = m.1 7 (3 * o + 1))) o = true then nI 1 else nI 0) o
    (fun i a hi ha => by
      subst ha
      refine ⟨_, rfl, fun k => ?_⟩
      have l : ¬ o ≤ i := by omega
      simp (disch := omega) only [xm_isTaken_l4, xm_isTaken_j59_4, pz_lit, pz_le, l, if_false, pk_mul, nI_add, pz_inb, pz_grt, pz_ix, pz_lt, anyB]
      by_cases hany : anyB (fun j => decide (m.1 7 (3 * j) = m.1 7 (3 * o) ∧ m.1 7 (3 * j + 1) = m.1 7 (3 * o + 1))) i = true
      · simp only [hany, if_true, z_10, if_false, Bool.true_or]
      · have hany : anyB (fun j => decide (m.1 7 (3 * j) = m.1 7 (3 * o) ∧ m.1 7 (3 * j + 1) = m.1 7 (3 * o + 1))) i = false := Bool.eq_false_iff.mpr hany
        by_cases h1 : m.1 7 (3 * i) = m.1 7 (3 * o)
        · by_cases h2 : m.1 7 (3 * i + 1) = m.1 7 (3 * o + 1)
          · simp only [hany, h1, h2, Bool.false_eq_true, if_false, if_true, and_self, decide_true, Bool.or_true]
          · simp only [hany, h1, h2, Bool.false_eq_true, if_false, if_true, and_false, decide_false, Bool.or_false]
        · simp only [hany, h1, Bool.false_eq_true, if_false, if_true, false_and, decide_false, Bool.or_false])
    (fun a ha => by
      subst ha
      exact ⟨_, rfl, fun k => by simp (disch := omega) only [xm_isTaken_l4, Int32.le_refl, if_true]⟩) 1000 0 (0, 0) (by omega) (by omega) rfl
  unfold xm_isTaken
  rw [h2, h1, pz_bnd]
  by_cases hany : anyB (fun j => decide (m.1 7 (3 * j) = m.1 7 (3 * o) ∧ m.1 7 (3 * j + 1) = m.1 7 (3 * o + 1))) o = true
  · simp only [hany, if_true]; rfl
  · simp only [hany, if_false]; rfl
def wMp (p j : Nat) : Prop := p = 7 ∨ (p = 0 ∧ j = 7)
def mP (m : ba_St) (B : Nat → Nat) (c : Nat) : Prop := m.1 0 7 = nI c ∧ ∀ i, i < c → pcel B i < 72 ∧ m.1 7 (3 * i) = nI (pcel B i / 9) ∧ m.1 7 (3 * i + 1) = nI (pcel B i % 9) ∧ m.1 7 (3 * i + 2) = nI (psor (B (4 * i + 2)))
/-- what the pins' bytes before i have left -/
def mQ (m : ba_St) (B : Nat → Nat) (i : Nat) : Prop := m.1 0 7 = nI ((i + 1) / 4) ∧ ∀ p, (4 * p < i → m.1 7 (3 * p) = nI (B (4 * p) - 48)) ∧ (4 * p + 1 < i → m.1 7 (3 * p + 1) = nI (B (4 * p + 1) - 48)) ∧ (4 * p + 2 < i → m.1 7 (3 * p + 2) = nI (psor (B (4 * p + 2))))
theorem mx.fr {m m' : ba_St} {W : Nat → Nat → Prop} {t n : Nat} {B : Nat → Nat} (h : mx m t n B) (f : fr W m m') (h1 : ¬ W 6 t) (h2 : ∀ j, ¬ W 5 j) : mx m' t n B := by
  obtain ⟨b1, b2, b4⟩ := h
  exact ⟨by rw [f.2 6 t h1]; exact b1, b2, fun j hj => by rw [f.2 5 _ (h2 _)]; exact b4 j hj⟩
theorem pm_readsPins {m : ba_St} {n : Nat} {B : Nat → Nat} (h : mx m 0 n B) : ∃ m', xm_readsPins m = some (fF (pV B) 4 n, m') ∧ fr wMp m m' ∧ mP m' B (nP B n) := by
  have hn47 : n ≤ 47 := h.2.1
  have bad : ∀ {m1 : ba_St} {i : Nat}, fr wMp m m1 → fF (pV B) 4 n = nI i → i < 1000 → ∃ m', (Sum.inr (nI i, ba_w m1 0 7 (nI 0)) : ba_St ⊕ (Int32 × ba_St)) = .inr (fF (pV B) 4 n, m') ∧ fr wMp m m' ∧ mP m' B (nP B n) := by
    intro m1 i hf hi hi2
    refine ⟨_, by rw [hi], hf.w _ _ _ (by unfold wMp; omega), ?_⟩
    have : nP B n = 0 := by unfold nP; rw [if_neg (by rw [hi]; exact pz_nopn (by omega))]
    rw [this]
    exact ⟨pw_s _ _ _ _, fun i hi => by omega⟩
  obtain ⟨o, ho, hrun⟩ := pf_brk (F := xm_readsPins_l14 (nI n)) (fun i x => ∃ m1, x = (m1, nI i) ∧ fr wMp m m1 ∧ mQ m1 B i ∧ (∀ j, j < i → pV B j = true))
    (fun o => (∃ m', o = .inr (fF (pV B) 4 n, m') ∧ fr wMp m m' ∧ mP m' B (nP B n)) ∨ (∃ m', o = .inl m' ∧ fr wMp m m' ∧ mQ m' B n ∧ (∀ j, j < n → pV B j = true))) n
    (fun i x hi hI => by
      obtain ⟨m1, rfl, hf, hQ, hV⟩ := hI
      have T1 : mx m1 0 n B := h.fr hf (by unfold wMp; omega) (by unfold wMp; omega)
      obtain ⟨hB, hby⟩ := T1.2.2 i hi
      rw [show 48 * 0 + i = i by omega] at hby
      have l : ¬ n ≤ i := by omega
      obtain ⟨p, k, hk, rfl⟩ : ∃ p k, k < 4 ∧ i = 4 * p + k := ⟨i / 4, i % 4, by omega, by omega⟩
      have hd : (4 * p + k) / 4 = p := by omega
      have hm : (4 * p + k) % 4 = k := by omega
      rcases (show k = 0 ∨ k = 1 ∨ k = 2 ∨ k = 3 by omega) with rfl | rfl | rfl | rfl
      · simp only [Nat.add_zero] at hi hQ hV hB hby l hd hm
        by_cases hv : 48 ≤ B (4 * p) ∧ B (4 * p) < 56
        · left
          refine ⟨(ba_w (ba_w m1 7 (3 * p) (nI (B (4 * p) - 48))) 0 7 (nI ((4 * p + 1 + 1) / 4)), nI (4 * p + 1)), ⟨_, rfl, (hf.w _ _ _ (by unfold wMp; omega)).w _ _ _ (by unfold wMp; omega), ⟨pw_s _ _ _ _, fun r => ?_⟩, all1 hV (by show pV B (4 * p) = true; rw [pV0]; exact decide_eq_true hv)⟩, fun kk => ?_⟩
          · obtain ⟨q1, q2, q3⟩ := hQ.2 r
            simp (disch := omega) only [pw_p]
            refine ⟨fun hr => ?_, fun hr => ?_, fun hr => ?_⟩
            · by_cases e : r = p
              · subst e; rw [pw_s]
              · rw [pw_i _ _ _ (by omega)]; exact q1 (by omega)
            · rw [pw_i _ _ _ (by omega)]; exact q2 (by omega)
            · rw [pw_i _ _ _ (by omega)]; exact q3 (by omega)
          · simp (disch := omega) only [xm_readsPins_l14, xm_readsPins_j61_14, xm_readsPins_j90_14, xm_readsPins_j105_14, ↓pz_m9, pz_lit, pz_le, l, if_false, pz_rem, hm, pz_lt, pz_inb, pz_grt, pz_ix, hby, Nat.add_zero, pm_pin0 hB, hv, and_self, if_true, pz_bnd, pz_no9, show ¬ 3 ≤ 0 by omega, pz_div, show 4 * p / 4 = p by omega, pk_mul, nI_add, z_01, z_02, pw_p, hQ.1, show (4 * p + 1) / 4 = p by omega, show (4 * p + 1 + 1) / 4 = p by omega]
        · right
          have hff : fF (pV B) 4 n = nI (4 * p) := fF_bad hV (by show pV B (4 * p) = false; rw [pV0]; exact decide_eq_false hv) (by omega)
          refine ⟨_, Or.inl (bad hf hff (by omega)), fun kk => ?_⟩
          simp (disch := omega) only [xm_readsPins_l14, xm_readsPins_j61_14, xm_readsPins_j83_14, ↓pz_m9, pz_lit, pz_le, l, if_false, pz_rem, hm, pz_lt, pz_inb, pz_grt, pz_ix, hby, Nat.add_zero, pm_pin0 hB, hv, if_true, pz_bnd]
      · by_cases hv : 48 ≤ B (4 * p + 1) ∧ B (4 * p + 1) < 57
        · have hz : (nI 3 ≤ nI 1) = False := by simp (disch := omega) only [pz_le]; simp
          have v0 := hV (4 * p) (by omega)
          rw [pV0] at v0
          have v0 := of_decide_eq_true v0
          have q0 : m1.1 7 (3 * p) = nI (B (4 * p) - 48) := (hQ.2 p).1 (by omega)
          have htk : anyB (fun j => decide ((ba_w m1 7 (3 * p + 1) (nI (B (4 * p + 1) - 48))).1 7 (3 * j) = (ba_w m1 7 (3 * p + 1) (nI (B (4 * p + 1) - 48))).1 7 (3 * p) ∧ (ba_w m1 7 (3 * p + 1) (nI (B (4 * p + 1) - 48))).1 7 (3 * j + 1) = (ba_w m1 7 (3 * p + 1) (nI (B (4 * p + 1) - 48))).1 7 (3 * p + 1))) p = true ↔ ¬ ∀ r, r < p → pcel B r ≠ pcel B p := by
            rw [anyB_iff]
            have key : ∀ r, r < p → (((ba_w m1 7 (3 * p + 1) (nI (B (4 * p + 1) - 48))).1 7 (3 * r) = (ba_w m1 7 (3 * p + 1) (nI (B (4 * p + 1) - 48))).1 7 (3 * p) ∧ (ba_w m1 7 (3 * p + 1) (nI (B (4 * p + 1) - 48))).1 7 (3 * r + 1) = (ba_w m1 7 (3 * p + 1) (nI (B (4 * p + 1) - 48))).1 7 (3 * p + 1)) ↔ pcel B r = pcel B p) := by
              intro r hr
              have y0 := hV (4 * r) (by omega)
              have y1 := hV (4 * r + 1) (by omega)
              rw [pV0] at y0
              rw [pV1, Bool.and_eq_true] at y1
              have y0 := of_decide_eq_true y0
              have y1 := of_decide_eq_true y1.1
              have b0 := (T1.2.2 (4 * r) (by omega)).1
              have b1 := (T1.2.2 (4 * r + 1) (by omega)).1
              have b2 := (T1.2.2 (4 * p) (by omega)).1
              rw [pw_s, pw_i _ _ _ (by omega), pw_i _ _ _ (by omega), pw_i _ _ _ (by omega), (hQ.2 r).1 (by omega), (hQ.2 r).2.1 (by omega), q0, pz_eq (by omega) (by omega), pz_eq (by omega) (by omega)]
              unfold pcel
              omega
            constructor
            · rintro ⟨r, h1, h2⟩ hall
              exact hall r h1 ((key r h1).mp (of_decide_eq_true h2))
            · intro hn
              obtain ⟨r, hr⟩ := Classical.not_forall.mp hn
              obtain ⟨h1, h2⟩ := Classical.not_imp.mp hr
              exact ⟨r, h1, decide_eq_true ((key r h1).mpr (Classical.not_not.mp h2))⟩
          have hT := pm_isTaken (ba_w m1 7 (3 * p + 1) (nI (B (4 * p + 1) - 48))) (o := p) (by omega)
          by_cases cf : ∀ r, r < p → pcel B r ≠ pcel B p
          · left
            rw [if_neg (fun q => htk.mp q cf)] at hT
            refine ⟨(ba_w (ba_w m1 7 (3 * p + 1) (nI (B (4 * p + 1) - 48))) 0 7 (nI ((4 * p + 1 + 1 + 1) / 4)), nI (4 * p + 1 + 1)), ⟨_, rfl, (hf.w _ _ _ (by unfold wMp; omega)).w _ _ _ (by unfold wMp; omega), ⟨pw_s _ _ _ _, fun r => ?_⟩, all1 hV (by rw [pV1, Bool.and_eq_true]; exact ⟨decide_eq_true hv, decide_eq_true cf⟩)⟩, fun kk => ?_⟩
            · obtain ⟨q1, q2, q3⟩ := hQ.2 r
              simp (disch := omega) only [pw_p]
              refine ⟨fun hr => ?_, fun hr => ?_, fun hr => ?_⟩
              · rw [pw_i _ _ _ (by omega)]; exact q1 (by omega)
              · by_cases e : r = p
                · subst e; rw [pw_s]
                · rw [pw_i _ _ _ (by omega)]; exact q2 (by omega)
              · rw [pw_i _ _ _ (by omega)]; exact q3 (by omega)
            · simp (disch := omega) only [xm_readsPins_l14, xm_readsPins_j61_14, xm_readsPins_j90_14, xm_readsPins_j105_14, ↓pz_m9, pz_lit, pz_le, l, if_false, pz_rem, hm, pz_lt, pz_inb, pz_grt, pz_ix, hby, pm_pin1 hB, hv, and_self, if_true, pz_bnd, pz_no9, show ¬ 3 ≤ 1 by omega, pz_div, hd, pk_mul, nI_add, hT, z_12, pw_p, hQ.1, show (4 * p + 1 + 1) / 4 = p by omega, Nat.add_zero, show (4 * p + 1 + 1 + 1) / 4 = p by omega]
          · right
            rw [if_pos (htk.mpr cf)] at hT
            have hff : fF (pV B) 4 n = nI (4 * p + 1) := fF_bad hV (by rw [pV1, decide_eq_false cf, Bool.and_false]) (by omega)
            refine ⟨_, Or.inl (bad (hf.w 7 (3 * p + 1) (nI (B (4 * p + 1) - 48)) (by unfold wMp; omega)) hff (by omega)), fun kk => ?_⟩
            simp (disch := omega) only [xm_readsPins_l14, xm_readsPins_j61_14, xm_readsPins_j83_14, ↓pz_m9, pz_lit, pz_le, l, if_false, pz_rem, hm, pz_lt, pz_inb, pz_grt, pz_ix, hby, pm_pin1 hB, hv, and_self, if_true, pz_bnd, pz_no9, show ¬ 3 ≤ 1 by omega, pz_div, hd, pk_mul, nI_add, hT, z_10]
        · right
          have hff : fF (pV B) 4 n = nI (4 * p + 1) := fF_bad hV (by rw [pV1, decide_eq_false hv, Bool.false_and]) (by omega)
          refine ⟨_, Or.inl (bad hf hff (by omega)), fun kk => ?_⟩
          simp (disch := omega) only [xm_readsPins_l14, xm_readsPins_j61_14, xm_readsPins_j83_14, ↓pz_m9, pz_lit, pz_le, l, if_false, pz_rem, hm, pz_lt, pz_inb, pz_grt, pz_ix, hby, pm_pin1 hB, hv, if_true, pz_bnd]
      · by_cases hv : B (4 * p + 2) = 108 ∨ B (4 * p + 2) = 114 ∨ B (4 * p + 2) = 116 ∨ B (4 * p + 2) = 98
        · left
          have hps := psor_le (B (4 * p + 2))
          have z21 : (nI 2 = nI 1) = False := by simp (disch := omega) only [pz_eq]; simp
          refine ⟨(ba_w (ba_w m1 7 (3 * p + 2) (nI (psor (B (4 * p + 2))))) 0 7 (nI ((4 * p + 2 + 1 + 1) / 4)), nI (4 * p + 2 + 1)), ⟨_, rfl, (hf.w _ _ _ (by unfold wMp; omega)).w _ _ _ (by unfold wMp; omega), ⟨pw_s _ _ _ _, fun r => ?_⟩, all1 hV (by rw [pV2]; exact decide_eq_true hv)⟩, fun kk => ?_⟩
          · obtain ⟨q1, q2, q3⟩ := hQ.2 r
            simp (disch := omega) only [pw_p]
            refine ⟨fun hr => ?_, fun hr => ?_, fun hr => ?_⟩
            · rw [pw_i _ _ _ (by omega)]; exact q1 (by omega)
            · rw [pw_i _ _ _ (by omega)]; exact q2 (by omega)
            · by_cases e : r = p
              · subst e; rw [pw_s]
              · rw [pw_i _ _ _ (by omega)]; exact q3 (by omega)
          · simp (disch := omega) only [xm_readsPins_l14, xm_readsPins_j61_14, xm_readsPins_j90_14, xm_readsPins_j105_14, ↓pz_m9, pz_lit, pz_le, l, if_false, pz_rem, hm, pz_lt, pz_inb, pz_grt, pz_ix, hby, pm_pin2 hB, hv, if_true, pz_bnd, pz_no9, show ¬ 3 ≤ 2 by omega, pz_div, hd, pk_mul, nI_add, z21, pw_p, hQ.1, show (4 * p + 2 + 1) / 4 = p by omega, show (4 * p + 2 + 1 + 1) / 4 = p + 1 by omega]
        · right
          have hff : fF (pV B) 4 n = nI (4 * p + 2) := fF_bad hV (by rw [pV2]; exact decide_eq_false hv) (by omega)
          refine ⟨_, Or.inl (bad hf hff (by omega)), fun kk => ?_⟩
          simp (disch := omega) only [xm_readsPins_l14, xm_readsPins_j61_14, xm_readsPins_j83_14, ↓pz_m9, pz_lit, pz_le, l, if_false, pz_rem, hm, pz_lt, pz_inb, pz_grt, pz_ix, hby, pm_pin2 hB, hv, if_true, pz_bnd]
      · by_cases hv : B (4 * p + 3) = 59
        · left
          have hpo : xm_pinOf (nI 3) (nI (B (4 * p + 3))) = some (nI 0) := by rw [pm_pin3 hB, if_pos hv]
          have z31 : (nI 3 = nI 1) = False := by simp (disch := omega) only [pz_eq]; simp
          refine ⟨(ba_w m1 0 7 (nI ((4 * p + 3 + 1 + 1) / 4)), nI (4 * p + 3 + 1)), ⟨_, rfl, hf.w _ _ _ (by unfold wMp; omega), ⟨pw_s _ _ _ _, fun r => ?_⟩, all1 hV (by rw [pV3]; exact decide_eq_true hv)⟩, fun kk => ?_⟩
          · obtain ⟨q1, q2, q3⟩ := hQ.2 r
            simp (disch := omega) only [pw_p]
            exact ⟨fun hr => q1 (by omega), fun hr => q2 (by omega), fun hr => q3 (by omega)⟩
          · simp (disch := omega) only [xm_readsPins_l14, xm_readsPins_j61_14, xm_readsPins_j90_14, xm_readsPins_j105_14, ↓pz_m9, pz_lit, pz_le, l, if_false, pz_rem, hm, pz_lt, pz_inb, pz_grt, pz_ix, hby, hpo, if_true, pz_bnd, pz_no9, Nat.le_refl, nI_add, z31, z_32, hQ.1, show (4 * p + 3 + 1) / 4 = p + 1 by omega, Nat.add_zero, show (4 * p + 3 + 1 + 1) / 4 = p + 1 by omega]
        · right
          have hff : fF (pV B) 4 n = nI (4 * p + 3) := fF_bad hV (by rw [pV3]; exact decide_eq_false hv) (by omega)
          refine ⟨_, Or.inl (bad hf hff (by omega)), fun kk => ?_⟩
          simp (disch := omega) only [xm_readsPins_l14, xm_readsPins_j61_14, xm_readsPins_j83_14, ↓pz_m9, pz_lit, pz_le, l, if_false, pz_rem, hm, pz_lt, pz_inb, pz_grt, pz_ix, hby, pm_pin3 hB, hv, if_true, pz_bnd])
    (fun x hI => by
      obtain ⟨m1, rfl, hf, hQ, hV⟩ := hI
      exact ⟨_, Or.inr ⟨m1, rfl, hf, hQ, hV⟩, fun k => by simp only [xm_readsPins_l14, Int32.le_refl, if_true]⟩) 1000 0 (ba_w m 0 7 (nI 0), 0) (by omega) (by omega) ⟨_, rfl, (fr.rf wMp m).w _ _ _ (by unfold wMp; omega), ⟨pw_s _ _ _ _, fun p => ⟨fun h => by omega, fun h => by omega, fun h => by omega⟩⟩, fun j hj => by omega⟩
  have h0 : (ba_w m 0 7 (nI 0)).1 6 0 = nI n := by rw [pw_p _ _ _ _ (by omega)]; exact h.1
  unfold xm_readsPins
  simp (disch := omega) only [↓pz_m1, pz_lit, pz_lt, pz_inb, pz_grt, pz_ix, h0]
  simp only [pz_lit] at hrun
  rw [hrun, pz_bnd]
  rcases ho with ⟨m', e, hf, hP⟩ | ⟨m', e, hf, hQ, hV⟩
  · subst e
    exact ⟨m', rfl, hf, hP⟩
  · subst e
    dsimp only
    have good : fF (pV B) 4 n = pn → mP m' B (nP B n) := by
      intro hff
      unfold nP
      rw [if_pos hff]
      refine ⟨hQ.1, fun i hi => ?_⟩
      have y0 := hV (4 * i) (by omega)
      have y1 := hV (4 * i + 1) (by omega)
      rw [pV0] at y0
      rw [pV1, Bool.and_eq_true] at y1
      have y0 := of_decide_eq_true y0
      have y1 := of_decide_eq_true y1.1
      have e9 : pcel B i / 9 = B (4 * i) - 48 := by unfold pcel; omega
      have e8 : pcel B i % 9 = B (4 * i + 1) - 48 := by unfold pcel; omega
      obtain ⟨q1, q2, q3⟩ := hQ.2 i
      have h2 : 4 * i + 2 < n := by
        have := (fF_pn (by omega) hff).2
        omega
      refine ⟨by unfold pcel; omega, ?_, ?_, ?_⟩
      · rw [e9]; exact q1 (by omega)
      · rw [e8]; exact q2 (by omega)
      · exact q3 h2
    by_cases hn : n ≤ 0
    · have hff : fF (pV B) 4 n = pn := fF_ok hV (by omega)
      refine ⟨m', ?_, hf, good hff⟩
      simp (disch := omega) only [pz_le, hn, if_true, ↓pz_m1, hff]
    · by_cases h3 : n % 4 = 3
      · have hff : fF (pV B) 4 n = pn := fF_ok hV (by omega)
        refine ⟨m', ?_, hf, good hff⟩
        simp (disch := omega) only [pz_le, hn, if_false, pz_rem, pz_eq, h3, if_true, ↓pz_m1, hff]
      · have hff : fF (pV B) 4 n = nI n := fF_end hV ⟨by omega, by omega⟩
        refine ⟨ba_w m' 0 7 (nI 0), ?_, hf.w _ _ _ (by unfold wMp; omega), ?_⟩
        · simp (disch := omega) only [pz_le, hn, if_false, pz_rem, pz_eq, h3, hff]
        · have : nP B n = 0 := by unfold nP; rw [if_neg (by rw [hff]; exact pz_nopn (by omega))]
          rw [this]
          exact ⟨pw_s _ _ _ _, fun i hi => by omega⟩
