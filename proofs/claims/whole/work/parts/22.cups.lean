/-! ===== cups ===== -/
def cV (B : Nat → Nat) (j : Nat) : Bool := decide (48 ≤ B j ∧ B j < 58)
def wC (B : Nat → Nat) (n c : Nat) : Nat := if fF (cV B) 1 n = pn ∧ c < n then B c - 48 else 0
def w7 (p _ : Nat) : Prop := p = 7
def w8 (p _ : Nat) : Prop := p = 8
theorem po_takeCups {s : ba_St} {a n : Nat} {B : Nat → Nat} (ha : 15 ≤ a) (h : tx s a n B) (hn9 : n ≤ 9) : ∃ s', xo_takeCups s a = some (fF (cV B) 1 n, s') ∧ fr w7 s s' ∧ ∀ c, c < 9 → s'.1 7 c = nI (wC B n c) := by
  obtain ⟨s0, e0, f0, g0, h0, -⟩ := pj_fill s 7 9 (nI 0) (by omega)
  have F0 : fr w7 s s0 := ⟨f0, fun p j w => g0 p j w⟩
  obtain ⟨o, ho, hrun⟩ := pf_brk (F := xo_takeCups_l10 a) (fun i x => ∃ s1, x = (s1, nI i) ∧ fr w7 s s1 ∧ (∀ j, j < i → cV B j = true ∧ s1.1 7 j = nI (B j - 48)) ∧ (∀ j, i ≤ j → j < 9 → s1.1 7 j = nI 0))
    (fun o => (∃ s', o = .inr (fF (cV B) 1 n, s') ∧ fr w7 s s' ∧ ∀ c, c < 9 → s'.1 7 c = nI (wC B n c)) ∨ (∃ s', o = .inl s' ∧ fF (cV B) 1 n = pn ∧ fr w7 s s' ∧ ∀ c, c < 9 → s'.1 7 c = nI (wC B n c))) n
    (fun i x hi hI => by
      obtain ⟨s1, rfl, hf, hV, hz⟩ := hI
      have T1 : tx s1 a n B := h.fr hf (by unfold w7; omega) (by unfold w7; omega)
      have l : ¬ n ≤ i := by omega
      have l9 : ¬ 9 ≤ i := by omega
      by_cases hv : i < n ∧ 48 ≤ B i ∧ B i < 48 + 10
      · left
        have hB := (T1.2.2.2 i hi).1
        refine ⟨(ba_w s1 7 i (nI (B i - 48)), nI (i + 1)), ⟨_, rfl, hf.w _ _ _ rfl, fun j hj => ?_, fun j h1 h2 => ?_⟩, fun k => ?_⟩
        · by_cases e : j = i
          · subst e; rw [pw_s]; exact ⟨decide_eq_true ⟨hv.2.1, by omega⟩, rfl⟩
          · rw [pw_i _ _ _ e]; exact hV j (by omega)
        · rw [pw_i _ _ _ (by omega)]; exact hz j (by omega) h2
        · simp (disch := omega) only [xo_takeCups_l10, ↓pz_m1, pz_lit, T1.1, pz_le, l, l9, if_false, pt_cnt T1, hv, and_self, if_true, pz_bnd, pz_pn, pz_inb, pz_grt, pz_ix, pz_lt, nI_add]
      · right
        have hff : fF (cV B) 1 n = nI i := fF_bad (fun j hj => (hV j hj).1) (decide_eq_false (by omega)) hi
        obtain ⟨s2, e2, f2, g2, h2, -⟩ := pj_fill s1 7 9 (nI 0) (by omega)
        refine ⟨.inr (nI i, s2), Or.inl ⟨s2, by rw [hff], hf.tr ⟨f2, fun p j w => g2 p j w⟩, fun c hc => ?_⟩, fun k => ?_⟩
        · rw [h2 c hc]; unfold wC; rw [if_neg (fun z => by rw [hff] at z; exact absurd z.1 (pz_nopn (by omega)))]
        · simp (disch := omega) only [xo_takeCups_l10, ↓pz_m1, pz_lit, T1.1, pz_le, l, l9, if_false, pt_cnt T1, hv, if_true, pz_bnd, e2])
    (fun x hI => by
      obtain ⟨s1, rfl, hf, hV, hz⟩ := hI
      have T1 : tx s1 a n B := h.fr hf (by unfold w7; omega) (by unfold w7; omega)
      have hff : fF (cV B) 1 n = pn := fF_ok (fun j hj => (hV j hj).1) (by omega)
      refine ⟨.inl s1, Or.inr ⟨s1, rfl, hff, hf, fun c hc => ?_⟩, fun k => by simp only [xo_takeCups_l10, T1.1, Int32.le_refl, if_true]⟩
      unfold wC
      by_cases hcn : c < n
      · rw [if_pos ⟨hff, hcn⟩]; exact (hV c hcn).2
      · rw [if_neg (fun z => hcn z.2)]; exact hz c (by omega) hc) 1000 0 (s0, 0) (by omega) (by omega) ⟨s0, rfl, F0, fun j hj => by omega, fun j _ hj => h0 j hj⟩
  unfold xo_takeCups
  simp only [pz_lit] at e0 hrun
  simp only [↓pz_m1, pz_lit, e0, pz_bnd, hrun]
  rcases ho with ⟨s', e, h1, h2⟩ | ⟨s', e, hff, h1, h2⟩
  · subst e; exact ⟨s', rfl, h1, h2⟩
  · subst e; exact ⟨s', by rw [hff], h1, h2⟩
theorem pm_worthless (m : ba_St) : ∃ m', xm_worthless m = some m' ∧ fr w8 m m' ∧ ∀ c, c < 9 → m'.1 8 c = nI 0 := by
  obtain ⟨m', ⟨h1, h2⟩, h3⟩ := pf_one (F := xm_worthless_l2) (fun i x => ∃ m', x = (m', nI i) ∧ fr w8 m m' ∧ ∀ c, c < i → m'.1 8 c = nI 0) (fun m' => fr w8 m m' ∧ ∀ c, c < 9 → m'.1 8 c = nI 0) 9
    (fun i x hi hI => by
      obtain ⟨m1, rfl, hf, hz⟩ := hI
      have l : ¬ 9 ≤ i := by omega
      refine ⟨(ba_w m1 8 i (nI 0), nI (i + 1)), ⟨_, rfl, hf.w _ _ _ rfl, fun c hc => ?_⟩, fun k => ?_⟩
      · by_cases e : c = i
        · subst e; rw [pw_s]
        · rw [pw_i _ _ _ e]; exact hz c (by omega)
      · simp (disch := omega) only [xm_worthless_l2, pz_lit, pz_le, l, if_false, pz_inb, pz_grt, pz_ix, pz_lt, nI_add])
    (fun x hI => by
      obtain ⟨m1, rfl, hf, hz⟩ := hI
      exact ⟨m1, ⟨hf, hz⟩, fun k => by simp only [xm_worthless_l2, pz_lit, Int32.le_refl, if_true]⟩) 1000 0 (m, 0) (by omega) (by omega) ⟨m, rfl, fr.rf _ _, fun c hc => by omega⟩
  refine ⟨m', ?_, h1, h2⟩
  unfold xm_worthless; rw [h3]; rfl
theorem pm_readsCups {m : ba_St} {n : Nat} {B : Nat → Nat} (h : mx m 1 n B) (hn9 : n ≤ 9) : ∃ m', xm_readsCups m = some (fF (cV B) 1 n, m') ∧ fr w8 m m' ∧ ∀ c, c < 9 → m'.1 8 c = nI (wC B n c) := by
  obtain ⟨m0, e0, F0, h0⟩ := pm_worthless m
  obtain ⟨o, ho, hrun⟩ := pf_brk (F := xm_readsCups_l6) (fun i x => ∃ m1, x = (m1, nI i) ∧ fr w8 m m1 ∧ (∀ j, j < i → cV B j = true ∧ m1.1 8 j = nI (B j - 48)) ∧ (∀ j, i ≤ j → j < 9 → m1.1 8 j = nI 0))
    (fun o => (∃ m', o = .inr (fF (cV B) 1 n, m') ∧ fr w8 m m' ∧ ∀ c, c < 9 → m'.1 8 c = nI (wC B n c)) ∨ (∃ m', o = .inl m' ∧ fF (cV B) 1 n = pn ∧ fr w8 m m' ∧ ∀ c, c < 9 → m'.1 8 c = nI (wC B n c))) n
    (fun i x hi hI => by
      obtain ⟨m1, rfl, hf, hV, hz⟩ := hI
      have T1 : mx m1 1 n B := h.fr hf (by unfold w8; omega) (by unfold w8; omega)
      have l : ¬ n ≤ i := by omega
      obtain ⟨hB, hby⟩ := T1.2.2 i hi
      rw [show 48 * 1 + i = 48 + i by omega] at hby
      by_cases hv : 48 + 0 ≤ B i ∧ B i < 48 + 9 + 1
      · left
        refine ⟨(ba_w m1 8 i (nI (B i - 48)), nI (i + 1)), ⟨_, rfl, hf.w _ _ _ rfl, fun j hj => ?_, fun j h1 h2 => ?_⟩, fun k => ?_⟩
        · by_cases e : j = i
          · subst e; rw [pw_s]; exact ⟨decide_eq_true ⟨by omega, by omega⟩, rfl⟩
          · rw [pw_i _ _ _ e]; exact hV j (by omega)
        · rw [pw_i _ _ _ (by omega)]; exact hz j (by omega) h2
        · have hfo : xm_figureOf (nI (B i)) (nI 0) (nI 9) = some (nI (B i - 48)) := by rw [pm_figureOf hB (by omega) (by omega), if_pos hv]
          simp (disch := omega) only [xm_readsCups_l6, ↓pz_m9, pz_lit, pz_inb, pz_grt, pz_ix, T1.1, pz_le, l, if_false, nI_add, hby, hfo, pz_bnd, pz_no9, pz_lt]
      · right
        have hff : fF (cV B) 1 n = nI i := fF_bad (fun j hj => (hV j hj).1) (decide_eq_false (by omega)) hi
        obtain ⟨m2, e2, F2, h2⟩ := pm_worthless m1
        refine ⟨.inr (nI i, m2), Or.inl ⟨m2, by rw [hff], hf.tr F2, fun c hc => ?_⟩, fun k => ?_⟩
        · rw [h2 c hc]; unfold wC; rw [if_neg (fun z => by rw [hff] at z; exact absurd z.1 (pz_nopn (by omega)))]
        · have hfo : xm_figureOf (nI (B i)) (nI 0) (nI 9) = some p9 := by rw [pm_figureOf hB (by omega) (by omega), if_neg hv]
          simp (disch := omega) only [xm_readsCups_l6, ↓pz_m9, pz_lit, pz_inb, pz_grt, pz_ix, T1.1, pz_le, l, if_false, nI_add, hby, hfo, pz_bnd, if_true, e2])
    (fun x hI => by
      obtain ⟨m1, rfl, hf, hV, hz⟩ := hI
      have T1 : mx m1 1 n B := h.fr hf (by unfold w8; omega) (by unfold w8; omega)
      have hff : fF (cV B) 1 n = pn := fF_ok (fun j hj => (hV j hj).1) (by omega)
      refine ⟨.inl m1, Or.inr ⟨m1, rfl, hff, hf, fun c hc => ?_⟩, fun k => by simp (disch := omega) only [xm_readsCups_l6, pz_lit, pz_inb, pz_grt, pz_ix, T1.1, Int32.le_refl, if_true]⟩
      unfold wC
      by_cases hcn : c < n
      · rw [if_pos ⟨hff, hcn⟩]; exact (hV c hcn).2
      · rw [if_neg (fun z => hcn z.2)]; exact hz c (by omega) hc) 1000 0 (m0, 0) (by omega) (by omega) ⟨m0, rfl, F0, fun j hj => by omega, fun j _ hj => h0 j hj⟩
  unfold xm_readsCups
  simp only [pz_lit] at hrun
  simp only [↓pz_m1, pz_lit, e0, pz_bnd, hrun]
  rcases ho with ⟨m', e, h1, h2⟩ | ⟨m', e, hff, h1, h2⟩
  · subst e; exact ⟨m', rfl, h1, h2⟩
  · subst e; exact ⟨m', by rw [hff], h1, h2⟩
/-! ===== balls ===== -/
def bV (B : Nat → Nat) (j : Nat) : Bool := if j % 3 = 0 then decide (97 ≤ B j ∧ B j < 121) else if j % 3 = 1 then decide (49 ≤ B j ∧ B j < 58) else decide (B j = 59)
def nB (B : Nat → Nat) (n : Nat) : Nat := if fF (bV B) 3 n = pn then (n + 1) / 3 else 0
theorem bV0 (B : Nat → Nat) (p : Nat) : bV B (3 * p) = decide (97 ≤ B (3 * p) ∧ B (3 * p) < 121) := by unfold bV; rw [if_pos (by omega)]
theorem bV1 (B : Nat → Nat) (p : Nat) : bV B (3 * p + 1) = decide (49 ≤ B (3 * p + 1) ∧ B (3 * p + 1) < 58) := by unfold bV; rw [if_neg (by omega), if_pos (by omega)]
theorem bV2 (B : Nat → Nat) (p : Nat) : bV B (3 * p + 2) = decide (B (3 * p + 2) = 59) := by unfold bV; rw [if_neg (by omega), if_neg (by omega)]
def wBl (p j : Nat) : Prop := p = 3 ∧ j = 7 ∨ p = 8 ∨ p = 9
/-- the class's balls, c of them, as the bytes spell them -/
def bBl (s : ba_St) (B : Nat → Nat) (c : Nat) : Prop := s.1 3 7 = nI c ∧ ∀ i, i < c → B (3 * i) - 97 < 24 ∧ 1 ≤ B (3 * i + 1) - 48 ∧ B (3 * i + 1) - 48 ≤ 9 ∧ s.1 8 i = nI (B (3 * i) - 97) ∧ s.1 9 i = nI (B (3 * i + 1) - 48)
theorem po_scanBalls {s : ba_St} {a n : Nat} {B : Nat → Nat} (ha : 15 ≤ a) (h : tx s a n B) (hn35 : n ≤ 35) (hb : bBl s B 0) (hn : 0 < n) : ∃ s', xo_scanBalls s a = some (fF (bV B) 3 n, s') ∧ fr wBl s s' ∧ (fF (bV B) 3 n = pn → bBl s' B ((n + 1) / 3)) := by
  obtain ⟨o, ⟨s', e, hfr, hok⟩, hrun⟩ := pf_brk (F := xo_scanBalls_l11 a) (fun p x => ∃ s1, x = (s1, nI p) ∧ fr wBl s s1 ∧ bBl s1 B p ∧ (∀ j, j < 3 * p → bV B j = true) ∧ 3 * p ≤ n)
    (fun o => ∃ s', o = .inr (fF (bV B) 3 n, s') ∧ fr wBl s s' ∧ (fF (bV B) 3 n = pn → bBl s' B ((n + 1) / 3))) 12
    (fun p x hp hI => by
      obtain ⟨s1, rfl, hf, hP, hV, hle⟩ := hI
      have T1 : tx s1 a n B := h.fr hf (by unfold wBl; omega) (by unfold wBl; omega)
      have l12 : ¬ 12 ≤ p := by omega
      have stop : ∀ i, fF (bV B) 3 n = nI i → i < 1000 → ∃ s', (Sum.inr (nI i, s1) : ba_St ⊕ (Int32 × ba_St)) = .inr (fF (bV B) 3 n, s') ∧ fr wBl s s' ∧ (fF (bV B) 3 n = pn → bBl s' B ((n + 1) / 3)) := fun i hi hi2 => ⟨s1, by rw [hi], hf, fun e => by rw [hi] at e; exact absurd e (pz_nopn (by omega))⟩
      by_cases c0 : 3 * p < n ∧ 97 ≤ B (3 * p) ∧ B (3 * p) < 97 + 24
      · have v0 : bV B (3 * p) = true := by rw [bV0]; exact decide_eq_true ⟨c0.2.1, by omega⟩
        have V1 := all1 hV v0
        by_cases c1 : 3 * p + 1 < n ∧ 49 ≤ B (3 * p + 1) ∧ B (3 * p + 1) < 49 + 9
        · have v1 : bV B (3 * p + 1) = true := by rw [bV1]; exact decide_eq_true ⟨c1.2.1, by omega⟩
          have V2 := all1 V1 v1
          have e49 : B (3 * p + 1) - 49 + 1 = B (3 * p + 1) - 48 := by omega
          obtain ⟨s2, hs2⟩ : ∃ s2, s2 = ba_w (ba_w (ba_w s1 8 p (nI (B (3 * p) - 97))) 9 p (nI (B (3 * p + 1) - 48))) 3 7 (nI (p + 1)) := ⟨_, rfl⟩
          have d2 : fr wBl s1 s2 := by rw [hs2]; exact (((fr.rf wBl s1).w _ _ _ (by unfold wBl; omega)).w _ _ _ (by unfold wBl; omega)).w _ _ _ (by unfold wBl; omega)
          have T2 : tx s2 a n B := T1.fr d2 (by unfold wBl; omega) (by unfold wBl; omega)
          have d3 : bBl s2 B (p + 1) := by
            rw [hs2]
            refine ⟨pw_s _ _ _ _, fun i hi => ?_⟩
            simp (disch := omega) only [pw_p]
            by_cases e : i = p
            · subst e
              simp (disch := omega) only [pw_s, pw_p, and_true]
              omega
            · simp (disch := omega) only [pw_i, pw_p]
              exact hP.2 i (by omega)
          have hbody : ∀ k, xo_scanBalls_l11 a k (s1, nI p) = (if s2.1 a 1 = nI (3 * p + 2) then some (.inr (pn, s2)) else ba_bnd (xt_byteAt s2 a (nI (3 * p + 2))) fun v39 => if v39 = nI 59 then k (s2, nI (p + 1)) else some (.inr (nI (3 * p + 2), s2))) := by
            intro k
            rw [hs2]
            simp (disch := omega) only [xo_scanBalls_l11, ↓pz_m1, pz_lit, pz_le, l12, if_false, pk_mul, pz_lt, pt_cnt T1, c0, c1, and_self, if_true, pz_bnd, pz_pn, nI_add, pz_inb, pz_grt, pz_ix, e49, pw_p, hP.1]
          rw [T2.1] at hbody
          by_cases c3 : n = 3 * p + 2
          · right
            have hff : fF (bV B) 3 n = pn := fF_ok (by rw [c3]; exact V2) (by omega)
            refine ⟨_, ⟨s2, rfl, hf.tr d2, fun _ => by rw [show (n + 1) / 3 = p + 1 by omega]; exact d3⟩, fun k => ?_⟩
            rw [hbody, if_pos (by rw [c3]), hff]
          · have hne : ¬ nI n = nI (3 * p + 2) := by rw [pz_eq (by omega) (by omega)]; omega
            have c4 : 3 * p + 2 < n := by omega
            have hB3 := (T1.2.2.2 _ c4).1
            by_cases cb : B (3 * p + 2) = 59
            · left
              have v3 : bV B (3 * p + 2) = true := by rw [bV2]; exact decide_eq_true cb
              refine ⟨(s2, nI (p + 1)), ⟨s2, rfl, hf.tr d2, d3, all1 V2 v3, by omega⟩, fun k => ?_⟩
              rw [hbody, if_neg hne, pt_byteAt T2 (by omega), if_pos c4, pz_bnd, if_pos (by rw [cb])]
            · right
              have hff : fF (bV B) 3 n = nI (3 * p + 2) := fF_bad V2 (by rw [bV2]; exact decide_eq_false cb) c4
              refine ⟨_, ⟨s2, rfl, hf.tr d2, fun e => by rw [hff] at e; exact absurd e (pz_nopn (by omega))⟩, fun k => ?_⟩
              rw [hbody, if_neg hne, pt_byteAt T2 (by omega), if_pos c4, pz_bnd, if_neg (by rw [pz_eq (by omega) (by omega)]; exact cb), hff]
        · right
          have hff : fF (bV B) 3 n = nI (3 * p + 1) := by
            by_cases e : n = 3 * p + 1
            · rw [e]; exact fF_end V1 ⟨by omega, by omega⟩
            · exact fF_bad V1 (by rw [bV1]; exact decide_eq_false (by omega)) (by omega)
          refine ⟨_, stop _ hff (by omega), fun k => ?_⟩
          simp (disch := omega) only [xo_scanBalls_l11, ↓pz_m1, pz_lit, pz_le, l12, if_false, pk_mul, pz_lt, pt_cnt T1, c0, c1, and_self, if_true, pz_bnd, pz_pn, nI_add]
      · right
        have hff : fF (bV B) 3 n = nI (3 * p) := by
          by_cases e : n = 3 * p
          · rw [e]; exact fF_end hV ⟨by omega, by omega⟩
          · exact fF_bad hV (by rw [bV0]; exact decide_eq_false (by omega)) (by omega)
        refine ⟨_, stop _ hff (by omega), fun k => ?_⟩
        simp (disch := omega) only [xo_scanBalls_l11, ↓pz_m1, pz_lit, pz_le, l12, if_false, pk_mul, pz_lt, pt_cnt T1, c0, pz_bnd, if_true])
    (fun x hI => by
      obtain ⟨s1, rfl, hf, hP, hV, hle⟩ := hI
      exact absurd hle (by omega)) 1000 0 (s, 0) (by omega) (by omega) ⟨s, rfl, fr.rf _ _, hb, fun j hj => by omega, by omega⟩
  refine ⟨s', ?_, hfr, hok⟩
  have hne : ¬ nI n = nI 0 := by rw [pz_eq (by omega) (by omega)]; omega
  unfold xo_scanBalls
  simp only [pz_lit, h.1, hne, if_false]
  simp only [pz_lit] at hrun
  rw [hrun, pz_bnd, e]
theorem po_takeBalls {s : ba_St} {a n : Nat} {B : Nat → Nat} (ha : 15 ≤ a) (h : tx s a n B) (hn35 : n ≤ 35) : ∃ s', xo_takeBalls s a = some (fF (bV B) 3 n, s') ∧ fr wBl s s' ∧ bBl s' B (nB B n) := by
  have f1 : fr wBl s (ba_w s 3 7 (nI 0)) := (fr.rf wBl s).w _ _ _ (by unfold wBl; omega)
  have T1 : tx (ba_w s 3 7 (nI 0)) a n B := h.fr f1 (by unfold wBl; omega) (by unfold wBl; omega)
  have b1 : bBl (ba_w s 3 7 (nI 0)) B 0 := ⟨pw_s _ _ _ _, fun i hi => by omega⟩
  unfold xo_takeBalls
  rw [pz_lt]
  by_cases hn : 0 < n
  · obtain ⟨s2, e2, f2, b2⟩ := po_scanBalls ha T1 hn35 b1 hn
    simp only [pz_lit]
    rw [e2, pz_bn2]
    by_cases hf : fF (bV B) 3 n = pn
    · refine ⟨s2, ?_, f1.tr f2, ?_⟩
      · rw [hf]; exact if_pos rfl
      · unfold nB; rw [if_pos hf]; exact b2 hf
    · refine ⟨ba_w s2 3 7 (nI 0), ?_, (f1.tr f2).w _ _ _ (by unfold wBl; omega), ?_⟩
      · exact if_neg hf
      · unfold nB; rw [if_neg hf]; exact ⟨pw_s _ _ _ _, fun i hi => by omega⟩
  · have hn0 : n = 0 := by omega
    subst hn0
    have hf : fF (bV B) 3 0 = pn := fF_ok (fun j hj => by omega) (by omega)
    refine ⟨ba_w s 3 7 (nI 0), ?_, f1, ?_⟩
    · unfold xo_scanBalls
      have := T1.1
      simp only [↓pz_m1, pz_lit, this, hf, if_true, pz_bn2]
    · unfold nB; rw [if_pos hf]; exact b1
