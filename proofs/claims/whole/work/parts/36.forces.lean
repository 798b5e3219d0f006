/-! ===== forces; the marks of the forces ===== -/
def wV (N : Nat) (H : Nat → Nat) (k : Nat) : Int32 := if N ≤ k then 0 else 10 * cR (H k) + cC (H k)
theorem te_E.same {b : Nat} (hb : 15 ≤ b) {s m s' m' : ba_St} {N np ne : Nat} {pc : Nat → Nat} (h : te_E b s m N np ne pc) (f : ∀ p j, p ≠ 0 → s'.1 p j = s.1 p j) (g : ∀ p j, p < 11 → m'.1 p j = m.1 p j) : te_E b s' m' N np ne pc := by
  refine h.up hb (fun p j _ h0 => f p j h0) (f b 4 (by omega)) (fun j _ _ _ => g 0 j (by omega)) (fun i _ => ⟨g 7 _ (by omega), g 7 _ (by omega)⟩) (fun j => g 8 j (by omega)) (fun j => g 10 j (by omega)) (fun i hi => ?_) (fun e he => ?_) (fun k hk => ?_)
  · rw [f _ _ (by omega), g 7 _ (by omega)]; exact h.2.2.2.2.1 i hi
  · rw [f _ _ (by omega), g 0 _ (by omega)]; exact h.2.2.2.2.2.2.1 e he
  · rw [f _ _ (by omega), f _ _ (by omega), g 9 _ (by omega), g 9 _ (by omega)]; exact h.2.2.2.2.2.2.2 k hk
theorem fstep {s m : ba_St} {N np ne ns : Nat} {pc : Nat → Nat} (E : te_E 46 s m N np ne pc) (S : iS s m ns) {nu v : Nat} (hnu : nu < N) (h1 : 1 ≤ v) (h10 : v < 10) : ∃ (s1 s2 m2 m3 : ba_St) (x : Int32) (Hs : Nat → Nat → Nat), (x = nI 0 ∨ x = nI 1) ∧ xc_choose s 46 (nI 0) (nI nu) (nI v) = some s1 ∧ xc_run s1 46 = some s2 ∧ xc_agrees s2 46 12 = some x ∧ (∀ acc z k, xm_forcesOf_l16 (nI nu) z k (m, acc, nI v) = k (m3, (if x = nI 0 then acc else acc ||| ba_fishl 1 (nI v)), nI (v + 1))) ∧ te_E 46 s2 m3 N np ne pc ∧ iS s2 m3 ns ∧ fr wTr s s2 ∧ fr (wMs 0 nu) m m3 ∧ dH (s2.1 54) (m2.1 21) (m2.1 22) N 24 Hs ∧ (∀ t k, t < 24 → k < 12 → m3.1 24 (288 * v + (12 * t + k)) = wV N (Hs t) k) ∧ (∀ j, j < 288 * v → m3.1 24 j = m.1 24 j) := by
  have hN := E.1.1
  obtain ⟨s1, s2, m2, x, hx, c1, c2, c3, c4, E2, S2, hres, F2, M2, w2⟩ := agg E S (th := 0) (nu := nu) (v := v) (by omega) hnu (by unfold lo; simpa using h1) (by unfold hiC; simpa using h10)
  have c4' : xm_isSeen (ba_w m 9 (2 * nu + 1) (nI v)) = some (x, m2) := c4
  obtain ⟨np', P, Hs, D, -, -, -, e10⟩ := hres
  have H : dH (s2.1 54) (m2.1 21) (m2.1 22) N 24 Hs := D.2.2.2.2.2.2.2.2.1
  obtain ⟨acc0, -⟩ : ∃ a : Int32, a = 0 := ⟨0, rfl⟩
  have wy : ∀ z1 z2 z3, ∃ m3, ba_fix (xm_forcesOf_l56 z1 z2 z3 (nI v)) 1000 (m2, 0) = some m3 ∧ (∀ j, j < 288 → m3.1 24 (288 * v + j) = wyV m2 N j) ∧ fr (wWy v) m2 m3 := fun z1 z2 z3 => pm_ways hN e10 h10 z1 z2 z3
  obtain ⟨m3, d1, d2, d3⟩ := wy 0 0 0
  have d1' : ∀ z1 z2 z3, ba_fix (xm_forcesOf_l56 z1 z2 z3 (nI v)) 1000 (m2, 0) = some m3 := fun _ _ _ => d1
  have e : 2 * nI nu + 1 = nI (2 * nu + 1) := by rw [pz_lit 2, pz_lit 1, pk_mul, nI_add]
  have i1 : ba_inb (nI (2 * nu + 1)) 24 = true := pz_inb (by omega) (by omega)
  have x1 : ba_ix (nI (2 * nu + 1)) = 2 * nu + 1 := pz_ix (by omega)
  refine ⟨s1, s2, m2, m3, x, Hs, hx, c1, c2, c3, fun acc z k => ?_, E2.same (by omega) (fun _ _ _ => rfl) (fun p j hp => d3.2 p j (by unfold wWy; omega)), S2.mv (fun _ _ _ => rfl) (fun j => d3.2 23 j (by unfold wWy; omega)) (d3.2 0 29 (by unfold wWy; omega)), F2, M2.tr (d3.mono (fun p j w => Or.inl (by unfold wWy at w; unfold wL; omega))), H, fun t k ht hk => ?_, fun j hj => ?_⟩
  · have l : ¬ 10 ≤ v := by omega
    unfold xm_forcesOf_l16 xm_forcesOf_j51_16
    rw [show (10 : Int32) = nI 10 from rfl]
    rcases hx with rfl | rfl
    · simp (disch := omega) only [pz_le, l, if_false, e, i1, x1, pz_grt, pz_lt, c4', pz_bn2, z00, if_true, Int32.or_zero, d1', pz_bnd, pz_succ]
    · have q : ¬ nI 1 = nI 0 := z1n0
      simp (disch := omega) only [pz_le, l, if_false, e, i1, x1, pz_grt, pz_lt, c4', pz_bn2, z1n0, q, d1', pz_bnd, pz_succ]
  · rw [d2 (12 * t + k) (by omega)]
    unfold wyV wV
    rw [show (12 * t + k) % 12 = k by omega]
    by_cases hk' : N ≤ k
    · rw [if_pos hk', if_pos hk']
    · rw [if_neg hk', if_neg hk', (H.1 t ht k (by omega)).2.2.1, (H.1 t ht k (by omega)).2.2.2]
  · rw [d3.2 24 j (by unfold wWy; omega), w2]
theorem forces {s m : ba_St} {N np ne ns : Nat} {pc : Nat → Nat} (K : kT s m N np ne pc) (S : iS s m ns) {nu : Nat} (hnu : nu < N) : ∃ s' m' v, xb_agreeing s 0 (nI nu) = some (v, s') ∧ xm_forcesOf m (nI nu) = some (v, m') ∧ fr wTr s s' ∧ fr wL m m' := by
  have hN := K.1.1
  obtain ⟨s1, t1, E1, S1, F1⟩ := takes46 K S
  have e : 2 * nI nu + 1 = nI (2 * nu + 1) := by rw [pz_lit 2, pz_lit 1, pk_mul, nI_add]
  have h1 : ba_inb (nI (2 * nu + 1)) 24 = true := pz_inb (by omega) (by omega)
  have h2 : ba_ix (nI (2 * nu + 1)) = 2 * nu + 1 := pz_ix (by omega)
  have i3 : ba_inb (nI 0) 3 = true := by decide
  have tv : ba_tv [9, 23, 3] (nI 0) = nI 9 := by decide
  have tv0 : ba_tv [1, 0, 0] (nI 0) = nI 1 := by decide
  have main : ∃ o u, (∃ s' m' v, o = (s', v) ∧ u = (m', v) ∧ fr wTr s s' ∧ fr (wMs 0 nu) m m') ∧ ba_fix (xb_agreeing_l16 (nI 0) (nI nu)) 1000 (s1, 0, nI 1) = some o ∧ ba_fix (xm_forcesOf_l16 (nI nu) (m.1 9 (2 * nu + 1))) 1000 (m, 0, nI 1) = some u := by
    refine pf_two (F := xb_agreeing_l16 (nI 0) (nI nu)) (E := xm_forcesOf_l16 (nI nu) (m.1 9 (2 * nu + 1)))
      (fun i a b => ∃ sa mb v, a = (sa, v, nI (i + 1)) ∧ b = (mb, v, nI (i + 1)) ∧ te_E 46 sa mb N np ne pc ∧ iS sa mb ns ∧ fr wTr s sa ∧ fr (wMs 0 nu) m mb)
      (fun o u => ∃ s' m' v, o = (s', v) ∧ u = (m', v) ∧ fr wTr s s' ∧ fr (wMs 0 nu) m m') 9 ?_ ?_ 1000 1000 0 _ _ (by omega) (by omega) (by omega) ⟨s1, m, 0, rfl, rfl, E1, S1, F1, fr.rf _ _⟩
    · rintro i a b hi ⟨sa, mb, v, rfl, rfl, Ea, Sa, Fa, Ma⟩
      obtain ⟨s3, s2, m2, m3, x, Hs, hx, c1, c2, c3, c4, E2, S2, F2, M2, -⟩ := fstep Ea Sa (nu := nu) (v := i + 1) hnu (by omega) (by omega)
      have l : ¬ 9 < i + 1 := by omega
      refine ⟨(s2, (if x = nI 0 then v else v ||| ba_fishl 1 (nI (i + 1))), nI (i + 1 + 1)), _, ⟨s2, m3, _, rfl, rfl, E2, S2, Fa.tr F2, Ma.tr M2⟩, fun k => ?_, fun k => c4 v _ k⟩
      unfold xb_agreeing_l16
      rcases hx with rfl | rfl
      · simp (disch := omega) only [i3, pz_grt, tv, pz_ltN, l, if_false, c1, c2, c3, pz_bnd, z00, if_true, pz_succ, pz_lt]
      · have q : ¬ nI 1 = nI 0 := z1n0
        simp (disch := omega) only [i3, pz_grt, tv, pz_ltN, l, if_false, c1, c2, c3, pz_bnd, z1n0, q, pz_succ, pz_lt]
    · rintro a b ⟨sa, mb, v, rfl, rfl, Ea, Sa, Fa, Ma⟩
      refine ⟨(sa, v), (mb, v), ⟨sa, mb, v, rfl, rfl, Fa, Ma⟩, fun k => ?_, fun k => ?_⟩
      · have l : 9 < 9 + 1 := by omega
        unfold xb_agreeing_l16
        simp (disch := omega) only [i3, pz_grt, tv, pz_ltN, l, if_true]
      · unfold xm_forcesOf_l16
        rw [show (10 : Int32) = nI 10 from rfl]
        simp only [show 9 + 1 = 10 from rfl, Int32.le_refl, if_true]
  obtain ⟨o, u, ⟨s', m', v, rfl, rfl, a1, a2⟩, d1, d2⟩ := main
  refine ⟨s', ba_w m' 9 (2 * nu + 1) (m.1 9 (2 * nu + 1)), v, ?_, ?_, a1, fr_back a2⟩
  · unfold xb_agreeing
    rw [show xc_takeTold s 46 = some s1 from t1, pz_bnd]
    show ba_grd (ba_inb (nI 0) 3) (ba_lt (ba_tv [1, 0, 0] (nI 0)) fun x350 => ba_bnd (ba_fix (xb_agreeing_l16 (nI 0) (nI nu)) 1000 (s1, 0, x350)) _) = _
    rw [i3, pz_grt, tv0, pz_lt, d1]; rfl
  · unfold xm_forcesOf
    have d2' : ba_fix (xm_forcesOf_l16 (nI nu) (m.1 9 (2 * nu + 1))) 1000 (m, 0, 1) = some (m', v) := d2
    simp only [e, h1, h2, pz_grt, pz_lt, d2', pz_bnd]
/-! writing the marks of a run -/
theorem pwl_1 (s : ba_St) (p j : Nat) (v : Int64) : (ba_wl s p j v).1 = s.1 := rfl
theorem pwl (s : ba_St) (p j q i : Nat) (v : Int64) : (ba_wl s p j v).2 q i = if q = p ∧ i = j then v else s.2 q i := rfl
theorem pb_marks {s : ba_St} {q : Nat} (hq : q < 9) {A B : Nat → Int64} (hA : ∀ s' : ba_St, s'.1 = s.1 → ∀ t, t < 24 → xc_mark s' 46 (nI t) (nI 0) = some (A t) ∧ xc_mark s' 46 (nI t) (nI 6) = some (B t)) (z1 z3 : Int32) : ∃ s', ba_fix (xb_markForces_l51 z1 (nI q) z3) 1000 (s, 0) = some s' ∧ s'.1 = s.1 ∧ (∀ t, t < 24 → s'.2 16 (2 * (q * 24 + t)) = A t ∧ s'.2 16 (2 * (q * 24 + t) + 1) = B t) ∧ (∀ p j, p ≠ 16 ∨ j < 2 * (q * 24) → s'.2 p j = s.2 p j) := by
  obtain ⟨o, po, d⟩ := pf_one (F := xb_markForces_l51 z1 (nI q) z3) (fun i a => ∃ s1, a = (s1, nI i) ∧ s1.1 = s.1 ∧ (∀ t, t < i → s1.2 16 (2 * (q * 24 + t)) = A t ∧ s1.2 16 (2 * (q * 24 + t) + 1) = B t) ∧ (∀ p j, p ≠ 16 ∨ j < 2 * (q * 24) → s1.2 p j = s.2 p j)) (fun o => o.1 = s.1 ∧ (∀ t, t < 24 → o.2 16 (2 * (q * 24 + t)) = A t ∧ o.2 16 (2 * (q * 24 + t) + 1) = B t) ∧ (∀ p j, p ≠ 16 ∨ j < 2 * (q * 24) → o.2 p j = s.2 p j)) 24
    (fun i a hi hI => by
      obtain ⟨s1, rfl, a1, a2, a3⟩ := hI
      obtain ⟨s2, hs2⟩ : ∃ s2, s2 = ba_wl s1 16 (2 * (q * 24 + i)) (A i) := ⟨_, rfl⟩
      refine ⟨(ba_wl s2 16 (2 * (q * 24 + i) + 1) (B i), nI (i + 1)), ⟨_, rfl, by rw [hs2]; exact a1, fun t ht => ?_, fun p j h => ?_⟩, fun k => ?_⟩
      · rw [pwl, pwl]
        by_cases h : t = i
        · rw [if_neg (by omega), if_pos ⟨rfl, by omega⟩, hs2, pwl, if_pos ⟨rfl, by omega⟩, h]; exact ⟨rfl, rfl⟩
        · rw [if_neg (by omega), if_neg (by omega), hs2, pwl, if_neg (by omega), pwl, if_neg (by omega)]; exact a2 t (by omega)
      · rw [pwl, if_neg (by omega), hs2, pwl, if_neg (by omega)]; exact a3 p j h
      · have l : ¬ 24 ≤ i := by omega
        have ex : 2 * (nI q * 24 + nI i) = nI (2 * (q * 24 + i)) := by rw [pz_lit 24, pz_lit 2, pk_mul, nI_add, pk_mul]
        have i1 : ba_inb (nI (2 * (q * 24 + i))) 432 = true := pz_inb (by omega) (by omega)
        have x1 : ba_ix (nI (2 * (q * 24 + i))) = 2 * (q * 24 + i) := pz_ix (by omega)
        have i2 : ba_inb (nI (2 * (q * 24 + i) + 1)) 432 = true := pz_inb (by omega) (by omega)
        have x2 : ba_ix (nI (2 * (q * 24 + i) + 1)) = 2 * (q * 24 + i) + 1 := pz_ix (by omega)
        have y1 : xc_mark s1 46 (nI i) 0 = some (A i) := (hA s1 a1 i hi).1
        have y2 : xc_mark s2 46 (nI i) 6 = some (B i) := (hA s2 (by rw [hs2]; exact a1) i hi).2
        have l' : ¬ (24 : Int32) ≤ nI i := by rw [show (24 : Int32) = nI 24 from rfl, pz_le (by omega) (by omega)]; exact l
        unfold xb_markForces_l51
        simp (disch := omega) only [l', if_false, y1, pz_bnd, ex, i1, x1, pz_grt, pz_lt, ← hs2, y2, pz_succ, i2, x2])
    (fun a hI => by
      obtain ⟨s1, rfl, a1, a2, a3⟩ := hI
      refine ⟨s1, ⟨a1, a2, a3⟩, fun k => ?_⟩
      have l' : (24 : Int32) ≤ nI 24 := Int32.le_refl _
      unfold xb_markForces_l51
      simp only [l', if_true]) 1000 0 (s, 0) (by omega) (by omega) ⟨s, rfl, rfl, fun t ht => by omega, fun _ _ _ => rfl⟩
  exact ⟨o, d, po.1, po.2.1, po.2.2⟩
