/-! ===== ask: the runs that agree ===== -/
def rk (acc : Int32) : Nat → Nat
  | 0 => 0
  | i + 1 => rk acc i + if bt acc (i + 1) = true then 1 else 0
theorem rk_le (acc : Int32) : ∀ i, rk acc i ≤ i := by
  intro i
  induction i with
  | zero => exact Nat.le_refl _
  | succ i ih => show rk acc i + (if bt acc (i + 1) = true then 1 else 0) ≤ i + 1; split <;> omega
theorem rk_mono (acc : Int32) {i : Nat} : ∀ d, rk acc i ≤ rk acc (i + d) := by
  intro d
  induction d with
  | zero => exact Nat.le_refl _
  | succ d ih => exact Nat.le_trans ih (Nat.le_add_right _ _)
theorem rk_lt {acc : Int32} {v i : Nat} (h : v < i) (hb : bt acc (v + 1) = true) : rk acc v < rk acc i := by
  have h1 : rk acc (v + 1) = rk acc v + 1 := by show rk acc v + (if bt acc (v + 1) = true then 1 else 0) = _; rw [if_pos hb]
  have h2 := rk_mono acc (i := v + 1) (i - (v + 1))
  rw [show v + 1 + (i - (v + 1)) = i by omega] at h2
  omega
theorem rk_same {a b : Int32} : ∀ i, (∀ v, 1 ≤ v → v ≤ i → bt a v = bt b v) → rk a i = rk b i := by
  intro i
  induction i with
  | zero => intro _; rfl
  | succ i ih =>
    intro h
    show rk a i + (if bt a (i + 1) = true then 1 else 0) = rk b i + (if bt b (i + 1) = true then 1 else 0)
    rw [ih (fun v h1 h2 => h v h1 (by omega)), h (i + 1) (by omega) (by omega)]
def aI (N i : Nat) (sa mb : ba_St) (r : Nat) (acc : Int32) (Hv : Nat → Nat → Nat → Nat) : Prop :=
  r = rk acc i ∧ (∀ v, i < v → v < 32 → bt acc v = false) ∧
  (∀ v, 1 ≤ v → v ≤ i → (∀ t k, t < 24 → k < N → Hv v t k ≤ 90) ∧ ∀ t k, t < 24 → k < 12 → mb.1 24 (288 * v + (12 * t + k)) = wV N (Hv v t) k) ∧
  (∀ v, v < i → bt acc (v + 1) = true → ∀ t, t < 24 → sa.2 16 (2 * (rk acc v * 24 + t)) = mkF (xP N (Hv (v + 1) t)) 0 6 ∧ sa.2 16 (2 * (rk acc v * 24 + t) + 1) = mkF (xP N (Hv (v + 1) t)) 6 6)
def fr1 (W : Nat → Nat → Prop) (s s' : ba_St) : Prop := ∀ p j, ¬ W p j → s'.1 p j = s.1 p j
theorem marks {s m : ba_St} {N np ne ns : Nat} {pc : Nat → Nat} (K : kT s m N np ne pc) (S : iS s m ns) {nu : Nat} (hnu : nu < N) : ∃ s' m' r acc Hv, xb_markForces s (nI nu) = some (nI r, s') ∧ xm_forcesOf m (nI nu) = some (acc, m') ∧ fr1 wTr s s' ∧ fr wL m m' ∧ aI N 9 s' m' r acc Hv := by
  have hN := K.1.1
  obtain ⟨s1, t1, E1, S1, F1⟩ := takes46 K S
  have e : 2 * nI nu + 1 = nI (2 * nu + 1) := by rw [pz_lit 2, pz_lit 1, pk_mul, nI_add]
  have h1 : ba_inb (nI (2 * nu + 1)) 24 = true := pz_inb (by omega) (by omega)
  have h2 : ba_ix (nI (2 * nu + 1)) = 2 * nu + 1 := pz_ix (by omega)
  have main : ∃ o u, (∃ s' m' r acc Hv, o = (s', nI r) ∧ u = (m', acc) ∧ fr1 wTr s s' ∧ fr (wMs 0 nu) m m' ∧ aI N 9 s' m' r acc Hv) ∧ ba_fix (xb_markForces_l11 (nI nu)) 1000 (s1, 0, nI 1) = some o ∧ ba_fix (xm_forcesOf_l16 (nI nu) (m.1 9 (2 * nu + 1))) 1000 (m, 0, nI 1) = some u := by
    refine pf_two (F := xb_markForces_l11 (nI nu)) (E := xm_forcesOf_l16 (nI nu) (m.1 9 (2 * nu + 1)))
      (fun i a b => ∃ sa mb r acc Hv, a = (sa, nI r, nI (i + 1)) ∧ b = (mb, acc, nI (i + 1)) ∧ te_E 46 sa mb N np ne pc ∧ iS sa mb ns ∧ fr1 wTr s sa ∧ fr (wMs 0 nu) m mb ∧ aI N i sa mb r acc Hv)
      (fun o u => ∃ s' m' r acc Hv, o = (s', nI r) ∧ u = (m', acc) ∧ fr1 wTr s s' ∧ fr (wMs 0 nu) m m' ∧ aI N 9 s' m' r acc Hv) 9 ?_ ?_ 1000 1000 0 _ _ (by omega) (by omega) (by omega) ⟨s1, m, 0, 0, fun _ _ _ => 0, rfl, rfl, E1, S1, F1.2, fr.rf _ _, rfl, fun v _ _ => b_0 v, fun v q1 q2 => by omega, fun v hv => by omega⟩
    · rintro i a b hi ⟨sa, mb, r, acc, Hv, rfl, rfl, Ea, Sa, Fa, Ma, hr, A1, A2, A3⟩
      obtain ⟨s3, s2, m2, m3, x, Hs, hx, c1, c2, c3, c4, E2, S2, F2, M2, H, W1, W2⟩ := fstep Ea Sa (nu := nu) (v := i + 1) hnu (by omega) (by omega)
      have hri : r ≤ i := by rw [hr]; exact rk_le acc i
      have l : ¬ (9 : Int32) < nI (i + 1) := by rw [show (9 : Int32) = nI 9 from rfl, pz_ltN (by omega) (by omega)]; omega
      have FF : fr1 wTr s s2 := fun p j w => (F2.2 p j w).trans (Fa p j w)
      obtain ⟨Hn, hHn⟩ : ∃ Hn : Nat → Nat → Nat → Nat, Hn = fun v => if v = i + 1 then Hs else Hv v := ⟨_, rfl⟩
      have hnew : Hn (i + 1) = Hs := by rw [hHn]; exact if_pos rfl
      have hold : ∀ v, v ≠ i + 1 → Hn v = Hv v := fun v hv => by rw [hHn]; exact if_neg hv
      have B2 : ∀ v, 1 ≤ v → v ≤ i + 1 → (∀ t k, t < 24 → k < N → Hn v t k ≤ 90) ∧ ∀ t k, t < 24 → k < 12 → m3.1 24 (288 * v + (12 * t + k)) = wV N (Hn v t) k := by
        intro v q1 q2
        by_cases hv : v = i + 1
        · subst hv; rw [hnew]
          exact ⟨fun t k ht hk => (H.1 t ht k hk).1, W1⟩
        · rw [hold v hv]
          obtain ⟨u1, u2⟩ := A2 v q1 (by omega)
          exact ⟨u1, fun t k ht hk => by rw [W2 _ (by omega)]; exact u2 t k ht hk⟩
      rcases hx with rfl | rfl
      · refine ⟨(s2, nI r, nI (i + 1 + 1)), (m3, acc, nI (i + 1 + 1)), ⟨s2, m3, r, acc, Hn, rfl, rfl, E2, S2, FF, Ma.tr M2, ?_, fun v q1 q2 => A1 v (by omega) q2, B2, fun v hv hb t ht => ?_⟩, fun k => ?_, fun k => by rw [c4, if_pos rfl]⟩
        · show r = rk acc i + (if bt acc (i + 1) = true then 1 else 0)
          rw [A1 (i + 1) (by omega) (by omega), hr]; simp
        · have hvi : v < i := by
            rcases Nat.lt_or_ge v i with q | q
            · exact q
            · rw [show v + 1 = i + 1 by omega, A1 (i + 1) (by omega) (by omega)] at hb; exact absurd hb (by decide)
          rw [F2.1, hold (v + 1) (by omega)]; exact A3 v hvi hb t ht
        · unfold xb_markForces_l11
          rw [show (0 : Int32) = nI 0 from rfl]
          simp (disch := omega) only [l, if_false, c1, c2, c3, pz_bnd, if_true, pz_succ, pz_lt]
      · obtain ⟨s4, f1, f2, f3, f4⟩ := pb_marks (s := s2) (q := r) (by omega) (A := fun t => mkF (xP N (Hs t)) 0 6) (B := fun t => mkF (xP N (Hs t)) 6 6) (fun s' hs' t ht => by
          have H' : dH (s'.1 54) (m2.1 21) (m2.1 22) N 24 Hs := by rw [hs']; exact H
          exact ⟨pc_mark hN H' ht (Or.inl rfl), pc_mark hN H' ht (Or.inr rfl)⟩) (nI nu) (nI (i + 1))
        obtain ⟨acc', hacc⟩ : ∃ acc', acc' = acc ||| ba_fishl 1 (nI (i + 1)) := ⟨_, rfl⟩
        have bta : ∀ v, v < 32 → bt acc' v = (bt acc v || decide (v = i + 1)) := fun v hv => by rw [hacc]; exact bt_set (by omega) hv
        have rs : ∀ j, j ≤ i → rk acc' j = rk acc j := fun j hj => rk_same j (fun v q1 q2 => by rw [bta v (by omega), decide_eq_false (by omega), Bool.or_false])
        refine ⟨(s4, nI (r + 1), nI (i + 1 + 1)), (m3, acc', nI (i + 1 + 1)), ⟨s4, m3, r + 1, acc', Hn, rfl, rfl, E2.same (by omega) (fun p j _ => by rw [f2]) (fun _ _ _ => rfl), S2.mv (fun p j _ => by rw [f2]) (fun _ => rfl) rfl, fun p j w => by rw [f2]; exact FF p j w, Ma.tr M2, ?_, fun v q1 q2 => ?_, B2, fun v hv hb t ht => ?_⟩, fun k => ?_, fun k => by rw [c4, if_neg (show ¬ nI 1 = nI 0 from z1n0), hacc]⟩
        · show r + 1 = rk acc' i + (if bt acc' (i + 1) = true then 1 else 0)
          rw [rs i (Nat.le_refl _), bta (i + 1) (by omega), decide_eq_true rfl, Bool.or_true, if_pos rfl, hr]
        · rw [bta v q2, A1 v (by omega) q2, decide_eq_false (by omega)]; rfl
        · by_cases hvi : v = i
          · subst hvi
            rw [rs v (Nat.le_refl _), ← hr, hnew]; exact f3 t ht
          · have hb' : bt acc (v + 1) = true := by rw [bta (v + 1) (by omega), decide_eq_false (by omega), Bool.or_false] at hb; exact hb
            have hlt := rk_lt (acc := acc) (v := v) (i := i) (by omega) hb'
            rw [rs v (by omega), hold (v + 1) (by omega), f4 16 _ (Or.inr (by omega)), f4 16 _ (Or.inr (by omega)), F2.1]
            exact A3 v (by omega) hb' t ht
        · unfold xb_markForces_l11
          have q : ¬ nI 1 = nI 0 := z1n0
          have f1' : ba_fix (xb_markForces_l51 (nI nu) (nI r) (nI (i + 1))) 1000 (s2, nI 0) = some s4 := f1
          rw [show (0 : Int32) = nI 0 from rfl]
          simp (disch := omega) only [l, if_false, c1, c2, c3, pz_bnd, q, f1', pz_succ, pz_lt]
    · rintro a b ⟨sa, mb, r, acc, Hv, rfl, rfl, Ea, Sa, Fa, Ma, A⟩
      refine ⟨(sa, nI r), (mb, acc), ⟨sa, mb, r, acc, Hv, rfl, rfl, Fa, Ma, A⟩, fun k => ?_, fun k => ?_⟩
      · have l : (9 : Int32) < nI (9 + 1) := by decide
        unfold xb_markForces_l11
        simp only [l, if_true]
      · unfold xm_forcesOf_l16
        rw [show (10 : Int32) = nI 10 from rfl]
        simp only [show 9 + 1 = 10 from rfl, Int32.le_refl, if_true]
  obtain ⟨o, u, ⟨s', m', r, acc, Hv, rfl, rfl, a1, a2, a3⟩, d1, d2⟩ := main
  refine ⟨s', ba_w m' 9 (2 * nu + 1) (m.1 9 (2 * nu + 1)), r, acc, Hv, ?_, ?_, a1, fr_back a2, a3⟩
  · unfold xb_markForces
    have d1' : ba_fix (xb_markForces_l11 (nI nu)) 1000 (s1, 0, 1) = some (s', nI r) := d1
    rw [t1, pz_bnd, d1']; rfl
  · unfold xm_forcesOf
    have d2' : ba_fix (xm_forcesOf_l16 (nI nu) (m.1 9 (2 * nu + 1))) 1000 (m, 0, 1) = some (m', acc) := d2
    simp only [e, h1, h2, pz_grt, pz_lt, d2', pz_bnd]
