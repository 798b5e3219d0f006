/-! ===== one thing chosen otherwise: do the sights agree ===== -/
theorem agg {s m : ba_St} {N np ne ns : Nat} {pc : Nat → Nat} (E : te_E 46 s m N np ne pc) (S : iS s m ns) {th nu v : Nat} (hth : th < 3) (hnu : nu < bnd3 th N np) (hl : lo th ≤ v) (hh : v < hiC th) : ∃ s1 s2 m2 x, (x = nI 0 ∨ x = nI 1) ∧ xc_choose s 46 (nI th) (nI nu) (nI v) = some s1 ∧ xc_run s1 46 = some s2 ∧ xc_agrees s2 46 12 = some x ∧ xm_isSeen (ba_w m (mp th) (mi th nu) (nI v)) = some (x, m2) ∧ te_E 46 s2 m2 N np ne pc ∧ iS s2 m2 ns ∧ res 46 s2 m2 N ∧ fr wTr s s2 ∧ fr (wMs th nu) m m2 ∧ m2.1 24 = m.1 24 := by
  have hN := E.1.1
  have hnp := E.1.2.1
  have hnu12 : nu < 12 := by unfold bnd3 at hnu; split at hnu <;> omega
  have hmp : mp th = 7 ∨ mp th = 9 := by unfold mp; split <;> omega
  have E2 := te_alt (b := 46) (by omega) E hth hnu hl hh
  obtain ⟨s2, m2, d1, d2, hres, hF, hM, E'⟩ := te_go (by omega) E2
  have S2 : iS s2 m2 ns := S.mv (fun p j hp => by rw [hF.2 p j (by omega) (by omega), pw_p _ _ _ _ (by omega)]) (fun j => by rw [hM.2 23 j (by omega) (by omega), pw_p _ _ _ _ (by omega)]) (by rw [hM.2 0 29 (by omega) (by omega), pw_p _ _ _ _ (by omega)])
  obtain ⟨x, hx, x1, x2⟩ := agr hres S2
  refine ⟨_, s2, m2, x, hx, pc_choose s 46 hth hnu12 _, d1, x1, x2 _ d2, E', S2, hres, ?_, ?_, ?_⟩
  · exact ((fr.rf wTr s).w (46 + 3 - th) nu _ (by unfold wTr; omega)).tr ⟨hF.1, fun p j w => hF.2 p j (by unfold wTr at w; omega) (by unfold wTr at w; omega)⟩
  · exact ((fr.rf (wMs th nu) m).w (mp th) (mi th nu) _ (Or.inr ⟨rfl, rfl⟩)).tr (hM.fr.mono (fun p j w => Or.inl w))
  · funext j
    rw [hM.2 24 j (by omega) (by omega), pw_p _ _ _ _ (by omega)]
/-- what a change and its taking back leave -/
theorem fr_back {m m1 : ba_St} {th nu : Nat} (h : fr (wMs th nu) m m1) : fr wL m (ba_w m1 (mp th) (mi th nu) (m.1 (mp th) (mi th nu))) := by
  refine ⟨by rw [pw_2]; exact h.1, fun p j w => ?_⟩
  rw [pw]
  split
  · rename_i q; rw [q.1, q.2]
  · rename_i q
    exact h.2 p j (fun z => z.elim w q)
theorem takes46 {s m : ba_St} {N np ne ns : Nat} {pc : Nat → Nat} (K : kT s m N np ne pc) (S : iS s m ns) : ∃ s1, xc_takeTold s 46 = some s1 ∧ te_E 46 s1 m N np ne pc ∧ iS s1 m ns ∧ fr wTr s s1 := by
  obtain ⟨s1, t1, t2, t3, t4, t5⟩ := pc_takeTold s (b := 46) (by omega)
  have f1 : ∀ p j, p < 46 → s1.1 p j = s.1 p j := fun p j hp => t2.2 p j (by unfold wTT; omega)
  exact ⟨s1, t1, te_told (by omega) K t2 t3 t4 t5, S.mv (fun p j hp => f1 p j (by omega)) (fun _ => rfl) rfl, t2.mono (fun p j w => by unfold wTT at w; unfold wTr; omega)⟩
theorem kinds {s m : ba_St} {N np ne ns : Nat} {pc : Nat → Nat} (K : kT s m N np ne pc) (S : iS s m ns) {nu : Nat} (hnu : nu < np) : ∃ s' m' v, xb_agreeing s 2 (nI nu) = some (v, s') ∧ xm_kindOf m (nI nu) = some (v, m') ∧ fr wTr s s' ∧ fr wL m m' := by
  have hnp := K.1.2.1
  obtain ⟨s1, t1, E1, S1, F1⟩ := takes46 K S
  have e : 3 * nI nu + 2 = nI (3 * nu + 2) := by rw [pz_lit 3, pz_lit 2, pk_mul, nI_add]
  have h1 : ba_inb (nI (3 * nu + 2)) 36 = true := pz_inb (by omega) (by omega)
  have h2 : ba_ix (nI (3 * nu + 2)) = 3 * nu + 2 := pz_ix (by omega)
  have i3 : ba_inb (nI 2) 3 = true := by decide
  have tv : ba_tv [9, 23, 3] (nI 2) = nI 3 := by decide
  have tv0 : ba_tv [1, 0, 0] (nI 2) = nI 0 := by decide
  have main : ∃ o u, (∃ s' m' v, o = (s', v) ∧ u = (m', v) ∧ fr wTr s s' ∧ fr (wMs 2 nu) m m') ∧ ba_fix (xb_agreeing_l16 (nI 2) (nI nu)) 1000 (s1, 0, nI 0) = some o ∧ ba_fix (xm_kindOf_l16 (nI nu) (m.1 7 (3 * nu + 2))) 1000 (m, 0, nI 0) = some u := by
    refine pf_two (F := xb_agreeing_l16 (nI 2) (nI nu)) (E := xm_kindOf_l16 (nI nu) (m.1 7 (3 * nu + 2)))
      (fun i a b => ∃ sa mb v, a = (sa, v, nI i) ∧ b = (mb, v, nI i) ∧ te_E 46 sa mb N np ne pc ∧ iS sa mb ns ∧ fr wTr s sa ∧ fr (wMs 2 nu) m mb)
      (fun o u => ∃ s' m' v, o = (s', v) ∧ u = (m', v) ∧ fr wTr s s' ∧ fr (wMs 2 nu) m m') 4 ?_ ?_ 1000 1000 0 _ _ (by omega) (by omega) (by omega) ⟨s1, m, 0, rfl, rfl, E1, S1, F1, fr.rf _ _⟩
    · rintro i a b hi ⟨sa, mb, v, rfl, rfl, Ea, Sa, Fa, Ma⟩
      obtain ⟨s3, s2, m2, x, hx, c1, c2, c3, c4, E2, S2, -, F2, M2, -⟩ := agg Ea Sa (th := 2) (nu := nu) (v := i) (by omega) hnu (by unfold lo; simp) (by unfold hiC; simp; omega)
      have c4' : xm_isSeen (ba_w mb 7 (3 * nu + 2) (nI i)) = some (x, m2) := c4
      have l : ¬ 3 < i := by omega
      have l4 : ¬ 4 ≤ i := by omega
      rcases hx with rfl | rfl
      · refine ⟨(s2, v, nI (i + 1)), (m2, v, nI (i + 1)), ⟨s2, m2, v, rfl, rfl, E2, S2, Fa.tr F2, Ma.tr M2⟩, fun k => ?_, fun k => ?_⟩
        · unfold xb_agreeing_l16
          simp (disch := omega) only [i3, pz_grt, tv, pz_ltN, l, if_false, c1, c2, c3, pz_bnd, z00, if_true, pz_succ, pz_lt]
        · unfold xm_kindOf_l16 xm_kindOf_j50_16
          rw [show (4 : Int32) = nI 4 from rfl]
          simp (disch := omega) only [pz_le, l4, if_false, e, h1, h2, pz_grt, pz_lt, c4', pz_bn2, z00, if_true, pz_succ, Int32.or_zero]
      · refine ⟨(s2, v ||| ba_fishl 1 (nI i), nI (i + 1)), (m2, v ||| ba_fishl 1 (nI i), nI (i + 1)), ⟨s2, m2, _, rfl, rfl, E2, S2, Fa.tr F2, Ma.tr M2⟩, fun k => ?_, fun k => ?_⟩
        · unfold xb_agreeing_l16
          simp (disch := omega) only [i3, pz_grt, tv, pz_ltN, l, if_false, c1, c2, c3, pz_bnd, z1n0, pz_succ, pz_lt]
        · unfold xm_kindOf_l16 xm_kindOf_j50_16
          rw [show (4 : Int32) = nI 4 from rfl]
          simp (disch := omega) only [pz_le, l4, if_false, e, h1, h2, pz_grt, pz_lt, c4', pz_bn2, z1n0, pz_succ]
    · rintro a b ⟨sa, mb, v, rfl, rfl, Ea, Sa, Fa, Ma⟩
      refine ⟨(sa, v), (mb, v), ⟨sa, mb, v, rfl, rfl, Fa, Ma⟩, fun k => ?_, fun k => ?_⟩
      · have l : 3 < 4 := by omega
        unfold xb_agreeing_l16
        simp (disch := omega) only [i3, pz_grt, tv, pz_ltN, l, if_true]
      · unfold xm_kindOf_l16
        rw [show (4 : Int32) = nI 4 from rfl]
        simp only [Int32.le_refl, if_true]
  obtain ⟨o, u, ⟨s', m', v, rfl, rfl, a1, a2⟩, d1, d2⟩ := main
  refine ⟨s', ba_w m' 7 (3 * nu + 2) (m.1 7 (3 * nu + 2)), v, ?_, ?_, a1, fr_back a2⟩
  · unfold xb_agreeing
    rw [show (2 : Int32) = nI 2 from rfl, t1, pz_bnd, i3, pz_grt, tv0, pz_lt, d1]; rfl
  · unfold xm_kindOf
    have d2' : ba_fix (xm_kindOf_l16 (nI nu) (m.1 7 (3 * nu + 2))) 1000 (m, 0, 0) = some (m', v) := d2
    simp only [e, h1, h2, pz_grt, pz_lt, d2', pz_bnd]
/-! the ways that the reference keeps -/
def wyV (m : ba_St) (N j : Nat) : Int32 := if N ≤ j % 12 then 0 else 10 * m.1 21 j + m.1 22 j
def wWy (v p q : Nat) : Prop := p = 24 ∧ 288 * v ≤ q ∧ q < 288 * v + 288
theorem pm_ways {m : ba_St} {N v : Nat} (hN : N ≤ 12) (h10 : m.1 0 10 = nI N) (hv : v < 10) (z1 z2 z3 : Int32) : ∃ m', ba_fix (xm_forcesOf_l56 z1 z2 z3 (nI v)) 1000 (m, 0) = some m' ∧ (∀ j, j < 288 → m'.1 24 (288 * v + j) = wyV m N j) ∧ fr (wWy v) m m' := by
  obtain ⟨o, ⟨a1, a2⟩, d⟩ := pf_one (F := xm_forcesOf_l56 z1 z2 z3 (nI v)) (fun i a => ∃ m1, a = (m1, nI i) ∧ fr (wWy v) m m1 ∧ ∀ j, j < i → m1.1 24 (288 * v + j) = wyV m N j) (fun o => fr (wWy v) m o ∧ ∀ j, j < 288 → o.1 24 (288 * v + j) = wyV m N j) 288
    (fun i a hi hI => by
      obtain ⟨m1, rfl, F, W⟩ := hI
      refine ⟨(ba_w m1 24 (288 * v + i) (wyV m N i), nI (i + 1)), ⟨_, rfl, F.w 24 _ _ (by unfold wWy; omega), fun j hj => ?_⟩, fun k => ?_⟩
      · rw [pw]
        by_cases h : j = i
        · rw [if_pos ⟨rfl, by omega⟩, h]
        · rw [if_neg (by omega)]; exact W j (by omega)
      · have g0 : m1.1 0 10 = nI N := by rw [F.2 0 10 (by unfold wWy; omega)]; exact h10
        have g1 : m1.1 21 i = m.1 21 i := F.2 21 i (by unfold wWy; omega)
        have g2 : m1.1 22 i = m.1 22 i := F.2 22 i (by unfold wWy; omega)
        have l : ¬ 288 ≤ i := by omega
        have r : ba_irm (nI i) (nI 12) = nI (i % 12) := pz_rem (by omega) (by omega) (by omega)
        have i1 : ba_inb (nI i) 288 = true := pz_inb hi (by omega)
        have x1 : ba_ix (nI i) = i := pz_ix (by omega)
        have q : nI 288 * nI v + nI i = nI (288 * v + i) := by rw [pk_mul, nI_add]
        have i2 : ba_inb (nI (288 * v + i)) 2880 = true := pz_inb (by omega) (by omega)
        have x2 : ba_ix (nI (288 * v + i)) = 288 * v + i := pz_ix (by omega)
        unfold xm_forcesOf_l56 xm_forcesOf_j111_56
        rw [show (288 : Int32) = nI 288 from rfl, show (12 : Int32) = nI 12 from rfl]
        simp (disch := omega) only [pz_le, l, if_false, g0, r, i1, x1, pz_grt, q, i2, x2, pz_lt, g1, g2, pz_succ]
        unfold wyV
        by_cases hk : N ≤ i % 12
        · rw [if_pos hk]; simp only [hk, if_true]
        · rw [if_neg hk]; simp only [hk, if_false])
    (fun a hI => by
      obtain ⟨m1, rfl, F, W⟩ := hI
      refine ⟨m1, ⟨F, W⟩, fun k => ?_⟩
      unfold xm_forcesOf_l56
      rw [show (288 : Int32) = nI 288 from rfl]
      simp only [Int32.le_refl, if_true]) 1000 0 (m, 0) (by omega) (by omega) ⟨m, rfl, fr.rf _ _, fun j hj => by omega⟩
  exact ⟨o, d, a2, a1⟩
