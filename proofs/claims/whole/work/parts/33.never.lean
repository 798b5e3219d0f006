/-! ===== never, forces, kind ===== -/
theorem pw_o (m : ba_St) (p j : Nat) (a b : Int32) : ba_w (ba_w m p j a) p j b = ba_w m p j b := by
  refine Prod.ext (funext fun q => funext fun i => ?_) rfl
  show (ba_w (ba_w m p j a) p j b).1 q i = (ba_w m p j b).1 q i
  rw [pw, pw, pw]
  split <;> rfl
theorem iS.mv {s m s' m' : ba_St} {ns : Nat} (h : iS s m ns) (f : ∀ p j, p = 12 ∨ p = 13 → s'.1 p j = s.1 p j) (g : ∀ j, m'.1 23 j = m.1 23 j) (g0 : m'.1 0 29 = m.1 0 29) : iS s' m' ns := by
  obtain ⟨h1, h2, h3, h4⟩ := h
  refine ⟨h1, by rw [f 12 1 (Or.inl rfl)]; exact h2, by rw [g0]; exact h3, fun e he => ?_⟩
  rw [f 13 _ (Or.inr rfl), f 13 _ (Or.inr rfl), f 13 _ (Or.inr rfl), f 13 _ (Or.inr rfl), g, g, g, g]
  exact h4 e he
theorem never {s m : ba_St} {N np ne ns : Nat} {pc : Nat → Nat} (K : kT s m N np ne pc) (S : iS s m ns) : ∃ s' m' v, xb_never s = some (v, s') ∧ xm_neverNow m = some (v, m') ∧ fr wTr s s' ∧ fr wL m m' := by
  obtain ⟨s1, t1, t2, t3, t4, t5⟩ := pc_takeTold s (b := 46) (by omega)
  have F1 : fr wTr s s1 := t2.mono (fun p j w => by unfold wTT at w; unfold wTr; omega)
  have f1 : ∀ p j, p < 46 → s1.1 p j = s.1 p j := fun p j hp => t2.2 p j (by unfold wTT; omega)
  have T1 : tk 46 s1 := ⟨fun j hj => by rw [f1 5 j (by omega), f1 8 j (by omega), f1 9 j (by omega)]; exact t3 j hj, by rw [t4, f1 3 7 (by omega)]⟩
  have wr : ∀ p j, wTr p j → wRun p j := fun p j w => by unfold wTr at w; unfold wRun; omega
  have K1 : kT s1 m N np ne pc := K.mv (F1.mono wr) (fr.rf wL m)
  obtain ⟨p1, p2⟩ := po_all K
  have ne8 := K.1.2.2.1
  have g15 : m.1 0 15 = nI 0 := K.2.2.2.2.2.2.1
  have m00 : fr wL m (ba_w m 0 15 0) := ⟨rfl, fun p j _ => by
    rw [pw]; split
    · rename_i h; rw [h.1, h.2, g15]; rfl
    · rfl⟩
  obtain ⟨o, u, ⟨s', m', v, rfl, rfl, a1, a2⟩, d1, d2⟩ := pf_two (F := xb_never_l19 (ba_fishl 1 (s.1 10 1) - 1)) (E := xm_neverNow_l4)
    (fun i a b => ∃ sa mb v, a = (sa, v, nI i) ∧ b = (mb, v, nI i) ∧ kT sa (ba_w mb 0 15 0) N np ne pc ∧ tk 46 sa ∧ iS sa mb ns ∧ fr wTr s sa ∧ fr wL m (ba_w mb 0 15 0))
    (fun o u => ∃ s' m' v, o = (s', v) ∧ u = (m', v) ∧ fr wTr s s' ∧ fr wL m (ba_w m' 0 15 0)) ne
    (fun i a b hi hI => by
      obtain ⟨sa, mb, v, rfl, rfl, Ka, Ta, Sa, Fa, Ma⟩ := hI
      obtain ⟨s2, m2, e1, e2, hres, K2, T2, F2, M2, y1, y2, y3, y4, y5⟩ := go_mask Ka Ta (x := (ba_fishl 1 (s.1 10 1) - 1) &&& (ba_fishl 1 (nI i) ^^^ (-1))) (y := ba_fishl 1 (nI i)) (fun e he => by
        rw [bt_clr (by omega) (by omega), p2 e (by omega), bt_shl1 (by omega) (by omega)]; simp [he])
      rw [pw_o] at e2
      have S2 : iS s2 m2 ns := Sa.mv (fun p j hp => F2.2 p j (by unfold wTr; omega)) (fun j => by rw [y4 23 (by omega), pw_p _ _ _ _ (by omega)]) (by rw [y5 29 (by omega) (by omega), pw_i _ _ _ (by omega)])
      obtain ⟨x, hx, x1, x2⟩ := agr hres S2
      have x2' := x2 _ e2
      have l : ¬ ne ≤ i := by omega
      have en : sa.1 10 1 = nI ne := Ka.1.2.2.2.2.2.2.2.1
      have em : mb.1 0 13 = nI ne := by have := Ka.1.2.2.2.2.2.2.2.2; rw [pw_i _ _ _ (by omega)] at this; exact this
      rcases hx with rfl | rfl
      · refine ⟨(s2, v, nI (i + 1)), (m2, v, nI (i + 1)), ⟨s2, m2, v, rfl, rfl, K2, T2, S2, Fa.tr F2, Ma.tr M2⟩, fun k => ?_, fun k => ?_⟩
        · unfold xb_never_l19
          simp (disch := omega) only [en, pz_le, l, if_false, pz_lt, e1, pz_bnd, x1, z00, if_true, pz_succ]
        · unfold xm_neverNow_l4 xm_neverNow_j34_4
          simp (disch := omega) only [em, pz_le, l, if_false, pz_lt, x2', pz_bn2, z00, if_true, pz_succ, Int32.or_zero]
      · refine ⟨(s2, v ||| ba_fishl 1 (nI i), nI (i + 1)), (m2, v ||| ba_fishl 1 (nI i), nI (i + 1)), ⟨s2, m2, _, rfl, rfl, K2, T2, S2, Fa.tr F2, Ma.tr M2⟩, fun k => ?_, fun k => ?_⟩
        · unfold xb_never_l19
          simp (disch := omega) only [en, pz_le, l, if_false, pz_lt, e1, pz_bnd, x1, z1n0, pz_succ]
        · unfold xm_neverNow_l4 xm_neverNow_j34_4
          simp (disch := omega) only [em, pz_le, l, if_false, pz_lt, x2', pz_bn2, z1n0, pz_succ])
    (fun a b hI => by
      obtain ⟨sa, mb, v, rfl, rfl, Ka, Ta, Sa, Fa, Ma⟩ := hI
      have en : sa.1 10 1 = nI ne := Ka.1.2.2.2.2.2.2.2.1
      have em : mb.1 0 13 = nI ne := by have := Ka.1.2.2.2.2.2.2.2.2; rw [pw_i _ _ _ (by omega)] at this; exact this
      refine ⟨(sa, v), (mb, v), ⟨sa, mb, v, rfl, rfl, Fa, Ma⟩, fun k => ?_, fun k => ?_⟩
      · unfold xb_never_l19; simp only [en, Int32.le_refl, if_true]
      · unfold xm_neverNow_l4; simp only [em, Int32.le_refl, if_true]) 1000 1000 0 (s1, 0, 0) (m, 0, 0) (by omega) (by omega) (by omega)
    ⟨s1, m, 0, rfl, rfl, K1.mv (fr.rf wRun s1) m00, T1, S.mv (fun p j hp => f1 p j (by omega)) (fun _ => rfl) rfl, F1, m00⟩
  refine ⟨s', ba_w m' 0 15 0, v, ?_, ?_, a1, a2⟩
  · unfold xb_never
    simp only [t1, pz_bnd, pz_lt, t5, d1]
  · unfold xm_neverNow
    simp only [d2, pz_bnd, pz_lt]
