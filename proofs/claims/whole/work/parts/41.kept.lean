/-! ===== what is kept of searches ===== -/
def C2 (s : ba_St) : Prop := s.1 0 9 = pn ∨ ∃ th nu, th < 3 ∧ nu < 12 ∧ s.1 0 9 = nI (th * 12 + nu) ∧ ∀ m N np ne pc, kT s m N np ne pc → nu < bnd3 th N np → ∀ w, ∃ m', xsr th nu w m = some (if w = 0 then s.1 0 10 else s.1 0 11, m') ∧ fr wL m m'
theorem C2.mv {s s' : ba_St} (h : C2 s) (hF : fr1 wRun s s') (h9 : s'.1 0 9 = s.1 0 9) (h10 : s'.1 0 10 = s.1 0 10) (h11 : s'.1 0 11 = s.1 0 11) : C2 s' := by
  unfold C2
  rw [h9, h10, h11]
  rcases h with h | ⟨th, nu, a1, a2, a3, a4⟩
  · exact Or.inl h
  · refine Or.inr ⟨th, nu, a1, a2, a3, fun m N np ne pc K => a4 m N np ne pc ?_⟩
    exact kT.back (s' := (s'.1, s.2)) K ⟨rfl, hF⟩
theorem chosen {s m : ba_St} {N np ne : Nat} {pc : Nat → Nat} (K : kT s m N np ne pc) (C : C2 s) {th nu : Nat} (hth : th < 3) (hnu : nu < bnd3 th N np) (z : Int32) : ∃ s' m' v, xb_bestChoice s (nI th) (nI nu) z = some (v, s') ∧ xsr th nu z m = some (v, m') ∧ fr wCh s s' ∧ fr wL m m' ∧ C2 s' := by
  have hN := K.1.1
  have hnp := K.1.2.1
  have hnu12 : nu < 12 := by unfold bnd3 at hnu; split at hnu <;> omega
  by_cases h9 : s.1 0 9 = nI (th * 12 + nu)
  · rcases id C with h | ⟨th', nu', a1, a2, a3, a4⟩
    · rw [h] at h9; exact (pz_nopn (by omega) h9.symm).elim
    · rw [h9, pz_eq (by omega) (by omega)] at a3
      have e1 : th' = th := by omega
      have e2 : nu' = nu := by omega
      subst e1; subst e2
      obtain ⟨m', b1, b2⟩ := a4 m N np ne pc K hnu z
      refine ⟨s, m', _, ?_, b1, fr.rf _ _, b2, C⟩
      have ex : nI th' * 12 + nI nu' = nI (th' * 12 + nu') := by rw [pz_lit 12, pk_mul, nI_add]
      unfold xb_bestChoice xb_bestChoice_j106
      simp only [ex, pz_lt, h9, if_true]
      split <;> rfl
  · obtain ⟨s', m', b1, b2, b3, b4, b5⟩ := srch K hth hnu h9
    refine ⟨s', m', _, b1 z, b2 z, b3, b5, Or.inr ⟨th, nu, hth, hnu12, b4, fun m2 N2 np2 ne2 pc2 K2 hnu2 w => ?_⟩⟩
    have K2' : kT s m2 N2 np2 ne2 pc2 := K2.back (b3.mono (fun p j w => by unfold wCh at w; unfold wRun; omega))
    obtain ⟨s3, m3, c1, c2, c3, c4, c5⟩ := srch K2' hth hnu2 h9
    have e0 := c1 0
    rw [b1 0] at e0
    have e : s' = s3 := congrArg Prod.snd (Option.some.inj e0)
    subst e
    exact ⟨m3, c2 w, c5⟩
def C3 (s : ba_St) : Prop := s.1 0 12 = nI 0 ∨ (s.1 0 12 = nI 1 ∧ ∀ m N np ne pc, kT s m N np ne pc → ∀ a, (a = pn ∨ a = nI 0 ∨ a = nI 1) → ∃ m', xm_spareBy m a = some (vS s a, m') ∧ fr wL m m')
theorem C3.mv {s s' : ba_St} (h : C3 s) (hF : fr1 wRun s s') (h12 : s'.1 0 12 = s.1 0 12) (h13 : s'.1 0 13 = s.1 0 13) (h14 : s'.1 0 14 = s.1 0 14) (h15 : s'.1 0 15 = s.1 0 15) : C3 s' := by
  unfold C3 vS
  rw [h12, h13, h14, h15]
  rcases h with h | ⟨a1, a2⟩
  · exact Or.inl h
  · exact Or.inr ⟨a1, fun m N np ne pc K => a2 m N np ne pc (kT.back (s' := (s'.1, s.2)) K ⟨rfl, hF⟩)⟩
def wS2 (p j : Nat) : Prop := 46 ≤ p ∨ (p = 0 ∧ 12 ≤ j ∧ j ≤ 15)
theorem j29 (s : ba_St) {a : Int32} (ha : a = pn ∨ a = nI 0 ∨ a = nI 1) : xb_spare_j29 s a = some (vS s a, s) := by
  unfold xb_spare_j29 vS
  rcases ha with rfl | rfl | rfl
  · simp only [↓pz_m1, eq_self, if_true]
  · simp only [↓pz_m1, z0npn, z00, if_true, if_false]
  · simp only [↓pz_m1, z1npn, z1n0, if_false]
theorem spared {s m : ba_St} {N np ne : Nat} {pc : Nat → Nat} (K : kT s m N np ne pc) (C : C3 s) {a : Int32} (ha : a = pn ∨ a = nI 0 ∨ a = nI 1) : ∃ s' m' v, xb_spare s a = some (v, s') ∧ xm_spareBy m a = some (v, m') ∧ fr wS2 s s' ∧ fr wL m m' ∧ C3 s' := by
  have l1 : ¬ a < -1 := by rcases ha with rfl | rfl | rfl <;> decide
  have l2 : a ≤ 1 := by rcases ha with rfl | rfl | rfl <;> decide
  rcases id C with h | ⟨h, a2⟩
  · obtain ⟨s', m', b1, b2, b3, b4⟩ := spares K ha
    have F : fr wS2 s (ba_w s' 0 12 1) := (b3.mono (fun p j w => by unfold wSp at w; unfold wS2; omega)).w 0 12 _ (by unfold wS2; omega)
    have hv : ∀ x, vS (ba_w s' 0 12 1) x = vS s' x := fun x => by unfold vS; rw [pw_i _ _ _ (by omega), pw_i _ _ _ (by omega), pw_i _ _ _ (by omega)]
    refine ⟨ba_w s' 0 12 1, m', vS s' a, ?_, b2, F, b4, Or.inr ⟨pw_s _ _ _ _, fun m2 N2 np2 ne2 pc2 K2 x hx => ?_⟩⟩
    · unfold xb_spare
      simp only [l1, if_false, l2, if_true, h, z00, b1, pz_bnd, pz_lt]
      rw [j29 _ ha, hv]
    · have K2' : kT s m2 N2 np2 ne2 pc2 := K2.back (F.mono (fun p j w => by unfold wS2 at w; unfold wRun; omega))
      obtain ⟨s3, m3, c1, c2, c3, c4⟩ := spares K2' hx
      rw [b1] at c1
      have e : s' = s3 := Option.some.inj c1
      subst e
      exact ⟨m3, by rw [hv]; exact c2, c4⟩
  · obtain ⟨m', b1, b2⟩ := a2 m N np ne pc K a ha
    refine ⟨s, m', vS s a, ?_, b1, fr.rf _ _, b2, C⟩
    unfold xb_spare
    simp only [l1, if_false, l2, if_true, h, z1n0]
    exact j29 s ha
