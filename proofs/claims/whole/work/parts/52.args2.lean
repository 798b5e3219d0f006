/-! ===== arguments in their bounds, in both or in neither ===== -/
theorem p_10 : ((1 : Int32) = 0) = False := by decide
theorem p_00 : ((0 : Int32) = 0) = True := by decide
theorem arg_n (x : Int32) (n : Nat) (hn : n < 2 ^ 30) : (∃ k, k < n ∧ x = nI k ∧ xb_within x (nI n) = some 1 ∧ xm_in x.toInt64 0 (Int32.toInt64 (nI n - 1)) = some 1) ∨ (xb_within x (nI n) = some 0 ∧ xm_in x.toInt64 0 (Int32.toInt64 (nI n - 1)) = some 0) := by
  have h := pm_ib x hn
  rcases argN x hn with ⟨k, k1, k2, w, b⟩ | ⟨w, b⟩
  · rw [if_pos b] at h; exact Or.inl ⟨k, k1, k2, w, h⟩
  · rw [if_neg b] at h; exact Or.inr ⟨w, h⟩
theorem arg_3 (x : Int32) : (∃ k, k < 3 ∧ x = nI k ∧ xb_within x 3 = some 1 ∧ xm_in x.toInt64 0 2 = some 1) ∨ (xb_within x 3 = some 0 ∧ xm_in x.toInt64 0 2 = some 0) := arg_n x 3 (by omega)
theorem arg_8 (x : Int32) : (∃ k, k < 8 ∧ x = nI k ∧ xb_within x 8 = some 1 ∧ xm_in x.toInt64 0 7 = some 1) ∨ (xb_within x 8 = some 0 ∧ xm_in x.toInt64 0 7 = some 0) := arg_n x 8 (by omega)
theorem arg_12 (x : Int32) : (∃ k, k < 12 ∧ x = nI k ∧ xb_within x 12 = some 1 ∧ xm_in x.toInt64 0 11 = some 1) ∨ (xb_within x 12 = some 0 ∧ xm_in x.toInt64 0 11 = some 0) := arg_n x 12 (by omega)
theorem arg_13 (x : Int32) : (∃ k, k < 13 ∧ x = nI k ∧ xb_within x 13 = some 1 ∧ xm_in x.toInt64 0 12 = some 1) ∨ (xb_within x 13 = some 0 ∧ xm_in x.toInt64 0 12 = some 0) := arg_n x 13 (by omega)
theorem arg_17 (x : Int32) : (∃ k, k < 17 ∧ x = nI k ∧ xb_within x 17 = some 1 ∧ xm_in x.toInt64 0 16 = some 1) ∨ (xb_within x 17 = some 0 ∧ xm_in x.toInt64 0 16 = some 0) := arg_n x 17 (by omega)
theorem arg_256 (x : Int32) : (∃ k, k < 256 ∧ x = nI k ∧ xb_within x 256 = some 1 ∧ xm_in x.toInt64 0 255 = some 1) ∨ (xb_within x 256 = some 0 ∧ xm_in x.toInt64 0 255 = some 0) := arg_n x 256 (by omega)
theorem arg_2 (x : Int32) : (∃ k, k < 2 ∧ x = nI k ∧ xb_within x 2 = some 1 ∧ xm_isTwo x = some 1) ∨ (xb_within x 2 = some 0 ∧ xm_isTwo x = some 0) := by
  have h : (∃ k, k < 2 ∧ x = nI k ∧ xb_within x 2 = some 1 ∧ xm_in x.toInt64 0 1 = some 1) ∨ (xb_within x 2 = some 0 ∧ xm_in x.toInt64 0 1 = some 0) := arg_n x 2 (by omega)
  rcases h with ⟨k, k1, k2, w, g⟩ | ⟨w, g⟩
  · exact Or.inl ⟨k, k1, k2, w, by unfold xm_isTwo; rw [g]; rfl⟩
  · exact Or.inr ⟨w, by unfold xm_isTwo; rw [g]; rfl⟩
theorem arg_t3 (x : Int32) : (∃ k, k < 3 ∧ x = nI k ∧ xb_within x 3 = some 1 ∧ xm_isText x = some 1) ∨ (xb_within x 3 = some 0 ∧ xm_isText x = some 0) := by
  rcases arg_3 x with ⟨k, k1, k2, w, g⟩ | ⟨w, g⟩
  · exact Or.inl ⟨k, k1, k2, w, by unfold xm_isText; rw [g]; rfl⟩
  · exact Or.inr ⟨w, by unfold xm_isText; rw [g]; rfl⟩
theorem arg_4 (x : Int32) : (∃ k, k < 4 ∧ x = nI k ∧ xb_within x 4 = some 1 ∧ xm_isSheet x = some 1) ∨ (xb_within x 4 = some 0 ∧ xm_isSheet x = some 0) := by
  have h : (∃ k, k < 4 ∧ x = nI k ∧ xb_within x 4 = some 1 ∧ xm_in x.toInt64 0 3 = some 1) ∨ (xb_within x 4 = some 0 ∧ xm_in x.toInt64 0 3 = some 0) := arg_n x 4 (by omega)
  rcases h with ⟨k, k1, k2, w, g⟩ | ⟨w, g⟩
  · exact Or.inl ⟨k, k1, k2, w, by unfold xm_isSheet; rw [g]; rfl⟩
  · exact Or.inr ⟨w, by unfold xm_isSheet; rw [g]; rfl⟩
theorem arg_24 (x : Int32) : (∃ k, k < 24 ∧ x = nI k ∧ xb_within x 24 = some 1 ∧ xm_isTick x = some 1) ∨ (xb_within x 24 = some 0 ∧ xm_isTick x = some 0) := by
  have h : (∃ k, k < 24 ∧ x = nI k ∧ xb_within x 24 = some 1 ∧ xm_in x.toInt64 0 23 = some 1) ∨ (xb_within x 24 = some 0 ∧ xm_in x.toInt64 0 23 = some 0) := arg_n x 24 (by omega)
  rcases h with ⟨k, k1, k2, w, g⟩ | ⟨w, g⟩
  · exact Or.inl ⟨k, k1, k2, w, by unfold xm_isTick; rw [g]; rfl⟩
  · exact Or.inr ⟨w, by unfold xm_isTick; rw [g]; rfl⟩
theorem arg_9 (x : Int32) : (∃ k, k < 9 ∧ x = nI k ∧ xb_within x 9 = some 1 ∧ xm_isColumn x = some 1) ∨ (xb_within x 9 = some 0 ∧ xm_isColumn x = some 0) := by
  have h : (∃ k, k < 9 ∧ x = nI k ∧ xb_within x 9 = some 1 ∧ xm_in x.toInt64 0 8 = some 1) ∨ (xb_within x 9 = some 0 ∧ xm_in x.toInt64 0 8 = some 0) := arg_n x 9 (by omega)
  rcases h with ⟨k, k1, k2, w, g⟩ | ⟨w, g⟩
  · exact Or.inl ⟨k, k1, k2, w, by unfold xm_isColumn; rw [g]; rfl⟩
  · exact Or.inr ⟨w, by unfold xm_isColumn; rw [g]; rfl⟩
theorem arg_b {s m : ba_St} {N np ne : Nat} {pc : Nat → Nat} (K : kT s m N np ne pc) (x : Int32) : (∃ k, k < N ∧ x = nI k ∧ xb_within x (s.1 3 7) = some 1 ∧ xm_isBall m x = some 1) ∨ (xb_within x (s.1 3 7) = some 0 ∧ xm_isBall m x = some 0) := by
  have hp := pm_isBall m K.1.1 K.1.2.2.2.2.1 x
  rw [K.1.2.2.2.1]
  rcases argN x (N := N) (by have := K.1.1; omega) with ⟨k, k1, k2, w, b⟩ | ⟨w, b⟩
  · rw [if_pos b] at hp; exact Or.inl ⟨k, k1, k2, w, hp⟩
  · rw [if_neg b] at hp; exact Or.inr ⟨w, hp⟩
theorem arg_p {s m : ba_St} {N np ne : Nat} {pc : Nat → Nat} (K : kT s m N np ne pc) (x : Int32) : (∃ k, k < np ∧ x = nI k ∧ xb_within x (s.1 3 3) = some 1 ∧ xm_isPin m x = some 1) ∨ (xb_within x (s.1 3 3) = some 0 ∧ xm_isPin m x = some 0) := by
  have hp := pm_isPin m K.1.2.1 K.1.2.2.2.2.2.2.1 x
  rw [K.1.2.2.2.2.2.1]
  rcases argN x (N := np) (by have := K.1.2.1; omega) with ⟨k, k1, k2, w, b⟩ | ⟨w, b⟩
  · rw [if_pos b] at hp; exact Or.inl ⟨k, k1, k2, w, hp⟩
  · rw [if_neg b] at hp; exact Or.inr ⟨w, hp⟩
/-! ===== RK: all that holds, and the reference has read its texts ===== -/
def RK (s m : ba_St) (N np ne ns : Nat) (pc : Nat → Nat) : Prop := RR s m ∧ kT s m N np ne pc ∧ iS s m ns
theorem iS.mw {s m s' m' : ba_St} {ns : Nat} (h : iS s m ns) (hF : fr1 wRun s s') (hM : fr wL m m') : iS s' m' ns := by
  obtain ⟨w1, w2, w3, w4⟩ := h
  refine ⟨w1, ?_, ?_, ?_⟩
  · rw [hF 12 1 (by unfold wRun; omega)]; exact w2
  · rw [hM.2 0 29 (by unfold wL; omega)]; exact w3
  · intro e he
    rw [hF 13 _ (by unfold wRun; omega), hF 13 _ (by unfold wRun; omega), hF 13 _ (by unfold wRun; omega), hF 13 _ (by unfold wRun; omega), hM.2 23 _ (by unfold wL; omega), hM.2 23 _ (by unfold wL; omega), hM.2 23 _ (by unfold wL; omega), hM.2 23 _ (by unfold wL; omega)]
    exact w4 e he
theorem kT.mv1 {s m s' m' : ba_St} {N np ne : Nat} {pc : Nat → Nat} (h : kT s m N np ne pc) (hF : fr1 wRun s s') (hM : fr wL m m') : kT s' m' N np ne pc := kT.mv (s' := (s'.1, s.2)) h ⟨rfl, hF⟩ hM
theorem RR.find2 {s m : ba_St} (h : RR s m) : ∃ s' m' N np ne ns pc, xb_runTold s = some s' ∧ xm_find m = some m' ∧ res 31 s' m' N ∧ RK s' m' N np ne ns pc ∧ RK s m' N np ne ns pc := by
  obtain ⟨s', m', N, np, ne, ns, pc, e1, e2, e3, K', S', R', K, S, R, -⟩ := h.find
  exact ⟨s', m', N, np, ne, ns, pc, e1, e2, e3, ⟨R', K', S'⟩, ⟨R, K, S⟩⟩
theorem RK.tr {s m s' m' : ba_St} {N np ne ns : Nat} {pc : Nat → Nat} (h : RK s m N np ne ns pc) (F : fr1 wTr s s') (M : fr wL m m') : RK s' m' N np ne ns pc := by
  have G : fr1 wRun s s' := fun p j w => F p j (fun z => w (by unfold wTr at z; unfold wRun; omega))
  exact ⟨h.1.tr h.2.1 F M, h.2.1.mv1 G M, h.2.2.mw G M⟩
theorem RK.ch {s m s' m' : ba_St} {N np ne ns : Nat} {pc : Nat → Nat} (h : RK s m N np ne ns pc) (F : fr wCh s s') (M : fr wL m m') (C : C2 s') : RK s' m' N np ne ns pc := by
  have G : fr1 wRun s s' := fun p j w => F.2 p j (fun z => w (by unfold wCh at z; unfold wRun; omega))
  exact ⟨h.1.ch h.2.1 F M C, h.2.1.mv1 G M, h.2.2.mw G M⟩
theorem RK.tl {s m : ba_St} {N np ne ns : Nat} {pc : Nat → Nat} (h : RK s m N np ne ns pc) : ∃ s' m', xb_runTold s = some s' ∧ xb_runTold s' = some s' ∧ xm_lives m = some m' ∧ res 31 s' m' N ∧ RK s' m' N np ne ns pc := by
  obtain ⟨R, K, S⟩ := h
  obtain ⟨k1, k2, k3, k4⟩ := R.cK
  obtain ⟨s', m', e1, e2, e3, e4, e5, e6, e7⟩ := told K k1
  have F : fr wRun s s' := e6.mono (fun p j w => by unfold wRun; omega)
  have c : ∀ j, j ≠ 8 → s'.1 0 j = s.1 0 j := fun j hj => e6.2 0 j (by omega)
  have M : fr wL m m' := e7.fr
  refine ⟨s', m', e1, ?_, e2, e3, ?_, K.mv F M, S.mw F.2 M⟩
  · have z : ¬ nI 1 = nI 0 := by rw [z_10]; exact fun q => q
    simp only [xb_runTold, pz_lit, e4, z, if_false]
  · refine R.mv F.2 (M.mono (fun p j w => by unfold wL at w; unfold wQ; omega)) ?_ ⟨Or.inr ⟨e4, e5⟩, k2.mv F.2 (c 9 (by omega)) (c 10 (by omega)) (c 11 (by omega)), k3.mv F.2 (c 12 (by omega)) (c 13 (by omega)) (c 14 (by omega)) (c 15 (by omega)), k4.mv F.2 (c 16 (by omega)) (fun j => e6.2 15 j (by omega))⟩
    rw [M.2 0 15 (by unfold wL; omega)]; exact K.2.2.2.2.2.2.1
