/-! ===== after a search with its cache ===== -/
theorem RR.ch {s m s' m' : ba_St} {N np ne : Nat} {pc : Nat → Nat} (h : RR s m) (K : kT s m N np ne pc) (F : fr wCh s s') (M : fr wL m m') (C : C2 s') : RR s' m' := by
  have G : fr1 wRun s s' := fun p j w => F.2 p j (fun z => w (by unfold wCh at z; unfold wRun; omega))
  have c : ∀ p j, p < 46 → (p ≠ 0 ∨ j < 9 ∨ 11 < j) → s'.1 p j = s.1 p j := fun p j hp hj => F.2 p j (by unfold wCh; omega)
  obtain ⟨k1, k2, k3, k4⟩ := h.cK
  refine h.mv G (M.mono (fun p j w => by unfold wL at w; unfold wQ; omega)) (by rw [M.2 0 15 (by unfold wL; omega)]; exact K.2.2.2.2.2.2.1) ⟨k1.mv G (c 0 8 (by omega) (by omega)) (fun p j _ q => c p j (by omega) (by omega)), C, k3.mv G (c 0 12 (by omega) (by omega)) (c 0 13 (by omega) (by omega)) (c 0 14 (by omega) (by omega)) (c 0 15 (by omega) (by omega)), k4.mv G (c 0 16 (by omega) (by omega)) (fun j => c 15 j (by omega) (by omega))⟩
