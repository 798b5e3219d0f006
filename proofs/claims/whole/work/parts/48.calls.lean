/-! ===== calls ===== -/
theorem cK.tr {s s' : ba_St} (h : cK s) (F : fr1 wTr s s') : cK s' := by
  obtain ⟨k1, k2, k3, k4⟩ := h
  have G : fr1 wRun s s' := fun p j w => F p j (fun z => w (by unfold wTr at z; unfold wRun; omega))
  have c : ∀ p j, p < 46 → s'.1 p j = s.1 p j := fun p j hp => F p j (by unfold wTr; omega)
  exact ⟨k1.mv G (c 0 8 (by omega)) (fun p j _ q => c p j (by omega)), k2.mv G (c 0 9 (by omega)) (c 0 10 (by omega)) (c 0 11 (by omega)), k3.mv G (c 0 12 (by omega)) (c 0 13 (by omega)) (c 0 14 (by omega)) (c 0 15 (by omega)), k4.mv G (c 0 16 (by omega)) (fun j => c 15 j (by omega))⟩
theorem RR.cK {s m : ba_St} (h : RR s m) : cK s := by obtain ⟨_, _, _, _, _, _, _, _, _, k⟩ := h; exact k
/-- after a search that wrote only the tried course -/
theorem RR.tr {s m s' m' : ba_St} {N np ne : Nat} {pc : Nat → Nat} (h : RR s m) (K : kT s m N np ne pc) (F : fr1 wTr s s') (M : fr wL m m') : RR s' m' := by
  refine h.mv (fun p j w => F p j (fun z => w (by unfold wTr at z; unfold wRun; omega))) (M.mono (fun p j w => by unfold wL at w; unfold wQ; omega)) ?_ (h.cK.tr F)
  rw [M.2 0 15 (by unfold wL; omega)]; exact K.2.2.2.2.2.2.1
theorem q_best {s m : ba_St} (h : RR s m) : ∃ v s' m', xb_best s = some (v, s') ∧ xm_best m = some (v, m') ∧ RR s' m' := by
  obtain ⟨s', m', N, np, ne, ns, pc, e1, e2, e3, K, -, R', -⟩ := h.find
  obtain ⟨v, v1, v2⟩ := rd_best e3 K.1.2.2.2.1
  exact ⟨v, s', m', by unfold xb_best; rw [e1, pz_bnd, v1]; rfl, by unfold xm_best; rw [e2, pz_bnd, v2]; rfl, R'⟩
theorem q_late {s m : ba_St} (h : RR s m) : ∃ v s' m', xb_late s = some (v, s') ∧ xm_late m = some (v, m') ∧ RR s' m' := by
  obtain ⟨s', m', N, np, ne, ns, pc, e1, e2, e3, K, -, R', -⟩ := h.find
  obtain ⟨v, v1, v2⟩ := rd_late e3 K.1.2.2.2.1
  exact ⟨v, s', m', by unfold xb_late; rw [e1, pz_bnd, v1]; rfl, by unfold xm_late; rw [e2, pz_bnd, v2]; rfl, R'⟩
theorem q_never {s m : ba_St} (h : RR s m) : ∃ v s' m', xb_never s = some (v, s') ∧ xm_never m = some (v, m') ∧ RR s' m' := by
  obtain ⟨_, m', N, np, ne, ns, pc, -, e2, -, -, -, -, K, S, R', -⟩ := h.find
  obtain ⟨s2, m2, v, d1, d2, F, M⟩ := never K S
  exact ⟨v, s2, m2, d1, by unfold xm_never; rw [e2, pz_bnd, d2]; rfl, R'.tr K F.2 M⟩
