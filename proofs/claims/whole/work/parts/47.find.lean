/-! ===== find, over all that holds ===== -/
theorem RR.find {s m : ba_St} (h : RR s m) : ∃ s' m' N np ne ns pc, xb_runTold s = some s' ∧ xm_find m = some m' ∧ res 31 s' m' N ∧ kT s' m' N np ne pc ∧ iS s' m' ns ∧ RR s' m' ∧ kT s m' N np ne pc ∧ iS s m' ns ∧ RR s m' ∧ fr wQ m m' := by
  obtain ⟨n0, n1, n2, B0, B1, B2, ne, ns, h, k1, k2, k3, k4⟩ := h
  obtain ⟨s', m', e1, e2, e3, e4, e5, e6, e7, e8, e9⟩ := found h k1
  have F : fr wRun s s' := e7.mono (fun p j w => by unfold wRun; omega)
  have c : ∀ j, j ≠ 8 → s'.1 0 j = s.1 0 j := fun j hj => e7.2 0 j (by omega)
  have H := h.mv F e8 e9
  have H0 := h.mv (fr.rf wRun s) e8 e9
  refine ⟨s', m', _, _, ne, ns, _, e1, e2, e3, e4, H.2.2.2.1, ⟨n0, n1, n2, B0, B1, B2, ne, ns, H, Or.inr ⟨e5, e6⟩, k2.mv F.2 (c 9 (by omega)) (c 10 (by omega)) (c 11 (by omega)), k3.mv F.2 (c 12 (by omega)) (c 13 (by omega)) (c 14 (by omega)) (c 15 (by omega)), k4.mv F.2 (c 16 (by omega)) (fun j => e7.2 15 j (by omega))⟩, e4.back F, H0.2.2.2.1, ⟨n0, n1, n2, B0, B1, B2, ne, ns, H0, k1, k2, k3, k4⟩, e8⟩
