/-! ===== ask, as a call ===== -/
theorem q_ask {s m : ba_St} (h : RR s m) (a : Int32) : ∃ v s' m', xb_ask s a = some (v, s') ∧ xm_ask m a = some (v, m') ∧ RR s' m' := by
  obtain ⟨_, m', N, np, ne, ns, pc, -, e2, -, -, -, -, K, S, R', -⟩ := h.find
  have h3 : s.1 3 7 = nI N := K.1.2.2.2.1
  have hp := pm_isBall m' K.1.1 K.1.2.2.2.2.1 a
  have n10 : ¬ (1 : Int32) = 0 := by decide
  rcases argN a (N := N) (by have := K.1.1; omega) with ⟨k, k1, rfl, w, b⟩ | ⟨w, b⟩
  · rw [if_pos b] at hp
    obtain ⟨s2, m2, r, g, v, d1, d2, d3, d4, F, M⟩ := asks K S k1
    refine ⟨v, s2, m2, ?_, ?_, R'.tr K F M⟩
    · unfold xb_ask
      rw [h3, w, pz_bnd, if_neg n10, d1, pz_bn2, d2, pz_bnd, d3]; rfl
    · unfold xm_ask
      rw [e2, pz_bnd, hp, pz_bnd, if_neg n10, d4]; rfl
  · rw [if_neg b] at hp
    refine ⟨-2, s, m', ?_, ?_, R'⟩
    · unfold xb_ask
      rw [h3, w, pz_bnd, if_pos rfl]
    · unfold xm_ask
      rw [e2, pz_bnd, hp, pz_bnd, if_pos rfl]
