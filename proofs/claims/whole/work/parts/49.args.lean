/-! ===== arguments ===== -/
theorem argN (x : Int32) {N : Nat} (hN : N < 2 ^ 30) : (∃ k, k < N ∧ x = nI k ∧ xb_within x (nI N) = some 1 ∧ (0 ≤ x.toInt ∧ x.toInt < N)) ∨ (xb_within x (nI N) = some 0 ∧ ¬ (0 ≤ x.toInt ∧ x.toInt < N)) := by
  have e0 : (0 ≤ x) ↔ 0 ≤ x.toInt := by rw [Int32.le_iff_toInt_le]; rfl
  have e1 : (x < nI N) ↔ x.toInt < N := by rw [Int32.lt_iff_toInt_lt, nI_toInt (by omega)]
  rw [pb_within]
  by_cases h : 0 ≤ x.toInt ∧ x.toInt < N
  · refine Or.inl ⟨x.toInt.toNat, by omega, Int32.toInt_inj.mp ?_, by rw [if_pos ⟨e0.mpr h.1, e1.mpr h.2⟩], h⟩
    rw [nI_toInt (by omega)]; omega
  · exact Or.inr ⟨by rw [if_neg (fun z => h ⟨e0.mp z.1, e1.mp z.2⟩)], h⟩
theorem q_kind {s m : ba_St} (h : RR s m) (a : Int32) : ∃ v s' m', xb_kind s a = some (v, s') ∧ xm_kind m a = some (v, m') ∧ RR s' m' := by
  obtain ⟨_, m', N, np, ne, ns, pc, -, e2, -, -, -, -, K, S, R', -⟩ := h.find
  have h3 : s.1 3 3 = nI np := K.1.2.2.2.2.2.1
  have hp := pm_isPin m' K.1.2.1 K.1.2.2.2.2.2.2.1 a
  have n10 : ¬ (1 : Int32) = 0 := by decide
  rcases argN a (N := np) (by have := K.1.2.1; omega) with ⟨k, k1, rfl, w, b⟩ | ⟨w, b⟩
  · rw [if_pos b] at hp
    obtain ⟨s2, m2, v, d1, d2, F, M⟩ := kinds K S k1
    refine ⟨v, s2, m2, ?_, ?_, R'.tr K F.2 M⟩
    · unfold xb_kind
      rw [h3, w, pz_bnd, if_neg n10, d1]; rfl
    · unfold xm_kind
      rw [e2, pz_bnd, hp, pz_bnd, if_neg n10, d2]; rfl
  · rw [if_neg b] at hp
    refine ⟨-2, s, m', ?_, ?_, R'⟩
    · unfold xb_kind
      rw [h3, w, pz_bnd, if_pos rfl]
    · unfold xm_kind
      rw [e2, pz_bnd, hp, pz_bnd, if_pos rfl]
theorem q_forces {s m : ba_St} (h : RR s m) (a : Int32) : ∃ v s' m', xb_forces s a = some (v, s') ∧ xm_forces m a = some (v, m') ∧ RR s' m' := by
  obtain ⟨_, m', N, np, ne, ns, pc, -, e2, -, -, -, -, K, S, R', -⟩ := h.find
  have h3 : s.1 3 7 = nI N := K.1.2.2.2.1
  have hp := pm_isBall m' K.1.1 K.1.2.2.2.2.1 a
  have n10 : ¬ (1 : Int32) = 0 := by decide
  rcases argN a (N := N) (by have := K.1.1; omega) with ⟨k, k1, rfl, w, b⟩ | ⟨w, b⟩
  · rw [if_pos b] at hp
    obtain ⟨s2, m2, v, d1, d2, F, M⟩ := forces K S k1
    refine ⟨v, s2, m2, ?_, ?_, R'.tr K F.2 M⟩
    · unfold xb_forces
      rw [h3, w, pz_bnd, if_neg n10, d1]; rfl
    · unfold xm_forces
      rw [e2, pz_bnd, hp, pz_bnd, if_neg n10, d2]; rfl
  · rw [if_neg b] at hp
    refine ⟨-2, s, m', ?_, ?_, R'⟩
    · unfold xb_forces
      rw [h3, w, pz_bnd, if_pos rfl]
    · unfold xm_forces
      rw [e2, pz_bnd, hp, pz_bnd, if_pos rfl]
