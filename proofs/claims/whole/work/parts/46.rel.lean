/-! ===== all that holds between calls ===== -/
theorem C1.mv {s s' : ba_St} (h : C1 s) (hF : fr1 wRun s s') (h8 : s'.1 0 8 = s.1 0 8) (h31 : ∀ p j, 31 ≤ p → p ≤ 45 → s'.1 p j = s.1 p j) : C1 s' := by
  unfold C1
  rw [h8]
  rcases h with h | ⟨a, s0, s1, b1, b2, b3⟩
  · exact Or.inl h
  · refine Or.inr ⟨a, s0, s1, b1, fun p j q1 q2 => by rw [h31 p j q1 q2]; exact b2 p j q1 q2, fun m N np ne pc K => b3 m N np ne pc ?_⟩
    exact kT.back (s' := (s'.1, s.2)) K ⟨rfl, hF⟩
def cK (s : ba_St) : Prop := C1 s ∧ C2 s ∧ C3 s ∧ C4 s
/-- forgetResults(): nothing is kept -/
def wFo (p j : Nat) : Prop := p = 0 ∧ (j = 8 ∨ j = 9 ∨ j = 12 ∨ j = 16)
theorem pb_forget (s : ba_St) : ∃ s', xb_forgetResults s = some s' ∧ fr wFo s s' ∧ cK s' := by
  refine ⟨ba_w (ba_w (ba_w (ba_w s 0 8 0) 0 9 (-1)) 0 12 0) 0 16 0, rfl, ((((fr.rf wFo s).w 0 8 _ (by unfold wFo; omega)).w 0 9 _ (by unfold wFo; omega)).w 0 12 _ (by unfold wFo; omega)).w 0 16 _ (by unfold wFo; omega), Or.inl ?_, Or.inl ?_, Or.inl ?_, Or.inl ?_⟩
  · rw [pw_i _ _ _ (by omega), pw_i _ _ _ (by omega), pw_i _ _ _ (by omega), pw_s]; rfl
  · rw [pw_i _ _ _ (by omega), pw_i _ _ _ (by omega), pw_s]; rfl
  · rw [pw_i _ _ _ (by omega), pw_s]; rfl
  · rw [pw_s]; rfl
def RR (s m : ba_St) : Prop := ∃ n0 n1 n2 B0 B1 B2 ne ns, R0 s m n0 n1 n2 B0 B1 B2 ne ns ∧ cK s
/-- a reader's answer: both may write only what answers write -/
theorem RR.mv {s m s' m' : ba_St} (h : RR s m) (hF : fr1 wRun s s') (hM : fr wQ m m') (hg : m'.1 0 15 = nI 0) (hK : cK s') : RR s' m' := by
  obtain ⟨n0, n1, n2, B0, B1, B2, ne, ns, h, -⟩ := h
  exact ⟨n0, n1, n2, B0, B1, B2, ne, ns, R0.mv (s' := (s'.1, s.2)) h ⟨rfl, hF⟩ hM hg, hK⟩
