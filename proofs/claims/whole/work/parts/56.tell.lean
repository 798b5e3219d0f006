/-! ===== calls that change what is told: movers ===== -/
theorem kT.same {s s' m : ba_St} {N np ne : Nat} {pc : Nat → Nat} (h : kT s m N np ne pc) (f : ∀ p j, 3 ≤ p → p ≤ 11 → s'.1 p j = s.1 p j) : kT s' m N np ne pc := by
  have e : ∀ p, 3 ≤ p → p ≤ 11 → s'.1 p = s.1 p := fun p h1 h2 => funext fun j => f p j h1 h2
  unfold kT at h ⊢
  rw [e 3 (by omega) (by omega), e 10 (by omega) (by omega), e 7 (by omega) (by omega), e 6 (by omega) (by omega), e 5 (by omega) (by omega), e 11 (by omega) (by omega), e 8 (by omega) (by omega), e 9 (by omega) (by omega)]
  exact h
theorem cK.mv2 {s s' : ba_St} (h : cK s) (f1 : ∀ p j, 3 ≤ p → p ≤ 11 → s'.1 p j = s.1 p j) (f2 : ∀ j, s'.1 15 j = s.1 15 j) (f3 : ∀ p j, 31 ≤ p → p ≤ 45 → s'.1 p j = s.1 p j) (f4 : ∀ j, 8 ≤ j → j ≤ 16 → s'.1 0 j = s.1 0 j) : cK s' := by
  have back : ∀ m N np ne pc, kT s' m N np ne pc → kT s m N np ne pc := fun m N np ne pc K => K.same (fun p j h1 h2 => (f1 p j h1 h2).symm)
  obtain ⟨k1, k2, k3, k4⟩ := h
  refine ⟨?_, ?_, ?_, ?_⟩
  · unfold C1
    rw [f4 8 (by omega) (by omega)]
    rcases k1 with h | ⟨a, s0, s1, b1, b2, b3⟩
    · exact Or.inl h
    · exact Or.inr ⟨a, s0, s1, b1, fun p j q1 q2 => by rw [f3 p j q1 q2]; exact b2 p j q1 q2, fun m N np ne pc K => b3 m N np ne pc (back m N np ne pc K)⟩
  · unfold C2
    rw [f4 9 (by omega) (by omega), f4 10 (by omega) (by omega), f4 11 (by omega) (by omega)]
    rcases k2 with h | ⟨th, nu, a1, a2, a3, a4⟩
    · exact Or.inl h
    · exact Or.inr ⟨th, nu, a1, a2, a3, fun m N np ne pc K => a4 m N np ne pc (back m N np ne pc K)⟩
  · unfold C3 vS
    rw [f4 12 (by omega) (by omega), f4 13 (by omega) (by omega), f4 14 (by omega) (by omega), f4 15 (by omega) (by omega)]
    rcases k3 with h | ⟨a1, a2⟩
    · exact Or.inl h
    · exact Or.inr ⟨a1, fun m N np ne pc K => a2 m N np ne pc (back m N np ne pc K)⟩
  · unfold C4
    rw [f4 16 (by omega) (by omega), show s'.1 15 = s.1 15 from funext f2]
    rcases k4 with h | ⟨a1, a2⟩
    · exact Or.inl h
    · refine Or.inr ⟨a1, fun m N np ne pc K z hz => ?_⟩
      obtain ⟨m', b1, b2, b3, b4⟩ := a2 m N np ne pc (back m N np ne pc K) z hz
      exact ⟨m', b1, b2, b3.same f1, b4⟩
theorem iT.up {s m s' m' : ba_St} {t n : Nat} {B : Nat → Nat} (h : iT s m t n B) (f1 : s'.1 (17 + 2 * t) 1 = s.1 (17 + 2 * t) 1) (f2 : ∀ j, s'.1 (17 + 2 * t + 1) j = s.1 (17 + 2 * t + 1) j) (g1 : m'.1 6 t = m.1 6 t) (g2 : ∀ j, j < 47 → m'.1 5 (48 * t + j) = m.1 5 (48 * t + j)) : iT s' m' t n B := by
  obtain ⟨⟨a1, a2, a3, a4⟩, b1, b2, b3⟩ := h
  exact ⟨⟨by rw [f1]; exact a1, a2, a3, fun j hj => by rw [f2]; exact a4 j hj⟩, by rw [g1]; exact b1, b2, fun j hj => by rw [g2 j (by omega)]; exact b3 j hj⟩
theorem iB.up {s s' : ba_St} {n0 n1 n2 : Nat} {B0 B1 B2 : Nat → Nat} (h : iB s n0 n1 n2 B0 B1 B2) (f : ∀ p j, 2 ≤ p → p ≤ 9 → (p ≠ 3 ∨ j ≠ 8) → s'.1 p j = s.1 p j) : iB s' n0 n1 n2 B0 B1 B2 := by
  obtain ⟨⟨b1, b2, b3, b4⟩, ⟨b5, b6⟩, b7, b8, b9⟩ := h
  refine ⟨⟨?_, ?_, ?_, ?_⟩, ⟨?_, ?_⟩, ?_, ?_, ?_⟩
  · rw [f 2 0 (by omega) (by omega) (by omega)]; exact b1
  · rw [f 3 3 (by omega) (by omega) (by omega)]; exact b2
  · intro i hi; rw [f 4 i (by omega) (by omega) (by omega), f 5 i (by omega) (by omega) (by omega)]; exact b3 i hi
  · intro q hq; rw [f 6 q (by omega) (by omega) (by omega)]; exact b4 q hq
  · rw [f 2 1 (by omega) (by omega) (by omega)]; exact b5
  · intro c hc; rw [f 7 c (by omega) (by omega) (by omega)]; exact b6 c hc
  · rw [f 2 2 (by omega) (by omega) (by omega)]; exact b7
  · rw [f 3 7 (by omega) (by omega) (by omega)]; exact b8
  · intro i hi; rw [f 8 i (by omega) (by omega) (by omega), f 9 i (by omega) (by omega) (by omega)]; exact b9 i hi
theorem iV.up {s m s' m' : ba_St} {ne : Nat} (h : iV s m ne) (f1 : s'.1 10 1 = s.1 10 1) (f2 : ∀ j, s'.1 11 j = s.1 11 j) (g1 : m'.1 0 13 = m.1 0 13) (g2 : ∀ j, m'.1 10 j = m.1 10 j) : iV s' m' ne := by
  obtain ⟨v1, v2, v3, v4⟩ := h
  exact ⟨v1, by rw [f1]; exact v2, by rw [g1]; exact v3, fun e he => by rw [f2, f2, f2, g2, g2, g2]; exact v4 e he⟩
theorem iS.up {s m s' m' : ba_St} {ns : Nat} (h : iS s m ns) (f1 : s'.1 12 1 = s.1 12 1) (f2 : ∀ j, s'.1 13 j = s.1 13 j) (g1 : m'.1 0 29 = m.1 0 29) (g2 : ∀ j, m'.1 23 j = m.1 23 j) : iS s' m' ns := by
  obtain ⟨v1, v2, v3, v4⟩ := h
  exact ⟨v1, by rw [f1]; exact v2, by rw [g1]; exact v3, fun e he => by rw [f2, f2, f2, f2, g2, g2, g2, g2]; exact v4 e he⟩
theorem iH.up {s m s' m' : ba_St} {i : Nat} (h : iH s m i) (f1 : ∀ j, s'.1 (23 + 2 * i) j = s.1 (23 + 2 * i) j) (f2 : ∀ j, s'.1 (24 + 2 * i) j = s.1 (24 + 2 * i) j) (g1 : m'.1 1 i = m.1 1 i) (g2 : m'.1 2 i = m.1 2 i) (g3 : ∀ j, j < 60 → m'.1 3 (60 * i + j) = m.1 3 (60 * i + j)) : iH s' m' i := by
  unfold iH at h ⊢
  rw [f1, f1, f1, g1, g2]
  rcases h with h | ⟨f, n, q1, q2, q3, q4, q5, q6, q7, q8⟩
  · exact Or.inl h
  · exact Or.inr ⟨f, n, q1, q2, q3, q4, q5, q6, q7, fun j hj => by rw [f2, g3 j (by omega)]; exact q8 j hj⟩
/-! ===== room ===== -/
def wRo (p j : Nat) : Prop := (p = 3 ∧ j = 8) ∨ (p = 0 ∧ (j = 8 ∨ j = 9 ∨ j = 12 ∨ j = 16))
theorem q_room {s m : ba_St} (h : RR s m) (a : Int32) : ∃ v s' m', xb_room s a = some (v, s') ∧ xm_room m a = some (v, m') ∧ RR s' m' := by
  have h' := h
  obtain ⟨n0, n1, n2, B0, B1, B2, ne, ns, ⟨⟨T0, T1, T2, l1, l2⟩, hB, hV, hS, ⟨r, r1, r2, r3, r4⟩, hg, hH, hf⟩, k⟩ := h'
  have h1 := pm_i64 a 1 1 rfl
  have h9 := pm_i64 a 9 9 rfl
  have t1 : (1 : Int32) ≤ a ↔ 1 ≤ a.toInt := by rw [Int32.le_iff_toInt_le]; exact Iff.rfl
  have t2 : a ≤ (9 : Int32) ↔ a.toInt ≤ 9 := by rw [Int32.le_iff_toInt_le]; exact Iff.rfl
  have t3 : a < (1 : Int32) ↔ a.toInt < 1 := by rw [Int32.lt_iff_toInt_lt]; exact Iff.rfl
  unfold xb_room xm_room
  by_cases hr : (1 : Int32) ≤ a ∧ a ≤ 9
  · have hr' := hr
    rw [t1, t2] at hr'
    have g : xm_in a.toInt64 1 9 = some 1 := by rw [pm_in, if_pos ⟨h1.1.mpr hr.1, h9.2.mpr hr.2⟩]
    have c1 : ¬ a < 1 := by rw [t3]; omega
    obtain ⟨s2, e2, F2, K2⟩ := pb_forget (ba_w s 3 8 a)
    have F : fr wRo s s2 := ((fr.rf wRo s).w 3 8 a (by unfold wRo; omega)).tr (F2.mono (fun p j w => by unfold wFo at w; unfold wRo; omega))
    have ff : ∀ p j, (p ≠ 3 ∨ j ≠ 8) → (p ≠ 0 ∨ j = 7) → s2.1 p j = s.1 p j := fun p j h1 h2 => F.2 p j (by unfold wRo; omega)
    have gg : ∀ p j, (p ≠ 0 ∨ j ≠ 12) → (ba_w m 0 12 a).1 p j = m.1 p j := fun p j h1 => by rw [pw, if_neg (by omega)]
    have e8 : s2.1 3 8 = a := by rw [F2.2 3 8 (by unfold wFo; omega), pw_s]
    have ea : a = nI a.toInt.toNat := Int32.toInt_inj.mp (by rw [nI_toInt (by omega)]; omega)
    refine ⟨s.1 3 8, s2, ba_w m 0 12 a, ?_, ?_, ⟨n0, n1, n2, B0, B1, B2, ne, ns, ⟨⟨T0.up (ff _ _ (by omega) (by omega)) (fun j => ff _ _ (by omega) (by omega)) (gg _ _ (by omega)) (fun j _ => gg _ _ (by omega)), T1.up (ff _ _ (by omega) (by omega)) (fun j => ff _ _ (by omega) (by omega)) (gg _ _ (by omega)) (fun j _ => gg _ _ (by omega)), T2.up (ff _ _ (by omega) (by omega)) (fun j => ff _ _ (by omega) (by omega)) (gg _ _ (by omega)) (fun j _ => gg _ _ (by omega)), l1, l2⟩, hB.up (fun p j h1 h2 h3 => ff p j h3 (by omega)), hV.up (ff _ _ (by omega) (by omega)) (fun j => ff _ _ (by omega) (by omega)) (gg _ _ (by omega)) (fun j => gg _ _ (by omega)), hS.up (ff _ _ (by omega) (by omega)) (fun j => ff _ _ (by omega) (by omega)) (gg _ _ (by omega)) (fun j => gg _ _ (by omega)), ⟨a.toInt.toNat, by omega, by omega, by rw [e8]; exact ea, by rw [pw_s]; exact ea⟩, by rw [gg _ _ (by omega)]; exact hg, fun i hi => (hH i hi).up (fun j => ff _ _ (by omega) (by omega)) (fun j => ff _ _ (by omega) (by omega)) (gg _ _ (by omega)) (gg _ _ (by omega)) (fun j _ => gg _ _ (by omega)), by rw [ff 0 7 (by omega) (by omega), gg _ _ (by omega)]; exact hf⟩, K2⟩⟩
    · simp only [c1, if_false, hr.2, if_true, pz_lt, e2, pz_bnd]
    · simp only [g, pz_bnd, p_10, if_false, pz_lt, r3, r4]
  · have g : xm_in a.toInt64 1 9 = some 0 := by rw [pm_in, if_neg (fun z => hr ⟨h1.1.mp z.1, h9.2.mp z.2⟩)]
    refine ⟨-2, s, m, ?_, by simp only [g, pz_bnd, p_00, if_true], h⟩
    rw [t1, t2] at hr
    by_cases c : a < (1 : Int32)
    · rw [if_pos c]
    · rw [if_neg c, if_neg (by rw [t2]; rw [t3] at c; omega)]
/-! ===== slips ===== -/
def wAp (b p j : Nat) : Prop := p = b + 1 ∨ (p = b ∧ j = 1)
theorem pl_full (s : ba_St) (b : Nat) {n : Nat} (hn : n ≤ 8) (h : s.1 b 1 = nI n) : xl_isFull s b = some (if n < 8 then 0 else 1) := by
  unfold xl_isFull
  rw [h, pz_lit 8]
  by_cases c : n < 8
  · rw [if_pos (by rw [pz_ltN (by omega) (by omega)]; exact c), if_pos c]
  · rw [if_neg (by rw [pz_ltN (by omega) (by omega)]; exact c), if_neg c]
theorem pl_append (s : ba_St) (b : Nat) {n : Nat} (hn : n < 8) (h : s.1 b 1 = nI n) (a1 a2 a3 a4 : Int32) : ∃ s', xl_append s b a1 a2 a3 a4 = some s' ∧ fr (wAp b) s s' ∧ s'.1 b 1 = nI (n + 1) ∧ s'.1 (b + 1) (n * 4) = a1 ∧ s'.1 (b + 1) (n * 4 + 1) = a2 ∧ s'.1 (b + 1) (n * 4 + 2) = a3 ∧ s'.1 (b + 1) (n * 4 + 3) = a4 ∧ ∀ j, j < n * 4 → s'.1 (b + 1) j = s.1 (b + 1) j := by
  have hf : xl_isFull s b = some 0 := by rw [pl_full s b (by omega) h, if_pos hn]
  have e0 : nI n * 4 = nI (n * 4) := by rw [pz_lit 4, pk_mul]
  have e1 : nI (n * 4) + 1 = nI (n * 4 + 1) := by rw [pz_lit 1, nI_add]
  have e2 : nI (n * 4) + 2 = nI (n * 4 + 2) := by rw [pz_lit 2, nI_add]
  have e3 : nI (n * 4) + 3 = nI (n * 4 + 3) := by rw [pz_lit 3, nI_add]
  have i0 : ba_inb (nI (n * 4)) 32 = true := pz_inb (by omega) (by omega)
  have i1 : ba_inb (nI (n * 4 + 1)) 32 = true := pz_inb (by omega) (by omega)
  have i2 : ba_inb (nI (n * 4 + 2)) 32 = true := pz_inb (by omega) (by omega)
  have i3 : ba_inb (nI (n * 4 + 3)) 32 = true := pz_inb (by omega) (by omega)
  have x0 : ba_ix (nI (n * 4)) = n * 4 := pz_ix (by omega)
  have x1 : ba_ix (nI (n * 4 + 1)) = n * 4 + 1 := pz_ix (by omega)
  have x2 : ba_ix (nI (n * 4 + 2)) = n * 4 + 2 := pz_ix (by omega)
  have x3 : ba_ix (nI (n * 4 + 3)) = n * 4 + 3 := pz_ix (by omega)
  have q : (ba_w (ba_w (ba_w (ba_w s (b + 1) (n * 4) a1) (b + 1) (n * 4 + 1) a2) (b + 1) (n * 4 + 2) a3) (b + 1) (n * 4 + 3) a4).1 b 1 = nI n := by
    rw [pw_p _ _ _ _ (by omega), pw_p _ _ _ _ (by omega), pw_p _ _ _ _ (by omega), pw_p _ _ _ _ (by omega)]; exact h
  refine ⟨ba_w (ba_w (ba_w (ba_w (ba_w s (b + 1) (n * 4) a1) (b + 1) (n * 4 + 1) a2) (b + 1) (n * 4 + 2) a3) (b + 1) (n * 4 + 3) a4) b 1 (nI (n + 1)), ?_, (((((fr.rf (wAp b) s).w _ _ _ (by unfold wAp; omega)).w _ _ _ (by unfold wAp; omega)).w _ _ _ (by unfold wAp; omega)).w _ _ _ (by unfold wAp; omega)).w _ _ _ (by unfold wAp; omega), pw_s _ _ _ _, ?_, ?_, ?_, ?_, fun j hj => ?_⟩
  · unfold xl_append
    simp only [hf, pz_bnd, p_00, if_true, h, e0, pz_lt, e1, e2, e3, i0, i1, i2, i3, x0, x1, x2, x3, pz_grt, q, pz_succ]
  · rw [pw_p _ _ _ _ (by omega), pw_i _ _ _ (by omega), pw_i _ _ _ (by omega), pw_i _ _ _ (by omega), pw_s]
  · rw [pw_p _ _ _ _ (by omega), pw_i _ _ _ (by omega), pw_i _ _ _ (by omega), pw_s]
  · rw [pw_p _ _ _ _ (by omega), pw_i _ _ _ (by omega), pw_s]
  · rw [pw_p _ _ _ _ (by omega), pw_s]
  · rw [pw_p _ _ _ _ (by omega), pw_i _ _ _ (by omega), pw_i _ _ _ (by omega), pw_i _ _ _ (by omega), pw_i _ _ _ (by omega)]
