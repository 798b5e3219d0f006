/-! ===== what holds between calls ===== -/
def iT (s m : ba_St) (t n : Nat) (B : Nat → Nat) : Prop := tx s (17 + 2 * t) n B ∧ mx m t n B
def iV (s m : ba_St) (ne : Nat) : Prop := ne ≤ 8 ∧ s.1 10 1 = nI ne ∧ m.1 0 13 = nI ne ∧ ∀ e, e < ne → ∃ k t v, k ≤ 2 ∧ t < 24 ∧ v < 12 ∧ s.1 11 (e * 4) = nI k ∧ s.1 11 (e * 4 + 1) = nI t ∧ s.1 11 (e * 4 + 2) = nI v ∧ m.1 10 (3 * e) = nI k ∧ m.1 10 (3 * e + 1) = nI t ∧ m.1 10 (3 * e + 2) = nI v
def iS (s m : ba_St) (ns : Nat) : Prop := ns ≤ 8 ∧ s.1 12 1 = nI ns ∧ m.1 0 29 = nI ns ∧ ∀ e, e < ns → ∃ t r c k, t < 24 ∧ r < 8 ∧ c < 9 ∧ k ≤ 12 ∧ s.1 13 (e * 4) = nI t ∧ s.1 13 (e * 4 + 1) = nI r ∧ s.1 13 (e * 4 + 2) = nI c ∧ s.1 13 (e * 4 + 3) = nI k ∧ m.1 23 (4 * e) = nI t ∧ m.1 23 (4 * e + 1) = nI r ∧ m.1 23 (4 * e + 2) = nI c ∧ m.1 23 (4 * e + 3) = nI k
def iH (s m : ba_St) (i : Nat) : Prop := (s.1 (23 + 2 * i) 3 = nI 1 ∧ m.1 1 i = pn) ∨ ∃ f n, f ≤ 2 ∧ n ≤ 60 ∧ s.1 (23 + 2 * i) 3 = nI 0 ∧ s.1 (23 + 2 * i) 1 = nI f ∧ m.1 1 i = nI f ∧ s.1 (23 + 2 * i) 2 = nI n ∧ m.1 2 i = nI n ∧ ∀ j, j < n → s.1 (24 + 2 * i) j = m.1 3 (60 * i + j)
def iB (s : ba_St) (n0 n1 n2 : Nat) (B0 B1 B2 : Nat → Nat) : Prop := (s.1 2 0 = fF (pV B0) 4 n0 ∧ bP s B0 (nP B0 n0)) ∧ (s.1 2 1 = fF (cV B1) 1 n1 ∧ ∀ c, c < 9 → s.1 7 c = nI (wC B1 n1 c)) ∧ (s.1 2 2 = fF (bV B2) 3 n2 ∧ bBl s B2 (nB B2 n2))
def R0 (s m : ba_St) (n0 n1 n2 : Nat) (B0 B1 B2 : Nat → Nat) (ne ns : Nat) : Prop := (iT s m 0 n0 B0 ∧ iT s m 1 n1 B1 ∧ iT s m 2 n2 B2 ∧ n1 ≤ 9 ∧ n2 ≤ 35) ∧ iB s n0 n1 n2 B0 B1 B2 ∧ iV s m ne ∧ iS s m ns ∧ (∃ r, 1 ≤ r ∧ r ≤ 9 ∧ s.1 3 8 = nI r ∧ m.1 0 12 = nI r) ∧ m.1 0 15 = nI 0 ∧ (∀ i, i < 4 → iH s m i) ∧ s.1 0 7 = m.1 0 4
def wPa (p j : Nat) : Prop := p = 7 ∨ p = 8 ∨ p = 9 ∨ (p = 0 ∧ (j = 7 ∨ j = 10))
theorem R0.mv {s m s' m' : ba_St} {n0 n1 n2 : Nat} {B0 B1 B2 : Nat → Nat} {ne ns : Nat} (h : R0 s m n0 n1 n2 B0 B1 B2 ne ns) (hF : fr wRun s s') (hM : fr wQ m m') (hg : m'.1 0 15 = nI 0) : R0 s' m' n0 n1 n2 B0 B1 B2 ne ns := by
  have f : ∀ p j, p < 31 → p ≠ 15 → p ≠ 16 → (p ≠ 0 ∨ j < 8) → s'.1 p j = s.1 p j := fun p j h1 h2 h3 h4 => hF.2 p j (by unfold wRun; omega)
  have g1 : ∀ p j, 0 < p → p < 7 → m'.1 p j = m.1 p j := fun p j h1 h2 => hM.2 p j (by unfold wQ; omega)
  have g2 : ∀ j, m'.1 10 j = m.1 10 j := fun j => hM.2 10 j (by unfold wQ; omega)
  have g3 : ∀ j, m'.1 23 j = m.1 23 j := fun j => hM.2 23 j (by unfold wQ; omega)
  have g4 : ∀ j, j ≠ 7 → j ≠ 10 → j ≠ 15 → j ≠ 28 → j ≠ 32 → m'.1 0 j = m.1 0 j := fun j _ _ _ _ _ => hM.2 0 j (by unfold wQ; omega)
  obtain ⟨⟨⟨t0, u0⟩, ⟨t1, u1⟩, ⟨t2, u2⟩, l1, l2⟩, ⟨⟨b1, b2, b3, b4⟩, ⟨b5, b6⟩, b7, b8, b9⟩, ⟨v1, v2, v3, v4⟩, ⟨w1, w2, w3, w4⟩, ⟨r, r1, r2, r3, r4⟩, -, hh, hfd⟩ := h
  have nw : ∀ a, a < 30 → 17 ≤ a → ¬ wRun a 1 ∧ ∀ j, ¬ wRun (a + 1) j := fun a h1 h2 => ⟨by unfold wRun; omega, fun j => by unfold wRun; omega⟩
  have nq : ∀ t, ¬ wQ 6 t ∧ ∀ j, ¬ wQ 5 j := fun t => ⟨by unfold wQ; omega, fun j => by unfold wQ; omega⟩
  refine ⟨⟨⟨t0.fr hF (nw 17 (by omega) (by omega)).1 (nw 17 (by omega) (by omega)).2, u0.fr hM (nq 0).1 (nq 0).2⟩, ⟨t1.fr hF (nw 19 (by omega) (by omega)).1 (nw 19 (by omega) (by omega)).2, u1.fr hM (nq 1).1 (nq 1).2⟩, ⟨t2.fr hF (nw 21 (by omega) (by omega)).1 (nw 21 (by omega) (by omega)).2, u2.fr hM (nq 2).1 (nq 2).2⟩, l1, l2⟩, ⟨⟨?_, ?_, ?_, ?_⟩, ⟨?_, ?_⟩, ?_, ?_, ?_⟩, ⟨v1, ?_, ?_, ?_⟩, ⟨w1, ?_, ?_, ?_⟩, ⟨r, r1, r2, ?_, ?_⟩, hg, ?_, ?_⟩
  · rw [f 2 0 (by omega) (by omega) (by omega) (by omega)]; exact b1
  · rw [f 3 3 (by omega) (by omega) (by omega) (by omega)]; exact b2
  · intro i hi; rw [f 4 i (by omega) (by omega) (by omega) (by omega), f 5 i (by omega) (by omega) (by omega) (by omega)]; exact b3 i hi
  · intro q hq; rw [f 6 q (by omega) (by omega) (by omega) (by omega)]; exact b4 q hq
  · rw [f 2 1 (by omega) (by omega) (by omega) (by omega)]; exact b5
  · intro c hc; rw [f 7 c (by omega) (by omega) (by omega) (by omega)]; exact b6 c hc
  · rw [f 2 2 (by omega) (by omega) (by omega) (by omega)]; exact b7
  · rw [f 3 7 (by omega) (by omega) (by omega) (by omega)]; exact b8
  · intro i hi; rw [f 8 i (by omega) (by omega) (by omega) (by omega), f 9 i (by omega) (by omega) (by omega) (by omega)]; exact b9 i hi
  · rw [f 10 1 (by omega) (by omega) (by omega) (by omega)]; exact v2
  · rw [g4 13 (by omega) (by omega) (by omega) (by omega) (by omega)]; exact v3
  · intro e he; rw [f 11 _ (by omega) (by omega) (by omega) (by omega), f 11 _ (by omega) (by omega) (by omega) (by omega), f 11 _ (by omega) (by omega) (by omega) (by omega), g2, g2, g2]; exact v4 e he
  · rw [f 12 1 (by omega) (by omega) (by omega) (by omega)]; exact w2
  · rw [g4 29 (by omega) (by omega) (by omega) (by omega) (by omega)]; exact w3
  · intro e he; rw [f 13 _ (by omega) (by omega) (by omega) (by omega), f 13 _ (by omega) (by omega) (by omega) (by omega), f 13 _ (by omega) (by omega) (by omega) (by omega), f 13 _ (by omega) (by omega) (by omega) (by omega), g3, g3, g3, g3]; exact w4 e he
  · rw [f 3 8 (by omega) (by omega) (by omega) (by omega)]; exact r3
  · rw [g4 12 (by omega) (by omega) (by omega) (by omega) (by omega)]; exact r4
  · intro i hi
    have q := hh i hi
    unfold iH at q ⊢
    rw [f (23 + 2 * i) 3 (by omega) (by omega) (by omega) (by omega), f (23 + 2 * i) 1 (by omega) (by omega) (by omega) (by omega), f (23 + 2 * i) 2 (by omega) (by omega) (by omega) (by omega), g1 1 i (by omega) (by omega), g1 2 i (by omega) (by omega)]
    rcases q with q | ⟨fm, n, q1, q2, q3, q4, q5, q6, q7, q8⟩
    · exact Or.inl q
    · exact Or.inr ⟨fm, n, q1, q2, q3, q4, q5, q6, q7, fun j hj => by rw [f _ j (by omega) (by omega) (by omega) (by omega), g1 3 _ (by omega) (by omega)]; exact q8 j hj⟩
  · rw [f 0 7 (by omega) (by omega) (by omega) (by omega), g4 4 (by omega) (by omega) (by omega) (by omega) (by omega)]; exact hfd
theorem wC_le {B : Nat → Nat} {n c : Nat} (hn : n ≤ 47) : wC B n c ≤ 9 := by
  unfold wC
  split
  · rename_i h
    have h1 := (fF_pn (by omega) h.1).1 c h.2
    have := of_decide_eq_true h1
    omega
  · omega
/-- the reference reads the texts: then both have the board as told -/
theorem parsed {s m : ba_St} {n0 n1 n2 : Nat} {B0 B1 B2 : Nat → Nat} {ne ns : Nat} (h : R0 s m n0 n1 n2 B0 B1 B2 ne ns) : ∃ m1 m2 m3, xm_readsPins m = some (s.1 2 0, m1) ∧ xm_readsCups m1 = some (s.1 2 1, m2) ∧ xm_readsBalls m2 = some (s.1 2 2, m3) ∧ fr wPa m m3 ∧ fr wPa m m1 ∧ fr wPa m m2 ∧ kT s m3 (nB B2 n2) (nP B0 n0) ne (pcel B0) ∧ mP m1 B0 (nP B0 n0) := by
  obtain ⟨⟨⟨t0, u0⟩, ⟨t1, u1⟩, ⟨t2, u2⟩, l1, l2⟩, ⟨⟨b1, b2, b3, b4⟩, ⟨b5, b6⟩, b7, b8, b9⟩, ⟨v1, v2, v3, v4⟩, -, ⟨r, r1, r2, r3, r4⟩, hg, -, -⟩ := h
  obtain ⟨m1, e1, f1, p1⟩ := pm_readsPins u0
  have u1' := u1.fr f1 (by unfold wMp; omega) (by unfold wMp; omega)
  obtain ⟨m2, e2, f2, p2⟩ := pm_readsCups u1' l1
  have u2' := (u2.fr f1 (by unfold wMp; omega) (by unfold wMp; omega)).fr f2 (by unfold w8; omega) (by unfold w8; omega)
  obtain ⟨m3, e3, f3, p3⟩ := pm_readsBalls u2' l2
  have F1 : fr wPa m m1 := f1.mono (fun p j w => by unfold wMp at w; unfold wPa; omega)
  have F2 : fr wPa m m2 := F1.tr (f2.mono (fun p j w => by unfold w8 at w; unfold wPa; omega))
  have F3 : fr wPa m m3 := F2.tr (f3.mono (fun p j w => by unfold wMb at w; unfold wPa; omega))
  have g23 : ∀ j, m3.1 7 j = m1.1 7 j := fun j => by rw [f3.2 7 j (by unfold wMb; omega), f2.2 7 j (by unfold w8; omega)]
  have g8 : ∀ j, m3.1 8 j = m2.1 8 j := fun j => f3.2 8 j (by unfold wMb; omega)
  have hN : nB B2 n2 ≤ 12 := by unfold nB; split <;> omega
  have hnp : nP B0 n0 ≤ 12 := by have := u0.2.1; unfold nP; split <;> omega
  refine ⟨m1, m2, m3, by rw [b1]; exact e1, by rw [b5]; exact e2, by rw [b7]; exact e3, F3, F1, F2, ⟨⟨hN, hnp, v1, b8, p3.1, b2, ?_, v2, ?_⟩, ⟨?_, fun c hc => ?_⟩, fun i hi => ?_, b4, fun i hi => ?_, fun e he => ?_, ?_, fun k hk => ?_⟩, p1⟩
  · rw [f3.2 0 7 (by unfold wMb; omega), f2.2 0 7 (by unfold w8; omega)]; exact p1.1
  · rw [F3.2 0 13 (by unfold wPa; omega)]; exact v3
  · rw [F3.2 0 12 (by unfold wPa; omega), r3, r4]
  · rw [g8 c, b6 c hc, p2 c hc]; exact ⟨rfl, _, wC_le (by omega), rfl⟩
  · rw [g23, g23]; exact ⟨(p1.2 i hi).1, (p1.2 i hi).2.1, (p1.2 i hi).2.2.1⟩
  · exact ⟨psor (B0 (4 * i + 2)), psor_le _, (b3 i hi).2.2, by rw [g23]; exact (p1.2 i hi).2.2.2⟩
  · rw [F3.2 10 _ (by unfold wPa; omega), F3.2 10 _ (by unfold wPa; omega), F3.2 10 _ (by unfold wPa; omega)]; exact v4 e he
  · rw [F3.2 0 15 (by unfold wPa; omega)]; exact hg
  · obtain ⟨c1, c2, c3, c4, c5⟩ := b9 k hk
    obtain ⟨-, -, -, d4, d5⟩ := p3.2 k hk
    exact ⟨_, _, c1, c2, c3, c4, c5, d4, d5⟩
/-- find(): the texts read, the told run -/
theorem found {s m : ba_St} {n0 n1 n2 : Nat} {B0 B1 B2 : Nat → Nat} {ne ns : Nat} (h : R0 s m n0 n1 n2 B0 B1 B2 ne ns) (hC : C1 s) : ∃ s' m', xb_runTold s = some s' ∧ xm_find m = some m' ∧ res 31 s' m' (nB B2 n2) ∧ kT s' m' (nB B2 n2) (nP B0 n0) ne (pcel B0) ∧ s'.1 0 8 = nI 1 ∧ CurTold s' ∧ fr (fun p j => (31 ≤ p ∧ p ≤ 45) ∨ (p = 0 ∧ j = 8)) s s' ∧ fr wQ m m' ∧ m'.1 0 15 = nI 0 := by
  obtain ⟨m1, m2, m3, e1, e2, e3, F3, -, -, K, -⟩ := parsed h
  obtain ⟨s', m', d1, d2, d3, d4, d5, d6, d7⟩ := told K hC
  have hF : fr wRun s s' := d6.mono (fun p j w => by unfold wRun; omega)
  have K' := K.mv hF d7.fr
  refine ⟨s', m', d1, ?_, d3, K', d4, d5, d6, ?_, K'.2.2.2.2.2.2.1⟩
  · simp only [xm_find, e1, pz_bn2, e2, e3, d2, pz_bnd]
  · exact (F3.mono (fun p j w => by unfold wPa at w; unfold wQ; omega)).tr (d7.fr.mono (fun p j w => by unfold wL at w; unfold wQ; omega))
