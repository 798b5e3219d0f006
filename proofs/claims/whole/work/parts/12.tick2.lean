/-! ===== the board in both stores, and one tick of it ===== -/
def te_F (b : Nat) (s s' : ba_St) : Prop := s'.2 = s.2 ∧ ∀ p j, (p < b + 4 ∨ b + 14 < p) → (p ≠ b ∨ (j ≠ 10 ∧ j ≠ 18)) → s'.1 p j = s.1 p j
def te_M (m m' : ba_St) : Prop := m'.2 = m.2 ∧ ∀ p j, (p < 11 ∨ 22 < p) → (p ≠ 0 ∨ j ≠ 28) → m'.1 p j = m.1 p j
theorem te_F.rf (b : Nat) (s : ba_St) : te_F b s s := ⟨rfl, fun _ _ _ _ => rfl⟩
theorem te_M.rf (m : ba_St) : te_M m m := ⟨rfl, fun _ _ _ _ => rfl⟩
theorem te_F.tr {b : Nat} {s s' s'' : ba_St} (h : te_F b s s') (g : te_F b s' s'') : te_F b s s'' := ⟨g.1.trans h.1, fun p j h1 h2 => (g.2 p j h1 h2).trans (h.2 p j h1 h2)⟩
theorem te_M.tr {m m' m'' : ba_St} (h : te_M m m') (g : te_M m' m'') : te_M m m'' := ⟨g.1.trans h.1, fun p j h1 h2 => (g.2 p j h1 h2).trans (h.2 p j h1 h2)⟩
theorem te_F.w {b : Nat} {s s' : ba_St} (h : te_F b s s') (p j : Nat) (v : Int32) (hp : (b + 4 ≤ p ∧ p ≤ b + 14) ∨ (p = b ∧ (j = 10 ∨ j = 18))) : te_F b s (ba_w s' p j v) := by
  refine ⟨h.1, fun a i h1 h2 => ?_⟩
  rw [pw, if_neg (by rintro ⟨rfl, rfl⟩; omega)]
  exact h.2 a i h1 h2
theorem te_M.w {m m' : ba_St} (h : te_M m m') (p j : Nat) (v : Int32) (hp : (11 ≤ p ∧ p ≤ 22) ∨ (p = 0 ∧ j = 28)) : te_M m (ba_w m' p j v) := by
  refine ⟨h.1, fun a i h1 h2 => ?_⟩
  rw [pw, if_neg (by rintro ⟨rfl, rfl⟩; omega)]
  exact h.2 a i h1 h2
def te_E (b : Nat) (s m : ba_St) (N np ne : Nat) (pc : Nat → Nat) : Prop :=
  (N ≤ 12 ∧ np ≤ 12 ∧ ne ≤ 8 ∧ s.1 b 4 = nI N ∧ m.1 0 10 = nI N ∧ s.1 3 3 = nI np ∧ m.1 0 7 = nI np ∧ s.1 10 1 = nI ne ∧ m.1 0 13 = nI ne) ∧
  (s.1 3 8 = m.1 0 12 ∧ ∀ c, c < 9 → s.1 7 c = m.1 8 c ∧ ∃ v, v ≤ 9 ∧ m.1 8 c = nI v) ∧
  (∀ i, i < np → pc i < 72 ∧ m.1 7 (3 * i) = nI (pc i / 9) ∧ m.1 7 (3 * i + 1) = nI (pc i % 9)) ∧
  (∀ q, q < 72 → (∀ i, i < np → pc i = q → s.1 6 q = nI i) ∧ ((∀ i, i < np → pc i ≠ q) → s.1 6 q = pn)) ∧
  (∀ i, i < np → ∃ v, v ≤ 3 ∧ s.1 (b + 1) i = nI v ∧ m.1 7 (3 * i + 2) = nI v) ∧
  (∀ e, e < ne → ∃ k t v, k ≤ 2 ∧ t < 24 ∧ v < 12 ∧ s.1 11 (e * 4) = nI k ∧ s.1 11 (e * 4 + 1) = nI t ∧ s.1 11 (e * 4 + 2) = nI v ∧ m.1 10 (3 * e) = nI k ∧ m.1 10 (3 * e + 1) = nI t ∧ m.1 10 (3 * e + 2) = nI v) ∧
  (∀ e, e < ne → bt (s.1 b 5) e = !bt (m.1 0 15) e) ∧
  (∀ k, k < N → ∃ t h, t < 24 ∧ 1 ≤ h ∧ h ≤ 9 ∧ s.1 (b + 2) k = nI t ∧ s.1 (b + 3) k = nI h ∧ m.1 9 (2 * k) = nI t ∧ m.1 9 (2 * k + 1) = nI h)
theorem te_E.fr {b : Nat} {s m s' m' : ba_St} {N np ne : Nat} {pc : Nat → Nat} (hb : 15 ≤ b) (h : te_E b s m N np ne pc) (hF : te_F b s s') (hM : te_M m m') : te_E b s' m' N np ne pc := by
  have f1 : ∀ p j, p < b → s'.1 p j = s.1 p j := fun p j hp => hF.2 p j (Or.inl (by omega)) (Or.inl (by omega))
  have f2 : ∀ p j, b < p → p < b + 4 → s'.1 p j = s.1 p j := fun p j hp hq => hF.2 p j (Or.inl (by omega)) (Or.inl (by omega))
  have f3 : ∀ j, j ≠ 10 → j ≠ 18 → s'.1 b j = s.1 b j := fun j h1 h2 => hF.2 b j (Or.inl (by omega)) (Or.inr ⟨h1, h2⟩)
  have g1 : ∀ p j, 0 < p → p < 11 → m'.1 p j = m.1 p j := fun p j hp hq => hM.2 p j (Or.inl hq) (Or.inl (by omega))
  have g2 : ∀ j, j ≠ 28 → m'.1 0 j = m.1 0 j := fun j h1 => hM.2 0 j (Or.inl (by omega)) (Or.inr h1)
  obtain ⟨h1, h2, h3, h4, h5, h6, h7, h8⟩ := h
  refine ⟨?_, ?_, ?_, ?_, ?_, ?_, ?_, ?_⟩
  · rw [f3 4 (by omega) (by omega), g2 10 (by omega), f1 3 3 (by omega), g2 7 (by omega), f1 10 1 (by omega), g2 13 (by omega)]; exact h1
  · rw [f1 3 8 (by omega), g2 12 (by omega)]
    refine ⟨h2.1, fun c hc => ?_⟩
    rw [f1 7 c (by omega), g1 8 c (by omega) (by omega)]; exact h2.2 c hc
  · intro i hi
    rw [g1 7 _ (by omega) (by omega), g1 7 _ (by omega) (by omega)]; exact h3 i hi
  · intro q hq
    rw [f1 6 q (by omega)]; exact h4 q hq
  · intro i hi
    rw [f2 (b + 1) i (by omega) (by omega), g1 7 _ (by omega) (by omega)]; exact h5 i hi
  · intro e he
    rw [f1 11 _ (by omega), f1 11 _ (by omega), f1 11 _ (by omega), g1 10 _ (by omega) (by omega), g1 10 _ (by omega) (by omega), g1 10 _ (by omega) (by omega)]; exact h6 e he
  · intro e he
    rw [f3 5 (by omega) (by omega), g2 15 (by omega)]; exact h7 e he
  · intro k hk
    rw [f2 (b + 2) k (by omega) (by omega), f2 (b + 3) k (by omega) (by omega), g1 9 _ (by omega) (by omega), g1 9 _ (by omega) (by omega)]; exact h8 k hk
def te_D (b : Nat) (s m : ba_St) (N np : Nat) (P : Nat → Nat) (T U : Nat) (Hs : Nat → Nat → Nat) : Prop :=
  dP (s.1 (b + 7)) (m.1 11) (m.1 12) N P ∧ dO (s.1 (b + 5)) N P ∧ dR (s.1 (b + 6)) N P ∧ dW (s.1 b 10) N P ∧ dY (s.1 (b + 1)) (s.1 (b + 4)) (m.1 16) (m.1 17) np ∧ dC (s.1 (b + 9)) (s.1 (b + 10)) (m.1 18) (m.1 19) ∧ dB (s.1 (b + 11)) (s.1 (b + 12)) (s.1 (b + 13)) (m.1 13) (m.1 14) (m.1 15) N ∧ dT (s.1 (b + 14)) (m.1 20) U ∧ dH (s.1 (b + 8)) (m.1 21) (m.1 22) N T Hs ∧ dX (s.1 (b + 7)) N ∧ dV (m.1 13) N P ∧ s.1 b 18 = m.1 0 28
theorem te_who {f rw cl pl : Nat → Int32} {N : Nat} {P : Nat → Nat} (hN : N ≤ 12) (hP : dP pl rw cl N P) (hO : dO f N P) {r c : Nat} (hr : r < 8) (hc : c < 9) : pl_last (fun k => decide (rw k = nI r ∧ cl k = nI c)) N = f (r * 9 + c) := by
  have key : ∀ k, k < N → ((rw k = nI r ∧ cl k = nI c) ↔ P k = r * 9 + c) := by
    intro k hk
    obtain ⟨h1, h2, h3, h4⟩ := hP k hk
    rw [h3, h4]
    unfold cR cC
    by_cases e : P k = 90
    · rw [if_pos e, if_pos e, pz_pn' (by omega)]
      constructor
      · intro h; exact h.1.elim
      · intro h; omega
    · rw [if_neg e, if_neg e, pz_eq (by omega) (by omega), pz_eq (by omega) (by omega)]
      omega
  refine pl_last_eq (fun k hk h => ?_) (fun h => ?_)
  · exact (hO (r * 9 + c) (by omega)).1 k hk ((key k hk).mp (of_decide_eq_true h))
  · exact (hO (r * 9 + c) (by omega)).2 (fun k hk e => by
      have := h k hk
      rw [decide_eq_false_iff_not] at this
      exact this ((key k hk).mpr e))
theorem dP_col {pl rw cl : Nat → Int32} {N : Nat} {P : Nat → Nat} (h : dP pl rw cl N P) {k p : Nat} (hk : k < N) (h1 : P k < 72) (h2 : p < 72) (h3 : p / 9 = P k / 9) : dP (upd pl k (nI p)) rw (upd cl k (nI (p % 9))) N (pu P k p) := by
  intro j hj
  by_cases e : j = k
  · subst e
    rw [pu_s, pk_us, pk_us]
    obtain ⟨a1, a2, a3, a4⟩ := h j hj
    unfold cP cR cC
    rw [if_neg (by omega), if_neg (by omega), if_neg (by omega)]
    refine ⟨by omega, rfl, ?_, rfl⟩
    rw [a3]
    unfold cR
    rw [if_neg (by omega), h3]
  · rw [pu_n P p e, pk_un e, pk_un e]
    exact h j hj
theorem dX_upd {pl : Nat → Int32} {N k : Nat} (v : Int32) (h : dX pl N) (hk : k < N) : dX (upd pl k v) N := by
  intro j h1 h2
  rw [pk_un (by omega)]
  exact h j h1 h2
/-- one place of a tilt -/
theorem te_tilt1 {b : Nat} {s m : ba_St} {N np T U : Nat} {P : Nat → Nat} {Hs : Nat → Nat → Nat} (hN : N ≤ 12) (h10 : m.1 0 10 = nI N) (D : te_D b s m N np P T U Hs) {r c c2 : Nat} (hr : r < 8) (hc : c < 9) (hc2 : c2 < 9) (hne : c2 ≠ c) {st z1 z3 y2 : Int32} (e1 : nI (r * 9 + c) + st = nI (r * 9 + c2)) (e2 : nI c + st = nI c2) :
    ∃ s' m' P', te_D b s' m' N np P' T U Hs ∧ te_F b s s' ∧ te_M m m' ∧ (∀ k, xc_tilt_l35 b z1 st z3 (nI c) k (s, nI r) = k (s', nI (r + 1))) ∧ (∀ k, xm_tilts_l24 st y2 (nI c) k (m, nI r) = k (m', nI (r + 1))) := by
  have D0 := D
  obtain ⟨D1, D2, D3, D4, D5, D6, D7, D8, D9, D10, D11, D12⟩ := D
  have w1 : xm_whoAt m (nI r) (nI c) = some (s.1 (b + 5) (r * 9 + c)) := by rw [pm_whoAt m hN h10, te_who hN D1 D2 hr hc]
  have w2 : xm_whoAt m (nI r) (nI c2) = some (s.1 (b + 5) (r * 9 + c2)) := by rw [pm_whoAt m hN h10, te_who hN D1 D2 hr hc2]
  have hcol : xm_isColumn (nI c2) = some 1 := by
    rw [pm_isColumn, if_pos ⟨nI_pos' (by omega), nI_le (b := 8) (by omega) (by decide)⟩]
  have l8 : ¬ 8 ≤ r := by omega
  rcases dO_who D2 (show r * 9 + c < 72 by omega) with ⟨hf, -⟩ | ⟨k, hk, hPk, hf⟩
  · refine ⟨s, m, P, D0, te_F.rf b s, te_M.rf m, fun k => ?_, fun k => ?_⟩
    · simp (disch := omega) only [xc_tilt_l35, ↓pz_m1, pz_lit, pz_le, l8, if_false, pk_mul, nI_add, pz_lt, pz_inb, pz_grt, pz_ix, hf, if_true]
    · simp (disch := omega) only [xm_tilts_l24, ↓pz_m1, pz_lit, pz_le, l8, if_false, w1, pz_bnd, hf, if_true, pz_lt, nI_add]
  · rcases dO_who D2 (show r * 9 + c2 < 72 by omega) with ⟨hg, hfree⟩ | ⟨j, hj, hPj, hg⟩
    · have hcl : m.1 12 k = nI c := by
        rw [(D1 k hk).2.2.2]
        unfold cC
        rw [if_neg (by omega), hPk]
        congr 1
        omega
      refine ⟨ba_w (ba_w (ba_w s (b + 5) (r * 9 + c) pn) (b + 5) (r * 9 + c2) (nI k)) (b + 7) k (nI (r * 9 + c2)), ba_w m 12 k (nI c2), pu P k (r * 9 + c2), ⟨?_, ?_, ?_, ?_, ?_, ?_, ?_, ?_, ?_, ?_, ?_, ?_⟩, ?_, ?_, fun k => ?_, fun k => ?_⟩
      · simp (disch := omega) only [wa, wo]
        have h := dP_col D1 (p := r * 9 + c2) hk (by omega) (by omega) (by omega)
        rwa [show (r * 9 + c2) % 9 = c2 by omega] at h
      · simp (disch := omega) only [wa, wo]
        have h := dO_move D2 hN (k := k) (q := r * 9 + c2) hk (by omega) (fun _ => hfree)
        rwa [if_pos (by omega), hPk] at h
      · simp (disch := omega) only [wa, wo]
        exact dR_same D3 ⟨by omega, by omega⟩ (by omega)
      · simp (disch := omega) only [wa, wo]
        exact dW_same D4 (by omega) (by omega)
      · simp (disch := omega) only [wa, wo]; exact D5
      · simp (disch := omega) only [wa, wo]; exact D6
      · simp (disch := omega) only [wa, wo]; exact D7
      · simp (disch := omega) only [wa, wo]; exact D8
      · simp (disch := omega) only [wa, wo]; exact D9
      · simp (disch := omega) only [wa, wo]; exact dX_upd _ D10 hk
      · simp (disch := omega) only [wa, wo]
        refine dV_same D11 ?_
        unfold bd
        rw [if_pos (by omega), if_pos (by omega)]
        omega
      · simp (disch := omega) only [wa, wo]; exact D12
      · exact (((te_F.rf b s).w _ _ _ (by omega)).w _ _ _ (by omega)).w _ _ _ (by omega)
      · exact (te_M.rf m).w _ _ _ (by omega)
      · simp (disch := omega) only [xc_tilt_l35, ↓pz_m1, pz_lit, pz_le, l8, if_false, pk_mul, nI_add, pz_lt, pz_inb, pz_grt, pz_ix, hf, pz_pn, e1, hg, if_true]
      · simp (disch := omega) only [xm_tilts_l24, ↓pz_m1, pz_lit, pz_le, l8, if_false, w1, pz_bnd, hf, pz_pn, e2, hcol, w2, hg, if_true, pz_inb, pz_grt, pz_ix, hcl, pz_lt, nI_add, pz_eq, Nat.one_ne_zero]
    · refine ⟨s, m, P, D0, te_F.rf b s, te_M.rf m, fun k => ?_, fun k => ?_⟩
      · simp (disch := omega) only [xc_tilt_l35, ↓pz_m1, pz_lit, pz_le, l8, if_false, pk_mul, nI_add, pz_lt, pz_inb, pz_grt, pz_ix, hf, pz_pn, e1, hg]
      · simp (disch := omega) only [xm_tilts_l24, ↓pz_m1, pz_lit, pz_le, l8, if_false, w1, pz_bnd, hf, pz_pn, e2, hcol, w2, hg, pz_lt, nI_add, pz_eq, Nat.one_ne_zero]
