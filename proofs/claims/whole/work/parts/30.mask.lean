/-! ===== masks: events left out ===== -/
theorem pf_twb {A O B U : Type} {F : (A → Option O) → A → Option O} {E : (B → Option U) → B → Option U} (I : Nat → A → B → Prop) (Po : O → U → Prop) (n : Nat) (hs : ∀ i a b, i < n → I i a b → (∃ a' b', I (i + 1) a' b' ∧ (∀ k, F k a = k a') ∧ (∀ k, E k b = k b')) ∨ ∃ o u, Po o u ∧ (∀ k, F k a = some o) ∧ (∀ k, E k b = some u)) (he : ∀ a b, I n a b → ∃ o u, Po o u ∧ (∀ k, F k a = some o) ∧ (∀ k, E k b = some u)) : ∀ (f g i : Nat) (a : A) (b : B), i ≤ n → n - i < f → n - i < g → I i a b → ∃ o u, Po o u ∧ ba_fix F f a = some o ∧ ba_fix E g b = some u := by
  intro f
  induction f with
  | zero => intro g i a b h1 h2; omega
  | succ f ih =>
    intro g i a b h1 h2 hg h3
    obtain ⟨g, rfl⟩ : ∃ g', g = g' + 1 := ⟨g - 1, by omega⟩
    by_cases hi : i = n
    · subst hi
      obtain ⟨o, u, p1, p2, p3⟩ := he a b h3
      exact ⟨o, u, p1, p2 _, p3 _⟩
    · rcases hs i a b (by omega) h3 with ⟨a', b', p1, p2, p3⟩ | ⟨o, u, p1, p2, p3⟩
      · obtain ⟨o, u, q1, q2, q3⟩ := ih g (i + 1) a' b' (by omega) (by omega) (by omega) p1
        exact ⟨o, u, q1, by show F (ba_fix F f) a = some o; rw [p2]; exact q2, by show E (ba_fix E g) b = some u; rw [p3]; exact q3⟩
      · exact ⟨o, u, p1, p2 _, p3 _⟩
/-- the course holds what is told (its mask aside) -/
def tk (b : Nat) (s : ba_St) : Prop := (∀ j, j < 12 → s.1 (b + 1) j = s.1 5 j ∧ s.1 (b + 2) j = s.1 8 j ∧ s.1 (b + 3) j = s.1 9 j) ∧ s.1 b 4 = s.1 3 7
theorem tk.tf {b : Nat} (hb : 15 ≤ b) {s s' : ba_St} (h : tk b s) (hF : te_F b s s') : tk b s' := by
  have f1 : ∀ p j, p < b → s'.1 p j = s.1 p j := fun p j hp => hF.2 p j (Or.inl (by omega)) (Or.inl (by omega))
  have f2 : ∀ p j, b < p → p < b + 4 → s'.1 p j = s.1 p j := fun p j hp hq => hF.2 p j (Or.inl (by omega)) (Or.inl (by omega))
  have f3 : ∀ j, j ≠ 10 → j ≠ 18 → s'.1 b j = s.1 b j := fun j h1 h2 => hF.2 b j (Or.inl (by omega)) (Or.inr ⟨h1, h2⟩)
  refine ⟨fun j hj => ?_, ?_⟩
  · rw [f2 (b + 1) j (by omega) (by omega), f2 (b + 2) j (by omega) (by omega), f2 (b + 3) j (by omega) (by omega), f1 5 j (by omega), f1 8 j (by omega), f1 9 j (by omega)]; exact h.1 j hj
  · rw [f3 4 (by omega) (by omega), f1 3 7 (by omega)]; exact h.2
theorem tk.w {b : Nat} (hb : 15 ≤ b) {s : ba_St} (h : tk b s) (x : Int32) : tk b (ba_w s b 5 x) := by
  refine ⟨fun j hj => ?_, ?_⟩
  · simp (disch := omega) only [pw_p]; exact h.1 j hj
  · rw [pw_i _ _ _ (by omega), pw_p _ _ _ _ (by omega)]; exact h.2
theorem tk.w0 {b : Nat} (hb : 15 ≤ b) {s : ba_St} (h : tk b s) (j : Nat) (x : Int32) : tk b (ba_w s 0 j x) := by
  refine ⟨fun j hj => ?_, ?_⟩
  · simp (disch := omega) only [pw_p]; exact h.1 j hj
  · rw [pw_p _ _ _ _ (by omega), pw_p _ _ _ _ (by omega)]; exact h.2
theorem te_mask {b : Nat} (hb : 15 ≤ b) {s m : ba_St} {N np ne : Nat} {pc : Nat → Nat} (h : kT s m N np ne pc) (T : tk b s) {x y : Int32} (hx : ∀ e, e < ne → bt x e = !bt y e) : te_E b (ba_w s b 5 x) (ba_w m 0 15 y) N np ne pc := by
  have f1 : ∀ p j, p < b → (ba_w s b 5 x).1 p j = s.1 p j := fun p j hp => pw_p _ _ _ _ (by omega)
  have f2 : ∀ p j, b < p → (ba_w s b 5 x).1 p j = s.1 p j := fun p j hp => pw_p _ _ _ _ (by omega)
  have g1 : ∀ p j, 0 < p → (ba_w m 0 15 y).1 p j = m.1 p j := fun p j hp => pw_p _ _ _ _ (by omega)
  have g0 : ∀ j, j ≠ 15 → (ba_w m 0 15 y).1 0 j = m.1 0 j := fun j hp => pw_i _ _ _ hp
  obtain ⟨⟨a1, a2, a3, a4, a5, a6, a7, a8, a9⟩, h2, h3, h4, h5, h6, h7, h8⟩ := h
  refine ⟨⟨a1, a2, a3, ?_, ?_, ?_, ?_, ?_, ?_⟩, ⟨?_, fun c hc => ?_⟩, fun i hi => ?_, fun q hq => ?_, fun i hi => ?_, fun e he => ?_, fun e he => ?_, fun k hk => ?_⟩
  · rw [pw_i _ _ _ (by omega), T.2]; exact a4
  · rw [g0 10 (by omega)]; exact a5
  · rw [f1 3 3 (by omega)]; exact a6
  · rw [g0 7 (by omega)]; exact a7
  · rw [f1 10 1 (by omega)]; exact a8
  · rw [g0 13 (by omega)]; exact a9
  · rw [f1 3 8 (by omega), g0 12 (by omega)]; exact h2.1
  · rw [f1 7 c (by omega), g1 8 c (by omega)]; exact h2.2 c hc
  · rw [g1 7 _ (by omega), g1 7 _ (by omega)]; exact h3 i hi
  · rw [f1 6 q (by omega)]; exact h4 q hq
  · rw [f2 (b + 1) i (by omega), g1 7 _ (by omega), (T.1 i (by omega)).1]; exact h5 i hi
  · rw [f1 11 _ (by omega), f1 11 _ (by omega), f1 11 _ (by omega), g1 10 _ (by omega), g1 10 _ (by omega), g1 10 _ (by omega)]; exact h6 e he
  · rw [pw_s, pw_s]; exact hx e he
  · rw [f2 (b + 2) k (by omega), f2 (b + 3) k (by omega), g1 9 _ (by omega), g1 9 _ (by omega), (T.1 k (by omega)).2.1, (T.1 k (by omega)).2.2]; exact h8 k hk
theorem te_D.om {b : Nat} {s m : ba_St} {N np T U : Nat} {P : Nat → Nat} {Hs : Nat → Nat → Nat} (h : te_D b s m N np P T U Hs) {p j : Nat} (v : Int32) (hp : p < 11) (hj : p ≠ 0 ∨ j ≠ 28) : te_D b s (ba_w m p j v) N np P T U Hs := by
  have f : ∀ q, 11 ≤ q → (ba_w m p j v).1 q = m.1 q := fun q h1 => funext fun i => by rw [pw, if_neg (by omega)]
  have g : (ba_w m p j v).1 0 28 = m.1 0 28 := by rw [pw, if_neg (by omega)]
  unfold te_D at h ⊢
  rw [f 11 (by omega), f 12 (by omega), f 13 (by omega), f 14 (by omega), f 15 (by omega), f 16 (by omega), f 17 (by omega), f 18 (by omega), f 19 (by omega), f 20 (by omega), f 21 (by omega), f 22 (by omega), g]
  exact h
theorem res.om {b : Nat} {s m : ba_St} {N : Nat} (h : res b s m N) {p j : Nat} (v : Int32) (hp : p < 11) (hj : p ≠ 0 ∨ (j ≠ 28 ∧ j ≠ 10)) : res b s (ba_w m p j v) N := by
  obtain ⟨np, P, Hs, D, a, c1, c2, c3⟩ := h
  exact ⟨np, P, Hs, D.om v hp (by omega), a, c1, c2, by rw [pw, if_neg (by omega)]; exact c3⟩
def wTr (p _j : Nat) : Prop := 46 ≤ p
/-- a run without some events: both -/
theorem go_mask {s m : ba_St} {N np ne : Nat} {pc : Nat → Nat} (K : kT s m N np ne pc) (T : tk 46 s) {x y : Int32} (hx : ∀ e, e < ne → bt x e = !bt y e) : ∃ s' m', xc_run (ba_w s 46 5 x) 46 = some s' ∧ xm_lives (ba_w m 0 15 y) = some m' ∧ res 46 s' m' N ∧ kT s' (ba_w m' 0 15 0) N np ne pc ∧ tk 46 s' ∧ fr wTr s s' ∧ fr wL m (ba_w m' 0 15 0) ∧ m'.1 0 15 = y ∧ s'.1 46 5 = x ∧ (∀ p j, 0 < p → p < 11 → m'.1 p j = m.1 p j) ∧ (∀ p, 23 ≤ p → m'.1 p = m.1 p) ∧ (∀ j, j ≠ 15 → j ≠ 28 → m'.1 0 j = m.1 0 j) := by
  have E := te_mask (by omega) K T hx
  obtain ⟨s', m', d1, d2, hres, hF, hM, E'⟩ := te_go (by omega) E
  have FS : fr wTr s s' := ((fr.rf wTr s).w 46 5 x (by unfold wTr; omega)).tr ⟨hF.1, fun p j w => hF.2 p j (by unfold wTr at w; omega) (by unfold wTr at w; omega)⟩
  have g15 : m.1 0 15 = nI 0 := K.2.2.2.2.2.2.1
  have FM : fr wL m (ba_w m' 0 15 0) := by
    refine ⟨by rw [pw_2, hM.1, pw_2], fun p j w => ?_⟩
    rw [pw]
    split
    · rename_i h; rw [h.1, h.2, g15]; rfl
    · rename_i h
      rw [hM.fr.2 p j w, pw, if_neg h]
  refine ⟨s', m', d1, d2, hres, K.mv (FS.mono (fun p j w => by unfold wTr at w; unfold wRun; omega)) FM, (T.w (by omega) x).tf (by omega) hF, FS, FM, ?_, ?_, fun p j h1 h2 => ?_, fun p h1 => ?_, fun j h1 h2 => ?_⟩
  · rw [hM.2 0 15 (by omega) (by omega), pw_s]
  · rw [hF.2 46 5 (by omega) (by omega), pw_s]
  · rw [hM.2 p j (by omega) (by omega), pw_p _ _ _ _ (by omega)]
  · funext j
    rw [hM.2 p j (by omega) (by omega), pw_p _ _ _ _ (by omega)]
  · rw [hM.2 0 j (by omega) (by omega), pw_i _ _ _ h1]
theorem po_all {s m : ba_St} {N np ne : Nat} {pc : Nat → Nat} (K : kT s m N np ne pc) : xo_allEvents s = some (ba_fishl 1 (s.1 10 1) - 1) ∧ ∀ e, e < 32 → bt (ba_fishl 1 (s.1 10 1) - 1) e = decide (e < ne) := by
  have h := K.1.2.2.2.2.2.2.2.1
  have h8 := K.1.2.2.1
  exact ⟨rfl, fun e he => by rw [h]; exact bt_all ne (by omega) e he⟩
/-- losing none without some events -/
theorem sp1 {s m : ba_St} {N np ne : Nat} {pc : Nat → Nat} (K : kT s m N np ne pc) (T : tk 46 s) (a : Int32) : ∃ s' m' v, (v = nI 0 ∨ v = nI 1) ∧ xb_losesNoneWithout s a = some (v, s') ∧ xm_isSpared m a = some (v, m') ∧ kT s' m' N np ne pc ∧ tk 46 s' ∧ fr wTr s s' ∧ fr wL m m' := by
  obtain ⟨p1, p2⟩ := po_all K
  have ne8 := K.1.2.2.1
  obtain ⟨s', m', d1, d2, hres, K', T', FS, FM, -⟩ := go_mask K T (x := (ba_fishl 1 (s.1 10 1) - 1) &&& (a ^^^ (-1))) (y := a) (fun e he => by
    rw [b_and, p2 e (by omega), b_xor, b_m1 e (by omega)]; simp [he])
  obtain ⟨x, x1, x2, x3⟩ := rd_lost (hres.om (p := 0) (j := 15) 0 (by omega) (by omega))
  have x2' : xc_lost s' 46 = some (nI x) := x2
  by_cases h0 : x = 0
  · subst h0
    refine ⟨s', _, nI 1, Or.inr rfl, ?_, ?_, K', T', FS, FM⟩
    · unfold xb_losesNoneWithout
      rw [p1]; simp only [pz_bnd, pz_lt, d1, x2']; rfl
    · unfold xm_isSpared
      simp only [pz_bnd, pz_lt, d2]
      rw [show (9 : Int32) = nI 9 from rfl, x3]; rfl
  · have hz : ¬ nI x = 0 := by rw [show (0 : Int32) = nI 0 from rfl, pz_eq (by omega) (by omega)]; exact h0
    refine ⟨s', _, nI 0, Or.inl rfl, ?_, ?_, K', T', FS, FM⟩
    · unfold xb_losesNoneWithout
      rw [p1]; simp only [pz_bnd, pz_lt, d1, x2', hz, if_false]; rfl
    · unfold xm_isSpared
      simp only [pz_bnd, pz_lt, d2]
      rw [show (9 : Int32) = nI 9 from rfl, x3]; simp only [pz_bnd, hz, if_false]; rfl
