/-! ===== type, wipe, undo ===== -/
def wFr (p j : Nat) : Prop := p = 0 ∧ (j = 8 ∨ j = 9 ∨ j = 12 ∨ j = 16)
def wPs (t p j : Nat) : Prop := (p = 2 ∧ j = t) ∨ wFr p j ∨ (t = 0 ∧ ((p = 3 ∧ j = 3) ∨ p = 4 ∨ p = 5 ∨ p = 6)) ∨ (t = 1 ∧ p = 7) ∨ (t = 2 ∧ ((p = 3 ∧ j = 7) ∨ p = 8 ∨ p = 9))
theorem pb_parse {s : ba_St} {t n : Nat} {B : Nat → Nat} (ht : t < 3) (h : tx s (17 + 2 * t) n B) (l1 : t = 1 → n ≤ 9) (l2 : t = 2 → n ≤ 35) : ∃ s', xb_parse s (nI t) = some s' ∧ fr (wPs t) s s' ∧ cK s' ∧ (t = 0 → s'.1 2 0 = fF (pV B) 4 n ∧ bP s' B (nP B n)) ∧ (t = 1 → s'.1 2 1 = fF (cV B) 1 n ∧ ∀ c, c < 9 → s'.1 7 c = nI (wC B n c)) ∧ (t = 2 → s'.1 2 2 = fF (bV B) 3 n ∧ bBl s' B (nB B n)) := by
  have i : ba_inb (nI t) 3 = true := pz_inb (by omega) (by omega)
  have x : ba_ix (nI t) = t := pz_ix (by omega)
  unfold xb_parse xb_parse_j72
  rw [i, x]
  obtain rfl | rfl | rfl : t = 0 ∨ t = 1 ∨ t = 2 := by omega
  · obtain ⟨s1, e1, f1, p1⟩ := po_takePins (by omega) h
    obtain ⟨s2, e2, f2, k2⟩ := pb_forget (ba_w s1 2 0 (fF (pV B) 4 n))
    have d : ∀ p j, p ≠ 0 → p ≠ 2 → s2.1 p j = s1.1 p j := fun p j h1 h2 => by rw [f2.2 p j (by unfold wFo; omega), pw_p _ _ _ _ h2]
    have F : fr (wPs 0) s s2 := ((f1.mono (fun p j w => by unfold wPin at w; unfold wPs; omega)).w 2 0 _ (by unfold wPs; omega)).tr (f2.mono (fun p j w => by unfold wFo at w; unfold wPs wFr; omega))
    refine ⟨s2, by simp only [n0e0, if_true, pz_grt, e1, pz_bn2, pz_lt, e2, pz_bnd], F, k2, fun _ => ⟨by rw [f2.2 2 0 (by unfold wFo; omega), pw_s], ?_⟩, fun q => by omega, fun q => by omega⟩
    obtain ⟨b2, b3, b4⟩ := p1
    exact ⟨by rw [d _ _ (by omega) (by omega)]; exact b2, fun i hi => by rw [d _ _ (by omega) (by omega), d _ _ (by omega) (by omega)]; exact b3 i hi, fun q hq => by rw [d _ _ (by omega) (by omega)]; exact b4 q hq⟩
  · obtain ⟨s1, e1, f1, p1⟩ := po_takeCups (by omega) h (l1 rfl)
    obtain ⟨s2, e2, f2, k2⟩ := pb_forget (ba_w s1 2 1 (fF (cV B) 1 n))
    have d : ∀ p j, p ≠ 0 → p ≠ 2 → s2.1 p j = s1.1 p j := fun p j h1 h2 => by rw [f2.2 p j (by unfold wFo; omega), pw_p _ _ _ _ h2]
    have F : fr (wPs 1) s s2 := ((f1.mono (fun p j w => by unfold w7 at w; unfold wPs; omega)).w 2 1 _ (by unfold wPs; omega)).tr (f2.mono (fun p j w => by unfold wFo at w; unfold wPs wFr; omega))
    exact ⟨s2, by simp only [n1e0, n1e1, if_true, if_false, pz_grt, e1, pz_bn2, pz_lt, e2, pz_bnd], F, k2, fun q => by omega, fun _ => ⟨by rw [f2.2 2 1 (by unfold wFo; omega), pw_s], fun c hc => by rw [d _ _ (by omega) (by omega)]; exact p1 c hc⟩, fun q => by omega⟩
  · obtain ⟨s1, e1, f1, p1⟩ := po_takeBalls (by omega) h (l2 rfl)
    obtain ⟨s2, e2, f2, k2⟩ := pb_forget (ba_w s1 2 2 (fF (bV B) 3 n))
    have d : ∀ p j, p ≠ 0 → p ≠ 2 → s2.1 p j = s1.1 p j := fun p j h1 h2 => by rw [f2.2 p j (by unfold wFo; omega), pw_p _ _ _ _ h2]
    have F : fr (wPs 2) s s2 := ((f1.mono (fun p j w => by unfold wBl at w; unfold wPs; omega)).w 2 2 _ (by unfold wPs; omega)).tr (f2.mono (fun p j w => by unfold wFo at w; unfold wPs wFr; omega))
    obtain ⟨b8, b9⟩ := p1
    exact ⟨s2, by simp only [n2e0, n2e1, if_false, pz_grt, e1, pz_bn2, pz_lt, e2, pz_bnd], F, k2, fun q => by omega, fun q => by omega, fun _ => ⟨by rw [f2.2 2 2 (by unfold wFo; omega), pw_s], by rw [d _ _ (by omega) (by omega)]; exact b8, fun i hi => by rw [d _ _ (by omega) (by omega), d _ _ (by omega) (by omega)]; exact b9 i hi⟩⟩
def wTy (t p j : Nat) : Prop := (p = 17 + 2 * t ∧ j = 1) ∨ p = 18 + 2 * t
def vTy (t p j : Nat) : Prop := (p = 5 ∧ 48 * t ≤ j ∧ j < 48 * t + 48) ∨ (p = 6 ∧ j = t)
theorem iT.keep {s s1 s2 m m1 : ba_St} {t u n : Nat} {B : Nat → Nat} (h : iT s m u n B) (hu : u < 3) (ht : t < 3) (ne : u ≠ t) (F : fr (wTy t) s s1) (P : fr (wPs t) s1 s2) (G : fr (vTy t) m m1) : iT s2 m1 u n B := by
  refine h.up ?_ (fun j => ?_) (G.2 _ _ (by unfold vTy; omega)) (fun j hj => G.2 _ _ (by unfold vTy; omega))
  · rw [P.2 _ _ (by unfold wPs wFr; omega), F.2 _ _ (by unfold wTy; omega)]
  · rw [P.2 _ _ (by unfold wPs wFr; omega), F.2 _ _ (by unfold wTy; omega)]
theorem iT.after {s1 s2 m : ba_St} {t n : Nat} {B : Nat → Nat} (h : iT s1 m t n B) (ht : t < 3) (P : fr (wPs t) s1 s2) : iT s2 m t n B :=
  h.up (P.2 _ _ (by unfold wPs wFr; omega)) (fun j => P.2 _ _ (by unfold wPs wFr; omega)) rfl (fun _ _ => rfl)
/-- a text has changed in both: the class reads it at once -/
theorem retext {s m s1 m1 : ba_St} (h : RR s m) {t n : Nat} {B : Nat → Nat} (ht : t < 3) (F : fr (wTy t) s s1) (G : fr (vTy t) m m1) (hT : iT s1 m1 t n B) (l1 : t = 1 → n ≤ 9) (l2 : t = 2 → n ≤ 35) : ∃ s2, xb_parse s1 (nI t) = some s2 ∧ RR s2 m1 ∧ s2.1 (17 + 2 * t) 1 = nI n := by
  obtain ⟨n0, n1, n2, B0, B1, B2, ne, ns, ⟨⟨T0, T1, T2, k1, k2⟩, ⟨⟨b1, b2, b3, b4⟩, ⟨b5, b6⟩, b7, b8, b9⟩, hV, hS, ⟨r, r1, r2, r3, r4⟩, hg, hH, hf⟩, -⟩ := h
  obtain ⟨s2, e2, P, ck, p0, p1, p2⟩ := pb_parse ht hT.1 l1 l2
  have ff : ∀ p j, p ≠ 0 → p ≠ 2 → p ≠ 3 → (9 < p ∧ p < 17 ∨ 22 < p) → s2.1 p j = s.1 p j := fun p j _ _ _ _ => by
    rw [P.2 p j (by unfold wPs wFr; omega), F.2 p j (by unfold wTy; omega)]
  have gg : ∀ p j, p ≠ 5 → p ≠ 6 → m1.1 p j = m.1 p j := fun p j _ _ => G.2 p j (by unfold vTy; omega)
  have c38 : s2.1 3 8 = s.1 3 8 := by rw [P.2 3 8 (by unfold wPs wFr; omega), F.2 3 8 (by unfold wTy; omega)]
  have c07 : s2.1 0 7 = s.1 0 7 := by rw [P.2 0 7 (by unfold wPs wFr; omega), F.2 0 7 (by unfold wTy; omega)]
  have hV' : iV s2 m1 ne := hV.up (ff _ _ (by omega) (by omega) (by omega) (by omega)) (fun j => ff _ _ (by omega) (by omega) (by omega) (by omega)) (gg _ _ (by omega) (by omega)) (fun j => gg _ _ (by omega) (by omega))
  have hS' : iS s2 m1 ns := hS.up (ff _ _ (by omega) (by omega) (by omega) (by omega)) (fun j => ff _ _ (by omega) (by omega) (by omega) (by omega)) (gg _ _ (by omega) (by omega)) (fun j => gg _ _ (by omega) (by omega))
  have hH' : ∀ i, i < 4 → iH s2 m1 i := fun i hi => (hH i hi).up (fun j => ff _ _ (by omega) (by omega) (by omega) (by omega)) (fun j => ff _ _ (by omega) (by omega) (by omega) (by omega)) (gg _ _ (by omega) (by omega)) (gg _ _ (by omega) (by omega)) (fun j _ => gg _ _ (by omega) (by omega))
  have hr' : ∃ r, 1 ≤ r ∧ r ≤ 9 ∧ s2.1 3 8 = nI r ∧ m1.1 0 12 = nI r := ⟨r, r1, r2, by rw [c38]; exact r3, by rw [gg _ _ (by omega) (by omega)]; exact r4⟩
  have hg' : m1.1 0 15 = nI 0 := by rw [gg _ _ (by omega) (by omega)]; exact hg
  have hf' : s2.1 0 7 = m1.1 0 4 := by rw [c07, gg _ _ (by omega) (by omega)]; exact hf
  have q0 : t ≠ 0 → s2.1 2 0 = fF (pV B0) 4 n0 ∧ bP s2 B0 (nP B0 n0) := fun h0 => by
    have c : ∀ p j, (p = 2 ∧ j = 0) ∨ (p = 3 ∧ j = 3) ∨ p = 4 ∨ p = 5 ∨ p = 6 → s2.1 p j = s.1 p j := fun p j hp => by rw [P.2 p j (by unfold wPs wFr; omega), F.2 p j (by unfold wTy; omega)]
    exact ⟨by rw [c _ _ (by omega)]; exact b1, by rw [c _ _ (by omega)]; exact b2, fun i hi => by rw [c _ _ (by omega), c _ _ (by omega)]; exact b3 i hi, fun q hq => by rw [c _ _ (by omega)]; exact b4 q hq⟩
  have q1 : t ≠ 1 → s2.1 2 1 = fF (cV B1) 1 n1 ∧ ∀ c, c < 9 → s2.1 7 c = nI (wC B1 n1 c) := fun h0 => by
    have c : ∀ p j, (p = 2 ∧ j = 1) ∨ p = 7 → s2.1 p j = s.1 p j := fun p j hp => by rw [P.2 p j (by unfold wPs wFr; omega), F.2 p j (by unfold wTy; omega)]
    exact ⟨by rw [c _ _ (by omega)]; exact b5, fun i hi => by rw [c _ _ (by omega)]; exact b6 i hi⟩
  have q2 : t ≠ 2 → s2.1 2 2 = fF (bV B2) 3 n2 ∧ bBl s2 B2 (nB B2 n2) := fun h0 => by
    have c : ∀ p j, (p = 2 ∧ j = 2) ∨ (p = 3 ∧ j = 7) ∨ p = 8 ∨ p = 9 → s2.1 p j = s.1 p j := fun p j hp => by rw [P.2 p j (by unfold wPs wFr; omega), F.2 p j (by unfold wTy; omega)]
    exact ⟨by rw [c _ _ (by omega)]; exact b7, by rw [c _ _ (by omega)]; exact b8, fun i hi => by rw [c _ _ (by omega), c _ _ (by omega)]; exact b9 i hi⟩
  have hT2 := hT.after ht P
  refine ⟨s2, e2, ?_, hT2.1.1⟩
  obtain rfl | rfl | rfl : t = 0 ∨ t = 1 ∨ t = 2 := by omega
  · exact ⟨n, n1, n2, B, B1, B2, ne, ns, ⟨⟨hT2, T1.keep (by omega) (by omega) (by omega) F P G, T2.keep (by omega) (by omega) (by omega) F P G, k1, k2⟩, ⟨p0 rfl, q1 (by omega), q2 (by omega)⟩, hV', hS', hr', hg', hH', hf'⟩, ck⟩
  · exact ⟨n0, n, n2, B0, B, B2, ne, ns, ⟨⟨T0.keep (by omega) (by omega) (by omega) F P G, hT2, T2.keep (by omega) (by omega) (by omega) F P G, l1 rfl, k2⟩, ⟨q0 (by omega), p1 rfl, q2 (by omega)⟩, hV', hS', hr', hg', hH', hf'⟩, ck⟩
  · exact ⟨n0, n1, n, B0, B1, B, ne, ns, ⟨⟨T0.keep (by omega) (by omega) (by omega) F P G, T1.keep (by omega) (by omega) (by omega) F P G, hT2, k1, l2 rfl⟩, ⟨q0 (by omega), q1 (by omega), p2 rfl⟩, hV', hS', hr', hg', hH', hf'⟩, ck⟩
theorem RR.tx {s m : ba_St} (h : RR s m) {t : Nat} (ht : t < 3) : ∃ n B, iT s m t n B ∧ (t = 1 → n ≤ 9) ∧ (t = 2 → n ≤ 35) := by
  obtain ⟨n0, n1, n2, B0, B1, B2, ne, ns, ⟨⟨T0, T1, T2, k1, k2⟩, -⟩, -⟩ := h
  obtain rfl | rfl | rfl : t = 0 ∨ t = 1 ∨ t = 2 := by omega
  · exact ⟨n0, B0, T0, fun q => by omega, fun q => by omega⟩
  · exact ⟨n1, B1, T1, fun _ => k1, fun q => by omega⟩
  · exact ⟨n2, B2, T2, fun q => by omega, fun _ => k2⟩
theorem q_wipe {s m : ba_St} (h : RR s m) (a : Int32) : ∃ v s' m', xb_wipe s a = some (v, s') ∧ xm_wipe m a = some (v, m') ∧ RR s' m' := by
  unfold xb_wipe xm_wipe
  rcases arg_t3 a with ⟨t, t1, rfl, w1, g1⟩ | ⟨w1, g1⟩
  · obtain ⟨n, B, ⟨⟨a1, a2, a3, a4⟩, b1, b2, b3⟩, -, -⟩ := h.tx t1
    have i : ba_inb (nI t) 3 = true := pz_inb (by omega) (by omega)
    have x : ba_ix (nI t) = t := pz_ix (by omega)
    obtain ⟨s2, e2, R2, -⟩ := retext h t1 ((fr.rf (wTy t) s).w (17 + 2 * t) 1 0 (by unfold wTy; omega)) ((fr.rf (vTy t) m).w 6 t 0 (by unfold vTy; omega)) (n := 0) (B := B) ⟨⟨pw_s _ _ _ _, by omega, a3, fun j hj => by omega⟩, pw_s _ _ _ _, by omega, fun j hj => by omega⟩ (fun _ => by omega) (fun _ => by omega)
    exact ⟨nI n, s2, ba_w m 6 t 0, by simp only [w1, pz_bnd, p_10, if_false, i, x, pz_grt, a1, pz_lt, e2], by simp only [g1, pz_bnd, p_10, if_false, i, x, pz_grt, b1, pz_lt], R2⟩
  · exact ⟨-2, s, m, by simp only [w1, pz_bnd, p_00, if_true], by simp only [g1, pz_bnd, p_00, if_true], h⟩
theorem q_undo {s m : ba_St} (h : RR s m) (a : Int32) : ∃ v s' m', xb_undo s a = some (v, s') ∧ xm_undo m a = some (v, m') ∧ RR s' m' := by
  unfold xb_undo xm_undo
  rcases arg_t3 a with ⟨t, t1, rfl, w1, g1⟩ | ⟨w1, g1⟩
  · obtain ⟨n, B, ⟨⟨a1, a2, a3, a4⟩, b1, b2, b3⟩, l1, l2⟩ := h.tx t1
    have i : ba_inb (nI t) 3 = true := pz_inb (by omega) (by omega)
    have x : ba_ix (nI t) = t := pz_ix (by omega)
    by_cases hn : n = 0
    · subst hn
      exact ⟨-3, s, m, by simp only [w1, pz_bnd, p_10, if_false, i, x, pz_grt, a1, n0e0, if_true], by simp only [g1, pz_bnd, p_10, if_false, i, x, pz_grt, b1, n0e0, if_true], h⟩
    · have z : ¬ nI n = 0 := by rw [pz_lit 0, pz_eq (by omega) (by omega)]; exact hn
      obtain ⟨s2, e2, R2, d2⟩ := retext h t1 ((fr.rf (wTy t) s).w (17 + 2 * t) 1 (nI (n - 1)) (by unfold wTy; omega)) ((fr.rf (vTy t) m).w 6 t (nI (n - 1)) (by unfold vTy; omega)) (n := n - 1) (B := B) ⟨⟨pw_s _ _ _ _, by omega, a3, fun j hj => by rw [pw_p _ _ _ _ (by omega)]; exact a4 j (by omega)⟩, pw_s _ _ _ _, by omega, fun j hj => by rw [pw_p _ _ _ _ (by omega)]; exact b3 j (by omega)⟩ (fun q => by have := l1 q; omega) (fun q => by have := l2 q; omega)
      exact ⟨nI (n - 1), s2, ba_w m 6 t (nI (n - 1)), by simp only [w1, pz_bnd, p_10, if_false, i, x, pz_grt, a1, z, pk_sub1 (show 0 < n by omega), pz_lt, e2, d2], by simp only [g1, pz_bnd, p_10, if_false, i, x, pz_grt, b1, z, pk_sub1 (show 0 < n by omega), pz_lt, pw_s], R2⟩
  · exact ⟨-2, s, m, by simp only [w1, pz_bnd, p_00, if_true], by simp only [g1, pz_bnd, p_00, if_true], h⟩
theorem q_type {s m : ba_St} (h : RR s m) (a b : Int32) : ∃ v s' m', xb_type s a b = some (v, s') ∧ xm_type m a b = some (v, m') ∧ RR s' m' := by
  unfold xb_type xm_type
  rcases arg_t3 a with ⟨t, t1, rfl, w1, g1⟩ | ⟨w1, g1⟩
  · rcases arg_256 b with ⟨c, c1, rfl, w2, g2⟩ | ⟨w2, g2⟩
    · obtain ⟨n, B, ⟨⟨a1, a2, a3, a4⟩, b1, b2, b3⟩, l1, l2⟩ := h.tx t1
      have i : ba_inb (nI t) 3 = true := pz_inb (by omega) (by omega)
      have x : ba_ix (nI t) = t := pz_ix (by omega)
      have lim : ba_tl (17 + 2 * t) = if t = 0 then 47 else if t = 1 then 9 else 35 := by
        obtain rfl | rfl | rfl : t = 0 ∨ t = 1 ∨ t = 2 := by omega
        · rfl
        · rfl
        · rfl
      have mj : (if nI t = 0 then xm_type_j49 m (nI t) (nI c) 47 (nI n) else if nI t = 1 then xm_type_j49 m (nI t) (nI c) 9 (nI n) else xm_type_j49 m (nI t) (nI c) 35 (nI n)) = xm_type_j49 m (nI t) (nI c) (nI (ba_tl (17 + 2 * t))) (nI n) := by
        rw [lim]
        obtain rfl | rfl | rfl : t = 0 ∨ t = 1 ∨ t = 2 := by omega
        · simp only [n0e0, if_true]; rfl
        · simp only [n1e0, n1e1, if_true, if_false]; rfl
        · simp only [n2e0, n2e1, if_false]; rfl
      by_cases hn : n < ba_tl (17 + 2 * t)
      · have lt : nI n < nI (ba_tl (17 + 2 * t)) := by rw [pz_ltN (by omega) (by omega)]; exact hn
        have ne : ¬ nI n = nI (ba_tl (17 + 2 * t)) := by rw [pz_eq (by omega) (by omega)]; omega
        have ib : ba_inb (nI n) (ba_tl (17 + 2 * t)) = true := pz_inb hn (by omega)
        have xb : ba_ix (nI n) = n := pz_ix (by omega)
        have q1 : (ba_w s (17 + 2 * t + 1) n (nI c)).1 (17 + 2 * t) 1 = nI n := by rw [pw_p _ _ _ _ (by omega)]; exact a1
        have y1 : 48 * nI t + nI n = nI (48 * t + n) := by rw [pz_lit 48, pk_mul, nI_add]
        have y2 : ba_inb (nI (48 * t + n)) 144 = true := pz_inb (by omega) (by omega)
        have y3 : ba_ix (nI (48 * t + n)) = 48 * t + n := pz_ix (by omega)
        have q2 : (ba_w m 5 (48 * t + n) (nI c)).1 6 t = nI n := by rw [pw_p _ _ _ _ (by omega)]; exact b1
        have ap : xt_append s (17 + 2 * t) (nI c) = some (1, ba_w (ba_w s (17 + 2 * t + 1) n (nI c)) (17 + 2 * t) 1 (nI (n + 1))) := by
          unfold xt_append
          simp only [a1, lt, if_true, ib, xb, pz_grt, pz_lt, q1, pz_succ]
        have hT : iT (ba_w (ba_w s (17 + 2 * t + 1) n (nI c)) (17 + 2 * t) 1 (nI (n + 1))) (ba_w (ba_w m 5 (48 * t + n) (nI c)) 6 t (nI (n + 1))) t (n + 1) (fun j => if j = n then c else B j) := by
          refine ⟨⟨pw_s _ _ _ _, by omega, a3, fun j hj => ?_⟩, pw_s _ _ _ _, by omega, fun j hj => ?_⟩
          · show (if j = n then c else B j) < 256 ∧ _ = nI (if j = n then c else B j)
            by_cases e : j = n
            · subst e
              rw [if_pos rfl]
              exact ⟨c1, by rw [pw_p _ _ _ _ (by omega), pw_s]⟩
            · rw [if_neg e, pw_p _ _ _ _ (by omega), pw_i _ _ _ e]
              exact a4 j (by omega)
          · show (if j = n then c else B j) < 256 ∧ _ = nI (if j = n then c else B j)
            by_cases e : j = n
            · subst e
              rw [if_pos rfl]
              exact ⟨c1, by rw [pw_p _ _ _ _ (by omega), pw_s]⟩
            · rw [if_neg e, pw_p _ _ _ _ (by omega), pw_i _ _ _ (by omega)]
              exact b3 j (by omega)
        obtain ⟨s2, e2, R2, d2⟩ := retext h t1 (((fr.rf (wTy t) s).w (17 + 2 * t + 1) n (nI c) (by unfold wTy; omega)).w (17 + 2 * t) 1 (nI (n + 1)) (by unfold wTy; omega)) (((fr.rf (vTy t) m).w 5 (48 * t + n) (nI c) (by unfold vTy; omega)).w 6 t (nI (n + 1)) (by unfold vTy; omega)) hT (fun q => by subst q; rw [lim] at hn; simp at hn; omega) (fun q => by subst q; rw [lim] at hn; simp at hn; omega)
        refine ⟨nI (n + 1), s2, ba_w (ba_w m 5 (48 * t + n) (nI c)) 6 t (nI (n + 1)), by simp only [w1, w2, pz_bnd, p_10, if_false, i, x, pz_grt, ap, pz_bn2, e2, d2], ?_, R2⟩
        simp only [g1, g2, pz_bnd, p_10, if_false, i, x, pz_grt, b1, mj]
        unfold xm_type_j49
        simp only [ne, if_false, i, x, b1, y1, y2, y3, pz_grt, pz_lt, q2, pz_succ, pw_s]
      · have en : n = ba_tl (17 + 2 * t) := by omega
        have lt : ¬ nI n < nI (ba_tl (17 + 2 * t)) := by rw [pz_ltN (by omega) (by omega)]; exact hn
        refine ⟨-4, s, m, ?_, ?_, h⟩
        · have ap : xt_append s (17 + 2 * t) (nI c) = some (0, s) := by
            unfold xt_append
            simp only [a1, lt, if_false]
          simp only [w1, w2, pz_bnd, p_10, if_false, i, x, pz_grt, ap, pz_bn2, p_00, if_true]
        · simp only [g1, g2, pz_bnd, p_10, if_false, i, x, pz_grt, b1, mj]
          unfold xm_type_j49
          simp only [← en, if_true]
    · exact ⟨-2, s, m, by simp only [w1, w2, pz_bnd, p_10, p_00, if_true, if_false], by simp only [g1, g2, pz_bnd, p_10, p_00, if_true, if_false], h⟩
  · exact ⟨-2, s, m, by simp only [w1, pz_bnd, p_00, if_true], by simp only [g1, pz_bnd, p_00, if_true], h⟩
