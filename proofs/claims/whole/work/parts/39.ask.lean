/-! ===== ask ===== -/
def eqr (s : ba_St) (t a q : Nat) : Nat := if s.2 16 (2 * (a * 24 + t)) = s.2 16 (2 * (q * 24 + t)) ∧ s.2 16 (2 * (a * 24 + t) + 1) = s.2 16 (2 * (q * 24 + t) + 1) then 1 else 0
theorem eqr_le (s : ba_St) (t a q : Nat) : eqr s t a q ≤ 1 := by unfold eqr; split <;> omega
theorem pz_max {a b : Nat} (ha : a < 2 ^ 31) (hb : b < 2 ^ 31) : ba_max (nI a) (nI b) = nI (Nat.max a b) := by
  unfold ba_max
  by_cases h : a < b
  · rw [if_pos (by rw [pz_ltN ha hb]; exact h)]; exact congrArg nI (Nat.max_eq_right (by omega)).symm
  · rw [if_neg (by rw [pz_ltN ha hb]; exact h)]; exact congrArg nI (Nat.max_eq_left (by omega)).symm
theorem pb_lg (s : ba_St) {t r : Nat} (ht : t < 24) (hr : r ≤ 9) : xb_largestGroup s (nI t) (nI r) = some (nI (cx (fun a => cs (eqr s t a) r) r)) := by
  have inner : ∀ a, a < r → ∀ z3, ba_fix (xb_largestGroup_l17 s (nI t) (nI r) z3 (nI a)) 1000 (0, 0) = some (nI (cs (eqr s t a) r)) := by
    intro a ha z3
    obtain ⟨o, po, d⟩ := pf_one (F := xb_largestGroup_l17 s (nI t) (nI r) z3 (nI a)) (fun i x => x = (nI (cs (eqr s t a) i), nI i)) (fun o => o = nI (cs (eqr s t a) r)) r
      (fun i x hi hx => by
        refine ⟨(nI (cs (eqr s t a) (i + 1)), nI (i + 1)), rfl, fun k => ?_⟩
        rw [hx]
        have l : ¬ r ≤ i := by omega
        have ea : 2 * (nI a * 24 + nI t) = nI (2 * (a * 24 + t)) := by rw [pz_lit 24, pz_lit 2, pk_mul, nI_add, pk_mul]
        have ei : 2 * (nI i * 24 + nI t) = nI (2 * (i * 24 + t)) := by rw [pz_lit 24, pz_lit 2, pk_mul, nI_add, pk_mul]
        have i1 : ba_inb (nI (2 * (a * 24 + t))) 432 = true := pz_inb (by omega) (by omega)
        have i2 : ba_inb (nI (2 * (i * 24 + t))) 432 = true := pz_inb (by omega) (by omega)
        have i3 : ba_inb (nI (2 * (a * 24 + t) + 1)) 432 = true := pz_inb (by omega) (by omega)
        have i4 : ba_inb (nI (2 * (i * 24 + t) + 1)) 432 = true := pz_inb (by omega) (by omega)
        have x1 : ba_ix (nI (2 * (a * 24 + t))) = 2 * (a * 24 + t) := pz_ix (by omega)
        have x2 : ba_ix (nI (2 * (i * 24 + t))) = 2 * (i * 24 + t) := pz_ix (by omega)
        have x3 : ba_ix (nI (2 * (a * 24 + t) + 1)) = 2 * (a * 24 + t) + 1 := pz_ix (by omega)
        have x4 : ba_ix (nI (2 * (i * 24 + t) + 1)) = 2 * (i * 24 + t) + 1 := pz_ix (by omega)
        unfold xb_largestGroup_l17
        simp (disch := omega) only [pz_le, l, if_false, ea, ei, i1, i2, x1, x2, pz_grt, pz_lt, pz_succ, i3, i4, x3, x4]
        show _ = k (nI (cs (eqr s t a) i + eqr s t a i), nI (i + 1))
        generalize cs (eqr s t a) i = c
        unfold eqr
        by_cases h1 : s.2 16 (2 * (a * 24 + t)) = s.2 16 (2 * (i * 24 + t))
        · by_cases h2 : s.2 16 (2 * (a * 24 + t) + 1) = s.2 16 (2 * (i * 24 + t) + 1)
          · rw [if_pos h1, if_pos h2, if_pos ⟨h1, h2⟩]
          · rw [if_pos h1, if_neg h2, if_neg (fun z => h2 z.2)] <;> rfl
        · rw [if_neg h1, if_neg (fun z => h1 z.1)] <;> rfl)
      (fun x hx => by
        refine ⟨_, rfl, fun k => ?_⟩
        rw [hx]
        unfold xb_largestGroup_l17
        simp only [Int32.le_refl, if_true]) 1000 0 (0, 0) (by omega) (by omega) rfl
    rw [d, po]
  have cb : ∀ a, cs (eqr s t a) r ≤ 9 := fun a => Nat.le_trans (cs_le (eqr_le s t a) r) hr
  obtain ⟨o, po, d⟩ := pf_one (F := xb_largestGroup_l5 s (nI t) (nI r)) (fun i x => x = (nI (cx (fun a => cs (eqr s t a) r) i), nI i)) (fun o => o = nI (cx (fun a => cs (eqr s t a) r) r)) r
    (fun i x hi hx => by
      refine ⟨(nI (cx (fun a => cs (eqr s t a) r) (i + 1)), nI (i + 1)), rfl, fun k => ?_⟩
      rw [hx]
      have l : ¬ r ≤ i := by omega
      have b1 := cb i
      have b2 := cx_le (f := fun a => cs (eqr s t a) r) cb i
      unfold xb_largestGroup_l5
      simp (disch := omega) only [pz_le, l, if_false, inner i hi, pz_bnd, pz_lt, pz_max, pz_succ]
      rfl)
    (fun x hx => by
      refine ⟨_, rfl, fun k => ?_⟩
      rw [hx]
      unfold xb_largestGroup_l5
      simp only [Int32.le_refl, if_true]) 1000 0 (0, 0) (by omega) (by omega) rfl
  unfold xb_largestGroup
  rw [d, po]; rfl
def gM (N : Nat) (Hv : Nat → Nat → Nat → Nat) (acc : Int32) (t v w : Nat) : Nat := if bt acc (v + 1) = true ∧ bt acc (w + 1) = true ∧ lk N Hv t (v + 1) (w + 1) then 1 else 0
theorem gM_le (N : Nat) (Hv : Nat → Nat → Nat → Nat) (acc : Int32) (t v w : Nat) : gM N Hv acc t v w ≤ 1 := by unfold gM; split <;> omega
theorem pz_great {a b : Nat} (ha : a < 2 ^ 31) (hb : b < 2 ^ 31) : xm_greater (nI a) (nI b) = some (nI (Nat.max b a)) := by
  rw [pm_greater]
  by_cases h : b < a
  · rw [if_pos (by rw [pz_ltN hb ha]; exact h)]; exact congrArg (some ∘ nI) (Nat.max_eq_right (by omega)).symm
  · rw [if_neg (by rw [pz_ltN hb ha]; exact h)]; exact congrArg (some ∘ nI) (Nat.max_eq_left (by omega)).symm
theorem pm_alike {N : Nat} {s m : ba_St} {r : Nat} {acc : Int32} {Hv : Nat → Nat → Nat → Nat} (A : aI N 9 s m r acc Hv) {t : Nat} (ht : t < 24) : xm_alike m acc (nI t) = some (nI (cx (fun v => cs (gM N Hv acc t v) 9) 9)) := by
  have inner : ∀ v, v < 9 → ∀ z3, ba_fix (xm_alike_l18 m acc (nI t) z3 (nI (v + 1))) 1000 (0, 1) = some (nI (cs (gM N Hv acc t v) 9)) := by
    intro v hv z3
    obtain ⟨o, po, d⟩ := pf_one (F := xm_alike_l18 m acc (nI t) z3 (nI (v + 1))) (fun i x => x = (nI (cs (gM N Hv acc t v) i), nI (i + 1))) (fun o => o = nI (cs (gM N Hv acc t v) 9)) 9
      (fun i x hi hx => by
        refine ⟨(nI (cs (gM N Hv acc t v) (i + 1)), nI (i + 1 + 1)), rfl, fun k => ?_⟩
        rw [hx]
        have l : ¬ (10 : Int32) ≤ nI (i + 1) := by rw [show (10 : Int32) = nI 10 from rfl, pz_le (by omega) (by omega)]; omega
        have q0 : ∀ n, nI n + 0 = nI n := fun n => by rw [pz_lit 0, nI_add, Nat.add_zero]
        have a1 : xm_isIn acc (nI (v + 1)) = some (if bt acc (v + 1) = true then nI 1 else nI 0) := pm_isIn (by omega)
        have a2 : xm_isIn acc (nI (i + 1)) = some (if bt acc (i + 1) = true then nI 1 else nI 0) := pm_isIn (by omega)
        show _ = k (nI (cs (gM N Hv acc t v) i + gM N Hv acc t v i), nI (i + 1 + 1))
        unfold xm_alike_l18 xm_alike_j61_18 xm_alike_j62_18
        generalize cs (gM N Hv acc t v) i = c
        by_cases b1 : bt acc (v + 1) = true
        · by_cases b2 : bt acc (i + 1) = true
          · obtain ⟨x, e, hx⟩ := pm_same A ht (v := v + 1) (w := i + 1) (by omega) (by omega)
            rcases hx with ⟨rfl, h⟩ | ⟨rfl, h⟩
            · rw [show gM N Hv acc t v i = 1 from if_pos ⟨b1, b2, h⟩]
              simp only [l, if_false, a1, a2, b1, b2, if_true, pz_bnd, z1n0, e, pz_lt, pz_succ]
            · rw [show gM N Hv acc t v i = 0 from if_neg (fun z => h z.2.2)]
              simp only [l, if_false, a1, a2, b1, b2, if_true, pz_bnd, z1n0, z00, e, pz_lt, pz_succ, q0, Nat.add_zero]
          · rw [show gM N Hv acc t v i = 0 from if_neg (fun z => b2 z.2.1)]
            simp only [l, if_false, a1, a2, b1, b2, if_true, pz_bnd, z1n0, z00, pz_lt, pz_succ, q0, Nat.add_zero, Bool.false_eq_true]
        · rw [show gM N Hv acc t v i = 0 from if_neg (fun z => b1 z.1)]
          simp only [l, if_false, a1, a2, b1, if_true, pz_bnd, z1n0, z00, pz_lt, pz_succ, q0, Nat.add_zero, Bool.false_eq_true])
      (fun x hx => by
        refine ⟨_, rfl, fun k => ?_⟩
        rw [hx]
        have l : (10 : Int32) ≤ nI (9 + 1) := Int32.le_refl _
        unfold xm_alike_l18
        simp only [l, if_true]) 1000 0 (0, 1) (by omega) (by omega) rfl
    rw [d, po]
  have cb : ∀ v, cs (gM N Hv acc t v) 9 ≤ 9 := fun v => cs_le (gM_le N Hv acc t v) 9
  obtain ⟨o, po, d⟩ := pf_one (F := xm_alike_l5 m acc (nI t)) (fun i x => x = (nI (cx (fun v => cs (gM N Hv acc t v) 9) i), nI (i + 1))) (fun o => o = nI (cx (fun v => cs (gM N Hv acc t v) 9) 9)) 9
    (fun i x hi hx => by
      refine ⟨(nI (cx (fun v => cs (gM N Hv acc t v) 9) (i + 1)), nI (i + 1 + 1)), rfl, fun k => ?_⟩
      rw [hx]
      have l : ¬ (10 : Int32) ≤ nI (i + 1) := by rw [show (10 : Int32) = nI 10 from rfl, pz_le (by omega) (by omega)]; omega
      have b1 := cb i
      have b2 := cx_le (f := fun v => cs (gM N Hv acc t v) 9) cb i
      unfold xm_alike_l5
      simp (disch := omega) only [l, if_false, inner i hi, pz_bnd, pz_lt, pz_great, pz_succ]
      rfl)
    (fun x hx => by
      refine ⟨_, rfl, fun k => ?_⟩
      rw [hx]
      have l : (10 : Int32) ≤ nI (9 + 1) := Int32.le_refl _
      unfold xm_alike_l5
      simp only [l, if_true]) 1000 0 (0, 1) (by omega) (by omega) rfl
  unfold xm_alike
  rw [d, po]; rfl
theorem cs_0 {f : Nat → Nat} (h : ∀ k, f k = 0) : ∀ n, cs f n = 0 := by
  intro n
  induction n with
  | zero => rfl
  | succ n ih => show cs f n + f n = 0; rw [ih, h]
theorem groups {N : Nat} {s m : ba_St} {r : Nat} {acc : Int32} {Hv : Nat → Nat → Nat → Nat} (A : aI N 9 s m r acc Hv) {t : Nat} (ht : t < 24) : ∃ g, g ≤ 9 ∧ xb_largestGroup s (nI t) (nI r) = some (nI g) ∧ xm_alike m acc (nI t) = some (nI g) := by
  obtain ⟨hr, A1, A2, A3⟩ := id A
  have hr9 : r ≤ 9 := by rw [hr]; exact rk_le acc 9
  refine ⟨cx (fun v => cs (gM N Hv acc t v) 9) 9, cx_le (fun v => cs_le (gM_le N Hv acc t v) 9) 9, ?_, pm_alike A ht⟩
  rw [pb_lg s ht hr9, hr]
  rw [cx_rk (g := fun v => cs (gM N Hv acc t v) 9) 9 (fun v hv => ⟨fun hb => ?_, fun hb => ?_⟩)]
  · refine (cs_rk (f := eqr s t (rk acc v)) (g := gM N Hv acc t v) 9 (fun w hw => ⟨fun hc => ?_, fun hc => ?_⟩)).symm
    · obtain ⟨m1, m2⟩ := A3 v hv hb t ht
      obtain ⟨m3, m4⟩ := A3 w hw hc t ht
      unfold gM eqr
      rw [m1, m2, m3, m4]
      have := mk_iff (N := N) (Hv := Hv) (t := t) (v := v + 1) (w := w + 1) (fun k hk => (A2 (v + 1) (by omega) (by omega)).1 t k ht hk) (fun k hk => (A2 (w + 1) (by omega) (by omega)).1 t k ht hk)
      by_cases hl : lk N Hv t (v + 1) (w + 1)
      · rw [if_pos ⟨hb, hc, hl⟩, if_pos (this.mpr hl)]
      · rw [if_neg (fun z => hl z.2.2), if_neg (fun z => hl (this.mp z))]
    · unfold gM; rw [if_neg (by rw [hc]; simp)]
  · refine cs_0 (fun w => ?_) 9
    unfold gM; rw [if_neg (by rw [hb]; simp)]
theorem asks {s m : ba_St} {N np ne ns : Nat} {pc : Nat → Nat} (K : kT s m N np ne pc) (S : iS s m ns) {nu : Nat} (hnu : nu < N) : ∃ s' m' r g v, xb_markForces s (nI nu) = some (nI r, s') ∧ xb_largestGroup s' 0 (nI r) = some (nI g) ∧ ba_fix (xb_ask_l36 s' (nI r)) 1000 (0, nI g, 1) = some v ∧ xm_askOf m (nI nu) = some (v, m') ∧ fr1 wTr s s' ∧ fr wL m m' := by
  obtain ⟨s', m', r, acc, Hv, e1, e2, F, M, A⟩ := marks K S hnu
  obtain ⟨g, g1, g2, g3⟩ := groups A (t := 0) (by omega)
  obtain ⟨o, u, po, d1, d2⟩ := pf_two (F := xb_ask_l36 s' (nI r)) (E := xm_askOf_l19 m' acc) (fun i a b => ∃ be c, c ≤ 9 ∧ a = (be, nI c, nI (i + 1)) ∧ b = (be, nI c, nI (i + 1))) (fun o u => o = u) 23
    (fun i a b hi hI => by
      obtain ⟨be, c, c9, rfl, rfl⟩ := hI
      obtain ⟨h, h1, h2, h3⟩ := groups A (t := i + 1) (by omega)
      have l : ¬ (24 : Int32) ≤ nI (i + 1) := by rw [show (24 : Int32) = nI 24 from rfl, pz_le (by omega) (by omega)]; omega
      by_cases hc : c ≤ h
      · have hc' : nI c ≤ nI h := by rw [pz_le (by omega) (by omega)]; exact hc
        refine ⟨(be, nI c, nI (i + 1 + 1)), (be, nI c, nI (i + 1 + 1)), ⟨be, c, c9, rfl, rfl⟩, fun k => ?_, fun k => ?_⟩
        · unfold xb_ask_l36
          simp only [l, if_false, h2, pz_bnd, hc', if_true, pz_lt, pz_succ]
        · unfold xm_askOf_l19 xm_askOf_j48_19 xm_lesser
          simp only [l, if_false, h3, pz_bnd, hc', if_true, pz_lt, pz_succ]
      · have hc' : ¬ nI c ≤ nI h := by rw [pz_le (by omega) (by omega)]; exact hc
        refine ⟨(nI (i + 1), nI h, nI (i + 1 + 1)), (nI (i + 1), nI h, nI (i + 1 + 1)), ⟨_, h, h1, rfl, rfl⟩, fun k => ?_, fun k => ?_⟩
        · unfold xb_ask_l36
          simp only [l, if_false, h2, pz_bnd, hc', pz_lt, pz_succ]
        · unfold xm_askOf_l19 xm_askOf_j48_19 xm_lesser
          simp only [l, if_false, h3, pz_bnd, hc', pz_lt, pz_succ])
    (fun a b hI => by
      obtain ⟨be, c, c9, rfl, rfl⟩ := hI
      have l : (24 : Int32) ≤ nI (23 + 1) := Int32.le_refl _
      refine ⟨be, be, rfl, fun k => ?_, fun k => ?_⟩
      · unfold xb_ask_l36; simp only [l, if_true]
      · unfold xm_askOf_l19; simp only [l, if_true]) 1000 1000 0 (0, nI g, 1) (0, nI g, 1) (by omega) (by omega) (by omega) ⟨0, g, g1, rfl, rfl⟩
  subst po
  refine ⟨s', m', r, g, o, e1, g2, d1, ?_, F, M⟩
  unfold xm_askOf
  have g3' : xm_alike m' acc 0 = some (nI g) := g3
  rw [e2, pz_bn2, g3', pz_bnd, d2]; rfl
