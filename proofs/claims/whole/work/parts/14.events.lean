/-! ===== events: knocks, emptied cups ===== -/
theorem pm_ib (x : Int32) {n : Nat} (hn : n < 2 ^ 30) : xm_in x.toInt64 0 (Int32.toInt64 (nI n - 1)) = some (if 0 ≤ x.toInt ∧ x.toInt < n then 1 else 0) := by
  rw [pm_in]
  have h1 := (pm_i64 x 0 0 rfl).1
  have h2 := (pm_i64 x (Int32.toInt64 (nI n - 1)) (nI n - 1) rfl).2
  have h3 : (nI n - 1).toInt = (n : Int) - 1 := pk_sub_toInt (a := n) (b := 1) hn (by omega)
  rw [Int32.le_iff_toInt_le] at h1 h2
  rw [h3] at h2
  have h4 : (0 : Int32).toInt = 0 := by decide
  rw [h4] at h1
  by_cases h : 0 ≤ x.toInt ∧ x.toInt < n
  · rw [if_pos ⟨h1.mpr h.1, h2.mpr (by omega)⟩, if_pos h]
  · rw [if_neg (fun q => h ⟨h1.mp q.1, by have := h2.mp q.2; omega⟩), if_neg h]
theorem pm_bl (c : Prop) [Decidable c] : ba_grd (ba_bool (if c then (1 : Int32) else 0)) (some (if c then (1 : Int32) else 0)) = some (if c then (1 : Int32) else 0) := by
  by_cases h : c <;> simp [h] <;> rfl
theorem pm_isPin (m : ba_St) {np : Nat} (hn : np ≤ 12) (h7 : m.1 0 7 = nI np) (x : Int32) : xm_isPin m x = some (if 0 ≤ x.toInt ∧ x.toInt < np then 1 else 0) := by
  unfold xm_isPin
  rw [h7, pm_ib x (by omega), pz_bnd, pm_bl]
theorem pm_isBall (m : ba_St) {N : Nat} (hn : N ≤ 12) (h10 : m.1 0 10 = nI N) (x : Int32) : xm_isBall m x = some (if 0 ≤ x.toInt ∧ x.toInt < N then 1 else 0) := by
  unfold xm_isBall
  rw [h10, pm_ib x (by omega), pz_bnd, pm_bl]
theorem bt_tN {x : Int32} {k : Nat} (hk : k < 32) : ba_fishr x (nI k) &&& nI 1 = if bt x k = true then nI 1 else nI 0 := bt_tst hk
theorem pm_isIn {x : Int32} {k : Nat} (hk : k < 32) : xm_isIn x (nI k) = some (if bt x k = true then nI 1 else nI 0) := by
  unfold xm_isIn
  rw [bt_tst hk]
  by_cases h : bt x k = true
  · simp only [h, if_true]; rfl
  · simp only [h, if_false]; rfl
theorem pl_number (s : ba_St) (b : Nat) {e j : Nat} (he : e < 8) (hj : j < 4) : xl_number s b (nI e) (nI j) = some (s.1 (b + 1) (e * 4 + j)) := by
  simp (disch := omega) only [xl_number, pz_lit, pk_mul, nI_add, pz_inb, pz_grt, pz_ix]
theorem dY_upd {so wa le nx : Nat → Int32} {np i : Nat} {w' l' n' : Int32} (h : dY so wa le nx np) (g : wy (so i) w' l' n') : dY so (upd wa i w') (upd le i l') (upd nx i n') np := by
  intro j hj
  by_cases e : j = i
  · subst e; rw [pk_us, pk_us, pk_us]; exact g
  · rw [pk_un e, pk_un e, pk_un e]; exact h j hj
theorem neg_pn : -pn = nI 1 := by decide
theorem neg_1 : -(nI 1) = pn := by decide
theorem neg_0 : -(nI 0) = nI 0 := by decide
theorem wy_knock {v way le nx : Int32} (h : wy v way le nx) : wy v (-way) (if nI 2 ≤ le then le else nI 1 - le) (if (if nI 2 ≤ le then le else nI 1 - le) = nI 2 then nI 1 - nx else nx) := by
  have a1 : (nI 2 ≤ nI 3) = True := by simp (disch := omega) only [pz_le]; simp
  have a2 : (nI 2 ≤ nI 0) = False := by simp (disch := omega) only [pz_le]; simp
  have a3 : (nI 2 ≤ nI 1) = False := by simp (disch := omega) only [pz_le]; simp
  have a4 : (nI 3 = nI 2) = False := by simp (disch := omega) only [pz_eq]; simp
  have a5 : nI 1 - nI 0 = nI 1 := pk_sub (by omega)
  have a6 : nI 1 - nI 1 = nI 0 := pk_sub (by omega)
  have a7 : (nI 1 = nI 2) = False := by simp (disch := omega) only [pz_eq]; simp
  have a8 : (nI 0 = nI 2) = False := by simp (disch := omega) only [pz_eq]; simp
  rcases h with ⟨rfl, rfl, rfl⟩ | ⟨rfl, rfl, h⟩ | ⟨hv, h⟩
  · rw [neg_0]
    simp only [a1, if_true, a4, if_false]
    exact Or.inl ⟨rfl, rfl, rfl⟩
  · simp only [Int32.le_refl, if_true]
    rcases h with ⟨rfl, rfl⟩ | ⟨rfl, rfl⟩
    · rw [neg_pn, a5]; exact Or.inr (Or.inl ⟨rfl, rfl, Or.inr ⟨rfl, rfl⟩⟩)
    · rw [neg_1, a6]; exact Or.inr (Or.inl ⟨rfl, rfl, Or.inl ⟨rfl, rfl⟩⟩)
  · rcases h with ⟨rfl, rfl⟩ | ⟨rfl, rfl⟩
    · simp only [a2, if_false, a5, a7]
      rw [neg_pn]; exact Or.inr (Or.inr ⟨hv, Or.inr ⟨rfl, rfl⟩⟩)
    · simp only [a3, if_false, a6, a8]
      rw [neg_1]; exact Or.inr (Or.inr ⟨hv, Or.inl ⟨rfl, rfl⟩⟩)
/-- knocks: what the reference's store is behind it -/
theorem pm_knocks (m : ba_St) {np : Nat} (hn : np ≤ 12) (h7 : m.1 0 7 = nI np) {v : Nat} (hv : v < 12) : xm_knocks m (nI v) = some (if v < np then ba_w (ba_w m 16 v (if nI 2 ≤ m.1 16 v then m.1 16 v else nI 1 - m.1 16 v)) 17 v (if (if nI 2 ≤ m.1 16 v then m.1 16 v else nI 1 - m.1 16 v) = nI 2 then nI 1 - m.1 17 v else m.1 17 v) else m) := by
  have h1 : (0 ≤ (nI v).toInt ∧ (nI v).toInt < (np : Int)) ↔ v < np := by rw [nI_toInt (by omega)]; omega
  unfold xm_knocks
  rw [pm_isPin m hn h7]
  by_cases h : v < np
  · rw [if_pos (h1.mpr h), if_pos h]
    by_cases h2 : nI 2 ≤ m.1 16 v
    · by_cases h3 : m.1 16 v = nI 2
      · simp (disch := omega) only [pz_lit, pz_bnd, pz_eq, Nat.one_ne_zero, if_false, pz_inb, pz_grt, pz_ix, h2, if_true, xm_knocks_j40, xm_knocks_j73, pz_lt, pw_s, h3, Int32.le_refl, pw_p, ne_eq]
      · simp (disch := omega) only [pz_lit, pz_bnd, pz_eq, Nat.one_ne_zero, if_false, pz_inb, pz_grt, pz_ix, h2, if_true, xm_knocks_j40, xm_knocks_j73, pz_lt, pw_s, h3, pw_p]
    · by_cases h3 : nI 1 - m.1 16 v = nI 2
      · simp (disch := omega) only [pz_lit, pz_bnd, pz_eq, Nat.one_ne_zero, if_false, pz_inb, pz_grt, pz_ix, h2, if_true, xm_knocks_j40, xm_knocks_j73, pz_lt, pw_s, h3, pw_p]
      · simp (disch := omega) only [pz_lit, pz_bnd, pz_eq, Nat.one_ne_zero, if_false, pz_inb, pz_grt, pz_ix, h2, if_true, xm_knocks_j40, xm_knocks_j73, pz_lt, pw_s, h3, pw_p]
  · rw [if_neg (fun q => h (h1.mp q)), if_neg h]
    simp only [pz_bnd, if_true]
theorem pm_empties (m : ba_St) {v : Nat} (hv : v < 12) : xm_empties m (nI v) = some (if v < 9 then ba_w m 18 v (nI 0) else m) := by
  have h1 : (0 ≤ nI v ∧ nI v ≤ 8) ↔ v < 9 := by
    have a : nI v ≤ 8 ↔ v ≤ 8 := nI_leI (b := 8) (by omega) (by decide)
    have b := nI_pos' (n := v) (by omega)
    constructor
    · intro h; have := a.mp h.2; omega
    · intro h; exact ⟨b, a.mpr (by omega)⟩
  unfold xm_empties
  rw [pm_isColumn]
  by_cases h : v < 9
  · rw [if_pos (h1.mpr h), if_pos h]
    simp (disch := omega) only [pz_lit, pz_bnd, pz_eq, Nat.one_ne_zero, if_false, pz_inb, pz_grt, pz_ix, pz_lt]
  · rw [if_neg (fun q => h (h1.mp q)), if_neg h]
    simp only [pz_bnd, if_true]
theorem dC_upd {ic fe ins ev : Nat → Int32} {c : Nat} {v w : Int32} (h : dC ic fe ins ev) : dC (upd ic c v) (upd fe c w) (upd ins c v) (upd ev c w) := by
  intro j hj
  by_cases e : j = c
  · subst e; rw [pk_us, pk_us, pk_us, pk_us]; exact ⟨rfl, rfl⟩
  · rw [pk_un e, pk_un e, pk_un e, pk_un e]; exact h j hj
theorem dC_emp {ic fe ins ev : Nat → Int32} {c : Nat} {v : Int32} (h : dC ic fe ins ev) : dC (upd ic c v) fe (upd ins c v) ev := by
  intro j hj
  by_cases e : j = c
  · subst e; rw [pk_us, pk_us]; exact ⟨rfl, (h j hj).2⟩
  · rw [pk_un e, pk_un e]; exact h j hj
/-- one event -/
theorem te_ev1 {b : Nat} (hb : 15 ≤ b) {s m : ba_St} {N np ne T U : Nat} {pc P : Nat → Nat} {Hs : Nat → Nat → Nat} (E : te_E b s m N np ne pc) (D : te_D b s m N np P T U Hs) {e t : Nat} (he : e < ne) (ht : t < 24) :
    ∃ s' m' P', te_D b s' m' N np P' T U Hs ∧ te_F b s s' ∧ te_M m m' ∧ (∀ k, xc_doEvents_l10 b (nI t) k (s, nI e) = k (s', nI (e + 1))) ∧ (∀ k, xm_happens_l2 (nI t) k (m, nI e) = k (m', nI (e + 1))) := by
  obtain ⟨⟨hN, hnp, hne, a1, h10, a3, h7, a5, a6⟩, -, -, -, -, hev, hkp, -⟩ := E
  obtain ⟨kd, t0, v, hkd, ht0, hv, s1, s2, s3, m1, m2, m3⟩ := hev e he
  have hbit := hkp e he
  have n0 : xl_number s 10 (nI e) (nI 0) = some (nI kd) := by rw [pl_number s 10 (by omega) (by omega)]; exact congrArg some s1
  have n1 : xl_number s 10 (nI e) (nI 1) = some (nI t0) := by rw [pl_number s 10 (by omega) (by omega)]; exact congrArg some s2
  have n2 : xl_number s 10 (nI e) (nI 2) = some (nI v) := by rw [pl_number s 10 (by omega) (by omega)]; exact congrArg some s3
  have l1 : ¬ ne ≤ e := by omega
  have idle : (bt (s.1 b 5) e = false ∨ t0 ≠ t) → ∃ s' m' P', te_D b s' m' N np P' T U Hs ∧ te_F b s s' ∧ te_M m m' ∧ (∀ k, xc_doEvents_l10 b (nI t) k (s, nI e) = k (s', nI (e + 1))) ∧ (∀ k, xm_happens_l2 (nI t) k (m, nI e) = k (m', nI (e + 1))) := by
    intro hi
    refine ⟨s, m, P, D, te_F.rf b s, te_M.rf m, fun k => ?_, fun k => ?_⟩
    · simp (disch := omega) only [xc_doEvents_l10, pz_lit, a5, pz_le, l1, if_false, bt_tN, n1, pz_bnd, pz_lt, nI_add]
      by_cases hx : bt (s.1 b 5) e = true
      · have : t0 ≠ t := by
          rcases hi with q | q
          · rw [hx] at q; cases q
          · exact q
        simp (disch := omega) only [hx, if_true, pz_eq, Nat.one_ne_zero, if_false, this]
      · simp only [hx, if_false, if_true, Bool.false_eq_true]
    · simp (disch := omega) only [xm_happens_l2, pz_lit, a6, pz_le, l1, if_false, pk_mul, nI_add, pz_inb, pz_grt, pz_ix, m2, m3, pz_lt, pm_isIn, pz_bnd]
      by_cases hx : t0 = t
      · have hg : bt (m.1 0 15) e = true := by
          rcases hi with q | q
          · rw [hbit] at q; simpa using q
          · exact absurd hx q
        simp (disch := omega) only [hx, if_true, hg, pz_eq, Nat.one_ne_zero, if_false]
      · simp (disch := omega) only [pz_eq, hx, if_false]
  by_cases hk : bt (s.1 b 5) e = true
  · by_cases htt : t0 = t
    · subst htt
      have hg : bt (m.1 0 15) e = false := by rw [hk] at hbit; simpa using hbit.symm
      have cl : ∀ k, xc_doEvents_l10 b (nI t0) k (s, nI e) = (if nI kd = nI 0 then (if nI (v % 2) = nI 1 then xc_doEvents_j77_10 b k s (nI t0) (nI e) (nI 1) else xc_doEvents_j77_10 b k s (nI t0) (nI e) (nI 0)) else if nI kd = nI 1 then (if np ≤ v then xc_doEvents_j119_10 b k s (nI t0) (nI e) (nI kd) (nI v) else k (ba_w s (b + 4) v (-(s.1 (b + 4) v)), nI (e + 1))) else xc_doEvents_j119_10 b k s (nI t0) (nI e) (nI kd) (nI v)) := by
        intro k
        simp (disch := omega) only [xc_doEvents_l10, pz_lit, a5, pz_le, l1, if_false, bt_tN, hk, if_true, pz_eq, Nat.one_ne_zero, n0, n1, n2, pz_bnd, pz_rem, a3, pz_inb, pz_grt, pz_ix, pz_lt, nI_add]
      have ml : ∀ k, xm_happens_l2 (nI t0) k (m, nI e) = (if nI kd = nI 0 then (if nI (v % 2) = nI 1 then xm_happens_j93_2 k m (nI t0) (nI e) (nI 1) else xm_happens_j93_2 k m (nI t0) (nI e) pn) else if nI kd = nI 1 then ba_bnd (xm_knocks m (nI v)) (fun s8 => k (s8, nI (e + 1))) else ba_bnd (xm_empties m (nI v)) (fun s8 => k (s8, nI (e + 1)))) := by
        intro k
        simp (disch := omega) only [xm_happens_l2, ↓pz_m1, pz_lit, a6, pz_le, l1, if_false, pk_mul, nI_add, pz_inb, pz_grt, pz_ix, m1, m2, m3, if_true, pz_lt, pm_isIn, hg, Bool.false_eq_true, pz_bnd, pz_rem]
      rcases (show kd = 0 ∨ kd = 1 ∨ kd = 2 by omega) with rfl | rfl | rfl
      · obtain ⟨s', m', ⟨P', g1⟩, g2, g3, g4, g5⟩ := te_tilt hN h10 D (decide (v % 2 = 1))
        refine ⟨s', m', P', g1, g2, g3, fun k => ?_, fun k => ?_⟩
        · rw [cl, if_pos rfl]
          by_cases hp : v % 2 = 1
          · rw [if_pos (by rw [hp])]
            simp only [hp, decide_true, if_true] at g4
            simp (disch := omega) only [xc_doEvents_j77_10, g4, pz_bnd, pz_lit, pz_lt, nI_add]
          · rw [if_neg (by rw [pz_eq (by omega) (by omega)]; exact hp)]
            simp only [hp, decide_false, Bool.false_eq_true, if_false] at g4
            simp (disch := omega) only [xc_doEvents_j77_10, g4, pz_bnd, pz_lit, pz_lt, nI_add]
        · rw [ml, if_pos rfl]
          by_cases hp : v % 2 = 1
          · rw [if_pos (by rw [hp])]
            simp only [hp, decide_true, if_true] at g5
            simp (disch := omega) only [xm_happens_j93_2, g5, pz_bnd, pz_lit, pz_lt, nI_add]
          · rw [if_neg (by rw [pz_eq (by omega) (by omega)]; exact hp)]
            simp only [hp, decide_false, Bool.false_eq_true, if_false] at g5
            simp (disch := omega) only [xm_happens_j93_2, g5, pz_bnd, pz_lit, pz_lt, nI_add]
      · have z1 : (nI 1 = nI 0) = False := by simp (disch := omega) only [pz_eq, Nat.one_ne_zero]
        by_cases hvp : v < np
        · obtain ⟨D1, D2, D3, D4, D5, D6, D7, D8, D9, D10, D11, D12⟩ := D
          refine ⟨ba_w s (b + 4) v (-(s.1 (b + 4) v)), ba_w (ba_w m 16 v (if nI 2 ≤ m.1 16 v then m.1 16 v else nI 1 - m.1 16 v)) 17 v (if (if nI 2 ≤ m.1 16 v then m.1 16 v else nI 1 - m.1 16 v) = nI 2 then nI 1 - m.1 17 v else m.1 17 v), P, ⟨?_, ?_, ?_, ?_, ?_, ?_, ?_, ?_, ?_, ?_, ?_, ?_⟩, ?_, ?_, fun k => ?_, fun k => ?_⟩
          · simp (disch := omega) only [wa, wo]; exact D1
          · simp (disch := omega) only [wa, wo]; exact D2
          · simp (disch := omega) only [wa, wo]; exact D3
          · simp (disch := omega) only [wa, wo]; exact D4
          · simp (disch := omega) only [wa, wo]
            exact dY_upd D5 (wy_knock (D5 v hvp))
          · simp (disch := omega) only [wa, wo]; exact D6
          · simp (disch := omega) only [wa, wo]; exact D7
          · simp (disch := omega) only [wa, wo]; exact D8
          · simp (disch := omega) only [wa, wo]; exact D9
          · simp (disch := omega) only [wa, wo]; exact D10
          · simp (disch := omega) only [wa, wo]; exact D11
          · simp (disch := omega) only [wa, wo]; exact D12
          · exact (te_F.rf b s).w _ _ _ (by omega)
          · exact ((te_M.rf m).w _ _ _ (by omega)).w _ _ _ (by omega)
          · rw [cl]
            simp only [z1, if_false, if_true, Nat.not_le.mpr hvp]
          · rw [ml, pm_knocks m hnp h7 hv]
            simp only [z1, if_false, if_true, hvp, pz_bnd]
        · refine ⟨s, m, P, D, te_F.rf b s, te_M.rf m, fun k => ?_, fun k => ?_⟩
          · rw [cl]
            have z2 : (nI 1 = nI 2) = False := by simp (disch := omega) only [pz_eq]; simp
            simp (disch := omega) only [z1, if_false, if_true, Nat.not_lt.mp hvp, xc_doEvents_j119_10, pz_lit, z2, pz_lt, nI_add]
          · rw [ml, pm_knocks m hnp h7 hv]
            simp only [z1, if_false, if_true, hvp, pz_bnd]
      · have z1 : (nI 2 = nI 0) = False := by simp (disch := omega) only [pz_eq]; simp
        have z2 : (nI 2 = nI 1) = False := by simp (disch := omega) only [pz_eq]; simp
        by_cases hvp : v < 9
        · obtain ⟨D1, D2, D3, D4, D5, D6, D7, D8, D9, D10, D11, D12⟩ := D
          refine ⟨ba_w s (b + 9) v (nI 0), ba_w m 18 v (nI 0), P, ⟨?_, ?_, ?_, ?_, ?_, ?_, ?_, ?_, ?_, ?_, ?_, ?_⟩, ?_, ?_, fun k => ?_, fun k => ?_⟩
          · simp (disch := omega) only [wa, wo]; exact D1
          · simp (disch := omega) only [wa, wo]; exact D2
          · simp (disch := omega) only [wa, wo]; exact D3
          · simp (disch := omega) only [wa, wo]; exact D4
          · simp (disch := omega) only [wa, wo]; exact D5
          · simp (disch := omega) only [wa, wo]; exact dC_emp D6
          · simp (disch := omega) only [wa, wo]; exact D7
          · simp (disch := omega) only [wa, wo]; exact D8
          · simp (disch := omega) only [wa, wo]; exact D9
          · simp (disch := omega) only [wa, wo]; exact D10
          · simp (disch := omega) only [wa, wo]; exact D11
          · simp (disch := omega) only [wa, wo]; exact D12
          · exact (te_F.rf b s).w _ _ _ (by omega)
          · exact (te_M.rf m).w _ _ _ (by omega)
          · rw [cl]
            have l9 : ¬ 9 ≤ v := by omega
            simp (disch := omega) only [z1, z2, if_false, if_true, xc_doEvents_j119_10, pz_lit, pz_le, l9, pz_inb, pz_grt, pz_ix, pz_lt, nI_add]
          · rw [ml, pm_empties m hv]
            simp only [z1, z2, if_false, if_true, hvp, pz_bnd]
        · refine ⟨s, m, P, D, te_F.rf b s, te_M.rf m, fun k => ?_, fun k => ?_⟩
          · rw [cl]
            have l9 : 9 ≤ v := by omega
            simp (disch := omega) only [z1, z2, if_false, if_true, xc_doEvents_j119_10, pz_lit, pz_le, l9, pz_lt, nI_add]
          · rw [ml, pm_empties m hv]
            simp only [z1, z2, if_false, if_true, hvp, pz_bnd]
    · exact idle (Or.inr htt)
  · exact idle (Or.inl (by simpa using hk))
/-- all events of a tick -/
theorem te_events {b : Nat} (hb : 15 ≤ b) {s m : ba_St} {N np ne T U : Nat} {pc P : Nat → Nat} {Hs : Nat → Nat → Nat} (E : te_E b s m N np ne pc) (D : te_D b s m N np P T U Hs) {t : Nat} (ht : t < 24) :
    ∃ s' m', (∃ P', te_D b s' m' N np P' T U Hs) ∧ te_F b s s' ∧ te_M m m' ∧ xc_doEvents s b (nI t) = some s' ∧ xm_happens m (nI t) = some m' := by
  have hne : ne ≤ 8 := E.1.2.2.1
  obtain ⟨s', m', ⟨h1, h2, h3⟩, h4, h5⟩ := pf_two (F := xc_doEvents_l10 b (nI t)) (E := xm_happens_l2 (nI t))
    (fun i a a' => ∃ s' m' P', a = (s', nI i) ∧ a' = (m', nI i) ∧ te_D b s' m' N np P' T U Hs ∧ te_F b s s' ∧ te_M m m')
    (fun s' m' => (∃ P', te_D b s' m' N np P' T U Hs) ∧ te_F b s s' ∧ te_M m m') ne
    (fun i a a' hi h => by
      obtain ⟨s1, m1, P1, rfl, rfl, hD, hF, hM⟩ := h
      obtain ⟨s2, m2, P2, g1, g2, g3, g4, g5⟩ := te_ev1 hb (E.fr hb hF hM) hD hi ht
      exact ⟨_, _, ⟨s2, m2, P2, rfl, rfl, g1, hF.tr g2, hM.tr g3⟩, g4, g5⟩)
    (fun a a' h => by
      obtain ⟨s1, m1, P1, rfl, rfl, hD, hF, hM⟩ := h
      have E1 := E.fr hb hF hM
      refine ⟨s1, m1, ⟨⟨P1, hD⟩, hF, hM⟩, fun k => ?_, fun k => ?_⟩
      · simp (disch := omega) only [xc_doEvents_l10, E1.1.2.2.2.2.2.2.2.1, Int32.le_refl, if_true]
      · simp (disch := omega) only [xm_happens_l2, E1.1.2.2.2.2.2.2.2.2, Int32.le_refl, if_true]) 1000 1000 0 (s, 0) (m, 0) (by omega) (by omega) (by omega) ⟨s, m, P, rfl, rfl, D, te_F.rf b s, te_M.rf m⟩
  refine ⟨s', m', h1, h2, h3, ?_, ?_⟩
  · unfold xc_doEvents; rw [h4]; rfl
  · unfold xm_happens; rw [h5]; rfl
