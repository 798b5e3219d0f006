/-! ===== a fall ===== -/
def te_D0 (b : Nat) (s m : ba_St) (N np : Nat) (P : Nat → Nat) (T U : Nat) (Hs : Nat → Nat → Nat) : Prop :=
  dP (s.1 (b + 7)) (m.1 11) (m.1 12) N P ∧ dO (s.1 (b + 5)) N P ∧ dR (s.1 (b + 6)) N P ∧ dW (s.1 b 10) N P ∧ dY (s.1 (b + 1)) (s.1 (b + 4)) (m.1 16) (m.1 17) np ∧ dC (s.1 (b + 9)) (s.1 (b + 10)) (m.1 18) (m.1 19) ∧ dB (s.1 (b + 11)) (s.1 (b + 12)) (s.1 (b + 13)) (m.1 13) (m.1 14) (m.1 15) N ∧ dT (s.1 (b + 14)) (m.1 20) U ∧ dH (s.1 (b + 8)) (m.1 21) (m.1 22) N T Hs ∧ dX (s.1 (b + 7)) N ∧ s.1 b 18 = m.1 0 28
def tgt (c : Nat) (w : Int32) : Nat := if w = pn then (if c = 0 then 0 else c - 1) else if w = nI 1 then (if c = 8 then 8 else c + 1) else c
theorem tgt_lt {c : Nat} (w : Int32) (h : c < 9) : tgt c w < 9 := by
  unfold tgt
  split
  · split <;> omega
  · split
    · split <;> omega
    · exact h
theorem te_pin {b : Nat} {s m : ba_St} {N np ne : Nat} {pc : Nat → Nat} (E : te_E b s m N np ne pc) {q : Nat} (hq : q < 72) : xm_pinAt m (nI (q / 9)) (nI (q % 9)) = some (s.1 6 q) ∧ (s.1 6 q = pn ∨ ∃ i, i < np ∧ s.1 6 q = nI i) := by
  obtain ⟨⟨hN, hnp, hne, a1, h10, a3, h7, a5, a6⟩, -, h3, h4, -⟩ := E
  have key : ∀ i, i < np → ((m.1 7 (3 * i) = nI (q / 9) ∧ m.1 7 (3 * i + 1) = nI (q % 9)) ↔ pc i = q) := by
    intro i hi
    obtain ⟨b1, b2, b3⟩ := h3 i hi
    rw [b2, b3, pz_eq (by omega) (by omega), pz_eq (by omega) (by omega)]
    omega
  constructor
  · rw [pm_pinAt m hnp h7]
    congr 1
    refine pl_last_eq (fun i hi h => ?_) (fun h => ?_)
    · exact (h4 q hq).1 i hi ((key i hi).mp (of_decide_eq_true h))
    · exact (h4 q hq).2 (fun i hi e => by
        have := h i hi
        rw [decide_eq_false_iff_not] at this
        exact this ((key i hi).mpr e))
  · by_cases hx : ∃ i, i < np ∧ pc i = q
    · obtain ⟨i, hi, e⟩ := hx
      exact Or.inr ⟨i, hi, (h4 q hq).1 i hi e⟩
    · exact Or.inl ((h4 q hq).2 (fun i hi e => hx ⟨i, hi, e⟩))
theorem z_pn0 : (nI 0 = pn) = False := by simp (disch := omega) only [pz_pn]
theorem z_pn1 : (nI 1 = pn) = False := by simp (disch := omega) only [pz_pn]
theorem z_01 : (nI 0 = nI 1) = False := by simp (disch := omega) only [pz_eq]; simp
theorem z_10 : (nI 1 = nI 0) = False := by simp (disch := omega) only [pz_eq]; simp
theorem z_12 : (nI 1 = nI 2) = False := by simp (disch := omega) only [pz_eq]; simp
theorem z_02 : (nI 0 = nI 2) = False := by simp (disch := omega) only [pz_eq]; simp
theorem z_13 : (nI 1 = nI 3) = False := by simp (disch := omega) only [pz_eq]; simp
theorem z_03 : (nI 0 = nI 3) = False := by simp (disch := omega) only [pz_eq]; simp
theorem z_23 : (nI 2 = nI 3) = False := by simp (disch := omega) only [pz_eq]; simp
theorem z_32 : (nI 3 = nI 2) = False := by simp (disch := omega) only [pz_eq]; simp
theorem te_colC (s : ba_St) (b : Nat) {c i : Nat} (hc : c < 9) (hi : i < 12) (hw : s.1 (b + 4) i = pn ∨ s.1 (b + 4) i = nI 0 ∨ s.1 (b + 4) i = nI 1) : xc_columnFrom s b (nI c) (nI i) = some (nI (tgt c (s.1 (b + 4) i))) := by
  simp (disch := omega) only [xc_columnFrom, ↓pz_m1, pz_pn, if_false, pz_inb, pz_grt, pz_ix, pz_lt, pz_lit]
  rcases hw with h | h | h
  · rw [h]
    unfold tgt
    rw [if_pos rfl]
    by_cases e : c = 0
    · subst e
      rw [pz_0pn, if_pos rfl]
      simp (disch := omega) only [pz_pnlt, if_true]
    · have l1 : ¬ c - 1 < 0 := by omega
      have l2 : c - 1 < 9 := by omega
      simp (disch := omega) only [pz_addpn, pz_ltN, l1, l2, if_false, if_true, e]
  · rw [h]
    unfold tgt
    have l1 : ¬ c < 0 := by omega
    simp (disch := omega) only [nI_add, pz_ltN, l1, hc, if_false, if_true, z_pn0, z_01, Nat.add_zero]
  · rw [h]
    unfold tgt
    have l1 : ¬ c + 1 < 0 := by omega
    by_cases e : c = 8
    · subst e
      simp (disch := omega) only [nI_add, pz_ltN, l1, if_false, if_true, z_pn1, Nat.lt_irrefl]
    · have l2 : c + 1 < 9 := by omega
      simp (disch := omega) only [nI_add, pz_ltN, l1, l2, if_false, if_true, z_pn1, e]
theorem pm_aside {c : Nat} (hc : c < 9) : xm_aside (nI c) (nI 1) = some (nI (tgt c (nI 1))) ∧ xm_aside (nI c) pn = some (nI (tgt c pn)) := by
  have a : ∀ x : Nat, x < 2 ^ 31 → ((0 ≤ nI x ∧ nI x ≤ 8) ↔ x < 9) := by
    intro x hx
    have a : nI x ≤ 8 ↔ x ≤ 8 := nI_leI (b := 8) hx (by decide)
    constructor
    · intro h; have := a.mp h.2; omega
    · intro h; exact ⟨nI_pos' hx, a.mpr (by omega)⟩
  constructor
  · unfold xm_aside tgt
    rw [nI_add, pm_isColumn]
    by_cases e : c = 8
    · have h9 : ¬ (0 ≤ nI (c + 1) ∧ nI (c + 1) ≤ 8) := fun q => by have := (a (c + 1) (by omega)).mp q; omega
      rw [if_neg h9, pz_bnd]
      simp only [if_true, z_pn1, if_false, e]
    · have h9 : 0 ≤ nI (c + 1) ∧ nI (c + 1) ≤ 8 := (a (c + 1) (by omega)).mpr (by omega)
      rw [if_pos h9, pz_bnd]
      simp only [if_true, z_pn1, if_false, e, pz_lit, z_10]
  · unfold xm_aside tgt
    by_cases e : c = 0
    · subst e
      have h9 : ¬ (0 ≤ pn ∧ pn ≤ 8) := by decide
      rw [pz_0pn, pm_isColumn, if_neg h9, pz_bnd]
      simp only [if_true]
    · have h9 : 0 ≤ nI (c - 1) ∧ nI (c - 1) ≤ 8 := (a (c - 1) (by omega)).mpr (by omega)
      rw [pz_addpn (by omega), pm_isColumn, if_pos h9, pz_bnd]
      simp only [if_true, if_false, e, pz_lit, z_10]
theorem te_colM (m : ba_St) {c k i : Nat} {so wa : Int32} (hc : c < 9) (hk : k < 12) (hi : i < 12) (hcl : m.1 12 k = nI c) (hw : wy so wa (m.1 16 i) (m.1 17 i)) : xm_goesTo m (nI k) (nI i) = some (nI (tgt c wa)) := by
  simp (disch := omega) only [xm_goesTo, ↓pz_m1, pz_pn, if_false, pz_inb, pz_grt, pz_ix, pz_lt, pz_lit, hcl]
  obtain ⟨p1, p2⟩ := pm_aside hc
  rcases hw with ⟨-, h1, h2⟩ | ⟨-, h1, ⟨h3, h2⟩ | ⟨h3, h2⟩⟩ | ⟨-, ⟨h1, h2⟩ | ⟨h1, h2⟩⟩
  · rw [h1, h2]
    unfold tgt
    simp only [if_true, z_pn0, z_01, if_false]
  · rw [h1, h2, h3]
    simp only [z_23, if_false, if_true, xm_goesTo_j49, xm_goesTo_j63, pz_lit, ↓pz_m1, z_01, p2, pz_bnd]
  · rw [h1, h2, h3]
    simp only [z_23, if_false, if_true, xm_goesTo_j49, xm_goesTo_j63, pz_lit, ↓pz_m1, p1, pz_bnd]
  · rw [h1, h2]
    simp only [z_03, z_02, if_false, if_true, xm_goesTo_j49, xm_goesTo_j63, pz_lit, ↓pz_m1, z_01, p2, pz_bnd]
  · rw [h1, h2]
    simp only [z_13, z_12, if_false, if_true, xm_goesTo_j49, xm_goesTo_j63, pz_lit, ↓pz_m1, p1, pz_bnd]
theorem wy_way {so wa le nx : Int32} (h : wy so wa le nx) : wa = pn ∨ wa = nI 0 ∨ wa = nI 1 := by
  rcases h with ⟨-, -, h⟩ | ⟨-, -, ⟨-, h⟩ | ⟨-, h⟩⟩ | ⟨-, ⟨-, h⟩ | ⟨-, h⟩⟩
  · exact Or.inr (Or.inl h)
  · exact Or.inl h
  · exact Or.inr (Or.inr h)
  · exact Or.inl h
  · exact Or.inr (Or.inr h)
theorem dB_br {br en he br' en' he' : Nat → Int32} {N k : Nat} {v : Int32} (h : dB br en he br' en' he' N) : dB (upd br k v) en he (upd br' k v) en' he' N := by
  intro j hj
  by_cases e : j = k
  · subst e; rw [pk_us, pk_us]; exact ⟨rfl, (h j hj).2⟩
  · rw [pk_un e, pk_un e]; exact h j hj
theorem dB_en {br en he br' en' he' : Nat → Int32} {N k : Nat} {v : Int32} (h : dB br en he br' en' he' N) : dB br (upd en k v) he br' (upd en' k v) he' N := by
  intro j hj
  by_cases e : j = k
  · subst e; rw [pk_us, pk_us]; exact ⟨(h j hj).1, rfl, (h j hj).2.2⟩
  · rw [pk_un e, pk_un e]; exact h j hj
theorem dB_he {br en he br' en' he' : Nat → Int32} {N k : Nat} {v : Int32} (h : dB br en he br' en' he' N) : dB br en (upd he k v) br' en' (upd he' k v) N := by
  intro j hj
  by_cases e : j = k
  · subst e; rw [pk_us, pk_us]; exact ⟨(h j hj).1, (h j hj).2.1, rfl⟩
  · rw [pk_un e, pk_un e]; exact h j hj
theorem wy_turn {so wa le nx : Int32} (h : wy so wa le nx) (h2 : so = nI 2) : le = nI 2 ∧ wy so (-wa) le (nI 1 - nx) := by
  subst h2
  rcases h with ⟨h, -⟩ | ⟨-, h1, ⟨h3, h4⟩ | ⟨h3, h4⟩⟩ | ⟨h | h, -⟩
  · rw [z_23] at h; exact h.elim
  · subst h3; subst h4
    rw [neg_pn, pk_sub (by omega)]
    exact ⟨h1, Or.inr (Or.inl ⟨rfl, h1, Or.inr ⟨rfl, rfl⟩⟩)⟩
  · subst h3; subst h4
    rw [neg_1, pk_sub (by omega)]
    exact ⟨h1, Or.inr (Or.inl ⟨rfl, h1, Or.inl ⟨rfl, rfl⟩⟩)⟩
  · rw [show (nI 2 = nI 0) = False by simp (disch := omega) only [pz_eq]; simp] at h; exact h.elim
  · rw [show (nI 2 = nI 1) = False by simp (disch := omega) only [pz_eq]; simp] at h; exact h.elim
theorem wy_le {so wa le nx : Int32} (h : wy so wa le nx) : (le = nI 2 ↔ so = nI 2) ∧ (le = nI 3 ↔ so = nI 3) := by
  rcases h with ⟨h1, h2, -⟩ | ⟨h1, h2, -⟩ | ⟨h1 | h1, ⟨h2, -⟩ | ⟨h2, -⟩⟩ <;> rw [h1, h2] <;> simp [z_32, z_23, z_02, z_03, z_12, z_13]
/-- passing a pin: it turns, or rings -/
theorem te_pass {b : Nat} {s m : ba_St} {N np ne T U : Nat} {pc P : Nat → Nat} {Hs : Nat → Nat → Nat} (E : te_E b s m N np ne pc) (D : te_D b s m N np P T U Hs) {k t to : Nat} (hk : k < N) {x : Int32} (hx : x = pn ∨ ∃ i, i < np ∧ x = nI i) :
    ∃ s1 m1, te_D0 b s1 m1 N np P T U Hs ∧ (∀ j, j < N → j ≠ k → m1.1 13 j = m.1 13 j) ∧ (∃ v, v ≤ bd (P k) + 2 ∧ m1.1 13 k = nI v) ∧ te_F b s s1 ∧ te_M m m1 ∧ xc_pass s b x (nI k) = some s1 ∧ xm_falls_j75 m (nI t) (nI k) x (nI to) = xm_falls_j139 m1 (nI t) (nI k) (nI to) := by
  obtain ⟨⟨hN, hnp, hne, a1, h10, a3, h7, a5, a6⟩, -⟩ := E
  obtain ⟨D1, D2, D3, D4, D5, D6, D7, D8, D9, D10, D11, D12⟩ := D
  obtain ⟨v, hv, hbr⟩ := D11 k hk
  rcases hx with rfl | ⟨i, hi, rfl⟩
  · refine ⟨s, m, ⟨D1, D2, D3, D4, D5, D6, D7, D8, D9, D10, D12⟩, fun _ _ _ => rfl, ⟨v, by omega, hbr⟩, te_F.rf b s, te_M.rf m, ?_, ?_⟩
    · simp (disch := omega) only [xc_pass, ↓pz_m1, if_true]
    · simp (disch := omega) only [xm_falls_j75, xm_falls_j104, ↓pz_m1, if_true]
  · have hw := D5 i hi
    obtain ⟨q1, q2⟩ := wy_le hw
    by_cases e2 : s.1 (b + 1) i = nI 2
    · obtain ⟨l2, hw'⟩ := wy_turn hw e2
      refine ⟨ba_w s (b + 4) i (-(s.1 (b + 4) i)), ba_w m 17 i (nI 1 - m.1 17 i), ⟨?_, ?_, ?_, ?_, ?_, ?_, ?_, ?_, ?_, ?_, ?_⟩, fun j _ _ => ?_, ⟨v, by omega, ?_⟩, ?_, ?_, ?_, ?_⟩
      · simp (disch := omega) only [wa, wo]; exact D1
      · simp (disch := omega) only [wa, wo]; exact D2
      · simp (disch := omega) only [wa, wo]; exact D3
      · simp (disch := omega) only [wa, wo]; exact D4
      · simp (disch := omega) only [wa, wo]
        have h := dY_upd D5 (i := i) hw'
        rwa [show upd (m.1 16) i (m.1 16 i) = m.1 16 by funext z; unfold upd; split <;> simp_all] at h
      · simp (disch := omega) only [wa, wo]; exact D6
      · simp (disch := omega) only [wa, wo]; exact D7
      · simp (disch := omega) only [wa, wo]; exact D8
      · simp (disch := omega) only [wa, wo]; exact D9
      · simp (disch := omega) only [wa, wo]; exact D10
      · simp (disch := omega) only [wa, wo]; exact D12
      · simp (disch := omega) only [wa, wo]
      · simp (disch := omega) only [wa, wo]; exact hbr
      · exact (te_F.rf b s).w _ _ _ (by omega)
      · exact (te_M.rf m).w _ _ _ (by omega)
      · simp (disch := omega) only [xc_pass, ↓pz_m1, pz_lit, pz_pn, if_false, pz_inb, pz_grt, pz_ix, e2, if_true, pz_lt]
      · simp (disch := omega) only [xm_falls_j75, xm_falls_j104, ↓pz_m1, pz_lit, pz_pn, if_false, pz_inb, pz_grt, pz_ix, l2, if_true, pz_lt, pw_p, z_23]
    · have l2 : ¬ m.1 16 i = nI 2 := fun h => e2 (q1.mp h)
      by_cases e3 : s.1 (b + 1) i = nI 3
      · have l3 := q2.mpr e3
        have hbk := (D7 k hk).1
        refine ⟨ba_w (ba_w s b 18 (s.1 b 18 + nI 1)) (b + 11) k (nI (v + 2)), ba_w (ba_w m 0 28 (m.1 0 28 + nI 1)) 13 k (nI (v + 2)), ⟨?_, ?_, ?_, ?_, ?_, ?_, ?_, ?_, ?_, ?_, ?_⟩, fun j _ hj => ?_, ⟨v + 2, by omega, ?_⟩, ?_, ?_, ?_, ?_⟩
        · simp (disch := omega) only [wa, wo]; exact D1
        · simp (disch := omega) only [wa, wo]; exact D2
        · simp (disch := omega) only [wa, wo]; exact D3
        · simp (disch := omega) only [wa, wo, pw_i]; exact D4
        · simp (disch := omega) only [wa, wo]; exact D5
        · simp (disch := omega) only [wa, wo]; exact D6
        · simp (disch := omega) only [wa, wo]; exact dB_br D7
        · simp (disch := omega) only [wa, wo]; exact D8
        · simp (disch := omega) only [wa, wo]; exact D9
        · simp (disch := omega) only [wa, wo]; exact D10
        · simp (disch := omega) only [wo, pw_s]; rw [D12]
        · simp (disch := omega) only [wa, wo, pk_un]
        · simp (disch := omega) only [wa, pk_us]
        · exact ((te_F.rf b s).w _ _ _ (by omega)).w _ _ _ (by omega)
        · exact ((te_M.rf m).w _ _ _ (by omega)).w _ _ _ (by omega)
        · simp (disch := omega) only [xc_pass, ↓pz_m1, pz_lit, pz_pn, if_false, pz_inb, pz_grt, pz_ix, e2, e3, if_true, pz_lt, pw_p, hbk, hbr, nI_add, z_32]
        · simp (disch := omega) only [xm_falls_j75, xm_falls_j104, ↓pz_m1, pz_lit, pz_pn, if_false, pz_inb, pz_grt, pz_ix, l2, l3, if_true, pz_lt, pw_p, hbr, nI_add, z_32]
      · have l3 : ¬ m.1 16 i = nI 3 := fun h => e3 (q2.mp h)
        refine ⟨s, m, ⟨D1, D2, D3, D4, D5, D6, D7, D8, D9, D10, D12⟩, fun _ _ _ => rfl, ⟨v, by omega, hbr⟩, te_F.rf b s, te_M.rf m, ?_, ?_⟩
        · simp (disch := omega) only [xc_pass, ↓pz_m1, pz_lit, pz_pn, if_false, pz_inb, pz_grt, pz_ix, e2, e3]
        · simp (disch := omega) only [xm_falls_j75, xm_falls_j104, ↓pz_m1, pz_lit, pz_pn, if_false, pz_inb, pz_grt, pz_ix, l2, l3]
