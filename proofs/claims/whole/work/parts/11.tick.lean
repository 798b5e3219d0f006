theorem pm_whoAt (m : ba_St) {N : Nat} (hN : N ≤ 12) (h10 : m.1 0 10 = nI N) (r c : Int32) : xm_whoAt m r c = some (pl_last (fun k => decide (m.1 11 k = r ∧ m.1 12 k = c)) N) := by
  obtain ⟨o, ho, e⟩ := pf_one (F := xm_whoAt_l5 m r c) (fun i a => a = (pl_last (fun k => decide (m.1 11 k = r ∧ m.1 12 k = c)) i, nI i)) (fun o => o = pl_last (fun k => decide (m.1 11 k = r ∧ m.1 12 k = c)) N) N
    (fun i a hi ha => ⟨(pl_last (fun k => decide (m.1 11 k = r ∧ m.1 12 k = c)) (i + 1), nI (i + 1)), rfl, fun k => by
      subst ha
      have h1 : ¬ N ≤ i := by omega
      simp (disch := omega) only [xm_whoAt_l5, xm_whoAt_j41_5, h10, pz_le, h1, if_false, pz_inb, pz_grt, pz_ix, pz_lt, pz_lit, nI_add, pl_last, decide_eq_true_eq]
      by_cases h2 : m.1 11 i = r
      · by_cases h3 : m.1 12 i = c
        · simp [h2, h3]
        · simp [h2, h3]
      · simp [h2]⟩)
    (fun a ha => ⟨_, rfl, fun k => by
      subst ha
      simp (disch := omega) only [xm_whoAt_l5, h10, pz_le, Nat.le_refl, if_true]⟩) 1000 0 (-1, 0) (Nat.zero_le _) (by omega) rfl
  unfold xm_whoAt
  rw [e, ho]
  rfl
theorem pm_pinAt (m : ba_St) {n : Nat} (hn : n ≤ 12) (h7 : m.1 0 7 = nI n) (r c : Int32) : xm_pinAt m r c = some (pl_last (fun k => decide (m.1 7 (3 * k) = r ∧ m.1 7 (3 * k + 1) = c)) n) := by
  obtain ⟨o, ho, e⟩ := pf_one (F := xm_pinAt_l5 m r c) (fun i a => a = (pl_last (fun k => decide (m.1 7 (3 * k) = r ∧ m.1 7 (3 * k + 1) = c)) i, nI i)) (fun o => o = pl_last (fun k => decide (m.1 7 (3 * k) = r ∧ m.1 7 (3 * k + 1) = c)) n) n
    (fun i a hi ha => ⟨(pl_last (fun k => decide (m.1 7 (3 * k) = r ∧ m.1 7 (3 * k + 1) = c)) (i + 1), nI (i + 1)), rfl, fun k => by
      subst ha
      have h1 : ¬ n ≤ i := by omega
      simp (disch := omega) only [xm_pinAt_l5, xm_pinAt_j47_5, h7, pz_le, h1, if_false, pz_lit, pk_mul, nI_add, pz_inb, pz_grt, pz_ix, pz_lt, pl_last, decide_eq_true_eq]
      by_cases h2 : m.1 7 (3 * i) = r
      · by_cases h3 : m.1 7 (3 * i + 1) = c
        · simp [h2, h3]
        · simp [h2, h3]
      · simp [h2]⟩)
    (fun a ha => ⟨_, rfl, fun k => by
      subst ha
      simp (disch := omega) only [xm_pinAt_l5, h7, pz_le, Nat.le_refl, if_true]⟩) 1000 0 (-1, 0) (Nat.zero_le _) (by omega) rfl
  unfold xm_pinAt
  rw [e, ho]
  rfl
theorem pm_isColumn (x : Int32) : xm_isColumn x = some (if 0 ≤ x ∧ x ≤ 8 then 1 else 0) := by
  unfold xm_isColumn
  rw [pm_in, pz_bnd]
  have h1 := pm_i64 x 0 0 rfl
  have h2 := pm_i64 x 8 8 rfl
  by_cases h : 0 ≤ x ∧ x ≤ 8
  · have h3 : (0 : Int64) ≤ x.toInt64 ∧ x.toInt64 ≤ 8 := ⟨h1.1.mpr h.1, h2.2.mpr h.2⟩
    rw [if_pos h3, if_pos h]; rfl
  · have h3 : ¬ ((0 : Int64) ≤ x.toInt64 ∧ x.toInt64 ≤ 8) := fun q => h ⟨h1.1.mp q.1, h2.2.mp q.2⟩
    rw [if_neg h3, if_neg h]; rfl
/-! ===== a run's state: P k, where ball k is: a cell 0 to 71, 72 and on a cup, 81 and on the gutter, 90 waits ===== -/
def cP (p : Nat) : Int32 := if p = 90 then pn else nI p
def cR (p : Nat) : Int32 := if p = 90 then pn else nI (p / 9)
def cC (p : Nat) : Int32 := if p = 90 then pn else nI (p % 9)
def pu (P : Nat → Nat) (k p : Nat) : Nat → Nat := fun j => if j = k then p else P j
theorem pu_s (P : Nat → Nat) (k p : Nat) : pu P k p k = p := by simp [pu]
theorem pu_n (P : Nat → Nat) {k j : Nat} (p : Nat) (h : j ≠ k) : pu P k p j = P j := by simp [pu, h]
theorem wa (σ : ba_St) (k j : Nat) (v : Int32) : (ba_w σ k j v).1 k = upd (σ.1 k) j v := ba_w_at σ k j v
theorem wo (σ : ba_St) {k p : Nat} (j : Nat) (v : Int32) (h : p ≠ k) : (ba_w σ k j v).1 p = σ.1 p := ba_w_off σ j v h
def dP (pl rw cl : Nat → Int32) (N : Nat) (P : Nat → Nat) : Prop := ∀ k, k < N → P k ≤ 90 ∧ pl k = cP (P k) ∧ rw k = cR (P k) ∧ cl k = cC (P k)
def dO (f : Nat → Int32) (N : Nat) (P : Nat → Nat) : Prop := ∀ q, q < 72 → (∀ k, k < N → P k = q → f q = nI k) ∧ ((∀ k, k < N → P k ≠ q) → f q = pn)
def dR (f : Nat → Int32) (N : Nat) (P : Nat → Nat) : Prop := ∀ r, r < 8 → ∀ i, i < 32 → bt (f r) i = decide (i < N ∧ P i < 72 ∧ P i / 9 = r)
def dW (x : Int32) (N : Nat) (P : Nat → Nat) : Prop := ∀ i, i < 32 → bt x i = decide (i < N ∧ P i = 90)
def wy (v way le nx : Int32) : Prop := (v = nI 3 ∧ le = nI 3 ∧ way = nI 0) ∨ (v = nI 2 ∧ le = nI 2 ∧ ((nx = nI 0 ∧ way = pn) ∨ (nx = nI 1 ∧ way = nI 1))) ∨ ((v = nI 0 ∨ v = nI 1) ∧ ((le = nI 0 ∧ way = pn) ∨ (le = nI 1 ∧ way = nI 1)))
def dY (so wa le nx : Nat → Int32) (np : Nat) : Prop := ∀ i, i < np → wy (so i) (wa i) (le i) (nx i)
def dC (ic fe ins ev : Nat → Int32) : Prop := ∀ c, c < 9 → ic c = ins c ∧ fe c = ev c
def dB (br en he br' en' he' : Nat → Int32) (N : Nat) : Prop := ∀ k, k < N → br k = br' k ∧ en k = en' k ∧ he k = he' k
def dT (f g : Nat → Int32) (U : Nat) : Prop := (∀ u, u < U → f u = g u) ∧ ∀ u, U ≤ u → u < 24 → f u = nI 0
def dH (pl rw cl : Nat → Int32) (N T : Nat) (Hs : Nat → Nat → Nat) : Prop := (∀ t, t < T → ∀ k, k < N → Hs t k ≤ 90 ∧ pl (t * 12 + k) = cP (Hs t k) ∧ rw (12 * t + k) = cR (Hs t k) ∧ cl (12 * t + k) = cC (Hs t k)) ∧ (∀ t, t < T → ∀ k j, k < N → j < N → Hs t k = Hs t j → Hs t k < 72 → k = j) ∧ (∀ t, t < T → ∀ k, N ≤ k → k < 12 → pl (t * 12 + k) = pn)
def dX (pl : Nat → Int32) (N : Nat) : Prop := ∀ k, N ≤ k → k < 12 → pl k = pn
def bd (p : Nat) : Nat := if p < 72 then 2 * (p / 9) else if p = 90 then 0 else 25
def dV (br : Nat → Int32) (N : Nat) (P : Nat → Nat) : Prop := ∀ k, k < N → ∃ v, v ≤ bd (P k) ∧ br k = nI v
theorem dV_same {br : Nat → Int32} {N : Nat} {P : Nat → Nat} (h : dV br N P) {k p : Nat} (h1 : bd (P k) ≤ bd p) : dV br N (pu P k p) := by
  intro j hj
  obtain ⟨v, a, b⟩ := h j hj
  by_cases e : j = k
  · subst e; exact ⟨v, by rw [pu_s]; omega, b⟩
  · exact ⟨v, by rw [pu_n P p e]; exact a, b⟩
theorem dO_inj {f : Nat → Int32} {N : Nat} {P : Nat → Nat} (h : dO f N P) (hN : N ≤ 12) {k j : Nat} (hk : k < N) (hj : j < N) (e : P k = P j) (hq : P k < 72) : k = j := by
  have h1 := (h (P k) hq).1 k hk rfl
  have h2 := (h (P k) hq).1 j hj e.symm
  rw [h1] at h2
  exact (nI_eq (by omega) (by omega)).mp h2
theorem dO_who {f : Nat → Int32} {N : Nat} {P : Nat → Nat} (h : dO f N P) {q : Nat} (hq : q < 72) : (f q = pn ∧ ∀ k, k < N → P k ≠ q) ∨ ∃ k, k < N ∧ P k = q ∧ f q = nI k := by
  by_cases hx : ∃ k, k < N ∧ P k = q
  · obtain ⟨k, hk, e⟩ := hx
    exact Or.inr ⟨k, hk, e, (h q hq).1 k hk e⟩
  · have hn : ∀ k, k < N → P k ≠ q := fun k hk e => hx ⟨k, hk, e⟩
    exact Or.inl ⟨(h q hq).2 hn, hn⟩
theorem dO_move {f : Nat → Int32} {N : Nat} {P : Nat → Nat} (h : dO f N P) (hN : N ≤ 12) {k q : Nat} (hk : k < N) (hP : P k < 72) (hf : q < 72 → ∀ j, j < N → P j ≠ q) : dO (if q < 72 then upd (upd f (P k) pn) q (nI k) else upd f (P k) pn) N (pu P k q) := by
  intro z hz
  refine ⟨fun j hj e => ?_, fun hn => ?_⟩
  · by_cases hjk : j = k
    · subst hjk
      rw [pu_s] at e
      subst e
      rw [if_pos hz, pk_us]
    · rw [pu_n P q hjk] at e
      have hzk : z ≠ P k := fun e2 => hjk (dO_inj h hN hj hk (by omega) (by omega))
      by_cases hq : q < 72
      · have hzq : z ≠ q := fun e2 => hf hq j hj (by omega)
        rw [if_pos hq, pk_un hzq, pk_un hzk]
        exact (h z hz).1 j hj e
      · rw [if_neg hq, pk_un hzk]
        exact (h z hz).1 j hj e
  · have h1 : q ≠ z := by
      have := hn k hk
      rwa [pu_s] at this
    by_cases hzk : z = P k
    · by_cases hq : q < 72
      · rw [if_pos hq, pk_un (Ne.symm h1), hzk, pk_us]
      · rw [if_neg hq, hzk, pk_us]
    · have h2 : f z = pn := (h z hz).2 (fun j hj => by
        by_cases hjk : j = k
        · subst hjk; exact Ne.symm hzk
        · have := hn j hj; rwa [pu_n P q hjk] at this)
      by_cases hq : q < 72
      · rw [if_pos hq, pk_un (Ne.symm h1), pk_un hzk, h2]
      · rw [if_neg hq, pk_un hzk, h2]
theorem dO_in {f : Nat → Int32} {N : Nat} {P : Nat → Nat} (h : dO f N P) {k q : Nat} (hk : k < N) (hP : P k = 90) (hq : q < 72) (hf : ∀ j, j < N → P j ≠ q) : dO (upd f q (nI k)) N (pu P k q) := by
  intro z hz
  refine ⟨fun j hj e => ?_, fun hn => ?_⟩
  · by_cases hjk : j = k
    · subst hjk
      rw [pu_s] at e
      subst e
      rw [pk_us]
    · rw [pu_n P q hjk] at e
      have hzq : z ≠ q := fun e2 => hf j hj (by omega)
      rw [pk_un hzq]
      exact (h z hz).1 j hj e
  · have h1 : q ≠ z := by
      have := hn k hk
      rwa [pu_s] at this
    rw [pk_un (Ne.symm h1)]
    exact (h z hz).2 (fun j hj => by
      by_cases hjk : j = k
      · subst hjk; omega
      · have := hn j hj; rwa [pu_n P q hjk] at this)
theorem dP_set {pl rw cl : Nat → Int32} {N : Nat} {P : Nat → Nat} (h : dP pl rw cl N P) {k p : Nat} (hp : p ≤ 90) : dP (upd pl k (cP p)) (upd rw k (cR p)) (upd cl k (cC p)) N (pu P k p) := by
  intro j hj
  by_cases e : j = k
  · subst e
    rw [pu_s, pk_us, pk_us, pk_us]
    exact ⟨hp, rfl, rfl, rfl⟩
  · rw [pu_n P p e, pk_un e, pk_un e, pk_un e]
    exact h j hj
/-! bits -/
theorem bt_shl1 {k i : Nat} (hk : k < 32) (hi : i < 32) : bt (ba_fishl 1 (nI k)) i = decide (i = k) := by
  unfold ba_fishl
  rw [b_shl k hk 1 hi]
  by_cases h : k ≤ i
  · by_cases e : i = k
    · subst e
      simp only [Nat.le_refl, decide_true, Nat.sub_self, Bool.true_and]
      decide
    · have h1 : ∀ z, z < 32 → z ≠ 0 → bt (1 : Int32) z = false := by decide +kernel
      rw [h1 (i - k) (by omega) (by omega)]
      simp [e]
  · have e : i ≠ k := by omega
    simp [h, e]
theorem bt_clr {x : Int32} {k i : Nat} (hk : k < 32) (hi : i < 32) : bt (x &&& (ba_fishl 1 (nI k) ^^^ (-1))) i = (bt x i && decide (i ≠ k)) := by
  rw [b_and, b_xor, bt_shl1 hk hi, b_m1 i hi]
  by_cases e : i = k <;> simp [e]
theorem bt_set {x : Int32} {k i : Nat} (hk : k < 32) (hi : i < 32) : bt (x ||| ba_fishl 1 (nI k)) i = (bt x i || decide (i = k)) := by
  rw [b_or, bt_shl1 hk hi]
theorem bt_1 : ∀ i, i < 32 → bt (1 : Int32) i = decide (i = 0) := by decide +kernel
theorem bt_tst {x : Int32} {k : Nat} (hk : k < 32) : ba_fishr x (nI k) &&& 1 = if bt x k = true then 1 else 0 := by
  apply b_ext
  intro i hi
  unfold ba_fishr
  rw [b_and, b_sshr k hk x hi, bt_1 i hi]
  by_cases e : i = 0
  · subst e
    have : k + 0 < 32 := by omega
    rw [if_pos this]
    by_cases hb : bt x k = true
    · simp [hb, bt_1]
    · simp [hb, b_0]
  · by_cases hb : bt x k = true
    · simp [hb, bt_1 i hi, e]
    · simp [hb, b_0, e]
theorem bt_z {x : Int32} (h : ∀ i, i < 32 → bt x i = false) : x = 0 := b_ext (fun i hi => by rw [h i hi, b_0])
theorem dR_move {f : Nat → Int32} {N : Nat} {P : Nat → Nat} (h : dR f N P) (hN : N ≤ 12) {k p : Nat} (hk : k < N) (hP : P k < 72) (h2 : p / 9 = P k / 9 + 1) (h3 : p ≤ 90) : dR (if p < 72 then upd (upd f (P k / 9) (f (P k / 9) &&& (ba_fishl 1 (nI k) ^^^ (-1)))) (P k / 9 + 1) (f (P k / 9 + 1) ||| ba_fishl 1 (nI k)) else upd f (P k / 9) (f (P k / 9) &&& (ba_fishl 1 (nI k) ^^^ (-1)))) N (pu P k p) := by
  intro r hr i hi
  have hb := h r hr i hi
  have key : ∀ g : Nat → Int32, (g r = f r ∨ True) → True := fun _ _ => trivial
  by_cases hik : i = k
  · subst hik
    rw [pu_s]
    by_cases hp : p < 72
    · rw [if_pos hp]
      by_cases e1 : r = P i / 9 + 1
      · subst e1
        rw [pk_us, bt_set (by omega) hi]
        simp [hk, hp, h2]
      · rw [pk_un e1]
        by_cases e2 : r = P i / 9
        · subst e2
          rw [pk_us, bt_clr (by omega) hi]
          have : ¬ p / 9 = P i / 9 := by omega
          simp [this]
        · rw [pk_un e2, hb]
          have a1 : ¬ P i / 9 = r := fun q => e2 q.symm
          have a2 : ¬ p / 9 = r := by omega
          simp [a1, a2]
    · rw [if_neg hp]
      by_cases e2 : r = P i / 9
      · subst e2
        rw [pk_us, bt_clr (by omega) hi]
        simp [hp]
      · rw [pk_un e2, hb]
        have a1 : ¬ P i / 9 = r := fun q => e2 q.symm
        simp [a1, hp]
  · rw [pu_n P p hik, ← hb]
    by_cases hp : p < 72
    · rw [if_pos hp]
      by_cases e1 : r = P k / 9 + 1
      · subst e1
        rw [pk_us, bt_set (by omega) hi]
        simp [hik]
      · rw [pk_un e1]
        by_cases e2 : r = P k / 9
        · subst e2
          rw [pk_us, bt_clr (by omega) hi]
          simp [hik]
        · rw [pk_un e2]
    · rw [if_neg hp]
      by_cases e2 : r = P k / 9
      · subst e2
        rw [pk_us, bt_clr (by omega) hi]
        simp [hik]
      · rw [pk_un e2]
theorem dR_in {f : Nat → Int32} {N : Nat} {P : Nat → Nat} (h : dR f N P) (hN : N ≤ 12) {k p : Nat} (hk : k < N) (hP : P k = 90) (hp : p < 9) : dR (upd f 0 (f 0 ||| ba_fishl 1 (nI k))) N (pu P k p) := by
  intro r hr i hi
  have hb := h r hr i hi
  by_cases hik : i = k
  · subst hik
    rw [pu_s]
    by_cases e1 : r = 0
    · subst e1
      rw [pk_us, bt_set (by omega) hi]
      have a : p / 9 = 0 := by omega
      have b : p < 72 := by omega
      simp [hk, a, b]
    · rw [pk_un e1, hb]
      have a : ¬ p / 9 = r := by omega
      simp [hP, a]
  · rw [pu_n P p hik, ← hb]
    by_cases e1 : r = 0
    · subst e1
      rw [pk_us, bt_set (by omega) hi]
      simp [hik]
    · rw [pk_un e1]
theorem dR_same {f : Nat → Int32} {N : Nat} {P : Nat → Nat} (h : dR f N P) {k p : Nat} (h1 : P k < 72 ∧ p < 72) (h2 : p / 9 = P k / 9) : dR f N (pu P k p) := by
  intro r hr i hi
  rw [h r hr i hi]
  by_cases hik : i = k
  · subst hik
    rw [pu_s, h2]
    simp [h1.1, h1.2]
  · rw [pu_n P p hik]
theorem dW_same {x : Int32} {N : Nat} {P : Nat → Nat} (h : dW x N P) {k p : Nat} (h1 : P k ≠ 90) (h2 : p ≠ 90) : dW x N (pu P k p) := by
  intro i hi
  rw [h i hi]
  by_cases hik : i = k
  · subst hik
    rw [pu_s]
    simp [h1, h2]
  · rw [pu_n P p hik]
theorem dW_in {x : Int32} {N : Nat} {P : Nat → Nat} (h : dW x N P) {k p : Nat} (hk : k < 32) (h2 : p ≠ 90) : dW (x &&& (ba_fishl 1 (nI k) ^^^ (-1))) N (pu P k p) := by
  intro i hi
  rw [bt_clr hk hi, h i hi]
  by_cases hik : i = k
  · subst hik
    rw [pu_s]
    simp [h2]
  · rw [pu_n P p hik]
    simp [hik]
