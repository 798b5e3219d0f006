/-! ===== Int32 by its bits: bt x i ===== -/
def bt (x : Int32) (i : Nat) : Bool := x.toBitVec.getLsbD i
theorem b_ext {x y : Int32} (h : ∀ i, i < 32 → bt x i = bt y i) : x = y := Int32.toBitVec_inj.mp (BitVec.eq_of_getLsbD_eq (fun i hi => h i hi))
theorem b_or (x y : Int32) (i : Nat) : bt (x ||| y) i = (bt x i || bt y i) := by unfold bt; rw [Int32.toBitVec_or, BitVec.getLsbD_or]
theorem b_and (x y : Int32) (i : Nat) : bt (x &&& y) i = (bt x i && bt y i) := by unfold bt; rw [Int32.toBitVec_and, BitVec.getLsbD_and]
theorem b_xor (x y : Int32) (i : Nat) : bt (x ^^^ y) i = (bt x i ^^ bt y i) := by unfold bt; rw [Int32.toBitVec_xor, BitVec.getLsbD_xor]
theorem b_big {x : Int32} {i : Nat} (h : 32 ≤ i) : bt x i = false := BitVec.getLsbD_of_ge _ _ h
theorem b_255 (i : Nat) : bt 255 i = decide (i < 8) := by
  rcases Nat.lt_or_ge i 32 with h | h
  · exact (by decide +kernel : ∀ i, i < 32 → bt 255 i = decide (i < 8)) i h
  · rw [b_big h, decide_eq_false (by omega)]
theorem b_65535 (i : Nat) : bt 65535 i = decide (i < 16) := by
  rcases Nat.lt_or_ge i 32 with h | h
  · exact (by decide +kernel : ∀ i, i < 32 → bt 65535 i = decide (i < 16)) i h
  · rw [b_big h, decide_eq_false (by omega)]
theorem b_m1 : ∀ i, i < 32 → bt (-1) i = true := by decide +kernel
theorem b_0 (i : Nat) : bt 0 i = false := BitVec.getLsbD_zero
theorem s_l : ∀ n, n < 32 → ((nI n &&& 31).toBitVec.smod 32).toNat = n := by decide +kernel
theorem s_u : ∀ n, n < 32 → (((nI n).toUInt32 &&& Int32.toUInt32 31).toBitVec % 32).toNat = n := by decide +kernel
theorem b_shl (n : Nat) (hn : n < 32) (x : Int32) {i : Nat} (hi : i < 32) : bt (x <<< (nI n &&& 31)) i = (decide (n ≤ i) && bt x (i - n)) := by
  unfold bt
  rw [Int32.toBitVec_shiftLeft]
  show (x.toBitVec <<< ((nI n &&& 31).toBitVec.smod 32).toNat).getLsbD i = _
  rw [s_l n hn, BitVec.getLsbD_shiftLeft]
  rcases Nat.lt_or_ge i n with h | h
  · simp [h, Nat.not_le.mpr h]
  · simp [hi, h, Nat.not_lt.mpr h]
theorem b_ushr (n : Nat) (hn : n < 32) (x : Int32) (i : Nat) : bt ((x.toUInt32 >>> ((nI n).toUInt32 &&& Int32.toUInt32 31)).toInt32) i = bt x (n + i) := by
  show (x.toUInt32 >>> ((nI n).toUInt32 &&& Int32.toUInt32 31)).toBitVec.getLsbD i = x.toUInt32.toBitVec.getLsbD (n + i)
  rw [UInt32.toBitVec_shiftRight]
  show (x.toUInt32.toBitVec >>> (((nI n).toUInt32 &&& Int32.toUInt32 31).toBitVec % 32).toNat).getLsbD i = _
  rw [s_u n hn, BitVec.getLsbD_ushiftRight]
theorem b_sshr (n : Nat) (hn : n < 32) (x : Int32) {i : Nat} (hi : i < 32) : bt (x >>> (nI n &&& 31)) i = if n + i < 32 then bt x (n + i) else bt x 31 := by
  unfold bt
  rw [Int32.toBitVec_shiftRight]
  show (x.toBitVec.sshiftRight ((nI n &&& 31).toBitVec.smod 32).toNat).getLsbD i = _
  rw [s_l n hn, BitVec.getLsbD_sshiftRight, BitVec.msb_eq_getLsbD_last]
  simp [hi]
theorem b_shl8 (x : Int32) {i : Nat} (hi : i < 32) : bt (x <<< ((8 : Int32) &&& 31)) i = (decide (8 ≤ i) && bt x (i - 8)) := b_shl 8 (by omega) x hi
theorem b_shl16 (x : Int32) {i : Nat} (hi : i < 32) : bt (x <<< ((16 : Int32) &&& 31)) i = (decide (16 ≤ i) && bt x (i - 16)) := b_shl 16 (by omega) x hi
theorem b_shl24 (x : Int32) {i : Nat} (hi : i < 32) : bt (x <<< ((24 : Int32) &&& 31)) i = (decide (24 ≤ i) && bt x (i - 24)) := b_shl 24 (by omega) x hi
theorem b_sshr8 (x : Int32) {i : Nat} (hi : i < 32) : bt (x >>> ((8 : Int32) &&& 31)) i = if 8 + i < 32 then bt x (8 + i) else bt x 31 := b_sshr 8 (by omega) x hi
/-! ===== pure steps: how the functions of the methods are computed ===== -/
def pn : Int32 := -1
theorem pz_m1 : (-1 : Int32) = pn := rfl
theorem pz_lit (n : Nat) : (OfNat.ofNat n : Int32) = nI n := rfl
theorem pz_lt {α β : Type} (v : α) (f : α → β) : ba_lt v f = f v := rfl
theorem pz_grd {α : Type} {b : Bool} {x : Option α} (h : b = true) : ba_grd b x = x := by subst h; rfl
theorem pz_grt {α : Type} {x : Option α} : ba_grd true x = x := rfl
theorem pz_bnd {α β : Type} (a : α) (f : α → Option β) : ba_bnd (some a) f = f a := rfl
theorem pz_bn2 {α β γ : Type} (a : α) (b : β) (f : α → β → Option γ) : ba_bn2 (some (a, b)) f = f a b := rfl
theorem pz_ix {k : Nat} (h : k < 2 ^ 31) : ba_ix (nI k) = k := nI_clamp h
theorem pz_inb {k n : Nat} (h : k < n) (hn : n < 2 ^ 31) : ba_inb (nI k) n = true := by
  unfold ba_inb
  have h1 : 0 ≤ nI k := nI_pos' (by omega)
  rw [nI_clamp (by omega)]
  simp [h1, h]
theorem pz_nopn {k : Nat} (h : k < 2 ^ 31) : nI k ≠ pn := by
  intro e
  have h1 := congrArg Int32.toInt e
  rw [nI_toInt h] at h1
  have h2 : pn.toInt = -1 := by decide
  omega
theorem pz_pn {k : Nat} (h : k < 2 ^ 31) : (nI k = pn) = False := eq_false (pz_nopn h)
theorem pz_pn' {k : Nat} (h : k < 2 ^ 31) : (pn = nI k) = False := eq_false (fun e => pz_nopn h e.symm)
theorem pz_le {a b : Nat} (ha : a < 2 ^ 31) (hb : b < 2 ^ 31) : (nI a ≤ nI b) = (a ≤ b) := propext (nI_leI ha hb)
theorem pz_ltN {a b : Nat} (ha : a < 2 ^ 31) (hb : b < 2 ^ 31) : (nI a < nI b) = (a < b) := propext (nI_ltI ha hb)
theorem pz_eq {a b : Nat} (ha : a < 2 ^ 31) (hb : b < 2 ^ 31) : (nI a = nI b) = (a = b) := propext (nI_eq ha hb)
theorem pz_pnlt {k : Nat} (h : k < 2 ^ 31) : (pn < nI k) = True := by
  apply eq_true
  rw [Int32.lt_iff_toInt_lt, nI_toInt h]
  have h2 : pn.toInt = -1 := by decide
  omega
theorem pz_pnle {k : Nat} (h : k < 2 ^ 31) : (pn ≤ nI k) = True := by
  apply eq_true
  rw [Int32.le_iff_toInt_le, nI_toInt h]
  have h2 : pn.toInt = -1 := by decide
  omega
theorem pz_ltpn {k : Nat} (h : k < 2 ^ 31) : (nI k < pn) = False := by
  apply eq_false
  rw [Int32.lt_iff_toInt_lt, nI_toInt h]
  have h2 : pn.toInt = -1 := by decide
  omega
theorem pz_lepn {k : Nat} (h : k < 2 ^ 31) : (nI k ≤ pn) = False := by
  apply eq_false
  rw [Int32.le_iff_toInt_le, nI_toInt h]
  have h2 : pn.toInt = -1 := by decide
  omega
theorem pz_addpn {k : Nat} (h : 0 < k) : nI k + pn = nI (k - 1) := by
  obtain ⟨j, rfl⟩ : ∃ j, k = j + 1 := ⟨k - 1, by omega⟩
  exact pk_m1 j
theorem pz_0pn : nI 0 + pn = pn := by decide
theorem pz_div {a d : Nat} (ha : a < 2 ^ 31) (h0 : 0 < d) (hd : d < 2 ^ 31) : nI a / nI d = nI (a / d) := pk_div ha h0 hd
theorem pz_rem {a d : Nat} (ha : a < 2 ^ 31) (h0 : 0 < d) (hd : d < 2 ^ 31) : ba_irm (nI a) (nI d) = nI (a % d) := pk_rem ha h0 hd
/-! stores -/
theorem pw_s (s : ba_St) (k j : Nat) (v : Int32) : (ba_w s k j v).1 k j = v := by simp [ba_w]
theorem pw_i (s : ba_St) (k : Nat) {j q : Nat} (v : Int32) (h : q ≠ j) : (ba_w s k j v).1 k q = s.1 k q := by simp [ba_w, h]
theorem pw_p (s : ba_St) {k p : Nat} (j q : Nat) (v : Int32) (h : p ≠ k) : (ba_w s k j v).1 p q = s.1 p q := by simp [ba_w, h]
theorem pw_2 (s : ba_St) (k j : Nat) (v : Int32) : (ba_w s k j v).2 = s.2 := rfl
theorem pw (s : ba_St) (k j p q : Nat) (v : Int32) : (ba_w s k j v).1 p q = if p = k ∧ q = j then v else s.1 p q := rfl
theorem pz_fix {A O : Type} (F : (A → Option O) → A → Option O) (n : Nat) (a : A) : ba_fix F (n + 1) a = F (ba_fix F n) a := rfl
/-! counted loops -/
theorem pf_one {A O : Type} {F : (A → Option O) → A → Option O} (I : Nat → A → Prop) (Po : O → Prop) (n : Nat) (hs : ∀ i a, i < n → I i a → ∃ b, I (i + 1) b ∧ ∀ k, F k a = k b) (he : ∀ a, I n a → ∃ o, Po o ∧ ∀ k, F k a = some o) : ∀ (f i : Nat) (a : A), i ≤ n → n - i < f → I i a → ∃ o, Po o ∧ ba_fix F f a = some o := by
  intro f
  induction f with
  | zero => intro i a h1 h2; omega
  | succ f ih =>
    intro i a h1 h2 h3
    by_cases hi : i = n
    · subst hi
      obtain ⟨o, p1, p2⟩ := he a h3
      exact ⟨o, p1, p2 _⟩
    · obtain ⟨b, p1, p2⟩ := hs i a (by omega) h3
      obtain ⟨o, q1, q2⟩ := ih (i + 1) b (by omega) (by omega) p1
      exact ⟨o, q1, by show F (ba_fix F f) a = some o; rw [p2]; exact q2⟩
/-- a loop that may end early -/
theorem pf_brk {A O : Type} {F : (A → Option O) → A → Option O} (I : Nat → A → Prop) (Po : O → Prop) (n : Nat) (hs : ∀ i a, i < n → I i a → (∃ b, I (i + 1) b ∧ ∀ k, F k a = k b) ∨ ∃ o, Po o ∧ ∀ k, F k a = some o) (he : ∀ a, I n a → ∃ o, Po o ∧ ∀ k, F k a = some o) : ∀ (f i : Nat) (a : A), i ≤ n → n - i < f → I i a → ∃ o, Po o ∧ ba_fix F f a = some o := by
  intro f
  induction f with
  | zero => intro i a h1 h2; omega
  | succ f ih =>
    intro i a h1 h2 h3
    by_cases hi : i = n
    · subst hi
      obtain ⟨o, p1, p2⟩ := he a h3
      exact ⟨o, p1, p2 _⟩
    · rcases hs i a (by omega) h3 with ⟨b, p1, p2⟩ | ⟨o, p1, p2⟩
      · obtain ⟨o, q1, q2⟩ := ih (i + 1) b (by omega) (by omega) p1
        exact ⟨o, q1, by show F (ba_fix F f) a = some o; rw [p2]; exact q2⟩
      · exact ⟨o, p1, p2 _⟩
/-- two loops side by side -/
theorem pf_two {A O B U : Type} {F : (A → Option O) → A → Option O} {E : (B → Option U) → B → Option U} (I : Nat → A → B → Prop) (Po : O → U → Prop) (n : Nat) (hs : ∀ i a b, i < n → I i a b → ∃ a' b', I (i + 1) a' b' ∧ (∀ k, F k a = k a') ∧ (∀ k, E k b = k b')) (he : ∀ a b, I n a b → ∃ o u, Po o u ∧ (∀ k, F k a = some o) ∧ (∀ k, E k b = some u)) : ∀ (f g i : Nat) (a : A) (b : B), i ≤ n → n - i < f → n - i < g → I i a b → ∃ o u, Po o u ∧ ba_fix F f a = some o ∧ ba_fix E g b = some u := by
  intro f
  induction f with
  | zero => intro g i a b h1 h2; omega
  | succ f ih =>
    intro g i a b h1 h2 hg h3
    obtain ⟨g, rfl⟩ : ∃ g', g = g' + 1 := ⟨g - 1, by omega⟩
    by_cases hi : i = n
    · subst hi
      obtain ⟨o, u, p1, p2, p3⟩ := he a b h3
      exact ⟨o, u, p1, p2 _, p3 _⟩
    · obtain ⟨a', b', p1, p2, p3⟩ := hs i a b (by omega) h3
      obtain ⟨o, u, q1, q2, q3⟩ := ih g (i + 1) a' b' (by omega) (by omega) (by omega) p1
      exact ⟨o, u, q1, by show F (ba_fix F f) a = some o; rw [p2]; exact q2, by show E (ba_fix E g) b = some u; rw [p3]; exact q3⟩
/-! the last of those that have a property -/
def pl_last (c : Nat → Bool) : Nat → Int32
  | 0 => pn
  | n + 1 => if c n = true then nI n else pl_last c n
theorem pl_last_eq {c : Nat → Bool} {v : Int32} : ∀ {n : Nat}, (∀ k, k < n → c k = true → v = nI k) → ((∀ k, k < n → c k = false) → v = pn) → pl_last c n = v
  | 0, _, h2 => (h2 (fun k hk => absurd hk (Nat.not_lt_zero k))).symm
  | n + 1, h1, h2 => by
    unfold pl_last
    by_cases hc : c n = true
    · rw [if_pos hc]
      exact (h1 n (Nat.lt_succ_self n) hc).symm
    · rw [if_neg hc]
      refine pl_last_eq (fun k hk => h1 k (by omega)) (fun h => h2 (fun k hk => ?_))
      by_cases e : k = n
      · subst e; simpa using hc
      · exact h k (by omega)
/-! small words of the reference -/
theorem pm_in (v a b : Int64) : xm_in v a b = some (if a ≤ v ∧ v ≤ b then 1 else 0) := by
  unfold xm_in
  by_cases h1 : v < a
  · have h2 : ¬ a ≤ v := Int64.not_le.mpr h1
    simp [h1, h2, xm_in_j17]
  · have h2 : a ≤ v := Int64.not_lt.mp h1
    by_cases h3 : b < v
    · have h4 : ¬ v ≤ b := Int64.not_le.mpr h3
      simp [h1, h2, h3, h4, xm_in_j17]
    · have h4 : v ≤ b := Int64.not_lt.mp h3
      simp [h1, h2, h3, h4]
theorem pm_i64 (x : Int32) (n : Int64) (m : Int32) (h : n = m.toInt64) : (n ≤ x.toInt64 ↔ m ≤ x) ∧ (x.toInt64 ≤ n ↔ x ≤ m) := by
  subst h
  simp only [Int64.le_iff_toInt_le, Int32.le_iff_toInt_le, Int32.toInt_toInt64, and_self]
