/-! ===== longs as natural numbers; the reference's greatest divisor ===== -/
def qN (x : Int64) (n : Nat) : Prop := x.toInt = (n : Int)
theorem qN_inj {x y : Int64} {n : Nat} (h : qN x n) (g : qN y n) : x = y := Int64.toInt_inj.mp (h.trans g.symm)
theorem qN_0 {x : Int64} {n : Nat} (h : qN x n) : x = 0 ↔ n = 0 := by
  constructor
  · intro e; subst e; have h' : (0 : Int) = n := h; omega
  · intro e; subst e; exact qN_inj h rfl
theorem qN_div {x y : Int64} {a b : Nat} (h : qN x a) (g : qN y b) : qN (x / y) (a / b) := by
  unfold qN at h g ⊢
  rw [Jvm.Kit.i64_div (by rw [g]; omega), h, g, Int.tdiv_eq_ediv_of_nonneg (by omega)]
  exact (Int.natCast_ediv a b).symm
theorem qN_rem {x y : Int64} {a b : Nat} (h : qN x a) (g : qN y b) : qN (ba_lrm x y) (a % b) := by
  unfold qN at h g ⊢
  unfold ba_lrm
  rw [Jvm.Kit.i64_rem_nonneg (by omega), h, g]
  exact (Int.natCast_emod a b).symm
theorem pm_gcd (z0 z2 : Int64) (z4 : Int32) : ∀ (k f a b : Nat) (x y : Int64), qN x a → qN y b → b < 2 ^ k → 2 * k + 1 ≤ f → ∃ g, ba_fix (xm_part_l6 z0 z2 z4) f (x, y) = some g ∧ qN g (Nat.gcd a b) := by
  have stop : ∀ (f a : Nat) (x y : Int64), qN x a → qN y 0 → ∃ g, ba_fix (xm_part_l6 z0 z2 z4) (f + 1) (x, y) = some g ∧ qN g (Nat.gcd a 0) := by
    intro f a x y h g
    refine ⟨x, ?_, by rw [Nat.gcd_zero_right]; exact h⟩
    rw [pz_fix]; unfold xm_part_l6
    simp only [(qN_0 g).mpr rfl, if_true]
  have one : ∀ (f : Nat) (x y : Int64), ¬ y = 0 → ba_fix (xm_part_l6 z0 z2 z4) (f + 1) (x, y) = ba_fix (xm_part_l6 z0 z2 z4) f (y, ba_lrm x y) := by
    intro f x y h
    rw [pz_fix]
    generalize ba_fix (xm_part_l6 z0 z2 z4) f = K
    unfold xm_part_l6
    simp only [h, if_false, not_false_eq_true, decide_true, pz_grt, pz_lt]
  intro k
  induction k with
  | zero =>
    intro f a b x y h g hb hf
    obtain ⟨f, rfl⟩ : ∃ f', f = f' + 1 := ⟨f - 1, by omega⟩
    have : b = 0 := by have : b < 1 := hb; omega
    subst this
    exact stop f a x y h g
  | succ k ih =>
    intro f a b x y h g hb hf
    obtain ⟨f, rfl⟩ : ∃ f', f = f' + 2 := ⟨f - 2, by omega⟩
    by_cases h0 : b = 0
    · subst h0; exact stop (f + 1) a x y h g
    · have hy : ¬ y = 0 := fun e => h0 ((qN_0 g).mp e)
      rw [one (f + 1) x y hy, Nat.gcd_comm, Nat.gcd_rec, Nat.gcd_comm]
      have h1 := qN_rem h g
      by_cases h2 : a % b = 0
      · rw [h2] at h1 ⊢; exact stop f b y _ g h1
      · have hz : ¬ ba_lrm x y = 0 := fun e => h2 ((qN_0 h1).mp e)
        rw [one f _ _ hz, Nat.gcd_comm, Nat.gcd_rec, Nat.gcd_comm]
        have h3 := qN_rem g h1
        refine ih f (a % b) (b % (a % b)) _ _ h1 h3 ?_ (by omega)
        have hlt : a % b < b := Nat.mod_lt _ (by omega)
        have hl2 : b % (a % b) < a % b := Nat.mod_lt _ (by omega)
        have hp : 2 ^ (k + 1) = 2 ^ k + 2 ^ k := by rw [Nat.pow_succ]; omega
        have hd := Nat.div_add_mod b (a % b)
        have hq : 1 ≤ b / (a % b) := Nat.div_pos (by omega) (by omega)
        have hm : a % b ≤ (a % b) * (b / (a % b)) := Nat.le_mul_of_pos_right _ hq
        omega
