/-! ===== chance: the weights and their sum ===== -/
def wI (c z : Int32) : Nat → Int64
  | 0 => 1
  | n + 1 => wI c z n * (if bt z n = true then c.toInt64 else (16 - c).toInt64)
def vI (q : Int64) (c g : Int32) : Nat → Int64
  | 0 => q
  | n + 1 => vI q c g n * (if bt g n = true then (16 - c).toInt64 else c.toInt64)
theorem vI_0 (c g : Int32) : ∀ n, vI 0 c g n = 0 := by
  intro n
  induction n with
  | zero => rfl
  | succ n ih => show vI 0 c g n * _ = 0; rw [ih, Int64.zero_mul]
theorem vI_1 (c g z : Int32) : ∀ n, (∀ e, e < n → bt z e = !bt g e) → vI 1 c g n = wI c z n := by
  intro n
  induction n with
  | zero => intro _; rfl
  | succ n ih =>
    intro h
    show vI 1 c g n * _ = wI c z n * _
    rw [ih (fun e he => h e (by omega)), h n (by omega)]
    refine congrArg (fun x => wI c z n * x) ?_
    cases bt g n
    · rw [if_neg (by decide), if_pos (by decide)]
    · rw [if_pos rfl, if_neg (by decide)]
def sI (f : Nat → Int64) : Nat → Int64
  | 0 => 0
  | n + 1 => sI f n + f n
theorem sI_front (f : Nat → Int64) : ∀ n, sI f (n + 1) = f 0 + sI (fun k => f (k + 1)) n := by
  intro n
  induction n with
  | zero => show 0 + f 0 = f 0 + 0; rw [Int64.zero_add, Int64.add_zero]
  | succ n ih =>
    show sI f (n + 1) + f (n + 1) = f 0 + (sI (fun k => f (k + 1)) n + f (n + 1))
    rw [ih, Int64.add_assoc]
theorem sI_ext {f g : Nat → Int64} : ∀ n, (∀ k, k < n → f k = g k) → sI f n = sI g n := by
  intro n
  induction n with
  | zero => intro _; rfl
  | succ n ih => intro h; show sI f n + f n = sI g n + g n; rw [ih (fun k hk => h k (by omega)), h n (by omega)]
theorem sI_rev (f : Nat → Int64) : ∀ n, sI (fun g => f (n - 1 - g)) n = sI f n := by
  intro n
  induction n with
  | zero => rfl
  | succ n ih =>
    rw [sI_front]
    show f (n + 1 - 1 - 0) + _ = sI f n + f n
    rw [sI_ext (g := fun g => f (n - 1 - g)) n (fun k hk => by show f (n + 1 - 1 - (k + 1)) = f (n - 1 - k); congr 1; omega), ih, Int64.add_comm]
    rfl
theorem pb_weight {s : ba_St} {ne : Nat} (hn : ne ≤ 8) (h : s.1 10 1 = nI ne) (z c : Int32) : xb_weight s z c = some (wI c z ne) := by
  obtain ⟨o, po, d⟩ := pf_one (F := xb_weight_l5 s z c) (fun i a => a = (wI c z i, nI i)) (fun o => o = wI c z ne) ne
    (fun i a hi ha => by
      refine ⟨(wI c z (i + 1), nI (i + 1)), rfl, fun k => ?_⟩
      rw [ha]
      have l : ¬ nI ne ≤ nI i := by rw [pz_le (by omega) (by omega)]; omega
      have b := bt_tst (x := z) (k := i) (by omega)
      unfold xb_weight_l5 xb_weight_j40_5
      show _ = k (wI c z i * (if bt z i = true then c.toInt64 else (16 - c).toInt64), nI (i + 1))
      cases hb : bt z i
      · rw [hb, if_neg (by decide)] at b
        simp only [h, l, if_false, b, if_true, pz_lt, pz_succ, Bool.false_eq_true]
      · rw [hb, if_pos rfl] at b
        have n1 : ¬ (1 : Int32) = 0 := by decide
        simp only [h, l, if_false, b, n1, if_true, pz_lt, pz_succ])
    (fun a ha => by
      refine ⟨_, rfl, fun k => ?_⟩
      rw [ha]
      unfold xb_weight_l5
      simp only [h, Int32.le_refl, if_true]) 1000 0 (1, 0) (by omega) (by omega) rfl
  unfold xb_weight
  rw [d, po]; rfl
theorem pm_weight {m : ba_St} {ne : Nat} (hn : ne ≤ 8) (h : m.1 0 13 = nI ne) (c g : Int32) (q : Int64) (z2 z3 : Int32) (z4 : Int64) : ba_fix (xm_chanceOf_l46 m c z2 z3 z4 g) 1000 (q, 0) = some (vI q c g ne) := by
  obtain ⟨o, po, d⟩ := pf_one (F := xm_chanceOf_l46 m c z2 z3 z4 g) (fun i a => a = (vI q c g i, nI i)) (fun o => o = vI q c g ne) ne
    (fun i a hi ha => by
      refine ⟨(vI q c g (i + 1), nI (i + 1)), rfl, fun k => ?_⟩
      rw [ha]
      have l : ¬ nI ne ≤ nI i := by rw [pz_le (by omega) (by omega)]; omega
      have b := pm_isIn (x := g) (k := i) (by omega)
      unfold xm_chanceOf_l46 xm_chanceOf_j77_46
      show _ = k (vI q c g i * (if bt g i = true then (16 - c).toInt64 else c.toInt64), nI (i + 1))
      cases hb : bt g i
      · rw [hb, if_neg (by decide)] at b
        simp only [h, l, if_false, b, pz_bnd, z00, if_true, pz_lt, pz_succ, Bool.false_eq_true]
      · rw [hb, if_pos rfl] at b
        simp only [h, l, if_false, b, pz_bnd, z1n0, if_true, pz_lt, pz_succ])
    (fun a ha => by
      refine ⟨_, rfl, fun k => ?_⟩
      rw [ha]
      unfold xm_chanceOf_l46
      simp only [h, Int32.le_refl, if_true]) 1000 0 (q, 0) (by omega) (by omega) rfl
  rw [d, po]
