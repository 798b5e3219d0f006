/-! ===== the law's beginning (by program: end.py) ===== -/
theorem kw_90 : Cond.instantiable "Bagatelle" 19 ∈ ba_tb := ba_mem (i := 90) (by decide +kernel) (by decide +kernel)
theorem kw_786 : Cond.instantiable "BagatelleModel" 33 ∈ ba_tb := ba_mem (i := 786) (by decide +kernel) (by decide +kernel)
theorem kw_89 : Cond.classLink "BagatelleLaw" 7 "Bagatelle" ∈ ba_tb := ba_mem (i := 89) (by decide +kernel) (by decide +kernel)
theorem kw_785 : Cond.classLink "BagatelleLaw" 10 "BagatelleModel" ∈ ba_tb := ba_mem (i := 785) (by decide +kernel) (by decide +kernel)
theorem kw_91 : Cond.methodLink "BagatelleLaw" 9 yX5_init ∈ ba_tb := ba_mem (i := 91) (by decide +kernel) (by decide +kernel)
theorem kw_787 : Cond.methodLink "BagatelleLaw" 12 yX6_init ∈ ba_tb := ba_mem (i := 787) (by decide +kernel) (by decide +kernel)
theorem kw_92 : Cond.instanceMethod yX5_init ∈ ba_tb := ba_mem (i := 92) (by decide +kernel) (by decide +kernel)
theorem kw_788 : Cond.instanceMethod yX6_init ∈ ba_tb := ba_mem (i := 788) (by decide +kernel) (by decide +kernel)
theorem kw_93 : Cond.code yX5_init cX5_init 2 none ∈ ba_tb := ba_mem (i := 93) (by decide +kernel) (by decide +kernel)
theorem kw_789 : Cond.code yX6_init cX6_init 2 none ∈ ba_tb := ba_mem (i := 789) (by decide +kernel) (by decide +kernel)
theorem ls_0 {s : State} {b : Nat} (hts : ∀ w ∈ lw_tbl, w.before #[Value.ref b] s = true) (hgv : (Jvm.Cond.and given_1 narrow_1).before #[Value.ref b] s = true) : ∃ t, va_Z "Bagatelle" "TEXT_LIMITS" "[I" (.ref t) (fun q => s.heap.size ≤ q) s s.heap ∧ va_T .int t 3 (fun j => .int (([47, 9, 35] : List Int32).getD j 0)) (fun q => s.heap.size ≤ q) s s.heap := by
  have hs := flat_of_before _ hgv
  have hA : ∀ a : Nat, a < s.heap.size → ¬ (fun q : Nat => s.heap.size ≤ q) a := fun a ha => Nat.not_le.mpr ha
  have h1 : (Cond.arrayOf (Term.static "Bagatelle" "TEXT_LIMITS" "[I") .int).before #[Value.ref b] s = true := hs _ (by decide +kernel)
  have h2 : (Cond.eq (.length (Term.static "Bagatelle" "TEXT_LIMITS" "[I")) (.int 3)).before #[Value.ref b] s = true := hs _ (by decide +kernel)
  have e0 : (Cond.eq (.elem (Term.static "Bagatelle" "TEXT_LIMITS" "[I") (.int 0)) (.int 47)).before #[Value.ref b] s = true := hs _ (by decide +kernel)
  have e1 : (Cond.eq (.elem (Term.static "Bagatelle" "TEXT_LIMITS" "[I") (.int 1)) (.int 9)).before #[Value.ref b] s = true := hs _ (by decide +kernel)
  have e2 : (Cond.eq (.elem (Term.static "Bagatelle" "TEXT_LIMITS" "[I") (.int 2)) (.int 35)).before #[Value.ref b] s = true := hs _ (by decide +kernel)
  obtain ⟨t, t1, t2⟩ := va_Tof (N := 3) (f := fun j => .int (([47, 9, 35] : List Int32).getD j 0)) (by decide) h1 (va_eqt h2) (fun j hj => by
    match j, hj with
    | 0, _ => exact va_eqt e0
    | 1, _ => exact va_eqt e1
    | 2, _ => exact va_eqt e2
    | j + 3, hj => exact absurd hj (by omega)) hA
  exact ⟨t, va_Zref (hts _ (List.mem_of_getElem? (i := 255) (by decide +kernel))) (hts _ (List.mem_of_getElem? (i := 78) (by decide +kernel))) t1 hA, t2⟩
theorem ls_1 {s : State} {b : Nat} (hts : ∀ w ∈ lw_tbl, w.before #[Value.ref b] s = true) (hgv : (Jvm.Cond.and given_1 narrow_1).before #[Value.ref b] s = true) : ∃ t, va_Z "Bagatelle" "LEAST_CHOICE" "[I" (.ref t) (fun q => s.heap.size ≤ q) s s.heap ∧ va_T .int t 3 (fun j => .int (([1, 0, 0] : List Int32).getD j 0)) (fun q => s.heap.size ≤ q) s s.heap := by
  have hs := flat_of_before _ hgv
  have hA : ∀ a : Nat, a < s.heap.size → ¬ (fun q : Nat => s.heap.size ≤ q) a := fun a ha => Nat.not_le.mpr ha
  have h1 : (Cond.arrayOf (Term.static "Bagatelle" "LEAST_CHOICE" "[I") .int).before #[Value.ref b] s = true := hs _ (by decide +kernel)
  have h2 : (Cond.eq (.length (Term.static "Bagatelle" "LEAST_CHOICE" "[I")) (.int 3)).before #[Value.ref b] s = true := hs _ (by decide +kernel)
  have e0 : (Cond.eq (.elem (Term.static "Bagatelle" "LEAST_CHOICE" "[I") (.int 0)) (.int 1)).before #[Value.ref b] s = true := hs _ (by decide +kernel)
  have e1 : (Cond.eq (.elem (Term.static "Bagatelle" "LEAST_CHOICE" "[I") (.int 1)) (.int 0)).before #[Value.ref b] s = true := hs _ (by decide +kernel)
  have e2 : (Cond.eq (.elem (Term.static "Bagatelle" "LEAST_CHOICE" "[I") (.int 2)) (.int 0)).before #[Value.ref b] s = true := hs _ (by decide +kernel)
  obtain ⟨t, t1, t2⟩ := va_Tof (N := 3) (f := fun j => .int (([1, 0, 0] : List Int32).getD j 0)) (by decide) h1 (va_eqt h2) (fun j hj => by
    match j, hj with
    | 0, _ => exact va_eqt e0
    | 1, _ => exact va_eqt e1
    | 2, _ => exact va_eqt e2
    | j + 3, hj => exact absurd hj (by omega)) hA
  exact ⟨t, va_Zref (hts _ (List.mem_of_getElem? (i := 584) (by decide +kernel))) (hts _ (List.mem_of_getElem? (i := 78) (by decide +kernel))) t1 hA, t2⟩
theorem ls_2 {s : State} {b : Nat} (hts : ∀ w ∈ lw_tbl, w.before #[Value.ref b] s = true) (hgv : (Jvm.Cond.and given_1 narrow_1).before #[Value.ref b] s = true) : ∃ t, va_Z "Bagatelle" "GREATEST_CHOICE" "[I" (.ref t) (fun q => s.heap.size ≤ q) s s.heap ∧ va_T .int t 3 (fun j => .int (([9, 23, 3] : List Int32).getD j 0)) (fun q => s.heap.size ≤ q) s s.heap := by
  have hs := flat_of_before _ hgv
  have hA : ∀ a : Nat, a < s.heap.size → ¬ (fun q : Nat => s.heap.size ≤ q) a := fun a ha => Nat.not_le.mpr ha
  have h1 : (Cond.arrayOf (Term.static "Bagatelle" "GREATEST_CHOICE" "[I") .int).before #[Value.ref b] s = true := hs _ (by decide +kernel)
  have h2 : (Cond.eq (.length (Term.static "Bagatelle" "GREATEST_CHOICE" "[I")) (.int 3)).before #[Value.ref b] s = true := hs _ (by decide +kernel)
  have e0 : (Cond.eq (.elem (Term.static "Bagatelle" "GREATEST_CHOICE" "[I") (.int 0)) (.int 9)).before #[Value.ref b] s = true := hs _ (by decide +kernel)
  have e1 : (Cond.eq (.elem (Term.static "Bagatelle" "GREATEST_CHOICE" "[I") (.int 1)) (.int 23)).before #[Value.ref b] s = true := hs _ (by decide +kernel)
  have e2 : (Cond.eq (.elem (Term.static "Bagatelle" "GREATEST_CHOICE" "[I") (.int 2)) (.int 3)).before #[Value.ref b] s = true := hs _ (by decide +kernel)
  obtain ⟨t, t1, t2⟩ := va_Tof (N := 3) (f := fun j => .int (([9, 23, 3] : List Int32).getD j 0)) (by decide) h1 (va_eqt h2) (fun j hj => by
    match j, hj with
    | 0, _ => exact va_eqt e0
    | 1, _ => exact va_eqt e1
    | 2, _ => exact va_eqt e2
    | j + 3, hj => exact absurd hj (by omega)) hA
  exact ⟨t, va_Zref (hts _ (List.mem_of_getElem? (i := 586) (by decide +kernel))) (hts _ (List.mem_of_getElem? (i := 78) (by decide +kernel))) t1 hA, t2⟩
theorem ls_3 {s : State} {b : Nat} (hts : ∀ w ∈ lw_tbl, w.before #[Value.ref b] s = true) (hgv : (Jvm.Cond.and given_1 narrow_1).before #[Value.ref b] s = true) : ∃ t, va_Z "Bagatelle" "DIGEST_TICKS" "[I" (.ref t) (fun q => s.heap.size ≤ q) s s.heap ∧ va_T .int t 4 (fun j => .int (([0, 6, 13, 23] : List Int32).getD j 0)) (fun q => s.heap.size ≤ q) s s.heap := by
  have hs := flat_of_before _ hgv
  have hA : ∀ a : Nat, a < s.heap.size → ¬ (fun q : Nat => s.heap.size ≤ q) a := fun a ha => Nat.not_le.mpr ha
  have h1 : (Cond.arrayOf (Term.static "Bagatelle" "DIGEST_TICKS" "[I") .int).before #[Value.ref b] s = true := hs _ (by decide +kernel)
  have h2 : (Cond.eq (.length (Term.static "Bagatelle" "DIGEST_TICKS" "[I")) (.int 4)).before #[Value.ref b] s = true := hs _ (by decide +kernel)
  have e0 : (Cond.eq (.elem (Term.static "Bagatelle" "DIGEST_TICKS" "[I") (.int 0)) (.int 0)).before #[Value.ref b] s = true := hs _ (by decide +kernel)
  have e1 : (Cond.eq (.elem (Term.static "Bagatelle" "DIGEST_TICKS" "[I") (.int 1)) (.int 6)).before #[Value.ref b] s = true := hs _ (by decide +kernel)
  have e2 : (Cond.eq (.elem (Term.static "Bagatelle" "DIGEST_TICKS" "[I") (.int 2)) (.int 13)).before #[Value.ref b] s = true := hs _ (by decide +kernel)
  have e3 : (Cond.eq (.elem (Term.static "Bagatelle" "DIGEST_TICKS" "[I") (.int 3)) (.int 23)).before #[Value.ref b] s = true := hs _ (by decide +kernel)
  obtain ⟨t, t1, t2⟩ := va_Tof (N := 4) (f := fun j => .int (([0, 6, 13, 23] : List Int32).getD j 0)) (by decide) h1 (va_eqt h2) (fun j hj => by
    match j, hj with
    | 0, _ => exact va_eqt e0
    | 1, _ => exact va_eqt e1
    | 2, _ => exact va_eqt e2
    | 3, _ => exact va_eqt e3
    | j + 4, hj => exact absurd hj (by omega)) hA
  exact ⟨t, va_Zref (hts _ (List.mem_of_getElem? (i := 771) (by decide +kernel))) (hts _ (List.mem_of_getElem? (i := 78) (by decide +kernel))) t1 hA, t2⟩

set_option maxHeartbeats 4000000 in
set_option maxRecDepth 100000 in
theorem lb_K {s : State} {b : Nat} (hts : ∀ w ∈ ba_tb, w.before #[Value.ref b] s = true) (hto : ∀ w ∈ lw_tbl, w.before #[Value.ref b] s = true) : ∃ (D : va_G) (cA : Nat → ClassId), va_K D ba_cl (gw_tys cA) s := by
  obtain ⟨c0, iS0, k0⟩ := u_known (C := RX0) (T := TX0) (N := 10) (n := 10) hts kinX0 (hts _ kw_100)
  obtain ⟨c1, iS1, k1⟩ := u_known (C := RX1) (T := TX1) (N := 19) (n := 19) hts kinX1 (hts _ kw_175)
  obtain ⟨c2, iS2, k2⟩ := u_known (C := RX2) (T := TX2) (N := 4) (n := 4) hts kinX2 (hts _ kw_270)
  obtain ⟨c3, iS3, k3⟩ := u_known (C := RX3) (T := TX3) (N := 2) (n := 2) hts kinX3 (hts _ kw_106)
  obtain ⟨c4, iS4, k4⟩ := u_known (C := RX4) (T := TX4) (N := 2) (n := 2) hts kinX4 (hts _ kw_253)
  obtain ⟨c5, iS5, k5⟩ := u_known (C := RX5) (T := TX5) (N := 19) (n := 19) hts kinX5 (hts _ kw_90)
  obtain ⟨c6, iS6, k6⟩ := u_known (C := RX6) (T := TX6) (N := 33) (n := 33) hts kinX6 (hts _ kw_786)
  obtain ⟨aI, kI, coI, fI1, fI2, fI3⟩ := Cond.arrayClass_spec (hts _ kw_121)
  obtain ⟨aL, kL, coL, fL1, fL2, fL3⟩ := Cond.arrayClass_spec (hts _ kw_269)
  obtain ⟨coT, aT, kT', fT1, -, fT3, fT4, fT5⟩ := Cond.arrayOver_spec (n := "Bagatelle$Text") (hto _ (List.mem_of_getElem? (i := 98) (by decide +kernel)))
  obtain ⟨coS, aS, kS, fS1, -, fS3, fS4, fS5⟩ := Cond.arrayOver_spec (n := "Bagatelle$Sheet") (hto _ (List.mem_of_getElem? (i := 252) (by decide +kernel)))
  refine ⟨(fun k => [c0, c1, c2, c3, c4, c5, c6].getD k c0, fun k => [iS0, iS1, iS2, iS3, iS4, iS5, iS6].getD k iS0), fun k => [aI, aL, aT, aS].getD k aI, fun k q hq => ?_, fun k q hq => ?_⟩
  · match k, hq with
    | 0, hq => cases hq; exact k0
    | 1, hq => cases hq; exact k1
    | 2, hq => cases hq; exact k2
    | 3, hq => cases hq; exact k3
    | 4, hq => cases hq; exact k4
    | 5, hq => cases hq; exact k5
    | 6, hq => cases hq; exact k6
    | k + 7, hq => simp [ba_cl] at hq
  · match k, hq with
    | 0, hq => cases hq; exact ⟨fun n z => ⟨fun k h => (by cases h), kI, fI2, coI, fI3⟩, fI1⟩
    | 1, hq => cases hq; exact ⟨fun n z => ⟨fun k h => (by cases h), kL, fL2, coL, fL3⟩, fL1⟩
    | 2, hq => cases hq; exact ⟨fun n z => ⟨fun k h => (by cases h), kT', fT3, coT, fT4⟩, kT', coT, fT3, fT4, fT1, fT5⟩
    | 3, hq => cases hq; exact ⟨fun n z => ⟨fun k h => (by cases h), kS, fS3, coS, fS4⟩, kS, coS, fS3, fS4, fS1, fS5⟩
    | k + 4, hq => simp [gw_tys] at hq
theorem lb_Pr {D : va_G} {cl : List vw_C} {a b : va_W} {H : Heap} (h : va_P D cl (a ++ b) H) : va_P D cl b H := h.by (fun k => a.length + k) (fun k q hk => by rw [List.getElem?_append_right (Nat.le_add_right _ _), Nat.add_sub_cancel_left]; exact hk)
theorem lb_Dr {A : Nat → Prop} {a b : va_W} (h : va_D A (a ++ b)) : va_D A b := h.by (fun k => a.length + k) (fun k q hk => by rw [List.getElem?_append_right (Nat.le_add_right _ _), Nat.add_sub_cancel_left]; exact hk) (fun i j _ _ e => by omega)
