def xb_markForces_l51 (z1 : Int32) (z2 : Int32) (z3 : Int32) (k : (ba_St × Int32) → Option (ba_St)) (a : (ba_St × Int32)) : Option (ba_St) :=
  match a with
  | (s, z4) =>
    if 24 ≤ z4 then
      some s
    else
      ba_bnd (xc_mark s 46 z4 0) fun v373 =>
      ba_grd (ba_inb (2 * ((z2 * 24) + z4)) 432) <|
      ba_lt (ba_wl s 16 (ba_ix (2 * ((z2 * 24) + z4))) v373) fun s374 =>
      ba_bnd (xc_mark s374 46 z4 6) fun v375 =>
      ba_grd (ba_inb ((2 * ((z2 * 24) + z4)) + 1) 432) <|
      ba_lt (ba_wl s374 16 (ba_ix ((2 * ((z2 * 24) + z4)) + 1)) v375) fun s376 =>
      ba_lt (z4 + 1) fun x377 =>
      k (s376, x377)
set_option maxHeartbeats 4000000 in
set_option maxRecDepth 100000 in
theorem yb_markForces_l51 {w : ba_W} {X : ba_X} (V : ba_V ba_tC w 5 X cX5_markForces RX5 rm_b_markForces) {z1 : Int32} {z2 : Int32} {z3 : Int32} {o : ba_St} (EX : ∀ (s : ba_St) , s = o → ba_G ba_tC w 5 X s 115 [(0, .ref (w.1 0)), (1, .int z1), (2, .int z2), (3, .int z3)] []) : ∀ (n : Nat) (s : ba_St) (z4 : Int32), ba_fix (xb_markForces_l51 z1 z2 z3) n (s, z4) = some o → ba_G ba_tC w 5 X s 51 [(0, .ref (w.1 0)), (1, .int z1), (2, .int z2), (3, .int z3), (4, .int z4)] [] := by
  intro n s z4 h
  refine ba_loop (P := fun a => ba_G ba_tC w 5 X a.1 51 [(0, .ref (w.1 0)), (1, .int z1), (2, .int z2), (3, .int z3), (4, .int a.2)] []) ?_ n (s, z4) h
  intro k hk0 a h
  obtain ⟨s, z4⟩ := a
  have hk : ∀ (s : ba_St) (z4 : Int32), k (s, z4) = some o → ba_G ba_tC w 5 X s 51 [(0, .ref (w.1 0)), (1, .int z1), (2, .int z2), (3, .int z3), (4, .int z4)] [] := fun s z4 e => hk0 (s, z4) e
  unfold xb_markForces_l51 at h
  try dsimp only at h ⊢
  refine ba_iload V dX5_markForces_51 4 rfl ?_
  refine ba_bipush V dX5_markForces_53 ba_c24b ?_
  refine ba_icmp_ge V dX5_markForces_55 rfl h (fun h => ?_) (fun h => ?_)
  · exact ba_sub [0, 1, 2, 3] rfl (EX _ (Option.some.inj h))
  · refine ba_aload_n V dX5_markForces_58 0 rfl ?_
    refine ba_getR V dX5_markForces_59 kfX5_86 ba_sBag rfl ?_
    refine ba_iconst V dX5_markForces_62 ba_c2 ?_
    refine ba_iload_n V dX5_markForces_63 2 rfl ?_
    refine ba_bipush V dX5_markForces_64 ba_c24b ?_
    refine ba_imul V dX5_markForces_66 ?_
    refine ba_iload V dX5_markForces_67 4 rfl ?_
    refine ba_iadd V dX5_markForces_69 ?_
    refine ba_imul V dX5_markForces_70 ?_
    refine ba_aload_n V dX5_markForces_71 0 rfl ?_
    refine ba_getR V dX5_markForces_72 kfX5_35 ba_sBag rfl ?_
    refine ba_iload V dX5_markForces_75 4 rfl ?_
    refine ba_iconst V dX5_markForces_77 ba_c0 ?_
    obtain ⟨v373, hc, h⟩ := ba_bnd_some h
    refine ba_callVL (As := [.int z4, .int 0]) (st := [.int (2 * ((z2 * 24) + z4)), .ref (w.1 16)]) V dX5_markForces_78 kcX5_397 (ba_sCourse ba_isCourse_46) (fun l => yc_mark V.inj l ba_isCourse_46 hc) ⟨rfl, rfl⟩ ⟨rfl, rfl, Nat.le_of_ble_eq_true rfl, Nat.le_of_ble_eq_true rfl⟩ (Nat.le_of_ble_eq_true rfl) ?_
    refine ba_last V dX5_markForces_81 ba_sC_16 h (fun s374 h => ?_)
    refine ba_aload_n V dX5_markForces_82 0 rfl ?_
    refine ba_getR V dX5_markForces_83 kfX5_86 ba_sBag rfl ?_
    refine ba_iconst V dX5_markForces_86 ba_c2 ?_
    refine ba_iload_n V dX5_markForces_87 2 rfl ?_
    refine ba_bipush V dX5_markForces_88 ba_c24b ?_
    refine ba_imul V dX5_markForces_90 ?_
    refine ba_iload V dX5_markForces_91 4 rfl ?_
    refine ba_iadd V dX5_markForces_93 ?_
    refine ba_imul V dX5_markForces_94 ?_
    refine ba_iconst V dX5_markForces_95 ba_c1 ?_
    refine ba_iadd V dX5_markForces_96 ?_
    refine ba_aload_n V dX5_markForces_97 0 rfl ?_
    refine ba_getR V dX5_markForces_98 kfX5_35 ba_sBag rfl ?_
    refine ba_iload V dX5_markForces_101 4 rfl ?_
    refine ba_bipush V dX5_markForces_103 ba_c6b ?_
    obtain ⟨v375, hc, h⟩ := ba_bnd_some h
    refine ba_callVL (As := [.int z4, .int 6]) (st := [.int ((2 * ((z2 * 24) + z4)) + 1), .ref (w.1 16)]) V dX5_markForces_105 kcX5_397 (ba_sCourse ba_isCourse_46) (fun l => yc_mark V.inj l ba_isCourse_46 hc) ⟨rfl, rfl⟩ ⟨rfl, rfl, Nat.le_of_ble_eq_true rfl, Nat.le_of_ble_eq_true rfl⟩ (Nat.le_of_ble_eq_true rfl) ?_
    refine ba_last V dX5_markForces_108 ba_sC_16 h (fun s376 h => ?_)
    refine ba_iinc V dX5_markForces_109 4 rfl ba_c1 (by decide) h (fun x377 h => ⟨[(4, .int x377), (0, .ref (w.1 0)), (1, .int z1), (2, .int z2), (3, .int z3)], rfl, ?_⟩)
    refine ba_goto V dX5_markForces_112 rfl ?_
    exact ba_sub [1, 2, 3, 4, 0] rfl (hk _ _ h)
def xb_markForces_l11 (z1 : Int32) (k : (ba_St × Int32 × Int32) → Option (ba_St × Int32)) (a : (ba_St × Int32 × Int32)) : Option (ba_St × Int32) :=
  match a with
  | (s, z2, z3) =>
    if 9 < z3 then
      some (s, z2)
    else
      ba_bnd (xc_choose s 46 0 z1 z3) fun s369 =>
      ba_bnd (xc_run s369 46) fun s370 =>
      ba_bnd (xc_agrees s370 46 12) fun v371 =>
      if v371 = 0 then
        ba_lt (z3 + 1) fun x372 =>
        k (s370, z2, x372)
      else
        ba_bnd (ba_fix (xb_markForces_l51 z1 z2 z3) 1000 (s370, 0)) fun s378 =>
          ba_lt (z2 + 1) fun x379 =>
          ba_lt (z3 + 1) fun x380 =>
          k (s378, x379, x380)
set_option maxHeartbeats 4000000 in
set_option maxRecDepth 100000 in
theorem yb_markForces_l11 {w : ba_W} {X : ba_X} (V : ba_V ba_tC w 5 X cX5_markForces RX5 rm_b_markForces) {z1 : Int32} {o : ba_St × Int32} (EX : ∀ (s : ba_St) (z2 : Int32), (s, z2) = o → ba_G ba_tC w 5 X s 124 [(2, .int z2)] []) : ∀ (n : Nat) (s : ba_St) (z2 : Int32) (z3 : Int32), ba_fix (xb_markForces_l11 z1) n (s, z2, z3) = some o → ba_G ba_tC w 5 X s 11 [(0, .ref (w.1 0)), (1, .int z1), (2, .int z2), (3, .int z3)] [] := by
  intro n s z2 z3 h
  refine ba_loop (P := fun a => ba_G ba_tC w 5 X a.1 11 [(0, .ref (w.1 0)), (1, .int z1), (2, .int a.2.1), (3, .int a.2.2)] []) ?_ n (s, z2, z3) h
  intro k hk0 a h
  obtain ⟨s, z2, z3⟩ := a
  have hk : ∀ (s : ba_St) (z2 : Int32) (z3 : Int32), k (s, z2, z3) = some o → ba_G ba_tC w 5 X s 11 [(0, .ref (w.1 0)), (1, .int z1), (2, .int z2), (3, .int z3)] [] := fun s z2 z3 e => hk0 (s, z2, z3) e
  unfold xb_markForces_l11 at h
  try dsimp only at h ⊢
  refine ba_iload_n V dX5_markForces_11 3 rfl ?_
  refine ba_bipush V dX5_markForces_12 ba_c9b ?_
  refine ba_icmp_gt V dX5_markForces_14 rfl h (fun h => ?_) (fun h => ?_)
  · exact ba_sub [2] rfl (EX _ _ (Option.some.inj h))
  · refine ba_aload_n V dX5_markForces_17 0 rfl ?_
    refine ba_getR V dX5_markForces_18 kfX5_35 ba_sBag rfl ?_
    refine ba_iconst V dX5_markForces_21 ba_c0 ?_
    refine ba_iload_n V dX5_markForces_22 1 rfl ?_
    refine ba_iload_n V dX5_markForces_23 3 rfl ?_
    obtain ⟨s369, hc, h⟩ := ba_bnd_some h
    refine ba_callVV (As := [.int 0, .int z1, .int z3]) (st := []) V dX5_markForces_24 kcX5_387 (ba_sCourse ba_isCourse_46) (fun l => yc_choose V.inj l ba_isCourse_46 hc) ⟨rfl, rfl⟩ ⟨rfl, rfl, Nat.le_of_ble_eq_true rfl, Nat.le_of_ble_eq_true rfl⟩ (Nat.le_of_ble_eq_true rfl) ?_
    refine ba_aload_n V dX5_markForces_27 0 rfl ?_
    refine ba_getR V dX5_markForces_28 kfX5_35 ba_sBag rfl ?_
    obtain ⟨s370, hc, h⟩ := ba_bnd_some h
    refine ba_callVV (As := []) (st := []) V dX5_markForces_31 kcX5_221 (ba_sCourse ba_isCourse_46) (fun l => yc_run V.inj l ba_isCourse_46 hc) ⟨rfl, rfl⟩ ⟨rfl, rfl, Nat.le_of_ble_eq_true rfl, Nat.le_of_ble_eq_true rfl⟩ (Nat.le_of_ble_eq_true rfl) ?_
    refine ba_aload_n V dX5_markForces_34 0 rfl ?_
    refine ba_getR V dX5_markForces_35 kfX5_35 ba_sBag rfl ?_
    refine ba_aload_n V dX5_markForces_38 0 rfl ?_
    refine ba_getR V dX5_markForces_39 kfX5_41 ba_sBag rfl ?_
    obtain ⟨v371, hc, h⟩ := ba_bnd_some h
    refine ba_callVI (As := [.ref (w.1 12)]) (st := []) V dX5_markForces_42 kcX5_224 (ba_sCourse ba_isCourse_46) (fun l => yc_agrees V.inj l ba_isCourse_46 ba_isSlips_12 hc) ⟨rfl, rfl⟩ ⟨rfl, rfl, Nat.le_of_ble_eq_true rfl, Nat.le_of_ble_eq_true rfl⟩ (Nat.le_of_ble_eq_true rfl) ?_
    refine ba_if_eq V dX5_markForces_45 rfl h (fun h => ?_) (fun h => ?_)
    · refine ba_iinc V dX5_markForces_118 3 rfl ba_c1 (by decide) h (fun x372 h => ⟨[(3, .int x372), (0, .ref (w.1 0)), (1, .int z1), (2, .int z2)], rfl, ?_⟩)
      refine ba_goto V dX5_markForces_121 rfl ?_
      exact ba_sub [1, 2, 3, 0] rfl (hk _ _ _ h)
    · refine ba_iconst V dX5_markForces_48 ba_c0 ?_
      refine ba_istore (lv' := [(4, .int 0), (0, .ref (w.1 0)), (1, .int z1), (2, .int z2), (3, .int z3)]) V dX5_markForces_49 (by decide) rfl ?_
      obtain ⟨o, ho, h⟩ := ba_bnd_some h
      refine ba_sub [1, 2, 3, 4, 0] rfl (yb_markForces_l51 V (o := o) (fun s378 e => ?_) 1000 s370 0 ho)
      subst e
      try dsimp only at h
      refine ba_iinc V dX5_markForces_115 2 rfl ba_c1 (by decide) h (fun x379 h => ⟨[(2, .int x379), (0, .ref (w.1 0)), (1, .int z1), (3, .int z3)], rfl, ?_⟩)
      refine ba_iinc V dX5_markForces_118 3 rfl ba_c1 (by decide) h (fun x380 h => ⟨[(3, .int x380), (2, .int x379), (0, .ref (w.1 0)), (1, .int z1)], rfl, ?_⟩)
      refine ba_goto V dX5_markForces_121 rfl ?_
      exact ba_sub [2, 3, 1, 0] rfl (hk _ _ _ h)
def xb_markForces (s : ba_St) (a1 : Int32) : Option (Int32 × ba_St) :=
  ba_bnd (xc_takeTold s 46) fun s368 =>
  ba_bnd (ba_fix (xb_markForces_l11 a1) 1000 (s368, 0, 1)) fun o => match o with
  | (s381, x382) =>
    some (x382, s381)
set_option maxHeartbeats 4000000 in
set_option maxRecDepth 100000 in
theorem yb_markForces {w : ba_W} (hj : ba_inj ba_tC w) (l : Launch) {s : ba_St} {a1 : Int32} {o : Int32 × ba_St} (h : xb_markForces s a1 = some o) : ba_CI ba_tC w l yX5_markForces cX5_markForces 5 (some .int) rm_b_markForces [.ref (w.1 0), .int a1] s o := by
  refine ba_metI (lv := [(0, .ref (w.1 0)), (1, .int a1)]) l hj (by decide +kernel) ⟨Nat.le_of_ble_eq_true rfl, rfl⟩ ?_
  intro X V RT
  unfold xb_markForces at h
  refine ba_aload_n V dX5_markForces_0 0 rfl ?_
  refine ba_getR V dX5_markForces_1 kfX5_35 ba_sBag rfl ?_
  obtain ⟨s368, hc, h⟩ := ba_bnd_some h
  refine ba_callVV (As := []) (st := []) V dX5_markForces_4 kcX5_215 (ba_sCourse ba_isCourse_46) (fun l => yc_takeTold V.inj l ba_isCourse_46 hc) ⟨rfl, rfl⟩ ⟨rfl, rfl, Nat.le_of_ble_eq_true rfl, Nat.le_of_ble_eq_true rfl⟩ (Nat.le_of_ble_eq_true rfl) ?_
  refine ba_iconst V dX5_markForces_7 ba_c0 ?_
  refine ba_istore_n (lv' := [(2, .int 0), (0, .ref (w.1 0)), (1, .int a1)]) V dX5_markForces_8 (by decide) rfl ?_
  refine ba_iconst V dX5_markForces_9 ba_c1 ?_
  refine ba_istore_n (lv' := [(3, .int 1), (2, .int 0), (0, .ref (w.1 0)), (1, .int a1)]) V dX5_markForces_10 (by decide) rfl ?_
  obtain ⟨o, ho, h⟩ := ba_bnd_some h
  refine ba_sub [2, 3, 1, 0] rfl (yb_markForces_l11 V (o := o) (fun s381 x382 e => ?_) 1000 s368 0 1 ho)
  subst e
  try dsimp only at h
  refine ba_iload_n V dX5_markForces_124 0 rfl ?_
  exact RT _ _ _ _ dX5_markForces_125 (Option.some.inj h)
def xb_largestGroup_l17 (s : ba_St) (z1 : Int32) (z2 : Int32) (z3 : Int32) (z4 : Int32) (k : (Int32 × Int32) → Option (Int32)) (a : (Int32 × Int32)) : Option (Int32) :=
  match a with
  | (z5, z6) =>
    if z2 ≤ z6 then
      some z5
    else
      ba_lt (2 * ((z4 * 24) + z1)) fun x383 =>
      ba_lt (2 * ((z6 * 24) + z1)) fun x384 =>
      ba_grd (ba_inb x383 432) <|
      ba_grd (ba_inb x384 432) <|
      if (s.2 16 (ba_ix x383)) = (s.2 16 (ba_ix x384)) then
        ba_grd (ba_inb (x383 + 1) 432) <|
        ba_grd (ba_inb (x384 + 1) 432) <|
        if (s.2 16 (ba_ix (x383 + 1))) = (s.2 16 (ba_ix (x384 + 1))) then
          ba_lt (z5 + 1) fun x385 =>
          ba_lt (z6 + 1) fun x386 =>
          k (x385, x386)
        else
          ba_lt (z6 + 1) fun x387 =>
          k (z5, x387)
      else
        ba_lt (z6 + 1) fun x388 =>
        k (z5, x388)
set_option maxHeartbeats 4000000 in
set_option maxRecDepth 100000 in
theorem yb_largestGroup_l17 {w : ba_W} {X : ba_X} (V : ba_V ba_tC w 9 X cX5_largestGroup RX5 rm_b_largestGroup) {s : ba_St} {z1 : Int32} {z2 : Int32} {z3 : Int32} {z4 : Int32} {o : Int32} (EX : ∀ (z5 : Int32), z5 = o → ba_G ba_tC w 9 X s 94 [(0, .ref (w.1 0)), (1, .int z1), (2, .int z2), (3, .int z3), (4, .int z4), (5, .int z5)] []) : ∀ (n : Nat) (z5 : Int32) (z6 : Int32), ba_fix (xb_largestGroup_l17 s z1 z2 z3 z4) n (z5, z6) = some o → ba_G ba_tC w 9 X s 17 [(0, .ref (w.1 0)), (1, .int z1), (2, .int z2), (3, .int z3), (4, .int z4), (5, .int z5), (6, .int z6)] [] := by
  intro n z5 z6 h
  refine ba_loop (P := fun a => ba_G ba_tC w 9 X s 17 [(0, .ref (w.1 0)), (1, .int z1), (2, .int z2), (3, .int z3), (4, .int z4), (5, .int a.1), (6, .int a.2)] []) ?_ n (z5, z6) h
  intro k hk0 a h
  obtain ⟨z5, z6⟩ := a
  have hk : ∀ (z5 : Int32) (z6 : Int32), k (z5, z6) = some o → ba_G ba_tC w 9 X s 17 [(0, .ref (w.1 0)), (1, .int z1), (2, .int z2), (3, .int z3), (4, .int z4), (5, .int z5), (6, .int z6)] [] := fun z5 z6 e => hk0 (z5, z6) e
  unfold xb_largestGroup_l17 at h
  try dsimp only at h ⊢
  refine ba_iload V dX5_largestGroup_17 6 rfl ?_
  refine ba_iload_n V dX5_largestGroup_19 2 rfl ?_
  refine ba_icmp_ge V dX5_largestGroup_20 rfl h (fun h => ?_) (fun h => ?_)
  · exact ba_sub [0, 1, 2, 3, 4, 5] rfl (EX _ (Option.some.inj h))
  · refine ba_iconst V dX5_largestGroup_23 ba_c2 ?_
    refine ba_iload V dX5_largestGroup_24 4 rfl ?_
    refine ba_bipush V dX5_largestGroup_26 ba_c24b ?_
    refine ba_imul V dX5_largestGroup_28 ?_
    refine ba_iload_n V dX5_largestGroup_29 1 rfl ?_
    refine ba_iadd V dX5_largestGroup_30 ?_
    refine ba_imul V dX5_largestGroup_31 ?_
    refine ba_letI h (fun x383 h => ?_)
    refine ba_istore (lv' := [(7, .int x383), (0, .ref (w.1 0)), (1, .int z1), (2, .int z2), (3, .int z3), (4, .int z4), (5, .int z5), (6, .int z6)]) V dX5_largestGroup_32 (by decide) rfl ?_
    refine ba_iconst V dX5_largestGroup_34 ba_c2 ?_
    refine ba_iload V dX5_largestGroup_35 7 rfl ?_
    refine ba_bipush V dX5_largestGroup_37 ba_c24b ?_
    refine ba_imul V dX5_largestGroup_39 ?_
    refine ba_iload_n V dX5_largestGroup_40 2 rfl ?_
    refine ba_iadd V dX5_largestGroup_41 ?_
    refine ba_imul V dX5_largestGroup_42 ?_
    refine ba_letI h (fun x384 h => ?_)
    refine ba_istore (lv' := [(8, .int x384), (7, .int x383), (0, .ref (w.1 0)), (1, .int z1), (2, .int z2), (3, .int z3), (4, .int z4), (5, .int z5), (6, .int z6)]) V dX5_largestGroup_43 (by decide) rfl ?_
    refine ba_aload_n V dX5_largestGroup_45 2 rfl ?_
    refine ba_getR V dX5_largestGroup_46 kfX5_86 ba_sBag rfl ?_
    refine ba_iload V dX5_largestGroup_49 1 rfl ?_
    refine ba_lald V dX5_largestGroup_51 ba_sC_16 h (fun h => ?_)
    refine ba_aload_n V dX5_largestGroup_52 2 rfl ?_
    refine ba_getR V dX5_largestGroup_53 kfX5_86 ba_sBag rfl ?_
    refine ba_iload V dX5_largestGroup_56 0 rfl ?_
    refine ba_lald V dX5_largestGroup_58 ba_sC_16 h (fun h => ?_)
    refine ba_lcmp_ne V dX5_largestGroup_59 dX5_largestGroup_60 rfl h (fun h => ?_) (fun h => ?_)
    · refine ba_aload_n V dX5_largestGroup_63 2 rfl ?_
      refine ba_getR V dX5_largestGroup_64 kfX5_86 ba_sBag rfl ?_
      refine ba_iload V dX5_largestGroup_67 1 rfl ?_
      refine ba_iconst V dX5_largestGroup_69 ba_c1 ?_
      refine ba_iadd V dX5_largestGroup_70 ?_
      refine ba_lald V dX5_largestGroup_71 ba_sC_16 h (fun h => ?_)
      refine ba_aload_n V dX5_largestGroup_72 2 rfl ?_
      refine ba_getR V dX5_largestGroup_73 kfX5_86 ba_sBag rfl ?_
      refine ba_iload V dX5_largestGroup_76 0 rfl ?_
      refine ba_iconst V dX5_largestGroup_78 ba_c1 ?_
      refine ba_iadd V dX5_largestGroup_79 ?_
      refine ba_lald V dX5_largestGroup_80 ba_sC_16 h (fun h => ?_)
      refine ba_lcmp_ne V dX5_largestGroup_81 dX5_largestGroup_82 rfl h (fun h => ?_) (fun h => ?_)
      · refine ba_iinc V dX5_largestGroup_85 7 rfl ba_c1 (by decide) h (fun x385 h => ⟨[(5, .int x385), (8, .int x384), (7, .int x383), (0, .ref (w.1 0)), (1, .int z1), (2, .int z2), (3, .int z3), (4, .int z4), (6, .int z6)], rfl, ?_⟩)
        refine ba_iinc V dX5_largestGroup_88 8 rfl ba_c1 (by decide) h (fun x386 h => ⟨[(6, .int x386), (5, .int x385), (8, .int x384), (7, .int x383), (0, .ref (w.1 0)), (1, .int z1), (2, .int z2), (3, .int z3), (4, .int z4)], rfl, ?_⟩)
        refine ba_goto V dX5_largestGroup_91 rfl ?_
        exact ba_sub [4, 5, 6, 7, 8, 1, 0] rfl (hk _ _ h)
      · refine ba_iinc V dX5_largestGroup_88 8 rfl ba_c1 (by decide) h (fun x387 h => ⟨[(6, .int x387), (8, .int x384), (7, .int x383), (0, .ref (w.1 0)), (1, .int z1), (2, .int z2), (3, .int z3), (4, .int z4), (5, .int z5)], rfl, ?_⟩)
        refine ba_goto V dX5_largestGroup_91 rfl ?_
        exact ba_sub [3, 4, 5, 6, 7, 8, 0] rfl (hk _ _ h)
    · refine ba_iinc V dX5_largestGroup_88 8 rfl ba_c1 (by decide) h (fun x388 h => ⟨[(6, .int x388), (8, .int x384), (7, .int x383), (0, .ref (w.1 0)), (1, .int z1), (2, .int z2), (3, .int z3), (4, .int z4), (5, .int z5)], rfl, ?_⟩)
      refine ba_goto V dX5_largestGroup_91 rfl ?_
      exact ba_sub [3, 4, 5, 6, 7, 8, 0] rfl (hk _ _ h)
def xb_largestGroup_l5 (s : ba_St) (z1 : Int32) (z2 : Int32) (k : (Int32 × Int32) → Option (Int32)) (a : (Int32 × Int32)) : Option (Int32) :=
  match a with
  | (z3, z4) =>
    if z2 ≤ z4 then
      some z3
    else
      ba_bnd (ba_fix (xb_largestGroup_l17 s z1 z2 z3 z4) 1000 (0, 0)) fun x389 =>
        ba_lt (ba_max z3 x389) fun x390 =>
        ba_lt (z4 + 1) fun x391 =>
        k (x390, x391)
set_option maxHeartbeats 4000000 in
set_option maxRecDepth 100000 in
theorem yb_largestGroup_l5 {w : ba_W} {X : ba_X} (V : ba_V ba_tC w 9 X cX5_largestGroup RX5 rm_b_largestGroup) {s : ba_St} {z1 : Int32} {z2 : Int32} {o : Int32} (EX : ∀ (z3 : Int32), z3 = o → ba_G ba_tC w 9 X s 107 [(3, .int z3)] []) : ∀ (n : Nat) (z3 : Int32) (z4 : Int32), ba_fix (xb_largestGroup_l5 s z1 z2) n (z3, z4) = some o → ba_G ba_tC w 9 X s 5 [(0, .ref (w.1 0)), (1, .int z1), (2, .int z2), (3, .int z3), (4, .int z4)] [] := by
  intro n z3 z4 h
  refine ba_loop (P := fun a => ba_G ba_tC w 9 X s 5 [(0, .ref (w.1 0)), (1, .int z1), (2, .int z2), (3, .int a.1), (4, .int a.2)] []) ?_ n (z3, z4) h
  intro k hk0 a h
  obtain ⟨z3, z4⟩ := a
  have hk : ∀ (z3 : Int32) (z4 : Int32), k (z3, z4) = some o → ba_G ba_tC w 9 X s 5 [(0, .ref (w.1 0)), (1, .int z1), (2, .int z2), (3, .int z3), (4, .int z4)] [] := fun z3 z4 e => hk0 (z3, z4) e
  unfold xb_largestGroup_l5 at h
  try dsimp only at h ⊢
  refine ba_iload V dX5_largestGroup_5 4 rfl ?_
  refine ba_iload_n V dX5_largestGroup_7 2 rfl ?_
  refine ba_icmp_ge V dX5_largestGroup_8 rfl h (fun h => ?_) (fun h => ?_)
  · exact ba_sub [3] rfl (EX _ (Option.some.inj h))
  · refine ba_iconst V dX5_largestGroup_11 ba_c0 ?_
    refine ba_istore (lv' := [(5, .int 0), (0, .ref (w.1 0)), (1, .int z1), (2, .int z2), (3, .int z3), (4, .int z4)]) V dX5_largestGroup_12 (by decide) rfl ?_
    refine ba_iconst V dX5_largestGroup_14 ba_c0 ?_
    refine ba_istore (lv' := [(6, .int 0), (5, .int 0), (0, .ref (w.1 0)), (1, .int z1), (2, .int z2), (3, .int z3), (4, .int z4)]) V dX5_largestGroup_15 (by decide) rfl ?_
    obtain ⟨o, ho, h⟩ := ba_bnd_some h
    refine ba_sub [2, 3, 4, 5, 6, 1, 0] rfl (yb_largestGroup_l17 V (o := o) (fun x389 e => ?_) 1000 0 0 ho)
    subst e
    try dsimp only at h
    refine ba_iload_n V dX5_largestGroup_94 3 rfl ?_
    refine ba_iload V dX5_largestGroup_95 5 rfl ?_
    refine ba_Mmax V dX5_largestGroup_97 ⟨kjX5_400.1, kjX5_400.2.1, kjX5_400.2.2.1, kjX5_400.2.2.2, Nat.le_of_ble_eq_true rfl, Nat.le_of_ble_eq_true rfl⟩ ?_
    refine ba_letI h (fun x390 h => ?_)
    refine ba_istore_n (lv' := [(3, .int x390), (0, .ref (w.1 0)), (1, .int z1), (2, .int z2), (4, .int z4), (5, .int x389)]) V dX5_largestGroup_100 (by decide) rfl ?_
    refine ba_iinc V dX5_largestGroup_101 4 rfl ba_c1 (by decide) h (fun x391 h => ⟨[(4, .int x391), (3, .int x390), (0, .ref (w.1 0)), (1, .int z1), (2, .int z2), (5, .int x389)], rfl, ?_⟩)
    refine ba_goto V dX5_largestGroup_104 rfl ?_
    exact ba_sub [2, 3, 4, 1, 0] rfl (hk _ _ h)
def xb_largestGroup (s : ba_St) (a1 : Int32) (a2 : Int32) : Option (Int32) :=
  ba_bnd (ba_fix (xb_largestGroup_l5 s a1 a2) 1000 (0, 0)) fun x392 =>
    some x392
set_option maxHeartbeats 4000000 in
set_option maxRecDepth 100000 in
theorem yb_largestGroup {w : ba_W} (hj : ba_inj ba_tC w) (l : Launch) {s : ba_St} {a1 : Int32} {a2 : Int32} {o : Int32} (h : xb_largestGroup s a1 a2 = some o) : ba_CI ba_tC w l yX5_largestGroup cX5_largestGroup 9 (some .int) rm_b_largestGroup [.ref (w.1 0), .int a1, .int a2] s (o, s) := by
  refine ba_metI (lv := [(0, .ref (w.1 0)), (1, .int a1), (2, .int a2)]) l hj (by decide +kernel) ⟨Nat.le_of_ble_eq_true rfl, rfl⟩ ?_
  intro X V RT
  replace RT := fun pc lv v D e => RT pc lv v s D (congrArg (fun q => (q, s)) e)
  unfold xb_largestGroup at h
  refine ba_iconst V dX5_largestGroup_0 ba_c0 ?_
  refine ba_istore_n (lv' := [(3, .int 0), (0, .ref (w.1 0)), (1, .int a1), (2, .int a2)]) V dX5_largestGroup_1 (by decide) rfl ?_
  refine ba_iconst V dX5_largestGroup_2 ba_c0 ?_
  refine ba_istore (lv' := [(4, .int 0), (3, .int 0), (0, .ref (w.1 0)), (1, .int a1), (2, .int a2)]) V dX5_largestGroup_3 (by decide) rfl ?_
  obtain ⟨o, ho, h⟩ := ba_bnd_some h
  refine ba_sub [2, 3, 4, 1, 0] rfl (yb_largestGroup_l5 V (o := o) (fun x392 e => ?_) 1000 0 0 ho)
  subst e
  try dsimp only at h
  refine ba_iload_n V dX5_largestGroup_107 0 rfl ?_
  exact RT _ _ _ dX5_largestGroup_108 (Option.some.inj h)
def xb_ask_l36 (s : ba_St) (z2 : Int32) (k : (Int32 × Int32 × Int32) → Option (Int32)) (a : (Int32 × Int32 × Int32)) : Option (Int32) :=
  match a with
  | (z3, z4, z5) =>
    if 24 ≤ z5 then
      some z3
    else
      ba_bnd (xb_largestGroup s z5 z2) fun v397 =>
      if z4 ≤ v397 then
        ba_lt (z5 + 1) fun x398 =>
        k (z3, z4, x398)
      else
        ba_lt (z5 + 1) fun x399 =>
        k (z5, v397, x399)
set_option maxHeartbeats 4000000 in
set_option maxRecDepth 100000 in
theorem yb_ask_l36 {w : ba_W} {X : ba_X} (V : ba_V ba_tC w 7 X cX5_ask RX5 rm_b_ask) {s : ba_St} {z2 : Int32} {o : Int32} (EX : ∀ (z3 : Int32), z3 = o → ba_G ba_tC w 7 X s 72 [(3, .int z3)] []) : ∀ (n : Nat) (z3 : Int32) (z4 : Int32) (z5 : Int32), ba_fix (xb_ask_l36 s z2) n (z3, z4, z5) = some o → ba_G ba_tC w 7 X s 36 [(0, .ref (w.1 0)), (2, .int z2), (3, .int z3), (4, .int z4), (5, .int z5)] [] := by
  intro n z3 z4 z5 h
  refine ba_loop (P := fun a => ba_G ba_tC w 7 X s 36 [(0, .ref (w.1 0)), (2, .int z2), (3, .int a.1), (4, .int a.2.1), (5, .int a.2.2)] []) ?_ n (z3, z4, z5) h
  intro k hk0 a h
  obtain ⟨z3, z4, z5⟩ := a
  have hk : ∀ (z3 : Int32) (z4 : Int32) (z5 : Int32), k (z3, z4, z5) = some o → ba_G ba_tC w 7 X s 36 [(0, .ref (w.1 0)), (2, .int z2), (3, .int z3), (4, .int z4), (5, .int z5)] [] := fun z3 z4 z5 e => hk0 (z3, z4, z5) e
  unfold xb_ask_l36 at h
  try dsimp only at h ⊢
  refine ba_iload V dX5_ask_36 4 rfl ?_
  refine ba_bipush V dX5_ask_38 ba_c24b ?_
  refine ba_icmp_ge V dX5_ask_40 rfl h (fun h => ?_) (fun h => ?_)
  · exact ba_sub [2] rfl (EX _ (Option.some.inj h))
  · refine ba_aload_n V dX5_ask_43 0 rfl ?_
    refine ba_iload V dX5_ask_44 4 rfl ?_
    refine ba_iload_n V dX5_ask_46 1 rfl ?_
    obtain ⟨v397, hc, h⟩ := ba_bnd_some h
    refine ba_callVI (As := [.int z5, .int z2]) (st := []) V dX5_ask_47 kcX5_234 ba_sBag (fun l => yb_largestGroup V.inj l hc) ⟨rfl, rfl⟩ ⟨rfl, rfl, Nat.le_of_ble_eq_true rfl, Nat.le_of_ble_eq_true rfl⟩ (Nat.le_of_ble_eq_true rfl) ?_
    refine ba_istore (lv' := [(6, .int v397), (0, .ref (w.1 0)), (2, .int z2), (3, .int z3), (4, .int z4), (5, .int z5)]) V dX5_ask_50 (by decide) rfl ?_
    refine ba_iload V dX5_ask_52 0 rfl ?_
    refine ba_iload V dX5_ask_54 4 rfl ?_
    refine ba_icmp_ge V dX5_ask_56 rfl h (fun h => ?_) (fun h => ?_)
    · refine ba_iinc V dX5_ask_66 5 rfl ba_c1 (by decide) h (fun x398 h => ⟨[(5, .int x398), (6, .int v397), (0, .ref (w.1 0)), (2, .int z2), (3, .int z3), (4, .int z4)], rfl, ?_⟩)
      refine ba_goto V dX5_ask_69 rfl ?_
      exact ba_sub [2, 3, 4, 5, 0] rfl (hk _ _ _ h)
    · refine ba_iload V dX5_ask_59 0 rfl ?_
      refine ba_istore (lv' := [(4, .int v397), (6, .int v397), (0, .ref (w.1 0)), (2, .int z2), (3, .int z3), (5, .int z5)]) V dX5_ask_61 (by decide) rfl ?_
      refine ba_iload V dX5_ask_63 5 rfl ?_
      refine ba_istore_n (lv' := [(3, .int z5), (4, .int v397), (6, .int v397), (0, .ref (w.1 0)), (2, .int z2), (5, .int z5)]) V dX5_ask_65 (by decide) rfl ?_
      refine ba_iinc V dX5_ask_66 5 rfl ba_c1 (by decide) h (fun x399 h => ⟨[(5, .int x399), (3, .int z5), (4, .int v397), (6, .int v397), (0, .ref (w.1 0)), (2, .int z2)], rfl, ?_⟩)
      refine ba_goto V dX5_ask_69 rfl ?_
      exact ba_sub [4, 5, 1, 2, 0] rfl (hk _ _ _ h)
def xb_ask (s : ba_St) (a1 : Int32) : Option (Int32 × ba_St) :=
  ba_bnd (xb_within a1 (s.1 3 7)) fun v393 =>
  if v393 = 0 then
    some ((-2), s)
  else
    ba_bn2 (xb_markForces s a1) fun v394 s395 =>
    ba_bnd (xb_largestGroup s395 0 v394) fun v396 =>
    ba_bnd (ba_fix (xb_ask_l36 s395 v394) 1000 (0, v396, 1)) fun x400 =>
      some (x400, s395)
set_option maxHeartbeats 4000000 in
set_option maxRecDepth 100000 in
theorem yb_ask {w : ba_W} (hj : ba_inj ba_tC w) (l : Launch) {s : ba_St} {a1 : Int32} {o : Int32 × ba_St} (h : xb_ask s a1 = some o) : ba_CI ba_tC w l yX5_ask cX5_ask 7 (some .int) rm_b_ask [.ref (w.1 0), .int a1] s o := by
  refine ba_metI (lv := [(0, .ref (w.1 0)), (1, .int a1)]) l hj (by decide +kernel) ⟨Nat.le_of_ble_eq_true rfl, rfl⟩ ?_
  intro X V RT
  unfold xb_ask at h
  refine ba_iload_n V dX5_ask_0 1 rfl ?_
  refine ba_aload_n V dX5_ask_1 0 rfl ?_
  refine ba_getR V dX5_ask_2 kfX5_22 ba_sBag rfl ?_
  refine ba_getI V dX5_ask_5 kfX5_132 ba_sBoard rfl ?_
  obtain ⟨v393, hc, h⟩ := ba_bnd_some h
  refine ba_callSI (As := [.int a1, .int (s.1 3 7)]) (st := []) V dX5_ask_8 kcX5_97 (fun l => yb_within V.inj l hc) ⟨rfl, rfl⟩ ⟨rfl, rfl, Nat.le_of_ble_eq_true rfl, Nat.le_of_ble_eq_true rfl⟩ (Nat.le_of_ble_eq_true rfl) ?_
  refine ba_if_ne V dX5_ask_11 rfl h (fun h => ?_) (fun h => ?_)
  · refine ba_bipush V dX5_ask_14 ba_cm2b ?_
    exact RT _ _ _ _ dX5_ask_16 (Option.some.inj h)
  · refine ba_aload_n V dX5_ask_17 0 rfl ?_
    refine ba_iload_n V dX5_ask_18 1 rfl ?_
    obtain ⟨v394, s395, hc, h⟩ := ba_bn2_some h
    refine ba_callVI (As := [.int a1]) (st := []) V dX5_ask_19 kcX5_231 ba_sBag (fun l => yb_markForces V.inj l hc) ⟨rfl, rfl⟩ ⟨rfl, rfl, Nat.le_of_ble_eq_true rfl, Nat.le_of_ble_eq_true rfl⟩ (Nat.le_of_ble_eq_true rfl) ?_
    refine ba_istore_n (lv' := [(2, .int v394), (0, .ref (w.1 0)), (1, .int a1)]) V dX5_ask_22 (by decide) rfl ?_
    refine ba_iconst V dX5_ask_23 ba_c0 ?_
    refine ba_istore_n (lv' := [(3, .int 0), (2, .int v394), (0, .ref (w.1 0)), (1, .int a1)]) V dX5_ask_24 (by decide) rfl ?_
    refine ba_aload_n V dX5_ask_25 2 rfl ?_
    refine ba_iconst V dX5_ask_26 ba_c0 ?_
    refine ba_iload_n V dX5_ask_27 1 rfl ?_
    obtain ⟨v396, hc, h⟩ := ba_bnd_some h
    refine ba_callVI (As := [.int 0, .int v394]) (st := []) V dX5_ask_28 kcX5_234 ba_sBag (fun l => yb_largestGroup V.inj l hc) ⟨rfl, rfl⟩ ⟨rfl, rfl, Nat.le_of_ble_eq_true rfl, Nat.le_of_ble_eq_true rfl⟩ (Nat.le_of_ble_eq_true rfl) ?_
    refine ba_istore (lv' := [(4, .int v396), (3, .int 0), (2, .int v394), (0, .ref (w.1 0)), (1, .int a1)]) V dX5_ask_31 (by decide) rfl ?_
    refine ba_iconst V dX5_ask_33 ba_c1 ?_
    refine ba_istore (lv' := [(5, .int 1), (4, .int v396), (3, .int 0), (2, .int v394), (0, .ref (w.1 0)), (1, .int a1)]) V dX5_ask_34 (by decide) rfl ?_
    obtain ⟨o, ho, h⟩ := ba_bnd_some h
    refine ba_sub [4, 3, 2, 1, 0] rfl (yb_ask_l36 V (o := o) (fun x400 e => ?_) 1000 0 v396 1 ho)
    subst e
    try dsimp only at h
    refine ba_iload_n V dX5_ask_72 0 rfl ?_
    exact RT _ _ _ _ dX5_ask_73 (Option.some.inj h)
def xc_bringing_l4 (b : Nat) (s : ba_St) (k : (Int32 × Int32) → Option (Int32)) (a : (Int32 × Int32)) : Option (Int32) :=
  match a with
  | (z1, z2) =>
    if (s.1 b 4) ≤ z2 then
      some z1
    else
      ba_grd (ba_inb z2 12) <|
      if (s.1 (b + 11) (ba_ix z2)) ≤ 0 then
        ba_lt (z2 + 1) fun x401 =>
        k (z1, x401)
      else
        ba_lt (z1 ||| (ba_fishl 1 z2)) fun x402 =>
        ba_lt (z2 + 1) fun x403 =>
        k (x402, x403)
set_option maxHeartbeats 4000000 in
set_option maxRecDepth 100000 in
theorem yc_bringing_l4 {w : ba_W} {X : ba_X} (V : ba_V ba_tC w 3 X cX1_bringing RX1 rm_c_bringing) {b : Nat} (hb : ba_isCourse b) {s : ba_St} {o : Int32} (EX : ∀ (z1 : Int32), z1 = o → ba_G ba_tC w 3 X s 33 [(1, .int z1)] []) : ∀ (n : Nat) (z1 : Int32) (z2 : Int32), ba_fix (xc_bringing_l4 b s) n (z1, z2) = some o → ba_G ba_tC w 3 X s 4 [(0, .ref (w.1 b)), (1, .int z1), (2, .int z2)] [] := by
  intro n z1 z2 h
  refine ba_loop (P := fun a => ba_G ba_tC w 3 X s 4 [(0, .ref (w.1 b)), (1, .int a.1), (2, .int a.2)] []) ?_ n (z1, z2) h
  intro k hk0 a h
  obtain ⟨z1, z2⟩ := a
  have hk : ∀ (z1 : Int32) (z2 : Int32), k (z1, z2) = some o → ba_G ba_tC w 3 X s 4 [(0, .ref (w.1 b)), (1, .int z1), (2, .int z2)] [] := fun z1 z2 e => hk0 (z1, z2) e
  unfold xc_bringing_l4 at h
  try dsimp only at h ⊢
  refine ba_iload_n V dX1_bringing_4 2 rfl ?_
  refine ba_aload_n V dX1_bringing_5 0 rfl ?_
  refine ba_getI V dX1_bringing_6 kfX1_21 (ba_sCourse hb) rfl ?_
  refine ba_icmp_ge V dX1_bringing_9 rfl h (fun h => ?_) (fun h => ?_)
  · exact ba_sub [1] rfl (EX _ (Option.some.inj h))
  · refine ba_aload_n V dX1_bringing_12 0 rfl ?_
    refine ba_getR V dX1_bringing_13 kfX1_52 (ba_sCourse hb) rfl ?_
    refine ba_iload_n V dX1_bringing_16 2 rfl ?_
    refine ba_iald V dX1_bringing_17 (ba_sCourse_11 hb) h (fun h => ?_)
    refine ba_if_le V dX1_bringing_18 rfl h (fun h => ?_) (fun h => ?_)
    · refine ba_iinc V dX1_bringing_27 2 rfl ba_c1 (by decide) h (fun x401 h => ⟨[(2, .int x401), (0, .ref (w.1 b)), (1, .int z1)], rfl, ?_⟩)
      refine ba_goto V dX1_bringing_30 rfl ?_
      exact ba_sub [1, 2, 0] rfl (hk _ _ h)
    · refine ba_iload_n V dX1_bringing_21 1 rfl ?_
      refine ba_iconst V dX1_bringing_22 ba_c1 ?_
      refine ba_iload_n V dX1_bringing_23 2 rfl ?_
      refine ba_ishl V dX1_bringing_24 ?_
      refine ba_ior V dX1_bringing_25 ?_
      refine ba_letI h (fun x402 h => ?_)
      refine ba_istore_n (lv' := [(1, .int x402), (0, .ref (w.1 b)), (2, .int z2)]) V dX1_bringing_26 (by decide) rfl ?_
      refine ba_iinc V dX1_bringing_27 2 rfl ba_c1 (by decide) h (fun x403 h => ⟨[(2, .int x403), (1, .int x402), (0, .ref (w.1 b))], rfl, ?_⟩)
      refine ba_goto V dX1_bringing_30 rfl ?_
      exact ba_sub [2, 1, 0] rfl (hk _ _ h)
def xc_bringing (s : ba_St) (b : Nat) : Option (Int32) :=
  ba_bnd (ba_fix (xc_bringing_l4 b s) 1000 (0, 0)) fun x404 =>
    some x404
set_option maxHeartbeats 4000000 in
set_option maxRecDepth 100000 in
theorem yc_bringing {w : ba_W} (hj : ba_inj ba_tC w) (l : Launch) {s : ba_St} {b : Nat} (hb : ba_isCourse b) {o : Int32} (h : xc_bringing s b = some o) : ba_CI ba_tC w l yX1_bringing cX1_bringing 3 (some .int) rm_c_bringing [.ref (w.1 b)] s (o, s) := by
  refine ba_metI (lv := [(0, .ref (w.1 b))]) l hj (by decide +kernel) ⟨Nat.le_of_ble_eq_true rfl, rfl⟩ ?_
  intro X V RT
  replace RT := fun pc lv v D e => RT pc lv v s D (congrArg (fun q => (q, s)) e)
  unfold xc_bringing at h
  refine ba_iconst V dX1_bringing_0 ba_c0 ?_
  refine ba_istore_n (lv' := [(1, .int 0), (0, .ref (w.1 b))]) V dX1_bringing_1 (by decide) rfl ?_
  refine ba_iconst V dX1_bringing_2 ba_c0 ?_
  refine ba_istore_n (lv' := [(2, .int 0), (1, .int 0), (0, .ref (w.1 b))]) V dX1_bringing_3 (by decide) rfl ?_
  obtain ⟨o, ho, h⟩ := ba_bnd_some h
  refine ba_sub [2, 1, 0] rfl (yc_bringing_l4 V hb (o := o) (fun x404 e => ?_) 1000 0 0 ho)
  subst e
  try dsimp only at h
  refine ba_iload_n V dX1_bringing_33 0 rfl ?_
  exact RT _ _ _ dX1_bringing_34 (Option.some.inj h)
def xb_findBringers_l9 (k : (ba_St × Int32) → Option (ba_St)) (a : (ba_St × Int32)) : Option (ba_St) :=
  match a with
  | (s, z1) =>
    if (ba_fishl 1 (s.1 10 1)) ≤ z1 then
      some s
    else
      ba_lt (ba_w s 46 5 z1) fun s406 =>
      ba_bnd (xc_run s406 46) fun s407 =>
      ba_bnd (xc_bringing s407 46) fun v408 =>
      ba_grd (ba_inb z1 256) <|
      ba_lt (ba_w s407 15 (ba_ix z1) v408) fun s409 =>
      ba_lt (z1 + 1) fun x410 =>
      k (s409, x410)
set_option maxHeartbeats 4000000 in
set_option maxRecDepth 100000 in
theorem yb_findBringers_l9 {w : ba_W} {X : ba_X} (V : ba_V ba_tC w 2 X cX5_findBringers RX5 rm_b_findBringers) {o : ba_St} (EX : ∀ (s : ba_St) , s = o → ba_G ba_tC w 2 X s 59 [] []) : ∀ (n : Nat) (s : ba_St) (z1 : Int32), ba_fix (xb_findBringers_l9) n (s, z1) = some o → ba_G ba_tC w 2 X s 9 [(0, .ref (w.1 0)), (1, .int z1)] [] := by
  intro n s z1 h
  refine ba_loop (P := fun a => ba_G ba_tC w 2 X a.1 9 [(0, .ref (w.1 0)), (1, .int a.2)] []) ?_ n (s, z1) h
  intro k hk0 a h
  obtain ⟨s, z1⟩ := a
  have hk : ∀ (s : ba_St) (z1 : Int32), k (s, z1) = some o → ba_G ba_tC w 2 X s 9 [(0, .ref (w.1 0)), (1, .int z1)] [] := fun s z1 e => hk0 (s, z1) e
  unfold xb_findBringers_l9 at h
  try dsimp only at h ⊢
  refine ba_iload_n V dX5_findBringers_9 1 rfl ?_
  refine ba_iconst V dX5_findBringers_10 ba_c1 ?_
  refine ba_aload_n V dX5_findBringers_11 0 rfl ?_
  refine ba_getR V dX5_findBringers_12 kfX5_22 ba_sBag rfl ?_
  refine ba_getR V dX5_findBringers_15 kfX5_151 ba_sBoard rfl ?_
  refine ba_getI V dX5_findBringers_18 kfX5_161 (ba_sSlips ba_isSlips_10) rfl ?_
  refine ba_ishl V dX5_findBringers_21 ?_
  refine ba_icmp_ge V dX5_findBringers_22 rfl h (fun h => ?_) (fun h => ?_)
  · exact ba_sub [] rfl (EX _ (Option.some.inj h))
  · refine ba_aload_n V dX5_findBringers_25 0 rfl ?_
    refine ba_getR V dX5_findBringers_26 kfX5_35 ba_sBag rfl ?_
    refine ba_iload_n V dX5_findBringers_29 1 rfl ?_
    refine ba_putI V dX5_findBringers_30 kfX5_218 (ba_sCourse ba_isCourse_46) rfl h (fun s406 h => ?_)
    refine ba_aload_n V dX5_findBringers_33 0 rfl ?_
    refine ba_getR V dX5_findBringers_34 kfX5_35 ba_sBag rfl ?_
    obtain ⟨s407, hc, h⟩ := ba_bnd_some h
    refine ba_callVV (As := []) (st := []) V dX5_findBringers_37 kcX5_221 (ba_sCourse ba_isCourse_46) (fun l => yc_run V.inj l ba_isCourse_46 hc) ⟨rfl, rfl⟩ ⟨rfl, rfl, Nat.le_of_ble_eq_true rfl, Nat.le_of_ble_eq_true rfl⟩ (Nat.le_of_ble_eq_true rfl) ?_
    refine ba_aload_n V dX5_findBringers_40 0 rfl ?_
    refine ba_getR V dX5_findBringers_41 kfX5_83 ba_sBag rfl ?_
    refine ba_iload_n V dX5_findBringers_44 1 rfl ?_
    refine ba_aload_n V dX5_findBringers_45 0 rfl ?_
    refine ba_getR V dX5_findBringers_46 kfX5_35 ba_sBag rfl ?_
    obtain ⟨v408, hc, h⟩ := ba_bnd_some h
    refine ba_callVI (As := []) (st := [.int z1, .ref (w.1 15)]) V dX5_findBringers_49 kcX5_403 (ba_sCourse ba_isCourse_46) (fun l => yc_bringing V.inj l ba_isCourse_46 hc) ⟨rfl, rfl⟩ ⟨rfl, rfl, Nat.le_of_ble_eq_true rfl, Nat.le_of_ble_eq_true rfl⟩ (Nat.le_of_ble_eq_true rfl) ?_
    refine ba_iast V dX5_findBringers_52 ba_sC_15 h (fun s409 h => ?_)
    refine ba_iinc V dX5_findBringers_53 1 rfl ba_c1 (by decide) h (fun x410 h => ⟨[(1, .int x410), (0, .ref (w.1 0))], rfl, ?_⟩)
    refine ba_goto V dX5_findBringers_56 rfl ?_
    exact ba_sub [1, 0] rfl (hk _ _ h)
def xb_findBringers (s : ba_St) : Option (ba_St) :=
  ba_bnd (xc_takeTold s 46) fun s405 =>
  ba_bnd (ba_fix (xb_findBringers_l9) 1000 (s405, 0)) fun s411 =>
    some s411
set_option maxHeartbeats 4000000 in
set_option maxRecDepth 100000 in
theorem yb_findBringers {w : ba_W} (hj : ba_inj ba_tC w) (l : Launch) {s : ba_St} {o : ba_St} (h : xb_findBringers s = some o) : ba_CV ba_tC w l yX5_findBringers cX5_findBringers 2 none rm_b_findBringers [.ref (w.1 0)] s o := by
  refine ba_metV (lv := [(0, .ref (w.1 0))]) l hj (by decide +kernel) ⟨Nat.le_of_ble_eq_true rfl, rfl⟩ ?_
  intro X V RT
  unfold xb_findBringers at h
  refine ba_aload_n V dX5_findBringers_0 0 rfl ?_
  refine ba_getR V dX5_findBringers_1 kfX5_35 ba_sBag rfl ?_
  obtain ⟨s405, hc, h⟩ := ba_bnd_some h
  refine ba_callVV (As := []) (st := []) V dX5_findBringers_4 kcX5_215 (ba_sCourse ba_isCourse_46) (fun l => yc_takeTold V.inj l ba_isCourse_46 hc) ⟨rfl, rfl⟩ ⟨rfl, rfl, Nat.le_of_ble_eq_true rfl, Nat.le_of_ble_eq_true rfl⟩ (Nat.le_of_ble_eq_true rfl) ?_
  refine ba_iconst V dX5_findBringers_7 ba_c0 ?_
  refine ba_istore_n (lv' := [(1, .int 0), (0, .ref (w.1 0))]) V dX5_findBringers_8 (by decide) rfl ?_
  obtain ⟨o, ho, h⟩ := ba_bnd_some h
  refine ba_sub [1, 0] rfl (yb_findBringers_l9 V (o := o) (fun s411 e => ?_) 1000 s405 0 ho)
  subst e
  try dsimp only at h
  exact RT _ _ _ dX5_findBringers_59 (Option.some.inj h)
def xb_weight_j40_5 (k : (Int64 × Int32) → Option (Int64)) (s : ba_St) (z1 : Int32) (z2 : Int32) (z5 : Int32) (q0 : Int64) (q1 : Int64) : Option (Int64) :=
  ba_lt (q1 * q0) fun x412 =>
  ba_lt (z5 + 1) fun x413 =>
  k (x412, x413)
set_option maxHeartbeats 4000000 in
set_option maxRecDepth 100000 in
theorem yb_weight_j40_5 {w : ba_W} {X : ba_X} (V : ba_V ba_tC w 6 X cX5_weight RX5 rm_b_weight) {s : ba_St} {z1 : Int32} {z2 : Int32} {z5 : Int32} {q0 : Int64} {q1 : Int64} {o : Int64} {k : (Int64 × Int32) → Option (Int64)} (hk : ∀ (z3 : Int64) (z5 : Int32), k (z3, z5) = some o → ba_G ba_tC w 6 X s 5 [(0, .ref (w.1 0)), (1, .int z1), (2, .int z2), (3, .long z3), (5, .int z5)] []) (EX : ∀ (z3 : Int64), z3 = o → ba_G ba_tC w 6 X s 48 [(3, .long z3)] []) (h : xb_weight_j40_5 k s z1 z2 z5 q0 q1 = some o) : ba_G ba_tC w 6 X s 40 [(0, .ref (w.1 0)), (1, .int z1), (2, .int z2), (5, .int z5)] [.long q0, .long q1] := by
  unfold xb_weight_j40_5 at h
  refine ba_lmul V dX5_weight_40 ?_
  refine ba_letL h (fun x412 h => ?_)
  refine ba_lstore_n (lv' := [(3, .long x412), (0, .ref (w.1 0)), (1, .int z1), (2, .int z2), (5, .int z5)]) V dX5_weight_41 (by decide) rfl ?_
  refine ba_iinc V dX5_weight_42 4 rfl ba_c1 (by decide) h (fun x413 h => ⟨[(5, .int x413), (3, .long x412), (0, .ref (w.1 0)), (1, .int z1), (2, .int z2)], rfl, ?_⟩)
  refine ba_goto V dX5_weight_45 rfl ?_
  exact ba_sub [2, 3, 4, 1, 0] rfl (hk _ _ h)
def xb_weight_l5 (s : ba_St) (z1 : Int32) (z2 : Int32) (k : (Int64 × Int32) → Option (Int64)) (a : (Int64 × Int32)) : Option (Int64) :=
  match a with
  | (z3, z5) =>
    if (s.1 10 1) ≤ z5 then
      some z3
    else
      if ((ba_fishr z1 z5) &&& 1) = 0 then
        xb_weight_j40_5 k s z1 z2 z5 (Int32.toInt64 (16 - z2)) z3
      else
        xb_weight_j40_5 k s z1 z2 z5 (Int32.toInt64 z2) z3
set_option maxHeartbeats 4000000 in
set_option maxRecDepth 100000 in
theorem yb_weight_l5 {w : ba_W} {X : ba_X} (V : ba_V ba_tC w 6 X cX5_weight RX5 rm_b_weight) {s : ba_St} {z1 : Int32} {z2 : Int32} {o : Int64} (EX : ∀ (z3 : Int64), z3 = o → ba_G ba_tC w 6 X s 48 [(3, .long z3)] []) : ∀ (n : Nat) (z3 : Int64) (z5 : Int32), ba_fix (xb_weight_l5 s z1 z2) n (z3, z5) = some o → ba_G ba_tC w 6 X s 5 [(0, .ref (w.1 0)), (1, .int z1), (2, .int z2), (3, .long z3), (5, .int z5)] [] := by
  intro n z3 z5 h
  refine ba_loop (P := fun a => ba_G ba_tC w 6 X s 5 [(0, .ref (w.1 0)), (1, .int z1), (2, .int z2), (3, .long a.1), (5, .int a.2)] []) ?_ n (z3, z5) h
  intro k hk0 a h
  obtain ⟨z3, z5⟩ := a
  have hk : ∀ (z3 : Int64) (z5 : Int32), k (z3, z5) = some o → ba_G ba_tC w 6 X s 5 [(0, .ref (w.1 0)), (1, .int z1), (2, .int z2), (3, .long z3), (5, .int z5)] [] := fun z3 z5 e => hk0 (z3, z5) e
  unfold xb_weight_l5 at h
  try dsimp only at h ⊢
  refine ba_iload V dX5_weight_5 4 rfl ?_
  refine ba_aload_n V dX5_weight_7 0 rfl ?_
  refine ba_getR V dX5_weight_8 kfX5_22 ba_sBag rfl ?_
  refine ba_getR V dX5_weight_11 kfX5_151 ba_sBoard rfl ?_
  refine ba_getI V dX5_weight_14 kfX5_161 (ba_sSlips ba_isSlips_10) rfl ?_
  refine ba_icmp_ge V dX5_weight_17 rfl h (fun h => ?_) (fun h => ?_)
  · exact ba_sub [3] rfl (EX _ (Option.some.inj h))
  · refine ba_lload_n V dX5_weight_20 3 rfl ?_
    refine ba_iload_n V dX5_weight_21 1 rfl ?_
    refine ba_iload V dX5_weight_22 4 rfl ?_
    refine ba_ishr V dX5_weight_24 ?_
    refine ba_iconst V dX5_weight_25 ba_c1 ?_
    refine ba_iand V dX5_weight_26 ?_
    refine ba_if_eq V dX5_weight_27 rfl h (fun h => ?_) (fun h => ?_)
    · refine ba_bipush V dX5_weight_35 ba_c16b ?_
      refine ba_iload_n V dX5_weight_37 2 rfl ?_
      refine ba_isub V dX5_weight_38 ?_
      refine ba_i2l V dX5_weight_39 ?_
      exact ba_sub [0, 1, 2, 4] rfl (yb_weight_j40_5 V hk EX h)
    · refine ba_iload_n V dX5_weight_30 2 rfl ?_
      refine ba_i2l V dX5_weight_31 ?_
      refine ba_goto V dX5_weight_32 rfl ?_
      exact ba_sub [0, 1, 2, 4] rfl (yb_weight_j40_5 V hk EX h)
def xb_weight (s : ba_St) (a1 : Int32) (a2 : Int32) : Option (Int64) :=
  ba_bnd (ba_fix (xb_weight_l5 s a1 a2) 1000 (1, 0)) fun x414 =>
    some x414
set_option maxHeartbeats 4000000 in
set_option maxRecDepth 100000 in
theorem yb_weight {w : ba_W} (hj : ba_inj ba_tC w) (l : Launch) {s : ba_St} {a1 : Int32} {a2 : Int32} {o : Int64} (h : xb_weight s a1 a2 = some o) : ba_CL ba_tC w l yX5_weight cX5_weight 6 (some .long) rm_b_weight [.ref (w.1 0), .int a1, .int a2] s (o, s) := by
  refine ba_metL (lv := [(0, .ref (w.1 0)), (1, .int a1), (2, .int a2)]) l hj (by decide +kernel) ⟨Nat.le_of_ble_eq_true rfl, rfl⟩ ?_
  intro X V RT
  replace RT := fun pc lv v D e => RT pc lv v s D (congrArg (fun q => (q, s)) e)
  unfold xb_weight at h
  refine ba_lconst V dX5_weight_0 rfl ?_
  refine ba_lstore_n (lv' := [(3, .long 1), (0, .ref (w.1 0)), (1, .int a1), (2, .int a2)]) V dX5_weight_1 (by decide) rfl ?_
  refine ba_iconst V dX5_weight_2 ba_c0 ?_
  refine ba_istore (lv' := [(5, .int 0), (3, .long 1), (0, .ref (w.1 0)), (1, .int a1), (2, .int a2)]) V dX5_weight_3 (by decide) rfl ?_
  obtain ⟨o, ho, h⟩ := ba_bnd_some h
  refine ba_sub [2, 3, 4, 1, 0] rfl (yb_weight_l5 V (o := o) (fun x414 e => ?_) 1000 1 0 ho)
  subst e
  try dsimp only at h
  refine ba_lload_n V dX5_weight_48 0 rfl ?_
  exact RT _ _ _ dX5_weight_49 (Option.some.inj h)
def xb_chance_j31 (s : ba_St) : Option (Int64 × ba_St) :=
  some ((-9223372036854775806), s)
set_option maxHeartbeats 4000000 in
set_option maxRecDepth 100000 in
theorem yb_chance_j31 {w : ba_W} {X : ba_X} (V : ba_V ba_tC w 9 X cX5_chance RX5 rm_b_chance) {s : ba_St} {o : Int64 × ba_St} (RT : ∀ (pc : Nat) (lv : List (Nat × Value)) (v : Int64) (s : ba_St), decode cX5_chance pc = .ok (.lreturn, 1) → (v, s) = o → ba_G ba_tC w 9 X s pc lv [.long v]) (h : xb_chance_j31 s = some o) : ba_G ba_tC w 9 X s 31 [] [] := by
  unfold xb_chance_j31 at h
  refine ba_ldc2 V dX5_chance_31 kkX5_237 ?_
  exact RT _ _ _ _ dX5_chance_34 (Option.some.inj h)
def xb_chance_l57 (s : ba_St) (z1 : Int32) (z2 : Int32) (z3 : Int32) (k : (Int64 × Int32) → Option (Int64)) (a : (Int64 × Int32)) : Option (Int64) :=
  match a with
  | (z4, z6) =>
    if (ba_fishl 1 (s.1 10 1)) ≤ z6 then
      some z4
    else
      ba_grd (ba_inb z6 256) <|
      if ((ba_fishr (s.1 15 (ba_ix z6)) z2) &&& 1) = 0 then
        ba_lt (z6 + 1) fun x420 =>
        k (z4, x420)
      else
        ba_bnd (xb_weight s z6 z1) fun v421 =>
        ba_lt (z4 + v421) fun x422 =>
        ba_lt (z6 + 1) fun x423 =>
        k (x422, x423)
set_option maxHeartbeats 4000000 in
set_option maxRecDepth 100000 in
theorem yb_chance_l57 {w : ba_W} {X : ba_X} (V : ba_V ba_tC w 9 X cX5_chance RX5 rm_b_chance) {s : ba_St} {z1 : Int32} {z2 : Int32} {z3 : Int32} {o : Int64} (EX : ∀ (z4 : Int64), z4 = o → ba_G ba_tC w 9 X s 106 [(0, .ref (w.1 0)), (3, .int z3), (4, .long z4)] []) : ∀ (n : Nat) (z4 : Int64) (z6 : Int32), ba_fix (xb_chance_l57 s z1 z2 z3) n (z4, z6) = some o → ba_G ba_tC w 9 X s 57 [(0, .ref (w.1 0)), (1, .int z1), (2, .int z2), (3, .int z3), (4, .long z4), (6, .int z6)] [] := by
  intro n z4 z6 h
  refine ba_loop (P := fun a => ba_G ba_tC w 9 X s 57 [(0, .ref (w.1 0)), (1, .int z1), (2, .int z2), (3, .int z3), (4, .long a.1), (6, .int a.2)] []) ?_ n (z4, z6) h
  intro k hk0 a h
  obtain ⟨z4, z6⟩ := a
  have hk : ∀ (z4 : Int64) (z6 : Int32), k (z4, z6) = some o → ba_G ba_tC w 9 X s 57 [(0, .ref (w.1 0)), (1, .int z1), (2, .int z2), (3, .int z3), (4, .long z4), (6, .int z6)] [] := fun z4 z6 e => hk0 (z4, z6) e
  unfold xb_chance_l57 at h
  try dsimp only at h ⊢
  refine ba_iload V dX5_chance_57 5 rfl ?_
  refine ba_iconst V dX5_chance_59 ba_c1 ?_
  refine ba_aload_n V dX5_chance_60 0 rfl ?_
  refine ba_getR V dX5_chance_61 kfX5_22 ba_sBag rfl ?_
  refine ba_getR V dX5_chance_64 kfX5_151 ba_sBoard rfl ?_
  refine ba_getI V dX5_chance_67 kfX5_161 (ba_sSlips ba_isSlips_10) rfl ?_
  refine ba_ishl V dX5_chance_70 ?_
  refine ba_icmp_ge V dX5_chance_71 rfl h (fun h => ?_) (fun h => ?_)
  · exact ba_sub [0, 3, 4] rfl (EX _ (Option.some.inj h))
  · refine ba_aload_n V dX5_chance_74 0 rfl ?_
    refine ba_getR V dX5_chance_75 kfX5_83 ba_sBag rfl ?_
    refine ba_iload V dX5_chance_78 5 rfl ?_
    refine ba_iald V dX5_chance_80 ba_sC_15 h (fun h => ?_)
    refine ba_iload_n V dX5_chance_81 2 rfl ?_
    refine ba_ishr V dX5_chance_82 ?_
    refine ba_iconst V dX5_chance_83 ba_c1 ?_
    refine ba_iand V dX5_chance_84 ?_
    refine ba_if_eq V dX5_chance_85 rfl h (fun h => ?_) (fun h => ?_)
    · refine ba_iinc V dX5_chance_100 5 rfl ba_c1 (by decide) h (fun x420 h => ⟨[(6, .int x420), (0, .ref (w.1 0)), (1, .int z1), (2, .int z2), (3, .int z3), (4, .long z4)], rfl, ?_⟩)
      refine ba_goto V dX5_chance_103 rfl ?_
      exact ba_sub [1, 2, 3, 4, 5, 0] rfl (hk _ _ h)
    · refine ba_lload V dX5_chance_88 4 rfl ?_
      refine ba_aload_n V dX5_chance_90 0 rfl ?_
      refine ba_iload V dX5_chance_91 5 rfl ?_
      refine ba_iload_n V dX5_chance_93 1 rfl ?_
      obtain ⟨v421, hc, h⟩ := ba_bnd_some h
      refine ba_callVL (As := [.int z6, .int z1]) (st := [.long z4]) V dX5_chance_94 kcX5_242 ba_sBag (fun l => yb_weight V.inj l hc) ⟨rfl, rfl⟩ ⟨rfl, rfl, Nat.le_of_ble_eq_true rfl, Nat.le_of_ble_eq_true rfl⟩ (Nat.le_of_ble_eq_true rfl) ?_
      refine ba_ladd V dX5_chance_97 ?_
      refine ba_letL h (fun x422 h => ?_)
      refine ba_lstore (lv' := [(4, .long x422), (0, .ref (w.1 0)), (1, .int z1), (2, .int z2), (3, .int z3), (6, .int z6)]) V dX5_chance_98 (by decide) rfl ?_
      refine ba_iinc V dX5_chance_100 5 rfl ba_c1 (by decide) h (fun x423 h => ⟨[(6, .int x423), (4, .long x422), (0, .ref (w.1 0)), (1, .int z1), (2, .int z2), (3, .int z3)], rfl, ?_⟩)
      refine ba_goto V dX5_chance_103 rfl ?_
      exact ba_sub [2, 3, 4, 5, 1, 0] rfl (hk _ _ h)
def xb_chance_l125 (s : ba_St) (z3 : Int32) (k : (Int64 × Int64 × Int32) → Option (Int64 × Int64)) (a : (Int64 × Int64 × Int32)) : Option (Int64 × Int64) :=
  match a with
  | (z4, z6, z8) =>
    if 32 ≤ z8 then
      some (z4, z6)
    else
      if z6 ≤ 1 then
        some (z4, z6)
      else
        if (ba_lrm z4 2) = 0 then
          ba_lt (z4 / 2) fun x426 =>
          ba_lt (z6 / 2) fun x427 =>
          ba_lt (z8 + 1) fun x428 =>
          k (x426, x427, x428)
        else
          some (z4, z6)
set_option maxHeartbeats 4000000 in
set_option maxRecDepth 100000 in
theorem yb_chance_l125 {w : ba_W} {X : ba_X} (V : ba_V ba_tC w 9 X cX5_chance RX5 rm_b_chance) {s : ba_St} {z3 : Int32} {o : Int64 × Int64} (EX : ∀ (z4 : Int64) (z6 : Int64), (z4, z6) = o → ba_G ba_tC w 9 X s 172 [(3, .int z3), (4, .long z4), (6, .long z6)] []) : ∀ (n : Nat) (z4 : Int64) (z6 : Int64) (z8 : Int32), ba_fix (xb_chance_l125 s z3) n (z4, z6, z8) = some o → ba_G ba_tC w 9 X s 125 [(3, .int z3), (4, .long z4), (6, .long z6), (8, .int z8)] [] := by
  intro n z4 z6 z8 h
  refine ba_loop (P := fun a => ba_G ba_tC w 9 X s 125 [(3, .int z3), (4, .long a.1), (6, .long a.2.1), (8, .int a.2.2)] []) ?_ n (z4, z6, z8) h
  intro k hk0 a h
  obtain ⟨z4, z6, z8⟩ := a
  have hk : ∀ (z4 : Int64) (z6 : Int64) (z8 : Int32), k (z4, z6, z8) = some o → ba_G ba_tC w 9 X s 125 [(3, .int z3), (4, .long z4), (6, .long z6), (8, .int z8)] [] := fun z4 z6 z8 e => hk0 (z4, z6, z8) e
  unfold xb_chance_l125 at h
  try dsimp only at h ⊢
  refine ba_iload V dX5_chance_125 3 rfl ?_
  refine ba_bipush V dX5_chance_127 ba_c32b ?_
  refine ba_icmp_ge V dX5_chance_129 rfl h (fun h => ?_) (fun h => ?_)
  · exact ba_sub [0, 1, 2] rfl (EX _ _ (Option.some.inj h))
  · refine ba_lload V dX5_chance_132 2 rfl ?_
    refine ba_lconst V dX5_chance_134 rfl ?_
    refine ba_lcmp_le V dX5_chance_135 dX5_chance_136 rfl h (fun h => ?_) (fun h => ?_)
    · exact ba_sub [0, 1, 2] rfl (EX _ _ (Option.some.inj h))
    · refine ba_lload V dX5_chance_139 1 rfl ?_
      refine ba_ldc2 V dX5_chance_141 kkX5_246 ?_
      refine ba_lrem V dX5_chance_144 (by decide) ?_
      refine ba_lconst V dX5_chance_145 rfl ?_
      refine ba_lcmp_ne V dX5_chance_146 dX5_chance_147 rfl h (fun h => ?_) (fun h => ?_)
      · refine ba_lload V dX5_chance_150 1 rfl ?_
        refine ba_ldc2 V dX5_chance_152 kkX5_246 ?_
        refine ba_ldiv V dX5_chance_155 (by decide) ?_
        refine ba_letL h (fun x426 h => ?_)
        refine ba_lstore (lv' := [(4, .long x426), (3, .int z3), (6, .long z6), (8, .int z8)]) V dX5_chance_156 (by decide) rfl ?_
        refine ba_lload V dX5_chance_158 2 rfl ?_
        refine ba_ldc2 V dX5_chance_160 kkX5_246 ?_
        refine ba_ldiv V dX5_chance_163 (by decide) ?_
        refine ba_letL h (fun x427 h => ?_)
        refine ba_lstore (lv' := [(6, .long x427), (4, .long x426), (3, .int z3), (8, .int z8)]) V dX5_chance_164 (by decide) rfl ?_
        refine ba_iinc V dX5_chance_166 3 rfl ba_c1 (by decide) h (fun x428 h => ⟨[(8, .int x428), (6, .long x427), (4, .long x426), (3, .int z3)], rfl, ?_⟩)
        refine ba_goto V dX5_chance_169 rfl ?_
        exact ba_sub [3, 2, 1, 0] rfl (hk _ _ _ h)
      · exact ba_sub [0, 1, 2] rfl (EX _ _ (Option.some.inj h))
def xb_chance_j172 (s : ba_St) (z3 : Int32) (z4 : Int64) (z6 : Int64) : Option (Int64 × ba_St) :=
  if z3 = 0 then
    some (z4, s)
  else
    some (z6, s)
set_option maxHeartbeats 4000000 in
set_option maxRecDepth 100000 in
theorem yb_chance_j172 {w : ba_W} {X : ba_X} (V : ba_V ba_tC w 9 X cX5_chance RX5 rm_b_chance) {s : ba_St} {z3 : Int32} {z4 : Int64} {z6 : Int64} {o : Int64 × ba_St} (RT : ∀ (pc : Nat) (lv : List (Nat × Value)) (v : Int64) (s : ba_St), decode cX5_chance pc = .ok (.lreturn, 1) → (v, s) = o → ba_G ba_tC w 9 X s pc lv [.long v]) (h : xb_chance_j172 s z3 z4 z6 = some o) : ba_G ba_tC w 9 X s 172 [(3, .int z3), (4, .long z4), (6, .long z6)] [] := by
  unfold xb_chance_j172 at h
  refine ba_iload_n V dX5_chance_172 0 rfl ?_
  refine ba_if_ne V dX5_chance_173 rfl h (fun h => ?_) (fun h => ?_)
  · refine ba_lload V dX5_chance_176 1 rfl ?_
    refine ba_goto V dX5_chance_178 rfl ?_
    exact RT _ _ _ _ dX5_chance_183 (Option.some.inj h)
  · refine ba_lload V dX5_chance_181 2 rfl ?_
    exact RT _ _ _ _ dX5_chance_183 (Option.some.inj h)
def xb_chance_j51 (s : ba_St) (z1 : Int32) (z2 : Int32) (z3 : Int32) : Option (Int64 × ba_St) :=
  ba_bnd (ba_fix (xb_chance_l57 s z1 z2 z3) 1000 (0, 0)) fun x424 =>
    ba_lt (ba_flshl 1 (4 * (s.1 10 1))) fun x425 =>
    ba_bnd (ba_fix (xb_chance_l125 s z3) 1000 (x424, x425, 0)) fun o => match o with
    | (x429, x430) =>
      xb_chance_j172 s z3 x429 x430
set_option maxHeartbeats 4000000 in
set_option maxRecDepth 100000 in
theorem yb_chance_j51 {w : ba_W} {X : ba_X} (V : ba_V ba_tC w 9 X cX5_chance RX5 rm_b_chance) {s : ba_St} {z1 : Int32} {z2 : Int32} {z3 : Int32} {o : Int64 × ba_St} (RT : ∀ (pc : Nat) (lv : List (Nat × Value)) (v : Int64) (s : ba_St), decode cX5_chance pc = .ok (.lreturn, 1) → (v, s) = o → ba_G ba_tC w 9 X s pc lv [.long v]) (h : xb_chance_j51 s z1 z2 z3 = some o) : ba_G ba_tC w 9 X s 51 [(0, .ref (w.1 0)), (1, .int z1), (2, .int z2), (3, .int z3)] [] := by
  unfold xb_chance_j51 at h
  refine ba_lconst V dX5_chance_51 rfl ?_
  refine ba_lstore (lv' := [(4, .long 0), (0, .ref (w.1 0)), (1, .int z1), (2, .int z2), (3, .int z3)]) V dX5_chance_52 (by decide) rfl ?_
  refine ba_iconst V dX5_chance_54 ba_c0 ?_
  refine ba_istore (lv' := [(6, .int 0), (4, .long 0), (0, .ref (w.1 0)), (1, .int z1), (2, .int z2), (3, .int z3)]) V dX5_chance_55 (by decide) rfl ?_
  obtain ⟨o, ho, h⟩ := ba_bnd_some h
  refine ba_sub [2, 3, 4, 5, 1, 0] rfl (yb_chance_l57 V (o := o) (fun x424 e => ?_) 1000 0 0 ho)
  subst e
  try dsimp only at h
  refine ba_lconst V dX5_chance_106 rfl ?_
  refine ba_iconst V dX5_chance_107 ba_c4 ?_
  refine ba_aload_n V dX5_chance_108 0 rfl ?_
  refine ba_getR V dX5_chance_109 kfX5_22 ba_sBag rfl ?_
  refine ba_getR V dX5_chance_112 kfX5_151 ba_sBoard rfl ?_
  refine ba_getI V dX5_chance_115 kfX5_161 (ba_sSlips ba_isSlips_10) rfl ?_
  refine ba_imul V dX5_chance_118 ?_
  refine ba_lshl V dX5_chance_119 ?_
  refine ba_letL h (fun x425 h => ?_)
  refine ba_lstore (lv' := [(6, .long x425), (0, .ref (w.1 0)), (3, .int z3), (4, .long x424)]) V dX5_chance_120 (by decide) rfl ?_
  refine ba_iconst V dX5_chance_122 ba_c0 ?_
  refine ba_istore (lv' := [(8, .int 0), (6, .long x425), (0, .ref (w.1 0)), (3, .int z3), (4, .long x424)]) V dX5_chance_123 (by decide) rfl ?_
  obtain ⟨o, ho, h⟩ := ba_bnd_some h
  refine ba_sub [3, 4, 1, 0] rfl (yb_chance_l125 V (o := o) (fun x429 x430 e => ?_) 1000 x424 x425 0 ho)
  subst e
  try dsimp only at h
  exact ba_sub [0, 1, 2] rfl (yb_chance_j172 V RT h)
def xb_chance (s : ba_St) (a1 : Int32) (a2 : Int32) (a3 : Int32) : Option (Int64 × ba_St) :=
  ba_bnd (xb_within a1 17) fun v415 =>
  if v415 = 0 then
    xb_chance_j31 s
  else
    ba_bnd (xb_within a2 (s.1 3 7)) fun v416 =>
    if v416 = 0 then
      xb_chance_j31 s
    else
      ba_bnd (xb_within a3 2) fun v417 =>
      if v417 = 0 then
        xb_chance_j31 s
      else
        if (s.1 0 16) = 0 then
          ba_bnd (xb_findBringers s) fun s418 =>
          ba_lt (ba_w s418 0 16 1) fun s419 =>
          xb_chance_j51 s419 a1 a2 a3
        else
          xb_chance_j51 s a1 a2 a3
set_option maxHeartbeats 4000000 in
set_option maxRecDepth 100000 in
theorem yb_chance {w : ba_W} (hj : ba_inj ba_tC w) (l : Launch) {s : ba_St} {a1 : Int32} {a2 : Int32} {a3 : Int32} {o : Int64 × ba_St} (h : xb_chance s a1 a2 a3 = some o) : ba_CL ba_tC w l yX5_chance cX5_chance 9 (some .long) rm_b_chance [.ref (w.1 0), .int a1, .int a2, .int a3] s o := by
  refine ba_metL (lv := [(0, .ref (w.1 0)), (1, .int a1), (2, .int a2), (3, .int a3)]) l hj (by decide +kernel) ⟨Nat.le_of_ble_eq_true rfl, rfl⟩ ?_
  intro X V RT
  unfold xb_chance at h
  refine ba_iload_n V dX5_chance_0 1 rfl ?_
  refine ba_bipush V dX5_chance_1 ba_c17b ?_
  obtain ⟨v415, hc, h⟩ := ba_bnd_some h
  refine ba_callSI (As := [.int a1, .int 17]) (st := []) V dX5_chance_3 kcX5_97 (fun l => yb_within V.inj l hc) ⟨rfl, rfl⟩ ⟨rfl, rfl, Nat.le_of_ble_eq_true rfl, Nat.le_of_ble_eq_true rfl⟩ (Nat.le_of_ble_eq_true rfl) ?_
  refine ba_if_eq V dX5_chance_6 rfl h (fun h => ?_) (fun h => ?_)
  · exact ba_sub [] rfl (yb_chance_j31 V RT h)
  · refine ba_iload_n V dX5_chance_9 2 rfl ?_
    refine ba_aload_n V dX5_chance_10 0 rfl ?_
    refine ba_getR V dX5_chance_11 kfX5_22 ba_sBag rfl ?_
    refine ba_getI V dX5_chance_14 kfX5_132 ba_sBoard rfl ?_
    obtain ⟨v416, hc, h⟩ := ba_bnd_some h
    refine ba_callSI (As := [.int a2, .int (s.1 3 7)]) (st := []) V dX5_chance_17 kcX5_97 (fun l => yb_within V.inj l hc) ⟨rfl, rfl⟩ ⟨rfl, rfl, Nat.le_of_ble_eq_true rfl, Nat.le_of_ble_eq_true rfl⟩ (Nat.le_of_ble_eq_true rfl) ?_
    refine ba_if_eq V dX5_chance_20 rfl h (fun h => ?_) (fun h => ?_)
    · exact ba_sub [] rfl (yb_chance_j31 V RT h)
    · refine ba_iload_n V dX5_chance_23 3 rfl ?_
      refine ba_iconst V dX5_chance_24 ba_c2 ?_
      obtain ⟨v417, hc, h⟩ := ba_bnd_some h
      refine ba_callSI (As := [.int a3, .int 2]) (st := []) V dX5_chance_25 kcX5_97 (fun l => yb_within V.inj l hc) ⟨rfl, rfl⟩ ⟨rfl, rfl, Nat.le_of_ble_eq_true rfl, Nat.le_of_ble_eq_true rfl⟩ (Nat.le_of_ble_eq_true rfl) ?_
      refine ba_if_ne V dX5_chance_28 rfl h (fun h => ?_) (fun h => ?_)
      · exact ba_sub [] rfl (yb_chance_j31 V RT h)
      · refine ba_aload_n V dX5_chance_35 0 rfl ?_
        refine ba_getI V dX5_chance_36 kfX5_80 ba_sBag rfl ?_
        refine ba_if_ne V dX5_chance_39 rfl h (fun h => ?_) (fun h => ?_)
        · refine ba_aload_n V dX5_chance_42 0 rfl ?_
          obtain ⟨s418, hc, h⟩ := ba_bnd_some h
          refine ba_callVV (As := []) (st := []) V dX5_chance_43 kcX5_239 ba_sBag (fun l => yb_findBringers V.inj l hc) ⟨rfl, rfl⟩ ⟨rfl, rfl, Nat.le_of_ble_eq_true rfl, Nat.le_of_ble_eq_true rfl⟩ (Nat.le_of_ble_eq_true rfl) ?_
          refine ba_aload_n V dX5_chance_46 0 rfl ?_
          refine ba_iconst V dX5_chance_47 ba_c1 ?_
          refine ba_putZ V dX5_chance_48 kfX5_80 ba_sBag rfl ba_y1 h (fun s419 h => ?_)
          exact ba_sub [0, 1, 2, 3] rfl (yb_chance_j51 V RT h)
        · exact ba_sub [0, 1, 2, 3] rfl (yb_chance_j51 V RT h)
def xb_nextSeed (a0 : Int32) : Option (Int32) :=
  some ((1103515245 * a0) + 12345)
set_option maxHeartbeats 4000000 in
set_option maxRecDepth 100000 in
theorem yb_nextSeed {w : ba_W} (hj : ba_inj ba_tC w) (l : Launch) {σ : ba_St} {a0 : Int32} {o : Int32} (h : xb_nextSeed a0 = some o) : ba_CI ba_tC w l yX5_nextSeed cX5_nextSeed 1 (some .int) rm_b_nextSeed [.int a0] σ (o, σ) := by
  refine ba_metI (lv := [(0, .int a0)]) l hj (by decide +kernel) ⟨Nat.le_of_ble_eq_true rfl, rfl⟩ ?_
  intro X V RT
  replace RT := fun pc lv v D e => RT pc lv v σ D (congrArg (fun q => (q, σ)) e)
  unfold xb_nextSeed at h
  refine ba_ldc_w V dX5_nextSeed_0 kkX5_370 ?_
  refine ba_iload_n V dX5_nextSeed_3 0 rfl ?_
  refine ba_imul V dX5_nextSeed_4 ?_
  refine ba_sipush V dX5_nextSeed_5 ba_c12345s ?_
  refine ba_iadd V dX5_nextSeed_8 ?_
  exact RT _ _ _ dX5_nextSeed_9 (Option.some.inj h)
def xb_sundays_l42 (z2 : Int32) (z3 : Int32) (k : (ba_St × Int32 × Int32) → Option (ba_St)) (a : (ba_St × Int32 × Int32)) : Option (ba_St) :=
  match a with
  | (s, z4, z5) =>
    if z2 ≤ z5 then
      some s
    else
      ba_bnd (xb_nextSeed z4) fun v434 =>
      ba_grd (ba_inb z5 12) <|
      ba_lt (ba_w s (46 + 2) (ba_ix z5) (ba_irm (ba_fiushr v434 16) 24)) fun s435 =>
      ba_bnd (xb_nextSeed v434) fun v436 =>
      ba_grd (ba_inb z5 12) <|
      ba_lt (ba_w s435 (46 + 3) (ba_ix z5) ((ba_irm (ba_fiushr v436 16) 9) + 1)) fun s437 =>
      ba_lt (z5 + 1) fun x438 =>
      k (s437, v436, x438)
set_option maxHeartbeats 4000000 in
set_option maxRecDepth 100000 in
theorem yb_sundays_l42 {w : ba_W} {X : ba_X} (V : ba_V ba_tC w 6 X cX5_sundays RX5 rm_b_sundays) {z2 : Int32} {z3 : Int32} {o : ba_St} (EX : ∀ (s : ba_St) , s = o → ba_G ba_tC w 6 X s 106 [(0, .ref (w.1 0)), (3, .int z3)] []) : ∀ (n : Nat) (s : ba_St) (z4 : Int32) (z5 : Int32), ba_fix (xb_sundays_l42 z2 z3) n (s, z4, z5) = some o → ba_G ba_tC w 6 X s 42 [(0, .ref (w.1 0)), (2, .int z2), (3, .int z3), (4, .int z4), (5, .int z5)] [] := by
  intro n s z4 z5 h
  refine ba_loop (P := fun a => ba_G ba_tC w 6 X a.1 42 [(0, .ref (w.1 0)), (2, .int z2), (3, .int z3), (4, .int a.2.1), (5, .int a.2.2)] []) ?_ n (s, z4, z5) h
  intro k hk0 a h
  obtain ⟨s, z4, z5⟩ := a
  have hk : ∀ (s : ba_St) (z4 : Int32) (z5 : Int32), k (s, z4, z5) = some o → ba_G ba_tC w 6 X s 42 [(0, .ref (w.1 0)), (2, .int z2), (3, .int z3), (4, .int z4), (5, .int z5)] [] := fun s z4 z5 e => hk0 (s, z4, z5) e
  unfold xb_sundays_l42 at h
  try dsimp only at h ⊢
  refine ba_iload V dX5_sundays_42 4 rfl ?_
  refine ba_iload_n V dX5_sundays_44 1 rfl ?_
  refine ba_icmp_ge V dX5_sundays_45 rfl h (fun h => ?_) (fun h => ?_)
  · exact ba_sub [0, 2] rfl (EX _ (Option.some.inj h))
  · refine ba_iload V dX5_sundays_48 3 rfl ?_
    obtain ⟨v434, hc, h⟩ := ba_bnd_some h
    refine ba_callSI (As := [.int z4]) (st := []) V dX5_sundays_50 kcX5_249 (fun l => yb_nextSeed V.inj l hc) ⟨rfl, rfl⟩ ⟨rfl, rfl, Nat.le_of_ble_eq_true rfl, Nat.le_of_ble_eq_true rfl⟩ (Nat.le_of_ble_eq_true rfl) ?_
    refine ba_istore (lv' := [(4, .int v434), (0, .ref (w.1 0)), (2, .int z2), (3, .int z3), (5, .int z5)]) V dX5_sundays_53 (by decide) rfl ?_
    refine ba_aload_n V dX5_sundays_55 1 rfl ?_
    refine ba_getR V dX5_sundays_56 kfX5_35 ba_sBag rfl ?_
    refine ba_getR V dX5_sundays_59 kfX5_252 (ba_sCourse ba_isCourse_46) rfl ?_
    refine ba_iload V dX5_sundays_62 4 rfl ?_
    refine ba_iload V dX5_sundays_64 0 rfl ?_
    refine ba_bipush V dX5_sundays_66 ba_c16b ?_
    refine ba_iushr V dX5_sundays_68 ?_
    refine ba_bipush V dX5_sundays_69 ba_c24b ?_
    refine ba_irem V dX5_sundays_71 (by decide) ?_
    refine ba_iast V dX5_sundays_72 (ba_sCourse_2 ba_isCourse_46) h (fun s435 h => ?_)
    refine ba_iload V dX5_sundays_73 0 rfl ?_
    obtain ⟨v436, hc, h⟩ := ba_bnd_some h
    refine ba_callSI (As := [.int v434]) (st := []) V dX5_sundays_75 kcX5_249 (fun l => yb_nextSeed V.inj l hc) ⟨rfl, rfl⟩ ⟨rfl, rfl, Nat.le_of_ble_eq_true rfl, Nat.le_of_ble_eq_true rfl⟩ (Nat.le_of_ble_eq_true rfl) ?_
    refine ba_istore (lv' := [(4, .int v436), (0, .ref (w.1 0)), (2, .int z2), (3, .int z3), (5, .int z5)]) V dX5_sundays_78 (by decide) rfl ?_
    refine ba_aload_n V dX5_sundays_80 1 rfl ?_
    refine ba_getR V dX5_sundays_81 kfX5_35 ba_sBag rfl ?_
    refine ba_getR V dX5_sundays_84 kfX5_255 (ba_sCourse ba_isCourse_46) rfl ?_
    refine ba_iload V dX5_sundays_87 4 rfl ?_
    refine ba_iload V dX5_sundays_89 0 rfl ?_
    refine ba_bipush V dX5_sundays_91 ba_c16b ?_
    refine ba_iushr V dX5_sundays_93 ?_
    refine ba_bipush V dX5_sundays_94 ba_c9b ?_
    refine ba_irem V dX5_sundays_96 (by decide) ?_
    refine ba_iconst V dX5_sundays_97 ba_c1 ?_
    refine ba_iadd V dX5_sundays_98 ?_
    refine ba_iast V dX5_sundays_99 (ba_sCourse_3 ba_isCourse_46) h (fun s437 h => ?_)
    refine ba_iinc V dX5_sundays_100 4 rfl ba_c1 (by decide) h (fun x438 h => ⟨[(5, .int x438), (4, .int v436), (0, .ref (w.1 0)), (2, .int z2), (3, .int z3)], rfl, ?_⟩)
    refine ba_goto V dX5_sundays_103 rfl ?_
    exact ba_sub [2, 3, 4, 1, 0] rfl (hk _ _ _ h)
def xb_sundays (s : ba_St) (a1 : Int32) (a2 : Int32) (a3 : Int32) : Option (Int32 × ba_St) :=
  if a2 < 0 then
    some ((-2), s)
  else
    if 12 < a2 then
      some ((-2), s)
    else
      ba_bnd (xb_within a3 2) fun v431 =>
      if v431 = 0 then
        some ((-2), s)
      else
        ba_bnd (xc_takeTold s 46) fun s432 =>
        ba_lt (ba_w s432 46 4 a2) fun s433 =>
        ba_bnd (ba_fix (xb_sundays_l42 a2 a3) 1000 (s433, a1, 0)) fun s439 =>
          ba_bnd (xc_run s439 46) fun s440 =>
          if a3 = 0 then
            ba_bnd (xc_score s440 46) fun v441 =>
            some (v441, s440)
          else
            ba_bnd (xc_lost s440 46) fun v442 =>
            some (v442, s440)
set_option maxHeartbeats 4000000 in
set_option maxRecDepth 100000 in
theorem yb_sundays {w : ba_W} (hj : ba_inj ba_tC w) (l : Launch) {s : ba_St} {a1 : Int32} {a2 : Int32} {a3 : Int32} {o : Int32 × ba_St} (h : xb_sundays s a1 a2 a3 = some o) : ba_CI ba_tC w l yX5_sundays cX5_sundays 6 (some .int) rm_b_sundays [.ref (w.1 0), .int a1, .int a2, .int a3] s o := by
  refine ba_metI (lv := [(0, .ref (w.1 0)), (1, .int a1), (2, .int a2), (3, .int a3)]) l hj (by decide +kernel) ⟨Nat.le_of_ble_eq_true rfl, rfl⟩ ?_
  intro X V RT
  unfold xb_sundays at h
  refine ba_iload_n V dX5_sundays_0 2 rfl ?_
  refine ba_if_lt V dX5_sundays_1 rfl h (fun h => ?_) (fun h => ?_)
  · refine ba_bipush V dX5_sundays_18 ba_cm2b ?_
    exact RT _ _ _ _ dX5_sundays_20 (Option.some.inj h)
  · refine ba_iload_n V dX5_sundays_4 2 rfl ?_
    refine ba_bipush V dX5_sundays_5 ba_c12b ?_
    refine ba_icmp_gt V dX5_sundays_7 rfl h (fun h => ?_) (fun h => ?_)
    · refine ba_bipush V dX5_sundays_18 ba_cm2b ?_
      exact RT _ _ _ _ dX5_sundays_20 (Option.some.inj h)
    · refine ba_iload_n V dX5_sundays_10 3 rfl ?_
      refine ba_iconst V dX5_sundays_11 ba_c2 ?_
      obtain ⟨v431, hc, h⟩ := ba_bnd_some h
      refine ba_callSI (As := [.int a3, .int 2]) (st := []) V dX5_sundays_12 kcX5_97 (fun l => yb_within V.inj l hc) ⟨rfl, rfl⟩ ⟨rfl, rfl, Nat.le_of_ble_eq_true rfl, Nat.le_of_ble_eq_true rfl⟩ (Nat.le_of_ble_eq_true rfl) ?_
      refine ba_if_ne V dX5_sundays_15 rfl h (fun h => ?_) (fun h => ?_)
      · refine ba_bipush V dX5_sundays_18 ba_cm2b ?_
        exact RT _ _ _ _ dX5_sundays_20 (Option.some.inj h)
      · refine ba_aload_n V dX5_sundays_21 0 rfl ?_
        refine ba_getR V dX5_sundays_22 kfX5_35 ba_sBag rfl ?_
        obtain ⟨s432, hc, h⟩ := ba_bnd_some h
        refine ba_callVV (As := []) (st := []) V dX5_sundays_25 kcX5_215 (ba_sCourse ba_isCourse_46) (fun l => yc_takeTold V.inj l ba_isCourse_46 hc) ⟨rfl, rfl⟩ ⟨rfl, rfl, Nat.le_of_ble_eq_true rfl, Nat.le_of_ble_eq_true rfl⟩ (Nat.le_of_ble_eq_true rfl) ?_
        refine ba_aload_n V dX5_sundays_28 0 rfl ?_
        refine ba_getR V dX5_sundays_29 kfX5_35 ba_sBag rfl ?_
        refine ba_iload_n V dX5_sundays_32 2 rfl ?_
        refine ba_putI V dX5_sundays_33 kfX5_248 (ba_sCourse ba_isCourse_46) rfl h (fun s433 h => ?_)
        refine ba_iload_n V dX5_sundays_36 1 rfl ?_
        refine ba_istore (lv' := [(4, .int a1), (0, .ref (w.1 0)), (1, .int a1), (2, .int a2), (3, .int a3)]) V dX5_sundays_37 (by decide) rfl ?_
        refine ba_iconst V dX5_sundays_39 ba_c0 ?_
        refine ba_istore (lv' := [(5, .int 0), (4, .int a1), (0, .ref (w.1 0)), (1, .int a1), (2, .int a2), (3, .int a3)]) V dX5_sundays_40 (by decide) rfl ?_
        obtain ⟨o, ho, h⟩ := ba_bnd_some h
        refine ba_sub [2, 4, 5, 1, 0] rfl (yb_sundays_l42 V (o := o) (fun s439 e => ?_) 1000 s433 a1 0 ho)
        subst e
        try dsimp only at h
        refine ba_aload_n V dX5_sundays_106 0 rfl ?_
        refine ba_getR V dX5_sundays_107 kfX5_35 ba_sBag rfl ?_
        obtain ⟨s440, hc, h⟩ := ba_bnd_some h
        refine ba_callVV (As := []) (st := []) V dX5_sundays_110 kcX5_221 (ba_sCourse ba_isCourse_46) (fun l => yc_run V.inj l ba_isCourse_46 hc) ⟨rfl, rfl⟩ ⟨rfl, rfl, Nat.le_of_ble_eq_true rfl, Nat.le_of_ble_eq_true rfl⟩ (Nat.le_of_ble_eq_true rfl) ?_
        refine ba_iload_n V dX5_sundays_113 1 rfl ?_
        refine ba_if_ne V dX5_sundays_114 rfl h (fun h => ?_) (fun h => ?_)
        · refine ba_aload_n V dX5_sundays_117 0 rfl ?_
          refine ba_getR V dX5_sundays_118 kfX5_35 ba_sBag rfl ?_
          obtain ⟨v441, hc, h⟩ := ba_bnd_some h
          refine ba_callVI (As := []) (st := []) V dX5_sundays_121 kcX5_196 (ba_sCourse ba_isCourse_46) (fun l => yc_score V.inj l ba_isCourse_46 hc) ⟨rfl, rfl⟩ ⟨rfl, rfl, Nat.le_of_ble_eq_true rfl, Nat.le_of_ble_eq_true rfl⟩ (Nat.le_of_ble_eq_true rfl) ?_
          refine ba_goto V dX5_sundays_124 rfl ?_
          exact RT _ _ _ _ dX5_sundays_134 (Option.some.inj h)
        · refine ba_aload_n V dX5_sundays_127 0 rfl ?_
          refine ba_getR V dX5_sundays_128 kfX5_35 ba_sBag rfl ?_
          obtain ⟨v442, hc, h⟩ := ba_bnd_some h
          refine ba_callVI (As := []) (st := []) V dX5_sundays_131 kcX5_203 (ba_sCourse ba_isCourse_46) (fun l => yc_lost V.inj l ba_isCourse_46 hc) ⟨rfl, rfl⟩ ⟨rfl, rfl, Nat.le_of_ble_eq_true rfl, Nat.le_of_ble_eq_true rfl⟩ (Nat.le_of_ble_eq_true rfl) ?_
          exact RT _ _ _ _ dX5_sundays_134 (Option.some.inj h)
def xs_renew (s : ba_St) (b : Nat) (a1 : Int32) (a2 : Int32) : Option (ba_St) :=
  ba_lt (ba_w s b 1 a1) fun s443 =>
  ba_lt (ba_w s443 b 2 a2) fun s444 =>
  ba_lt (ba_w s444 b 3 0) fun s445 =>
  ba_bnd (xj_fill s445 (b + 1) 60 0) fun s446 =>
  some s446
set_option maxHeartbeats 4000000 in
set_option maxRecDepth 100000 in
theorem ys_renew {w : ba_W} (hj : ba_inj ba_tC w) (l : Launch) {s : ba_St} {b : Nat} {a1 : Int32} {a2 : Int32} (hb : ba_isSheet b) {o : ba_St} (h : xs_renew s b a1 a2 = some o) : ba_CV ba_tC w l yX2_renew cX2_renew 3 none rm_s_renew [.ref (w.1 b), .int a1, .int a2] s o := by
  refine ba_metV (lv := [(0, .ref (w.1 b)), (1, .int a1), (2, .int a2)]) l hj (by decide +kernel) ⟨Nat.le_of_ble_eq_true rfl, rfl⟩ ?_
  intro X V RT
  unfold xs_renew at h
  refine ba_aload_n V dX2_renew_0 0 rfl ?_
  refine ba_iload_n V dX2_renew_1 1 rfl ?_
  refine ba_putI V dX2_renew_2 kfX2_15 (ba_sSheet hb) rfl h (fun s443 h => ?_)
  refine ba_aload_n V dX2_renew_5 0 rfl ?_
  refine ba_iload_n V dX2_renew_6 2 rfl ?_
  refine ba_putI V dX2_renew_7 kfX2_19 (ba_sSheet hb) rfl h (fun s444 h => ?_)
  refine ba_aload_n V dX2_renew_10 0 rfl ?_
  refine ba_iconst V dX2_renew_11 ba_c0 ?_
  refine ba_putZ V dX2_renew_12 kfX2_22 (ba_sSheet hb) rfl ba_y0 h (fun s445 h => ?_)
  refine ba_aload_n V dX2_renew_15 0 rfl ?_
  refine ba_getR V dX2_renew_16 kfX2_9 (ba_sSheet hb) rfl ?_
  refine ba_iconst V dX2_renew_19 ba_c0 ?_
  obtain ⟨s446, hc, h⟩ := ba_bnd_some h
  refine ba_callSV (As := [.ref (w.1 (b + 1)), .int 0]) (st := []) V dX2_renew_20 kcX2_26 (fun l => yj_fill V.inj l (ba_sSheet_1 hb) hc) ⟨rfl, rfl⟩ ⟨rfl, rfl, Nat.le_of_ble_eq_true rfl, Nat.le_of_ble_eq_true rfl⟩ (Nat.le_of_ble_eq_true rfl) ?_
  exact RT _ _ _ dX2_renew_23 (Option.some.inj h)
def xb_sheet (s : ba_St) (a1 : Int32) (a2 : Int32) (a3 : Int32) : Option (Int32 × ba_St) :=
  ba_bnd (xb_within a1 4) fun v447 =>
  if v447 = 0 then
    some ((-2), s)
  else
    ba_bnd (xb_within a2 3) fun v448 =>
    if v448 = 0 then
      some ((-2), s)
    else
      if a3 ≤ 60 then
        if 0 ≤ a3 then
          ba_grd (ba_inb a1 4) <|
          ba_bnd (xs_renew s (23 + 2 * ba_ix a1) a2 a3) fun s450 =>
          some (a3, s450)
        else
          ba_bn2 (xb_found s 5) fun v451 s452 =>
          some (v451, s452)
      else
        some ((-2), s)
set_option maxHeartbeats 4000000 in
set_option maxRecDepth 100000 in
theorem yb_sheet {w : ba_W} (hj : ba_inj ba_tC w) (l : Launch) {s : ba_St} {a1 : Int32} {a2 : Int32} {a3 : Int32} {o : Int32 × ba_St} (h : xb_sheet s a1 a2 a3 = some o) : ba_CI ba_tC w l yX5_sheet cX5_sheet 4 (some .int) rm_b_sheet [.ref (w.1 0), .int a1, .int a2, .int a3] s o := by
  refine ba_metI (lv := [(0, .ref (w.1 0)), (1, .int a1), (2, .int a2), (3, .int a3)]) l hj (by decide +kernel) ⟨Nat.le_of_ble_eq_true rfl, rfl⟩ ?_
  intro X V RT
  unfold xb_sheet at h
  refine ba_iload_n V dX5_sheet_0 1 rfl ?_
  refine ba_iconst V dX5_sheet_1 ba_c4 ?_
  obtain ⟨v447, hc, h⟩ := ba_bnd_some h
  refine ba_callSI (As := [.int a1, .int 4]) (st := []) V dX5_sheet_2 kcX5_97 (fun l => yb_within V.inj l hc) ⟨rfl, rfl⟩ ⟨rfl, rfl, Nat.le_of_ble_eq_true rfl, Nat.le_of_ble_eq_true rfl⟩ (Nat.le_of_ble_eq_true rfl) ?_
  refine ba_if_eq V dX5_sheet_5 rfl h (fun h => ?_) (fun h => ?_)
  · refine ba_bipush V dX5_sheet_22 ba_cm2b ?_
    exact RT _ _ _ _ dX5_sheet_24 (Option.some.inj h)
  · refine ba_iload_n V dX5_sheet_8 2 rfl ?_
    refine ba_iconst V dX5_sheet_9 ba_c3 ?_
    obtain ⟨v448, hc, h⟩ := ba_bnd_some h
    refine ba_callSI (As := [.int a2, .int 3]) (st := []) V dX5_sheet_10 kcX5_97 (fun l => yb_within V.inj l hc) ⟨rfl, rfl⟩ ⟨rfl, rfl, Nat.le_of_ble_eq_true rfl, Nat.le_of_ble_eq_true rfl⟩ (Nat.le_of_ble_eq_true rfl) ?_
    refine ba_if_eq V dX5_sheet_13 rfl h (fun h => ?_) (fun h => ?_)
    · refine ba_bipush V dX5_sheet_22 ba_cm2b ?_
      exact RT _ _ _ _ dX5_sheet_24 (Option.some.inj h)
    · refine ba_iload_n V dX5_sheet_16 3 rfl ?_
      refine ba_bipush V dX5_sheet_17 ba_c60b ?_
      refine ba_icmp_le V dX5_sheet_19 rfl h (fun h => ?_) (fun h => ?_)
      · refine ba_iload_n V dX5_sheet_25 3 rfl ?_
        refine ba_if_ge V dX5_sheet_26 rfl h (fun h => ?_) (fun h => ?_)
        · refine ba_aload_n V dX5_sheet_35 0 rfl ?_
          refine ba_getR V dX5_sheet_36 kfX5_47 ba_sBag rfl ?_
          refine ba_iload_n V dX5_sheet_39 1 rfl ?_
          refine ba_aald V dX5_sheet_40 ba_sC_14 h (fun z h => ?_)
          have hz449 := ba_elSheet z
          refine ba_iload_n V dX5_sheet_41 2 rfl ?_
          refine ba_iload_n V dX5_sheet_42 3 rfl ?_
          obtain ⟨s450, hc, h⟩ := ba_bnd_some h
          refine ba_callVV (As := [.int a2, .int a3]) (st := []) V dX5_sheet_43 kcX5_258 (ba_sSheet hz449) (fun l => ys_renew V.inj l hz449 hc) ⟨rfl, rfl⟩ ⟨rfl, rfl, Nat.le_of_ble_eq_true rfl, Nat.le_of_ble_eq_true rfl⟩ (Nat.le_of_ble_eq_true rfl) ?_
          refine ba_iload_n V dX5_sheet_46 3 rfl ?_
          exact RT _ _ _ _ dX5_sheet_47 (Option.some.inj h)
        · refine ba_aload_n V dX5_sheet_29 0 rfl ?_
          refine ba_iconst V dX5_sheet_30 ba_c5 ?_
          obtain ⟨v451, s452, hc, h⟩ := ba_bn2_some h
          refine ba_callVI (As := [.int 5]) (st := []) V dX5_sheet_31 kcX5_165 ba_sBag (fun l => yb_found V.inj l hc) ⟨rfl, rfl⟩ ⟨rfl, rfl, Nat.le_of_ble_eq_true rfl, Nat.le_of_ble_eq_true rfl⟩ (Nat.le_of_ble_eq_true rfl) ?_
          exact RT _ _ _ _ dX5_sheet_34 (Option.some.inj h)
      · refine ba_bipush V dX5_sheet_22 ba_cm2b ?_
        exact RT _ _ _ _ dX5_sheet_24 (Option.some.inj h)
def xb_lose (s : ba_St) (a1 : Int32) : Option (Int32 × ba_St) :=
  ba_bnd (xb_within a1 4) fun v453 =>
  if v453 = 0 then
    some ((-2), s)
  else
    ba_grd (ba_inb a1 4) <|
    if (s.1 (23 + 2 * ba_ix a1) 3) = 0 then
      ba_grd (ba_inb a1 4) <|
      ba_lt (ba_w s (23 + 2 * ba_ix a1) 3 1) fun s456 =>
      ba_grd (ba_inb a1 4) <|
      some ((s456.1 (23 + 2 * ba_ix a1) 2), s456)
    else
      ba_bn2 (xb_found s 1) fun v458 s459 =>
      some (v458, s459)
set_option maxHeartbeats 4000000 in
set_option maxRecDepth 100000 in
theorem yb_lose {w : ba_W} (hj : ba_inj ba_tC w) (l : Launch) {s : ba_St} {a1 : Int32} {o : Int32 × ba_St} (h : xb_lose s a1 = some o) : ba_CI ba_tC w l yX5_lose cX5_lose 2 (some .int) rm_b_lose [.ref (w.1 0), .int a1] s o := by
  refine ba_metI (lv := [(0, .ref (w.1 0)), (1, .int a1)]) l hj (by decide +kernel) ⟨Nat.le_of_ble_eq_true rfl, rfl⟩ ?_
  intro X V RT
  unfold xb_lose at h
  refine ba_iload_n V dX5_lose_0 1 rfl ?_
  refine ba_iconst V dX5_lose_1 ba_c4 ?_
  obtain ⟨v453, hc, h⟩ := ba_bnd_some h
  refine ba_callSI (As := [.int a1, .int 4]) (st := []) V dX5_lose_2 kcX5_97 (fun l => yb_within V.inj l hc) ⟨rfl, rfl⟩ ⟨rfl, rfl, Nat.le_of_ble_eq_true rfl, Nat.le_of_ble_eq_true rfl⟩ (Nat.le_of_ble_eq_true rfl) ?_
  refine ba_if_ne V dX5_lose_5 rfl h (fun h => ?_) (fun h => ?_)
  · refine ba_bipush V dX5_lose_8 ba_cm2b ?_
    exact RT _ _ _ _ dX5_lose_10 (Option.some.inj h)
  · refine ba_aload_n V dX5_lose_11 0 rfl ?_
    refine ba_getR V dX5_lose_12 kfX5_47 ba_sBag rfl ?_
    refine ba_iload_n V dX5_lose_15 1 rfl ?_
    refine ba_aald V dX5_lose_16 ba_sC_14 h (fun z h => ?_)
    have hz454 := ba_elSheet z
    refine ba_getI V dX5_lose_17 kfX5_162 (ba_sSheet hz454) rfl ?_
    refine ba_if_eq V dX5_lose_20 rfl h (fun h => ?_) (fun h => ?_)
    · refine ba_aload_n V dX5_lose_29 0 rfl ?_
      refine ba_getR V dX5_lose_30 kfX5_47 ba_sBag rfl ?_
      refine ba_iload_n V dX5_lose_33 1 rfl ?_
      refine ba_aald V dX5_lose_34 ba_sC_14 h (fun z h => ?_)
      have hz455 := ba_elSheet z
      refine ba_iconst V dX5_lose_35 ba_c1 ?_
      refine ba_putZ V dX5_lose_36 kfX5_162 (ba_sSheet hz455) rfl ba_y1 h (fun s456 h => ?_)
      refine ba_aload_n V dX5_lose_39 0 rfl ?_
      refine ba_getR V dX5_lose_40 kfX5_47 ba_sBag rfl ?_
      refine ba_iload_n V dX5_lose_43 1 rfl ?_
      refine ba_aald V dX5_lose_44 ba_sC_14 h (fun z h => ?_)
      have hz457 := ba_elSheet z
      refine ba_getI V dX5_lose_45 kfX5_172 (ba_sSheet hz457) rfl ?_
      exact RT _ _ _ _ dX5_lose_48 (Option.some.inj h)
    · refine ba_aload_n V dX5_lose_23 0 rfl ?_
      refine ba_iconst V dX5_lose_24 ba_c1 ?_
      obtain ⟨v458, s459, hc, h⟩ := ba_bn2_some h
      refine ba_callVI (As := [.int 1]) (st := []) V dX5_lose_25 kcX5_165 ba_sBag (fun l => yb_found V.inj l hc) ⟨rfl, rfl⟩ ⟨rfl, rfl, Nat.le_of_ble_eq_true rfl, Nat.le_of_ble_eq_true rfl⟩ (Nat.le_of_ble_eq_true rfl) ?_
      exact RT _ _ _ _ dX5_lose_28 (Option.some.inj h)
def xs_findingFor (s : ba_St) (b : Nat) (a1 : Int32) (a2 : Int32) : Option (Int32) :=
  if (s.1 b 3) = 0 then
    if a1 = (s.1 b 1) then
      ba_bnd (xb_within a2 (s.1 b 2)) fun v460 =>
      if v460 = 0 then
        some 2
      else
        some 0
    else
      some 3
  else
    some 1
set_option maxHeartbeats 4000000 in
set_option maxRecDepth 100000 in
theorem ys_findingFor {w : ba_W} (hj : ba_inj ba_tC w) (l : Launch) {s : ba_St} {b : Nat} {a1 : Int32} {a2 : Int32} (hb : ba_isSheet b) {o : Int32} (h : xs_findingFor s b a1 a2 = some o) : ba_CI ba_tC w l yX2_findingFor cX2_findingFor 3 (some .int) rm_s_findingFor [.ref (w.1 b), .int a1, .int a2] s (o, s) := by
  refine ba_metI (lv := [(0, .ref (w.1 b)), (1, .int a1), (2, .int a2)]) l hj (by decide +kernel) ⟨Nat.le_of_ble_eq_true rfl, rfl⟩ ?_
  intro X V RT
  replace RT := fun pc lv v D e => RT pc lv v s D (congrArg (fun q => (q, s)) e)
  unfold xs_findingFor at h
  refine ba_aload_n V dX2_findingFor_0 0 rfl ?_
  refine ba_getI V dX2_findingFor_1 kfX2_22 (ba_sSheet hb) rfl ?_
  refine ba_if_eq V dX2_findingFor_4 rfl h (fun h => ?_) (fun h => ?_)
  · refine ba_iload_n V dX2_findingFor_9 1 rfl ?_
    refine ba_aload_n V dX2_findingFor_10 0 rfl ?_
    refine ba_getI V dX2_findingFor_11 kfX2_15 (ba_sSheet hb) rfl ?_
    refine ba_icmp_eq V dX2_findingFor_14 rfl h (fun h => ?_) (fun h => ?_)
    · refine ba_iload_n V dX2_findingFor_19 2 rfl ?_
      refine ba_aload_n V dX2_findingFor_20 0 rfl ?_
      refine ba_getI V dX2_findingFor_21 kfX2_19 (ba_sSheet hb) rfl ?_
      obtain ⟨v460, hc, h⟩ := ba_bnd_some h
      refine ba_callNI (As := [.int a2, .int (s.1 b 2)]) (st := []) V dX2_findingFor_24 kcX2_32 (fun l => yb_within V.inj l hc) ⟨rfl, rfl⟩ ⟨rfl, rfl, Nat.le_of_ble_eq_true rfl, Nat.le_of_ble_eq_true rfl⟩ (Nat.le_of_ble_eq_true rfl) ?_
      refine ba_if_eq V dX2_findingFor_27 rfl h (fun h => ?_) (fun h => ?_)
      · refine ba_iconst V dX2_findingFor_34 ba_c2 ?_
        exact RT _ _ _ dX2_findingFor_35 (Option.some.inj h)
      · refine ba_iconst V dX2_findingFor_30 ba_c0 ?_
        refine ba_goto V dX2_findingFor_31 rfl ?_
        exact RT _ _ _ dX2_findingFor_35 (Option.some.inj h)
    · refine ba_iconst V dX2_findingFor_17 ba_c3 ?_
      exact RT _ _ _ dX2_findingFor_18 (Option.some.inj h)
  · refine ba_iconst V dX2_findingFor_7 ba_c1 ?_
    exact RT _ _ _ dX2_findingFor_8 (Option.some.inj h)
def xs_put (s : ba_St) (b : Nat) (a1 : Int32) (a2 : Int32) : Option (ba_St) :=
  if (s.1 b 1) = 0 then
    ba_grd (ba_inb a1 60) <|
    ba_lt (ba_w s (b + 1) (ba_ix a1) (ba_i8 a2)) fun s461 =>
    some s461
  else
    if (s.1 b 1) = 1 then
      ba_grd (ba_inb a1 60) <|
      ba_lt (ba_w s (b + 1) (ba_ix a1) (ba_i16 a2)) fun s462 =>
      some s462
    else
      ba_grd (ba_inb a1 60) <|
      ba_lt (ba_w s (b + 1) (ba_ix a1) a2) fun s463 =>
      some s463
set_option maxHeartbeats 4000000 in
set_option maxRecDepth 100000 in
theorem ys_put {w : ba_W} (hj : ba_inj ba_tC w) (l : Launch) {s : ba_St} {b : Nat} {a1 : Int32} {a2 : Int32} (hb : ba_isSheet b) {o : ba_St} (h : xs_put s b a1 a2 = some o) : ba_CV ba_tC w l yX2_put cX2_put 3 none rm_s_put [.ref (w.1 b), .int a1, .int a2] s o := by
  refine ba_metV (lv := [(0, .ref (w.1 b)), (1, .int a1), (2, .int a2)]) l hj (by decide +kernel) ⟨Nat.le_of_ble_eq_true rfl, rfl⟩ ?_
  intro X V RT
  unfold xs_put at h
  refine ba_aload_n V dX2_put_0 0 rfl ?_
  refine ba_getI V dX2_put_1 kfX2_15 (ba_sSheet hb) rfl ?_
  refine ba_if_ne V dX2_put_4 rfl h (fun h => ?_) (fun h => ?_)
  · refine ba_aload_n V dX2_put_7 0 rfl ?_
    refine ba_getR V dX2_put_8 kfX2_9 (ba_sSheet hb) rfl ?_
    refine ba_iload_n V dX2_put_11 1 rfl ?_
    refine ba_iload_n V dX2_put_12 2 rfl ?_
    refine ba_i2b V dX2_put_13 ?_
    refine ba_iast V dX2_put_14 (ba_sSheet_1 hb) h (fun s461 h => ?_)
    refine ba_goto V dX2_put_15 rfl ?_
    exact RT _ _ _ dX2_put_44 (Option.some.inj h)
  · refine ba_aload_n V dX2_put_18 0 rfl ?_
    refine ba_getI V dX2_put_19 kfX2_15 (ba_sSheet hb) rfl ?_
    refine ba_iconst V dX2_put_22 ba_c1 ?_
    refine ba_icmp_ne V dX2_put_23 rfl h (fun h => ?_) (fun h => ?_)
    · refine ba_aload_n V dX2_put_26 0 rfl ?_
      refine ba_getR V dX2_put_27 kfX2_9 (ba_sSheet hb) rfl ?_
      refine ba_iload_n V dX2_put_30 1 rfl ?_
      refine ba_iload_n V dX2_put_31 2 rfl ?_
      refine ba_i2s V dX2_put_32 ?_
      refine ba_iast V dX2_put_33 (ba_sSheet_1 hb) h (fun s462 h => ?_)
      refine ba_goto V dX2_put_34 rfl ?_
      exact RT _ _ _ dX2_put_44 (Option.some.inj h)
    · refine ba_aload_n V dX2_put_37 0 rfl ?_
      refine ba_getR V dX2_put_38 kfX2_9 (ba_sSheet hb) rfl ?_
      refine ba_iload_n V dX2_put_41 1 rfl ?_
      refine ba_iload_n V dX2_put_42 2 rfl ?_
      refine ba_iast V dX2_put_43 (ba_sSheet_1 hb) h (fun s463 h => ?_)
      exact RT _ _ _ dX2_put_44 (Option.some.inj h)
def xb_lay (s : ba_St) (a1 : Int32) (a2 : Int32) (a3 : Int32) (a4 : Int32) : Option (Int32 × ba_St) :=
  ba_bnd (xb_within a1 4) fun v464 =>
  if v464 = 0 then
    some ((-2), s)
  else
    ba_bnd (xb_within a2 3) fun v465 =>
    if v465 = 0 then
      some ((-2), s)
    else
      ba_grd (ba_inb a1 4) <|
      ba_bnd (xs_findingFor s (23 + 2 * ba_ix a1) a2 a3) fun v467 =>
      if v467 = 0 then
        ba_grd (ba_inb a1 4) <|
        ba_bnd (xs_put s (23 + 2 * ba_ix a1) a3 a4) fun s469 =>
        some (1, s469)
      else
        ba_bn2 (xb_found s v467) fun v470 s471 =>
        some (v470, s471)
set_option maxHeartbeats 4000000 in
set_option maxRecDepth 100000 in
theorem yb_lay {w : ba_W} (hj : ba_inj ba_tC w) (l : Launch) {s : ba_St} {a1 : Int32} {a2 : Int32} {a3 : Int32} {a4 : Int32} {o : Int32 × ba_St} (h : xb_lay s a1 a2 a3 a4 = some o) : ba_CI ba_tC w l yX5_lay cX5_lay 6 (some .int) rm_b_lay [.ref (w.1 0), .int a1, .int a2, .int a3, .int a4] s o := by
  refine ba_metI (lv := [(0, .ref (w.1 0)), (1, .int a1), (2, .int a2), (3, .int a3), (4, .int a4)]) l hj (by decide +kernel) ⟨Nat.le_of_ble_eq_true rfl, rfl⟩ ?_
  intro X V RT
  unfold xb_lay at h
  refine ba_iload_n V dX5_lay_0 1 rfl ?_
  refine ba_iconst V dX5_lay_1 ba_c4 ?_
  obtain ⟨v464, hc, h⟩ := ba_bnd_some h
  refine ba_callSI (As := [.int a1, .int 4]) (st := []) V dX5_lay_2 kcX5_97 (fun l => yb_within V.inj l hc) ⟨rfl, rfl⟩ ⟨rfl, rfl, Nat.le_of_ble_eq_true rfl, Nat.le_of_ble_eq_true rfl⟩ (Nat.le_of_ble_eq_true rfl) ?_
  refine ba_if_eq V dX5_lay_5 rfl h (fun h => ?_) (fun h => ?_)
  · refine ba_bipush V dX5_lay_16 ba_cm2b ?_
    exact RT _ _ _ _ dX5_lay_18 (Option.some.inj h)
  · refine ba_iload_n V dX5_lay_8 2 rfl ?_
    refine ba_iconst V dX5_lay_9 ba_c3 ?_
    obtain ⟨v465, hc, h⟩ := ba_bnd_some h
    refine ba_callSI (As := [.int a2, .int 3]) (st := []) V dX5_lay_10 kcX5_97 (fun l => yb_within V.inj l hc) ⟨rfl, rfl⟩ ⟨rfl, rfl, Nat.le_of_ble_eq_true rfl, Nat.le_of_ble_eq_true rfl⟩ (Nat.le_of_ble_eq_true rfl) ?_
    refine ba_if_ne V dX5_lay_13 rfl h (fun h => ?_) (fun h => ?_)
    · refine ba_bipush V dX5_lay_16 ba_cm2b ?_
      exact RT _ _ _ _ dX5_lay_18 (Option.some.inj h)
    · refine ba_aload_n V dX5_lay_19 0 rfl ?_
      refine ba_getR V dX5_lay_20 kfX5_47 ba_sBag rfl ?_
      refine ba_iload_n V dX5_lay_23 1 rfl ?_
      refine ba_aald V dX5_lay_24 ba_sC_14 h (fun z h => ?_)
      have hz466 := ba_elSheet z
      refine ba_iload_n V dX5_lay_25 2 rfl ?_
      refine ba_iload_n V dX5_lay_26 3 rfl ?_
      obtain ⟨v467, hc, h⟩ := ba_bnd_some h
      refine ba_callVI (As := [.int a2, .int a3]) (st := []) V dX5_lay_27 kcX5_262 (ba_sSheet hz466) (fun l => ys_findingFor V.inj l hz466 hc) ⟨rfl, rfl⟩ ⟨rfl, rfl, Nat.le_of_ble_eq_true rfl, Nat.le_of_ble_eq_true rfl⟩ (Nat.le_of_ble_eq_true rfl) ?_
      refine ba_istore (lv' := [(5, .int v467), (0, .ref (w.1 0)), (1, .int a1), (2, .int a2), (3, .int a3), (4, .int a4)]) V dX5_lay_30 (by decide) rfl ?_
      refine ba_iload V dX5_lay_32 0 rfl ?_
      refine ba_if_eq V dX5_lay_34 rfl h (fun h => ?_) (fun h => ?_)
      · refine ba_aload_n V dX5_lay_44 1 rfl ?_
        refine ba_getR V dX5_lay_45 kfX5_47 ba_sBag rfl ?_
        refine ba_iload_n V dX5_lay_48 2 rfl ?_
        refine ba_aald V dX5_lay_49 ba_sC_14 h (fun z h => ?_)
        have hz468 := ba_elSheet z
        refine ba_iload_n V dX5_lay_50 4 rfl ?_
        refine ba_iload V dX5_lay_51 5 rfl ?_
        obtain ⟨s469, hc, h⟩ := ba_bnd_some h
        refine ba_callVV (As := [.int a3, .int a4]) (st := []) V dX5_lay_53 kcX5_265 (ba_sSheet hz468) (fun l => ys_put V.inj l hz468 hc) ⟨rfl, rfl⟩ ⟨rfl, rfl, Nat.le_of_ble_eq_true rfl, Nat.le_of_ble_eq_true rfl⟩ (Nat.le_of_ble_eq_true rfl) ?_
        refine ba_iconst V dX5_lay_56 ba_c1 ?_
        exact RT _ _ _ _ dX5_lay_57 (Option.some.inj h)
      · refine ba_aload_n V dX5_lay_37 1 rfl ?_
        refine ba_iload V dX5_lay_38 0 rfl ?_
        obtain ⟨v470, s471, hc, h⟩ := ba_bn2_some h
        refine ba_callVI (As := [.int v467]) (st := []) V dX5_lay_40 kcX5_165 ba_sBag (fun l => yb_found V.inj l hc) ⟨rfl, rfl⟩ ⟨rfl, rfl, Nat.le_of_ble_eq_true rfl, Nat.le_of_ble_eq_true rfl⟩ (Nat.le_of_ble_eq_true rfl) ?_
        exact RT _ _ _ _ dX5_lay_43 (Option.some.inj h)
def xb_get_j16 (s : ba_St) : Option (Int32 × ba_St) :=
  some ((-2147483648), s)
set_option maxHeartbeats 4000000 in
set_option maxRecDepth 100000 in
theorem yb_get_j16 {w : ba_W} {X : ba_X} (V : ba_V ba_tC w 5 X cX5_get RX5 rm_b_get) {s : ba_St} {o : Int32 × ba_St} (RT : ∀ (pc : Nat) (lv : List (Nat × Value)) (v : Int32) (s : ba_St), decode cX5_get pc = .ok (.ireturn, 1) → (v, s) = o → ba_G ba_tC w 5 X s pc lv [.int v]) (h : xb_get_j16 s = some o) : ba_G ba_tC w 5 X s 16 [] [] := by
  unfold xb_get_j16 at h
  refine ba_ldc_w V dX5_get_16 kkX5_268 ?_
  exact RT _ _ _ _ dX5_get_19 (Option.some.inj h)
def xb_get (s : ba_St) (a1 : Int32) (a2 : Int32) (a3 : Int32) : Option (Int32 × ba_St) :=
  ba_bnd (xb_within a1 4) fun v472 =>
  if v472 = 0 then
    xb_get_j16 s
  else
    ba_bnd (xb_within a2 3) fun v473 =>
    if v473 = 0 then
      xb_get_j16 s
    else
      ba_grd (ba_inb a1 4) <|
      ba_bnd (xs_findingFor s (23 + 2 * ba_ix a1) a2 a3) fun v475 =>
      if v475 = 0 then
        ba_grd (ba_inb a1 4) <|
        ba_grd (ba_inb a3 60) <|
        some ((s.1 ((23 + 2 * ba_ix a1) + 1) (ba_ix a3)), s)
      else
        ba_lt (ba_w s 0 7 v475) fun s477 =>
        some ((-2147483648), s477)
set_option maxHeartbeats 4000000 in
set_option maxRecDepth 100000 in
theorem yb_get {w : ba_W} (hj : ba_inj ba_tC w) (l : Launch) {s : ba_St} {a1 : Int32} {a2 : Int32} {a3 : Int32} {o : Int32 × ba_St} (h : xb_get s a1 a2 a3 = some o) : ba_CI ba_tC w l yX5_get cX5_get 5 (some .int) rm_b_get [.ref (w.1 0), .int a1, .int a2, .int a3] s o := by
  refine ba_metI (lv := [(0, .ref (w.1 0)), (1, .int a1), (2, .int a2), (3, .int a3)]) l hj (by decide +kernel) ⟨Nat.le_of_ble_eq_true rfl, rfl⟩ ?_
  intro X V RT
  unfold xb_get at h
  refine ba_iload_n V dX5_get_0 1 rfl ?_
  refine ba_iconst V dX5_get_1 ba_c4 ?_
  obtain ⟨v472, hc, h⟩ := ba_bnd_some h
  refine ba_callSI (As := [.int a1, .int 4]) (st := []) V dX5_get_2 kcX5_97 (fun l => yb_within V.inj l hc) ⟨rfl, rfl⟩ ⟨rfl, rfl, Nat.le_of_ble_eq_true rfl, Nat.le_of_ble_eq_true rfl⟩ (Nat.le_of_ble_eq_true rfl) ?_
  refine ba_if_eq V dX5_get_5 rfl h (fun h => ?_) (fun h => ?_)
  · exact ba_sub [] rfl (yb_get_j16 V RT h)
  · refine ba_iload_n V dX5_get_8 2 rfl ?_
    refine ba_iconst V dX5_get_9 ba_c3 ?_
    obtain ⟨v473, hc, h⟩ := ba_bnd_some h
    refine ba_callSI (As := [.int a2, .int 3]) (st := []) V dX5_get_10 kcX5_97 (fun l => yb_within V.inj l hc) ⟨rfl, rfl⟩ ⟨rfl, rfl, Nat.le_of_ble_eq_true rfl, Nat.le_of_ble_eq_true rfl⟩ (Nat.le_of_ble_eq_true rfl) ?_
    refine ba_if_ne V dX5_get_13 rfl h (fun h => ?_) (fun h => ?_)
    · exact ba_sub [] rfl (yb_get_j16 V RT h)
    · refine ba_aload_n V dX5_get_20 0 rfl ?_
      refine ba_getR V dX5_get_21 kfX5_47 ba_sBag rfl ?_
      refine ba_iload_n V dX5_get_24 1 rfl ?_
      refine ba_aald V dX5_get_25 ba_sC_14 h (fun z h => ?_)
      have hz474 := ba_elSheet z
      refine ba_iload_n V dX5_get_26 2 rfl ?_
      refine ba_iload_n V dX5_get_27 3 rfl ?_
      obtain ⟨v475, hc, h⟩ := ba_bnd_some h
      refine ba_callVI (As := [.int a2, .int a3]) (st := []) V dX5_get_28 kcX5_262 (ba_sSheet hz474) (fun l => ys_findingFor V.inj l hz474 hc) ⟨rfl, rfl⟩ ⟨rfl, rfl, Nat.le_of_ble_eq_true rfl, Nat.le_of_ble_eq_true rfl⟩ (Nat.le_of_ble_eq_true rfl) ?_
      refine ba_istore (lv' := [(4, .int v475), (0, .ref (w.1 0)), (1, .int a1), (2, .int a2), (3, .int a3)]) V dX5_get_31 (by decide) rfl ?_
      refine ba_iload V dX5_get_33 0 rfl ?_
      refine ba_if_eq V dX5_get_35 rfl h (fun h => ?_) (fun h => ?_)
      · refine ba_aload_n V dX5_get_48 1 rfl ?_
        refine ba_getR V dX5_get_49 kfX5_47 ba_sBag rfl ?_
        refine ba_iload_n V dX5_get_52 2 rfl ?_
        refine ba_aald V dX5_get_53 ba_sC_14 h (fun z h => ?_)
        have hz476 := ba_elSheet z
        refine ba_getR V dX5_get_54 kfX5_169 (ba_sSheet hz476) rfl ?_
        refine ba_iload_n V dX5_get_57 4 rfl ?_
        refine ba_iald V dX5_get_58 (ba_sSheet_1 hz476) h (fun h => ?_)
        exact RT _ _ _ _ dX5_get_59 (Option.some.inj h)
      · refine ba_aload_n V dX5_get_38 1 rfl ?_
        refine ba_iload V dX5_get_39 0 rfl ?_
        refine ba_putI V dX5_get_41 kfX5_51 ba_sBag rfl h (fun s477 h => ?_)
        refine ba_ldc_w V dX5_get_44 kkX5_268 ?_
        exact RT _ _ _ _ dX5_get_47 (Option.some.inj h)
def xs_hasItems_j22 (b : Nat) (s : ba_St) : Option (Int32) :=
  some 0
set_option maxHeartbeats 4000000 in
set_option maxRecDepth 100000 in
theorem ys_hasItems_j22 {w : ba_W} {X : ba_X} (V : ba_V ba_tC w 3 X cX2_hasItems RX2 rm_s_hasItems) {b : Nat} (hb : ba_isSheet b) {s : ba_St} {o : Int32} (RT : ∀ (pc : Nat) (lv : List (Nat × Value)) (v : Int32) , decode cX2_hasItems pc = .ok (.ireturn, 1) → v = 0 ∨ v = 1 → v = o → ba_G ba_tC w 3 X s pc lv [.int v]) (h : xs_hasItems_j22 b s = some o) : ba_G ba_tC w 3 X s 22 [] [] := by
  unfold xs_hasItems_j22 at h
  refine ba_iconst V dX2_hasItems_22 ba_c0 ?_
  exact RT _ _ _ dX2_hasItems_23 ba_y0 (Option.some.inj h)
def xs_hasItems (s : ba_St) (b : Nat) (a1 : Int32) (a2 : Int32) : Option (Int32) :=
  if a1 < 0 then
    xs_hasItems_j22 b s
  else
    if a2 < 0 then
      xs_hasItems_j22 b s
    else
      if ((s.1 b 2) - a1) < a2 then
        xs_hasItems_j22 b s
      else
        some 1
set_option maxHeartbeats 4000000 in
set_option maxRecDepth 100000 in
theorem ys_hasItems {w : ba_W} (hj : ba_inj ba_tC w) (l : Launch) {s : ba_St} {b : Nat} {a1 : Int32} {a2 : Int32} (hb : ba_isSheet b) {o : Int32} (h : xs_hasItems s b a1 a2 = some o) : ba_CI ba_tC w l yX2_hasItems cX2_hasItems 3 (some .boolean) rm_s_hasItems [.ref (w.1 b), .int a1, .int a2] s (o, s) := by
  refine ba_metZ (lv := [(0, .ref (w.1 b)), (1, .int a1), (2, .int a2)]) l hj (by decide +kernel) ⟨Nat.le_of_ble_eq_true rfl, rfl⟩ ?_
  intro X V RT
  replace RT := fun pc lv v D z e => RT pc lv v s D z (congrArg (fun q => (q, s)) e)
  unfold xs_hasItems at h
  refine ba_iload_n V dX2_hasItems_0 1 rfl ?_
  refine ba_if_lt V dX2_hasItems_1 rfl h (fun h => ?_) (fun h => ?_)
  · exact ba_sub [] rfl (ys_hasItems_j22 V hb RT h)
  · refine ba_iload_n V dX2_hasItems_4 2 rfl ?_
    refine ba_if_lt V dX2_hasItems_5 rfl h (fun h => ?_) (fun h => ?_)
    · exact ba_sub [] rfl (ys_hasItems_j22 V hb RT h)
    · refine ba_iload_n V dX2_hasItems_8 2 rfl ?_
      refine ba_aload_n V dX2_hasItems_9 0 rfl ?_
      refine ba_getI V dX2_hasItems_10 kfX2_19 (ba_sSheet hb) rfl ?_
      refine ba_iload_n V dX2_hasItems_13 1 rfl ?_
      refine ba_isub V dX2_hasItems_14 ?_
      refine ba_icmp_gt V dX2_hasItems_15 rfl h (fun h => ?_) (fun h => ?_)
      · exact ba_sub [] rfl (ys_hasItems_j22 V hb RT h)
      · refine ba_iconst V dX2_hasItems_18 ba_c1 ?_
        refine ba_goto V dX2_hasItems_19 rfl ?_
        exact RT _ _ _ dX2_hasItems_23 ba_y1 (Option.some.inj h)
def xb_copy_j99 (s : ba_St) : Option (Int32 × ba_St) :=
  ba_bn2 (xb_found s 2) fun v483 s484 =>
  some (v483, s484)
set_option maxHeartbeats 4000000 in
set_option maxRecDepth 100000 in
theorem yb_copy_j99 {w : ba_W} {X : ba_X} (V : ba_V ba_tC w 8 X cX5_copy RX5 rm_b_copy) {s : ba_St} {o : Int32 × ba_St} (RT : ∀ (pc : Nat) (lv : List (Nat × Value)) (v : Int32) (s : ba_St), decode cX5_copy pc = .ok (.ireturn, 1) → (v, s) = o → ba_G ba_tC w 8 X s pc lv [.int v]) (h : xb_copy_j99 s = some o) : ba_G ba_tC w 8 X s 99 [(0, .ref (w.1 0))] [] := by
  unfold xb_copy_j99 at h
  refine ba_aload_n V dX5_copy_99 0 rfl ?_
  refine ba_iconst V dX5_copy_100 ba_c2 ?_
  obtain ⟨v483, s484, hc, h⟩ := ba_bn2_some h
  refine ba_callVI (As := [.int 2]) (st := []) V dX5_copy_101 kcX5_165 ba_sBag (fun l => yb_found V.inj l hc) ⟨rfl, rfl⟩ ⟨rfl, rfl, Nat.le_of_ble_eq_true rfl, Nat.le_of_ble_eq_true rfl⟩ (Nat.le_of_ble_eq_true rfl) ?_
  exact RT _ _ _ _ dX5_copy_104 (Option.some.inj h)
def xb_copy_j51 (s : ba_St) : Option (Int32 × ba_St) :=
  ba_bn2 (xb_found s 1) fun v489 s490 =>
  some (v489, s490)
set_option maxHeartbeats 4000000 in
set_option maxRecDepth 100000 in
theorem yb_copy_j51 {w : ba_W} {X : ba_X} (V : ba_V ba_tC w 8 X cX5_copy RX5 rm_b_copy) {s : ba_St} {o : Int32 × ba_St} (RT : ∀ (pc : Nat) (lv : List (Nat × Value)) (v : Int32) (s : ba_St), decode cX5_copy pc = .ok (.ireturn, 1) → (v, s) = o → ba_G ba_tC w 8 X s pc lv [.int v]) (h : xb_copy_j51 s = some o) : ba_G ba_tC w 8 X s 51 [(0, .ref (w.1 0))] [] := by
  unfold xb_copy_j51 at h
  refine ba_aload_n V dX5_copy_51 0 rfl ?_
  refine ba_iconst V dX5_copy_52 ba_c1 ?_
  obtain ⟨v489, s490, hc, h⟩ := ba_bn2_some h
  refine ba_callVI (As := [.int 1]) (st := []) V dX5_copy_53 kcX5_165 ba_sBag (fun l => yb_found V.inj l hc) ⟨rfl, rfl⟩ ⟨rfl, rfl, Nat.le_of_ble_eq_true rfl, Nat.le_of_ble_eq_true rfl⟩ (Nat.le_of_ble_eq_true rfl) ?_
  exact RT _ _ _ _ dX5_copy_56 (Option.some.inj h)
def xb_copy (s : ba_St) (a1 : Int32) (a2 : Int32) (a3 : Int32) (a4 : Int32) (a5 : Int32) : Option (Int32 × ba_St) :=
  ba_bnd (xb_within a1 4) fun v478 =>
  if v478 = 0 then
    some ((-2), s)
  else
    ba_bnd (xb_within a3 4) fun v479 =>
    if v479 = 0 then
      some ((-2), s)
    else
      ba_grd (ba_inb a1 4) <|
      ba_grd (ba_inb a3 4) <|
      if (s.1 (23 + 2 * ba_ix a1) 3) = 0 then
        if (s.1 (23 + 2 * ba_ix a3) 3) = 0 then
          if (s.1 (23 + 2 * ba_ix a1) 1) = (s.1 (23 + 2 * ba_ix a3) 1) then
            ba_bnd (xs_hasItems s (23 + 2 * ba_ix a1) a2 a5) fun v482 =>
            if v482 = 0 then
              xb_copy_j99 s
            else
              ba_bnd (xs_hasItems s (23 + 2 * ba_ix a3) a4 a5) fun v485 =>
              if v485 = 0 then
                xb_copy_j99 s
              else
                ba_grd (ba_cok a2 a4 a5 60 60) <|
                ba_lt (ba_cp s ((23 + 2 * ba_ix a1) + 1) ((23 + 2 * ba_ix a3) + 1) (ba_ix a2) (ba_ix a4) (ba_ix a5)) fun s486 =>
                some (1, s486)
          else
            ba_bn2 (xb_found s 4) fun v487 s488 =>
            some (v487, s488)
        else
          xb_copy_j51 s
      else
        xb_copy_j51 s
set_option maxHeartbeats 4000000 in
set_option maxRecDepth 100000 in
theorem yb_copy {w : ba_W} (hj : ba_inj ba_tC w) (l : Launch) {s : ba_St} {a1 : Int32} {a2 : Int32} {a3 : Int32} {a4 : Int32} {a5 : Int32} {o : Int32 × ba_St} (h : xb_copy s a1 a2 a3 a4 a5 = some o) : ba_CI ba_tC w l yX5_copy cX5_copy 8 (some .int) rm_b_copy [.ref (w.1 0), .int a1, .int a2, .int a3, .int a4, .int a5] s o := by
  refine ba_metI (lv := [(0, .ref (w.1 0)), (1, .int a1), (2, .int a2), (3, .int a3), (4, .int a4), (5, .int a5)]) l hj (by decide +kernel) ⟨Nat.le_of_ble_eq_true rfl, rfl⟩ ?_
  intro X V RT
  unfold xb_copy at h
  refine ba_iload_n V dX5_copy_0 1 rfl ?_
  refine ba_iconst V dX5_copy_1 ba_c4 ?_
  obtain ⟨v478, hc, h⟩ := ba_bnd_some h
  refine ba_callSI (As := [.int a1, .int 4]) (st := []) V dX5_copy_2 kcX5_97 (fun l => yb_within V.inj l hc) ⟨rfl, rfl⟩ ⟨rfl, rfl, Nat.le_of_ble_eq_true rfl, Nat.le_of_ble_eq_true rfl⟩ (Nat.le_of_ble_eq_true rfl) ?_
  refine ba_if_eq V dX5_copy_5 rfl h (fun h => ?_) (fun h => ?_)
  · refine ba_bipush V dX5_copy_16 ba_cm2b ?_
    exact RT _ _ _ _ dX5_copy_18 (Option.some.inj h)
  · refine ba_iload_n V dX5_copy_8 3 rfl ?_
    refine ba_iconst V dX5_copy_9 ba_c4 ?_
    obtain ⟨v479, hc, h⟩ := ba_bnd_some h
    refine ba_callSI (As := [.int a3, .int 4]) (st := []) V dX5_copy_10 kcX5_97 (fun l => yb_within V.inj l hc) ⟨rfl, rfl⟩ ⟨rfl, rfl, Nat.le_of_ble_eq_true rfl, Nat.le_of_ble_eq_true rfl⟩ (Nat.le_of_ble_eq_true rfl) ?_
    refine ba_if_ne V dX5_copy_13 rfl h (fun h => ?_) (fun h => ?_)
    · refine ba_bipush V dX5_copy_16 ba_cm2b ?_
      exact RT _ _ _ _ dX5_copy_18 (Option.some.inj h)
    · refine ba_aload_n V dX5_copy_19 0 rfl ?_
      refine ba_getR V dX5_copy_20 kfX5_47 ba_sBag rfl ?_
      refine ba_iload_n V dX5_copy_23 1 rfl ?_
      refine ba_aald V dX5_copy_24 ba_sC_14 h (fun z h => ?_)
      have hz480 := ba_elSheet z
      refine ba_astore (lv' := [(6, .ref (w.1 (23 + 2 * ba_ix a1))), (0, .ref (w.1 0)), (1, .int a1), (2, .int a2), (3, .int a3), (4, .int a4), (5, .int a5)]) V dX5_copy_25 (by decide) rfl ?_
      refine ba_aload_n V dX5_copy_27 1 rfl ?_
      refine ba_getR V dX5_copy_28 kfX5_47 ba_sBag rfl ?_
      refine ba_iload_n V dX5_copy_31 4 rfl ?_
      refine ba_aald V dX5_copy_32 ba_sC_14 h (fun z h => ?_)
      have hz481 := ba_elSheet z
      refine ba_astore (lv' := [(7, .ref (w.1 (23 + 2 * ba_ix a3))), (6, .ref (w.1 (23 + 2 * ba_ix a1))), (0, .ref (w.1 0)), (1, .int a1), (2, .int a2), (3, .int a3), (4, .int a4), (5, .int a5)]) V dX5_copy_33 (by decide) rfl ?_
      refine ba_aload V dX5_copy_35 1 rfl ?_
      refine ba_getI V dX5_copy_37 kfX5_162 (ba_sSheet hz480) rfl ?_
      refine ba_if_ne V dX5_copy_40 rfl h (fun h => ?_) (fun h => ?_)
      · refine ba_aload V dX5_copy_43 0 rfl ?_
        refine ba_getI V dX5_copy_45 kfX5_162 (ba_sSheet hz481) rfl ?_
        refine ba_if_eq V dX5_copy_48 rfl h (fun h => ?_) (fun h => ?_)
        · refine ba_aload V dX5_copy_57 1 rfl ?_
          refine ba_getI V dX5_copy_59 kfX5_269 (ba_sSheet hz480) rfl ?_
          refine ba_aload V dX5_copy_62 0 rfl ?_
          refine ba_getI V dX5_copy_64 kfX5_269 (ba_sSheet hz481) rfl ?_
          refine ba_icmp_eq V dX5_copy_67 rfl h (fun h => ?_) (fun h => ?_)
          · refine ba_aload V dX5_copy_76 1 rfl ?_
            refine ba_iload_n V dX5_copy_78 4 rfl ?_
            refine ba_iload V dX5_copy_79 7 rfl ?_
            obtain ⟨v482, hc, h⟩ := ba_bnd_some h
            refine ba_callVI (As := [.int a2, .int a5]) (st := []) V dX5_copy_81 kcX5_272 (ba_sSheet hz480) (fun l => ys_hasItems V.inj l hz480 hc) ⟨rfl, rfl⟩ ⟨rfl, rfl, Nat.le_of_ble_eq_true rfl, Nat.le_of_ble_eq_true rfl⟩ (Nat.le_of_ble_eq_true rfl) ?_
            refine ba_if_eq V dX5_copy_84 rfl h (fun h => ?_) (fun h => ?_)
            · exact ba_sub [2] rfl (yb_copy_j99 V RT h)
            · refine ba_aload V dX5_copy_87 0 rfl ?_
              refine ba_iload V dX5_copy_89 6 rfl ?_
              refine ba_iload V dX5_copy_91 7 rfl ?_
              obtain ⟨v485, hc, h⟩ := ba_bnd_some h
              refine ba_callVI (As := [.int a4, .int a5]) (st := []) V dX5_copy_93 kcX5_272 (ba_sSheet hz481) (fun l => ys_hasItems V.inj l hz481 hc) ⟨rfl, rfl⟩ ⟨rfl, rfl, Nat.le_of_ble_eq_true rfl, Nat.le_of_ble_eq_true rfl⟩ (Nat.le_of_ble_eq_true rfl) ?_
              refine ba_if_ne V dX5_copy_96 rfl h (fun h => ?_) (fun h => ?_)
              · exact ba_sub [2] rfl (yb_copy_j99 V RT h)
              · refine ba_aload V dX5_copy_105 1 rfl ?_
                refine ba_getR V dX5_copy_107 kfX5_169 (ba_sSheet hz480) rfl ?_
                refine ba_iload_n V dX5_copy_110 4 rfl ?_
                refine ba_aload V dX5_copy_111 0 rfl ?_
                refine ba_getR V dX5_copy_113 kfX5_169 (ba_sSheet hz481) rfl ?_
                refine ba_iload V dX5_copy_116 6 rfl ?_
                refine ba_iload V dX5_copy_118 7 rfl ?_
                refine ba_acopy V dX5_copy_120 ⟨kjX5_275.1, kjX5_275.2.1, kjX5_275.2.2.1, kjX5_275.2.2.2, Nat.le_of_ble_eq_true rfl, by decide +kernel⟩ (ba_sSheet_1 hz480) (ba_sSheet_1 hz481) h (fun s486 h => ?_)
                refine ba_iconst V dX5_copy_123 ba_c1 ?_
                exact RT _ _ _ _ dX5_copy_124 (Option.some.inj h)
          · refine ba_aload_n V dX5_copy_70 2 rfl ?_
            refine ba_iconst V dX5_copy_71 ba_c4 ?_
            obtain ⟨v487, s488, hc, h⟩ := ba_bn2_some h
            refine ba_callVI (As := [.int 4]) (st := []) V dX5_copy_72 kcX5_165 ba_sBag (fun l => yb_found V.inj l hc) ⟨rfl, rfl⟩ ⟨rfl, rfl, Nat.le_of_ble_eq_true rfl, Nat.le_of_ble_eq_true rfl⟩ (Nat.le_of_ble_eq_true rfl) ?_
            exact RT _ _ _ _ dX5_copy_75 (Option.some.inj h)
        · exact ba_sub [2] rfl (yb_copy_j51 V RT h)
      · exact ba_sub [2] rfl (yb_copy_j51 V RT h)
def xb_write_l65 (z1 : Int32) (z2 : Int32) (z3 : Int32) (k : (ba_St × Int32) → Option (ba_St)) (a : (ba_St × Int32)) : Option (ba_St) :=
  match a with
  | (s, z4) =>
    if z3 ≤ z4 then
      some s
    else
      ba_grd (ba_inb z2 4) <|
      ba_bnd (xc_rowOf s 31 z4 z1) fun v498 =>
      ba_bnd (xs_put s (23 + 2 * ba_ix z2) z4 v498) fun s499 =>
      ba_lt (z4 + 1) fun x500 =>
      k (s499, x500)
set_option maxHeartbeats 4000000 in
set_option maxRecDepth 100000 in
theorem yb_write_l65 {w : ba_W} {X : ba_X} (V : ba_V ba_tC w 5 X cX5_write RX5 rm_b_write) {z1 : Int32} {z2 : Int32} {z3 : Int32} {o : ba_St} (EX : ∀ (s : ba_St) , s = o → ba_G ba_tC w 5 X s 98 [(3, .int z3)] []) : ∀ (n : Nat) (s : ba_St) (z4 : Int32), ba_fix (xb_write_l65 z1 z2 z3) n (s, z4) = some o → ba_G ba_tC w 5 X s 65 [(0, .ref (w.1 0)), (1, .int z1), (2, .int z2), (3, .int z3), (4, .int z4)] [] := by
  intro n s z4 h
  refine ba_loop (P := fun a => ba_G ba_tC w 5 X a.1 65 [(0, .ref (w.1 0)), (1, .int z1), (2, .int z2), (3, .int z3), (4, .int a.2)] []) ?_ n (s, z4) h
  intro k hk0 a h
  obtain ⟨s, z4⟩ := a
  have hk : ∀ (s : ba_St) (z4 : Int32), k (s, z4) = some o → ba_G ba_tC w 5 X s 65 [(0, .ref (w.1 0)), (1, .int z1), (2, .int z2), (3, .int z3), (4, .int z4)] [] := fun s z4 e => hk0 (s, z4) e
  unfold xb_write_l65 at h
  try dsimp only at h ⊢
  refine ba_iload V dX5_write_65 4 rfl ?_
  refine ba_iload_n V dX5_write_67 3 rfl ?_
  refine ba_icmp_ge V dX5_write_68 rfl h (fun h => ?_) (fun h => ?_)
  · exact ba_sub [3] rfl (EX _ (Option.some.inj h))
  · refine ba_aload_n V dX5_write_71 0 rfl ?_
    refine ba_getR V dX5_write_72 kfX5_47 ba_sBag rfl ?_
    refine ba_iload_n V dX5_write_75 2 rfl ?_
    refine ba_aald V dX5_write_76 ba_sC_14 h (fun z h => ?_)
    have hz497 := ba_elSheet z
    refine ba_iload V dX5_write_77 4 rfl ?_
    refine ba_aload_n V dX5_write_79 0 rfl ?_
    refine ba_getR V dX5_write_80 kfX5_31 ba_sBag rfl ?_
    refine ba_iload V dX5_write_83 4 rfl ?_
    refine ba_iload_n V dX5_write_85 1 rfl ?_
    obtain ⟨v498, hc, h⟩ := ba_bnd_some h
    refine ba_callVI (As := [.int z4, .int z1]) (st := [.int z4, .ref (w.1 (23 + 2 * ba_ix z2))]) V dX5_write_86 kcX5_177 (ba_sCourse ba_isCourse_31) (fun l => yc_rowOf V.inj l ba_isCourse_31 hc) ⟨rfl, rfl⟩ ⟨rfl, rfl, Nat.le_of_ble_eq_true rfl, Nat.le_of_ble_eq_true rfl⟩ (Nat.le_of_ble_eq_true rfl) ?_
    obtain ⟨s499, hc, h⟩ := ba_bnd_some h
    refine ba_callVV (As := [.int z4, .int v498]) (st := []) V dX5_write_89 kcX5_265 (ba_sSheet hz497) (fun l => ys_put V.inj l hz497 hc) ⟨rfl, rfl⟩ ⟨rfl, rfl, Nat.le_of_ble_eq_true rfl, Nat.le_of_ble_eq_true rfl⟩ (Nat.le_of_ble_eq_true rfl) ?_
    refine ba_iinc V dX5_write_92 4 rfl ba_c1 (by decide) h (fun x500 h => ⟨[(4, .int x500), (0, .ref (w.1 0)), (1, .int z1), (2, .int z2), (3, .int z3)], rfl, ?_⟩)
    refine ba_goto V dX5_write_95 rfl ?_
    exact ba_sub [1, 2, 3, 4, 0] rfl (hk _ _ h)
def xb_write (s : ba_St) (a1 : Int32) (a2 : Int32) : Option (Int32 × ba_St) :=
  ba_bnd (xb_within a1 (s.1 3 7)) fun v491 =>
  if v491 = 0 then
    some ((-2), s)
  else
    ba_bnd (xb_within a2 4) fun v492 =>
    if v492 = 0 then
      some ((-2), s)
    else
      ba_grd (ba_inb a2 4) <|
      if (s.1 (23 + 2 * ba_ix a2) 3) = 0 then
        ba_bnd (xb_runTold s) fun s494 =>
        ba_grd (ba_inb a2 4) <|
        ba_lt (ba_min (s494.1 (23 + 2 * ba_ix a2) 2) 24) fun x496 =>
        ba_bnd (ba_fix (xb_write_l65 a1 a2 x496) 1000 (s494, 0)) fun s501 =>
          some (x496, s501)
      else
        ba_bn2 (xb_found s 1) fun v502 s503 =>
        some (v502, s503)
set_option maxHeartbeats 4000000 in
set_option maxRecDepth 100000 in
theorem yb_write {w : ba_W} (hj : ba_inj ba_tC w) (l : Launch) {s : ba_St} {a1 : Int32} {a2 : Int32} {o : Int32 × ba_St} (h : xb_write s a1 a2 = some o) : ba_CI ba_tC w l yX5_write cX5_write 5 (some .int) rm_b_write [.ref (w.1 0), .int a1, .int a2] s o := by
  refine ba_metI (lv := [(0, .ref (w.1 0)), (1, .int a1), (2, .int a2)]) l hj (by decide +kernel) ⟨Nat.le_of_ble_eq_true rfl, rfl⟩ ?_
  intro X V RT
  unfold xb_write at h
  refine ba_iload_n V dX5_write_0 1 rfl ?_
  refine ba_aload_n V dX5_write_1 0 rfl ?_
  refine ba_getR V dX5_write_2 kfX5_22 ba_sBag rfl ?_
  refine ba_getI V dX5_write_5 kfX5_132 ba_sBoard rfl ?_
  obtain ⟨v491, hc, h⟩ := ba_bnd_some h
  refine ba_callSI (As := [.int a1, .int (s.1 3 7)]) (st := []) V dX5_write_8 kcX5_97 (fun l => yb_within V.inj l hc) ⟨rfl, rfl⟩ ⟨rfl, rfl, Nat.le_of_ble_eq_true rfl, Nat.le_of_ble_eq_true rfl⟩ (Nat.le_of_ble_eq_true rfl) ?_
  refine ba_if_eq V dX5_write_11 rfl h (fun h => ?_) (fun h => ?_)
  · refine ba_bipush V dX5_write_22 ba_cm2b ?_
    exact RT _ _ _ _ dX5_write_24 (Option.some.inj h)
  · refine ba_iload_n V dX5_write_14 2 rfl ?_
    refine ba_iconst V dX5_write_15 ba_c4 ?_
    obtain ⟨v492, hc, h⟩ := ba_bnd_some h
    refine ba_callSI (As := [.int a2, .int 4]) (st := []) V dX5_write_16 kcX5_97 (fun l => yb_within V.inj l hc) ⟨rfl, rfl⟩ ⟨rfl, rfl, Nat.le_of_ble_eq_true rfl, Nat.le_of_ble_eq_true rfl⟩ (Nat.le_of_ble_eq_true rfl) ?_
    refine ba_if_ne V dX5_write_19 rfl h (fun h => ?_) (fun h => ?_)
    · refine ba_bipush V dX5_write_22 ba_cm2b ?_
      exact RT _ _ _ _ dX5_write_24 (Option.some.inj h)
    · refine ba_aload_n V dX5_write_25 0 rfl ?_
      refine ba_getR V dX5_write_26 kfX5_47 ba_sBag rfl ?_
      refine ba_iload_n V dX5_write_29 2 rfl ?_
      refine ba_aald V dX5_write_30 ba_sC_14 h (fun z h => ?_)
      have hz493 := ba_elSheet z
      refine ba_getI V dX5_write_31 kfX5_162 (ba_sSheet hz493) rfl ?_
      refine ba_if_eq V dX5_write_34 rfl h (fun h => ?_) (fun h => ?_)
      · refine ba_aload_n V dX5_write_43 0 rfl ?_
        obtain ⟨s494, hc, h⟩ := ba_bnd_some h
        refine ba_callVV (As := []) (st := []) V dX5_write_44 kcX5_123 ba_sBag (fun l => yb_runTold V.inj l hc) ⟨rfl, rfl⟩ ⟨rfl, rfl, Nat.le_of_ble_eq_true rfl, Nat.le_of_ble_eq_true rfl⟩ (Nat.le_of_ble_eq_true rfl) ?_
        refine ba_aload_n V dX5_write_47 0 rfl ?_
        refine ba_getR V dX5_write_48 kfX5_47 ba_sBag rfl ?_
        refine ba_iload_n V dX5_write_51 2 rfl ?_
        refine ba_aald V dX5_write_52 ba_sC_14 h (fun z h => ?_)
        have hz495 := ba_elSheet z
        refine ba_getI V dX5_write_53 kfX5_172 (ba_sSheet hz495) rfl ?_
        refine ba_bipush V dX5_write_56 ba_c24b ?_
        refine ba_Mmin V dX5_write_58 ⟨kjX5_281.1, kjX5_281.2.1, kjX5_281.2.2.1, kjX5_281.2.2.2, Nat.le_of_ble_eq_true rfl, Nat.le_of_ble_eq_true rfl⟩ ?_
        refine ba_letI h (fun x496 h => ?_)
        refine ba_istore_n (lv' := [(3, .int x496), (0, .ref (w.1 0)), (1, .int a1), (2, .int a2)]) V dX5_write_61 (by decide) rfl ?_
        refine ba_iconst V dX5_write_62 ba_c0 ?_
        refine ba_istore (lv' := [(4, .int 0), (3, .int x496), (0, .ref (w.1 0)), (1, .int a1), (2, .int a2)]) V dX5_write_63 (by decide) rfl ?_
        obtain ⟨o, ho, h⟩ := ba_bnd_some h
        refine ba_sub [2, 3, 4, 1, 0] rfl (yb_write_l65 V (o := o) (fun s501 e => ?_) 1000 s494 0 ho)
        subst e
        try dsimp only at h
        refine ba_iload_n V dX5_write_98 0 rfl ?_
        exact RT _ _ _ _ dX5_write_99 (Option.some.inj h)
      · refine ba_aload_n V dX5_write_37 0 rfl ?_
        refine ba_iconst V dX5_write_38 ba_c1 ?_
        obtain ⟨v502, s503, hc, h⟩ := ba_bn2_some h
        refine ba_callVI (As := [.int 1]) (st := []) V dX5_write_39 kcX5_165 ba_sBag (fun l => yb_found V.inj l hc) ⟨rfl, rfl⟩ ⟨rfl, rfl, Nat.le_of_ble_eq_true rfl, Nat.le_of_ble_eq_true rfl⟩ (Nat.le_of_ble_eq_true rfl) ?_
        exact RT _ _ _ _ dX5_write_42 (Option.some.inj h)
def xc_onBoard_l4 (b : Nat) (s : ba_St) (k : (Int32 × Int32) → Option (Int32)) (a : (Int32 × Int32)) : Option (Int32) :=
  match a with
  | (z1, z2) =>
    if 8 ≤ z2 then
      some z1
    else
      ba_grd (ba_inb z2 8) <|
      ba_bnd (xj_bitCount (s.1 (b + 6) (ba_ix z2))) fun v504 =>
      ba_lt (z1 + v504) fun x505 =>
      ba_lt (z2 + 1) fun x506 =>
      k (x505, x506)
set_option maxHeartbeats 4000000 in
set_option maxRecDepth 100000 in
theorem yc_onBoard_l4 {w : ba_W} {X : ba_X} (V : ba_V ba_tC w 3 X cX1_onBoard RX1 rm_c_onBoard) {b : Nat} (hb : ba_isCourse b) {s : ba_St} {o : Int32} (EX : ∀ (z1 : Int32), z1 = o → ba_G ba_tC w 3 X s 28 [(1, .int z1)] []) : ∀ (n : Nat) (z1 : Int32) (z2 : Int32), ba_fix (xc_onBoard_l4 b s) n (z1, z2) = some o → ba_G ba_tC w 3 X s 4 [(0, .ref (w.1 b)), (1, .int z1), (2, .int z2)] [] := by
  intro n z1 z2 h
  refine ba_loop (P := fun a => ba_G ba_tC w 3 X s 4 [(0, .ref (w.1 b)), (1, .int a.1), (2, .int a.2)] []) ?_ n (z1, z2) h
  intro k hk0 a h
  obtain ⟨z1, z2⟩ := a
  have hk : ∀ (z1 : Int32) (z2 : Int32), k (z1, z2) = some o → ba_G ba_tC w 3 X s 4 [(0, .ref (w.1 b)), (1, .int z1), (2, .int z2)] [] := fun z1 z2 e => hk0 (z1, z2) e
  unfold xc_onBoard_l4 at h
  try dsimp only at h ⊢
  refine ba_iload_n V dX1_onBoard_4 2 rfl ?_
  refine ba_bipush V dX1_onBoard_5 ba_c8b ?_
  refine ba_icmp_ge V dX1_onBoard_7 rfl h (fun h => ?_) (fun h => ?_)
  · exact ba_sub [1] rfl (EX _ (Option.some.inj h))
  · refine ba_iload_n V dX1_onBoard_10 1 rfl ?_
    refine ba_aload_n V dX1_onBoard_11 0 rfl ?_
    refine ba_getR V dX1_onBoard_12 kfX1_34 (ba_sCourse hb) rfl ?_
    refine ba_iload_n V dX1_onBoard_15 2 rfl ?_
    refine ba_iald V dX1_onBoard_16 (ba_sCourse_6 hb) h (fun h => ?_)
    obtain ⟨v504, hc, h⟩ := ba_bnd_some h
    refine ba_callSI (As := [.int (s.1 (b + 6) (ba_ix z2))]) (st := [.int z1]) V dX1_onBoard_17 kcX1_158 (fun l => yj_bitCount V.inj l hc) ⟨rfl, rfl⟩ ⟨rfl, rfl, Nat.le_of_ble_eq_true rfl, Nat.le_of_ble_eq_true rfl⟩ (Nat.le_of_ble_eq_true rfl) ?_
    refine ba_iadd V dX1_onBoard_20 ?_
    refine ba_letI h (fun x505 h => ?_)
    refine ba_istore_n (lv' := [(1, .int x505), (0, .ref (w.1 b)), (2, .int z2)]) V dX1_onBoard_21 (by decide) rfl ?_
    refine ba_iinc V dX1_onBoard_22 2 rfl ba_c1 (by decide) h (fun x506 h => ⟨[(2, .int x506), (1, .int x505), (0, .ref (w.1 b))], rfl, ?_⟩)
    refine ba_goto V dX1_onBoard_25 rfl ?_
    exact ba_sub [2, 1, 0] rfl (hk _ _ h)
def xc_onBoard (s : ba_St) (b : Nat) : Option (Int32) :=
  ba_bnd (ba_fix (xc_onBoard_l4 b s) 1000 (0, 0)) fun x507 =>
    some x507
set_option maxHeartbeats 4000000 in
set_option maxRecDepth 100000 in
theorem yc_onBoard {w : ba_W} (hj : ba_inj ba_tC w) (l : Launch) {s : ba_St} {b : Nat} (hb : ba_isCourse b) {o : Int32} (h : xc_onBoard s b = some o) : ba_CI ba_tC w l yX1_onBoard cX1_onBoard 3 (some .int) rm_c_onBoard [.ref (w.1 b)] s (o, s) := by
  refine ba_metI (lv := [(0, .ref (w.1 b))]) l hj (by decide +kernel) ⟨Nat.le_of_ble_eq_true rfl, rfl⟩ ?_
  intro X V RT
  replace RT := fun pc lv v D e => RT pc lv v s D (congrArg (fun q => (q, s)) e)
  unfold xc_onBoard at h
  refine ba_iconst V dX1_onBoard_0 ba_c0 ?_
  refine ba_istore_n (lv' := [(1, .int 0), (0, .ref (w.1 b))]) V dX1_onBoard_1 (by decide) rfl ?_
  refine ba_iconst V dX1_onBoard_2 ba_c0 ?_
  refine ba_istore_n (lv' := [(2, .int 0), (1, .int 0), (0, .ref (w.1 b))]) V dX1_onBoard_3 (by decide) rfl ?_
  obtain ⟨o, ho, h⟩ := ba_bnd_some h
  refine ba_sub [2, 1, 0] rfl (yc_onBoard_l4 V hb (o := o) (fun x507 e => ?_) 1000 0 0 ho)
  subst e
  try dsimp only at h
  refine ba_iload_n V dX1_onBoard_28 0 rfl ?_
  exact RT _ _ _ dX1_onBoard_29 (Option.some.inj h)
def xb_count (s : ba_St) (a1 : Int32) : Option (Int32 × ba_St) :=
  if a1 = 0 then
    some ((s.1 3 3), s)
  else if a1 = 1 then
    some ((s.1 3 7), s)
  else if a1 = 2 then
    ba_grd (ba_inb 0 3) <|
    ba_grd (ba_inb 1 3) <|
    ba_grd (ba_inb 2 3) <|
    some ((((s.1 (17 + 2 * ba_ix 0) 1) + (s.1 (17 + 2 * ba_ix 1) 1)) + (s.1 (17 + 2 * ba_ix 2) 1)), s)
  else if a1 = 3 then
    some ((s.1 10 1), s)
  else if a1 = 4 then
    ba_bn2 (xb_sum s 0) fun v511 s512 =>
    some (v511, s512)
  else if a1 = 5 then
    some ((s.1 3 8), s)
  else if a1 = 6 then
    ba_bnd (xb_runTold s) fun s513 =>
    ba_bnd (xc_onBoard s513 31) fun v514 =>
    some (v514, s513)
  else if a1 = 7 then
    some ((s.1 12 1), s)
  else if a1 = 8 then
    some ((s.1 0 7), s)
  else
    some ((-2), s)
set_option maxHeartbeats 4000000 in
set_option maxRecDepth 100000 in
theorem yb_count {w : ba_W} (hj : ba_inj ba_tC w) (l : Launch) {s : ba_St} {a1 : Int32} {o : Int32 × ba_St} (h : xb_count s a1 = some o) : ba_CI ba_tC w l yX5_count cX5_count 2 (some .int) rm_b_count [.ref (w.1 0), .int a1] s o := by
  refine ba_metI (lv := [(0, .ref (w.1 0)), (1, .int a1)]) l hj (by decide +kernel) ⟨Nat.le_of_ble_eq_true rfl, rfl⟩ ?_
  intro X V RT
  unfold xb_count at h
  refine ba_iload_n V dX5_count_0 1 rfl ?_
  refine ba_case h (fun e0 h => ?_) (fun e0 h => ?_)
  · refine ba_swT (off := 51) (tgt := 52) V dX5_count_1 (Or.inl ⟨by rw [e0]; decide, by rw [e0]; decide, by rw [e0]; rfl⟩) rfl ?_
    refine ba_aload_n V dX5_count_52 0 rfl ?_
    refine ba_getR V dX5_count_53 kfX5_22 ba_sBag rfl ?_
    refine ba_getI V dX5_count_56 kfX5_111 ba_sBoard rfl ?_
    exact RT _ _ _ _ dX5_count_59 (Option.some.inj h)
  refine ba_case h (fun e1 h => ?_) (fun e1 h => ?_)
  · refine ba_swT (off := 59) (tgt := 60) V dX5_count_1 (Or.inl ⟨by rw [e1]; decide, by rw [e1]; decide, by rw [e1]; rfl⟩) rfl ?_
    refine ba_aload_n V dX5_count_60 0 rfl ?_
    refine ba_getR V dX5_count_61 kfX5_22 ba_sBag rfl ?_
    refine ba_getI V dX5_count_64 kfX5_132 ba_sBoard rfl ?_
    exact RT _ _ _ _ dX5_count_67 (Option.some.inj h)
  refine ba_case h (fun e2 h => ?_) (fun e2 h => ?_)
  · refine ba_swT (off := 67) (tgt := 68) V dX5_count_1 (Or.inl ⟨by rw [e2]; decide, by rw [e2]; decide, by rw [e2]; rfl⟩) rfl ?_
    refine ba_aload_n V dX5_count_68 0 rfl ?_
    refine ba_getR V dX5_count_69 kfX5_11 ba_sBag rfl ?_
    refine ba_iconst V dX5_count_72 ba_c0 ?_
    refine ba_aald V dX5_count_73 ba_sC_1 h (fun z h => ?_)
    have hz508 := ba_elText z
    refine ba_getI V dX5_count_74 kfX5_108 (ba_sText hz508) rfl ?_
    refine ba_aload_n V dX5_count_77 0 rfl ?_
    refine ba_getR V dX5_count_78 kfX5_11 ba_sBag rfl ?_
    refine ba_iconst V dX5_count_81 ba_c1 ?_
    refine ba_aald V dX5_count_82 ba_sC_1 h (fun z h => ?_)
    have hz509 := ba_elText z
    refine ba_getI V dX5_count_83 kfX5_108 (ba_sText hz509) rfl ?_
    refine ba_iadd V dX5_count_86 ?_
    refine ba_aload_n V dX5_count_87 0 rfl ?_
    refine ba_getR V dX5_count_88 kfX5_11 ba_sBag rfl ?_
    refine ba_iconst V dX5_count_91 ba_c2 ?_
    refine ba_aald V dX5_count_92 ba_sC_1 h (fun z h => ?_)
    have hz510 := ba_elText z
    refine ba_getI V dX5_count_93 kfX5_108 (ba_sText hz510) rfl ?_
    refine ba_iadd V dX5_count_96 ?_
    exact RT _ _ _ _ dX5_count_97 (Option.some.inj h)
  refine ba_case h (fun e3 h => ?_) (fun e3 h => ?_)
  · refine ba_swT (off := 97) (tgt := 98) V dX5_count_1 (Or.inl ⟨by rw [e3]; decide, by rw [e3]; decide, by rw [e3]; rfl⟩) rfl ?_
    refine ba_aload_n V dX5_count_98 0 rfl ?_
    refine ba_getR V dX5_count_99 kfX5_22 ba_sBag rfl ?_
    refine ba_getR V dX5_count_102 kfX5_151 ba_sBoard rfl ?_
    refine ba_getI V dX5_count_105 kfX5_161 (ba_sSlips ba_isSlips_10) rfl ?_
    exact RT _ _ _ _ dX5_count_108 (Option.some.inj h)
  refine ba_case h (fun e4 h => ?_) (fun e4 h => ?_)
  · refine ba_swT (off := 108) (tgt := 109) V dX5_count_1 (Or.inl ⟨by rw [e4]; decide, by rw [e4]; decide, by rw [e4]; rfl⟩) rfl ?_
    refine ba_aload_n V dX5_count_109 0 rfl ?_
    refine ba_iconst V dX5_count_110 ba_c0 ?_
    obtain ⟨v511, s512, hc, h⟩ := ba_bn2_some h
    refine ba_callVI (As := [.int 0]) (st := []) V dX5_count_111 kcX5_286 ba_sBag (fun l => yb_sum V.inj l hc) ⟨rfl, rfl⟩ ⟨rfl, rfl, Nat.le_of_ble_eq_true rfl, Nat.le_of_ble_eq_true rfl⟩ (Nat.le_of_ble_eq_true rfl) ?_
    exact RT _ _ _ _ dX5_count_114 (Option.some.inj h)
  refine ba_case h (fun e5 h => ?_) (fun e5 h => ?_)
  · refine ba_swT (off := 114) (tgt := 115) V dX5_count_1 (Or.inl ⟨by rw [e5]; decide, by rw [e5]; decide, by rw [e5]; rfl⟩) rfl ?_
    refine ba_aload_n V dX5_count_115 0 rfl ?_
    refine ba_getR V dX5_count_116 kfX5_22 ba_sBag rfl ?_
    refine ba_getI V dX5_count_119 kfX5_141 ba_sBoard rfl ?_
    exact RT _ _ _ _ dX5_count_122 (Option.some.inj h)
  refine ba_case h (fun e6 h => ?_) (fun e6 h => ?_)
  · refine ba_swT (off := 122) (tgt := 123) V dX5_count_1 (Or.inl ⟨by rw [e6]; decide, by rw [e6]; decide, by rw [e6]; rfl⟩) rfl ?_
    refine ba_aload_n V dX5_count_123 0 rfl ?_
    obtain ⟨s513, hc, h⟩ := ba_bnd_some h
    refine ba_callVV (As := []) (st := []) V dX5_count_124 kcX5_123 ba_sBag (fun l => yb_runTold V.inj l hc) ⟨rfl, rfl⟩ ⟨rfl, rfl, Nat.le_of_ble_eq_true rfl, Nat.le_of_ble_eq_true rfl⟩ (Nat.le_of_ble_eq_true rfl) ?_
    refine ba_aload_n V dX5_count_127 0 rfl ?_
    refine ba_getR V dX5_count_128 kfX5_31 ba_sBag rfl ?_
    obtain ⟨v514, hc, h⟩ := ba_bnd_some h
    refine ba_callVI (As := []) (st := []) V dX5_count_131 kcX5_289 (ba_sCourse ba_isCourse_31) (fun l => yc_onBoard V.inj l ba_isCourse_31 hc) ⟨rfl, rfl⟩ ⟨rfl, rfl, Nat.le_of_ble_eq_true rfl, Nat.le_of_ble_eq_true rfl⟩ (Nat.le_of_ble_eq_true rfl) ?_
    exact RT _ _ _ _ dX5_count_134 (Option.some.inj h)
  refine ba_case h (fun e7 h => ?_) (fun e7 h => ?_)
  · refine ba_swT (off := 134) (tgt := 135) V dX5_count_1 (Or.inl ⟨by rw [e7]; decide, by rw [e7]; decide, by rw [e7]; rfl⟩) rfl ?_
    refine ba_aload_n V dX5_count_135 0 rfl ?_
    refine ba_getR V dX5_count_136 kfX5_41 ba_sBag rfl ?_
    refine ba_getI V dX5_count_139 kfX5_161 (ba_sSlips ba_isSlips_12) rfl ?_
    exact RT _ _ _ _ dX5_count_142 (Option.some.inj h)
  refine ba_case h (fun e8 h => ?_) (fun e8 h => ?_)
  · refine ba_swT (off := 142) (tgt := 143) V dX5_count_1 (Or.inl ⟨by rw [e8]; decide, by rw [e8]; decide, by rw [e8]; rfl⟩) rfl ?_
    refine ba_aload_n V dX5_count_143 0 rfl ?_
    refine ba_getI V dX5_count_144 kfX5_51 ba_sBag rfl ?_
    exact RT _ _ _ _ dX5_count_147 (Option.some.inj h)
  refine ba_swT (off := 147) (tgt := 148) V dX5_count_1 (Or.inr ⟨by have g0 : ¬ Int32.toInt a1 = 0 := ba_ne e0; have g1 : ¬ Int32.toInt a1 = 1 := ba_ne e1; have g2 : ¬ Int32.toInt a1 = 2 := ba_ne e2; have g3 : ¬ Int32.toInt a1 = 3 := ba_ne e3; have g4 : ¬ Int32.toInt a1 = 4 := ba_ne e4; have g5 : ¬ Int32.toInt a1 = 5 := ba_ne e5; have g6 : ¬ Int32.toInt a1 = 6 := ba_ne e6; have g7 : ¬ Int32.toInt a1 = 7 := ba_ne e7; have g8 : ¬ Int32.toInt a1 = 8 := ba_ne e8; omega, rfl⟩) rfl ?_
  refine ba_bipush V dX5_count_148 ba_cm2b ?_
  exact RT _ _ _ _ dX5_count_150 (Option.some.inj h)
def xb_withPin_l6 (s : ba_St) (z3 : Int32) (k : (Int64 × Int32) → Option (Int64)) (a : (Int64 × Int32)) : Option (Int64) :=
  match a with
  | (z4, z6) =>
    if 3 ≤ z6 then
      some z4
    else
      ba_bnd (xb_pin s z3 z6) fun v515 =>
      ba_lt ((31 * z4) + (Int32.toInt64 v515)) fun x516 =>
      ba_lt (z6 + 1) fun x517 =>
      k (x516, x517)
set_option maxHeartbeats 4000000 in
set_option maxRecDepth 100000 in
theorem yb_withPin_l6 {w : ba_W} {X : ba_X} (V : ba_V ba_tC w 7 X cX5_withPin RX5 rm_b_withPin) {s : ba_St} {z3 : Int32} {o : Int64} (EX : ∀ (z4 : Int64), z4 = o → ba_G ba_tC w 7 X s 35 [(0, .ref (w.1 0)), (3, .int z3), (4, .long z4)] []) : ∀ (n : Nat) (z4 : Int64) (z6 : Int32), ba_fix (xb_withPin_l6 s z3) n (z4, z6) = some o → ba_G ba_tC w 7 X s 6 [(0, .ref (w.1 0)), (3, .int z3), (4, .long z4), (6, .int z6)] [] := by
  intro n z4 z6 h
  refine ba_loop (P := fun a => ba_G ba_tC w 7 X s 6 [(0, .ref (w.1 0)), (3, .int z3), (4, .long a.1), (6, .int a.2)] []) ?_ n (z4, z6) h
  intro k hk0 a h
  obtain ⟨z4, z6⟩ := a
  have hk : ∀ (z4 : Int64) (z6 : Int32), k (z4, z6) = some o → ba_G ba_tC w 7 X s 6 [(0, .ref (w.1 0)), (3, .int z3), (4, .long z4), (6, .int z6)] [] := fun z4 z6 e => hk0 (z4, z6) e
  unfold xb_withPin_l6 at h
  try dsimp only at h ⊢
  refine ba_iload V dX5_withPin_6 3 rfl ?_
  refine ba_iconst V dX5_withPin_8 ba_c3 ?_
  refine ba_icmp_ge V dX5_withPin_9 rfl h (fun h => ?_) (fun h => ?_)
  · exact ba_sub [0, 1, 2] rfl (EX _ (Option.some.inj h))
  · refine ba_ldc2 V dX5_withPin_12 kkX5_294 ?_
    refine ba_lload V dX5_withPin_15 2 rfl ?_
    refine ba_lmul V dX5_withPin_17 ?_
    refine ba_aload_n V dX5_withPin_18 0 rfl ?_
    refine ba_iload_n V dX5_withPin_19 1 rfl ?_
    refine ba_iload V dX5_withPin_20 3 rfl ?_
    obtain ⟨v515, hc, h⟩ := ba_bnd_some h
    refine ba_callVI (As := [.int z3, .int z6]) (st := [.long (31 * z4)]) V dX5_withPin_22 kcX5_333 ba_sBag (fun l => yb_pin V.inj l hc) ⟨rfl, rfl⟩ ⟨rfl, rfl, Nat.le_of_ble_eq_true rfl, Nat.le_of_ble_eq_true rfl⟩ (Nat.le_of_ble_eq_true rfl) ?_
    refine ba_i2l V dX5_withPin_25 ?_
    refine ba_ladd V dX5_withPin_26 ?_
    refine ba_letL h (fun x516 h => ?_)
    refine ba_lstore (lv' := [(4, .long x516), (0, .ref (w.1 0)), (3, .int z3), (6, .int z6)]) V dX5_withPin_27 (by decide) rfl ?_
    refine ba_iinc V dX5_withPin_29 3 rfl ba_c1 (by decide) h (fun x517 h => ⟨[(6, .int x517), (4, .long x516), (0, .ref (w.1 0)), (3, .int z3)], rfl, ?_⟩)
    refine ba_goto V dX5_withPin_32 rfl ?_
    exact ba_sub [2, 3, 1, 0] rfl (hk _ _ h)
def xb_withPin (s : ba_St) (a1 : Int64) (a3 : Int32) : Option (Int64 × ba_St) :=
  ba_bnd (ba_fix (xb_withPin_l6 s a3) 1000 (a1, 0)) fun x518 =>
    ba_bn2 (xb_bend s a3 0) fun v519 s520 =>
    ba_lt ((31 * x518) + (Int32.toInt64 v519)) fun x521 =>
    ba_bn2 (xb_bend s520 a3 1) fun v522 s523 =>
    ba_lt ((31 * x521) + (Int32.toInt64 v522)) fun x524 =>
    ba_bn2 (xb_kind s523 a3) fun v525 s526 =>
    some (((31 * x524) + (Int32.toInt64 v525)), s526)
set_option maxHeartbeats 4000000 in
set_option maxRecDepth 100000 in
theorem yb_withPin {w : ba_W} (hj : ba_inj ba_tC w) (l : Launch) {s : ba_St} {a1 : Int64} {a3 : Int32} {o : Int64 × ba_St} (h : xb_withPin s a1 a3 = some o) : ba_CL ba_tC w l yX5_withPin cX5_withPin 7 (some .long) rm_b_withPin [.ref (w.1 0), .long a1, .int a3] s o := by
  refine ba_metL (lv := [(0, .ref (w.1 0)), (1, .long a1), (3, .int a3)]) l hj (by decide +kernel) ⟨Nat.le_of_ble_eq_true rfl, rfl⟩ ?_
  intro X V RT
  unfold xb_withPin at h
  refine ba_lload_n V dX5_withPin_0 1 rfl ?_
  refine ba_lstore (lv' := [(4, .long a1), (0, .ref (w.1 0)), (1, .long a1), (3, .int a3)]) V dX5_withPin_1 (by decide) rfl ?_
  refine ba_iconst V dX5_withPin_3 ba_c0 ?_
  refine ba_istore (lv' := [(6, .int 0), (4, .long a1), (0, .ref (w.1 0)), (1, .long a1), (3, .int a3)]) V dX5_withPin_4 (by decide) rfl ?_
  obtain ⟨o, ho, h⟩ := ba_bnd_some h
  refine ba_sub [2, 4, 1, 0] rfl (yb_withPin_l6 V (o := o) (fun x518 e => ?_) 1000 a1 0 ho)
  subst e
  try dsimp only at h
  refine ba_ldc2 V dX5_withPin_35 kkX5_294 ?_
  refine ba_lload V dX5_withPin_38 2 rfl ?_
  refine ba_lmul V dX5_withPin_40 ?_
  refine ba_aload_n V dX5_withPin_41 0 rfl ?_
  refine ba_iload_n V dX5_withPin_42 1 rfl ?_
  refine ba_iconst V dX5_withPin_43 ba_c0 ?_
  obtain ⟨v519, s520, hc, h⟩ := ba_bn2_some h
  refine ba_callVI (As := [.int a3, .int 0]) (st := [.long (31 * x518)]) V dX5_withPin_44 kcX5_336 ba_sBag (fun l => yb_bend V.inj l hc) ⟨rfl, rfl⟩ ⟨rfl, rfl, Nat.le_of_ble_eq_true rfl, Nat.le_of_ble_eq_true rfl⟩ (Nat.le_of_ble_eq_true rfl) ?_
  refine ba_i2l V dX5_withPin_47 ?_
  refine ba_ladd V dX5_withPin_48 ?_
  refine ba_letL h (fun x521 h => ?_)
  refine ba_lstore (lv' := [(4, .long x521), (0, .ref (w.1 0)), (3, .int a3)]) V dX5_withPin_49 (by decide) rfl ?_
  refine ba_ldc2 V dX5_withPin_51 kkX5_294 ?_
  refine ba_lload V dX5_withPin_54 0 rfl ?_
  refine ba_lmul V dX5_withPin_56 ?_
  refine ba_aload_n V dX5_withPin_57 1 rfl ?_
  refine ba_iload_n V dX5_withPin_58 2 rfl ?_
  refine ba_iconst V dX5_withPin_59 ba_c1 ?_
  obtain ⟨v522, s523, hc, h⟩ := ba_bn2_some h
  refine ba_callVI (As := [.int a3, .int 1]) (st := [.long (31 * x521)]) V dX5_withPin_60 kcX5_336 ba_sBag (fun l => yb_bend V.inj l hc) ⟨rfl, rfl⟩ ⟨rfl, rfl, Nat.le_of_ble_eq_true rfl, Nat.le_of_ble_eq_true rfl⟩ (Nat.le_of_ble_eq_true rfl) ?_
  refine ba_i2l V dX5_withPin_63 ?_
  refine ba_ladd V dX5_withPin_64 ?_
  refine ba_letL h (fun x524 h => ?_)
  refine ba_lstore (lv' := [(4, .long x524), (0, .ref (w.1 0)), (3, .int a3)]) V dX5_withPin_65 (by decide) rfl ?_
  refine ba_ldc2 V dX5_withPin_67 kkX5_294 ?_
  refine ba_lload V dX5_withPin_70 0 rfl ?_
  refine ba_lmul V dX5_withPin_72 ?_
  refine ba_aload_n V dX5_withPin_73 1 rfl ?_
  refine ba_iload_n V dX5_withPin_74 2 rfl ?_
  obtain ⟨v525, s526, hc, h⟩ := ba_bn2_some h
  refine ba_callVI (As := [.int a3]) (st := [.long (31 * x524)]) V dX5_withPin_75 kcX5_339 ba_sBag (fun l => yb_kind V.inj l hc) ⟨rfl, rfl⟩ ⟨rfl, rfl, Nat.le_of_ble_eq_true rfl, Nat.le_of_ble_eq_true rfl⟩ (Nat.le_of_ble_eq_true rfl) ?_
  refine ba_i2l V dX5_withPin_78 ?_
  refine ba_ladd V dX5_withPin_79 ?_
  exact RT _ _ _ _ dX5_withPin_80 (Option.some.inj h)
def xb_withBall_l38 (z3 : Int32) (k : (ba_St × Int64 × Int32) → Option (ba_St × Int64)) (a : (ba_St × Int64 × Int32)) : Option (ba_St × Int64) :=
  match a with
  | (s, z4, z6) =>
    if (nI 4) ≤ z6 then
      some (s, z4)
    else
      ba_grd (ba_inb z6 4) <|
      ba_bn2 (xb_at s (ba_tv [0, 6, 13, 23] z6) z3 0) fun v531 s532 =>
      ba_lt ((31 * z4) + (Int32.toInt64 v531)) fun x533 =>
      ba_grd (ba_inb z6 4) <|
      ba_bn2 (xb_at s532 (ba_tv [0, 6, 13, 23] z6) z3 1) fun v534 s535 =>
      ba_lt ((31 * x533) + (Int32.toInt64 v534)) fun x536 =>
      ba_lt (z6 + 1) fun x537 =>
      k (s535, x536, x537)
set_option maxHeartbeats 4000000 in
set_option maxRecDepth 100000 in
theorem yb_withBall_l38 {w : ba_W} {X : ba_X} (V : ba_V ba_tC w 7 X cX5_withBall RX5 rm_b_withBall) {z3 : Int32} {o : ba_St × Int64} (EX : ∀ (s : ba_St) (z4 : Int64), (s, z4) = o → ba_G ba_tC w 7 X s 97 [(0, .ref (w.1 0)), (3, .int z3), (4, .long z4)] []) : ∀ (n : Nat) (s : ba_St) (z4 : Int64) (z6 : Int32), ba_fix (xb_withBall_l38 z3) n (s, z4, z6) = some o → ba_G ba_tC w 7 X s 38 [(0, .ref (w.1 0)), (3, .int z3), (4, .long z4), (6, .int z6)] [] := by
  intro n s z4 z6 h
  refine ba_loop (P := fun a => ba_G ba_tC w 7 X a.1 38 [(0, .ref (w.1 0)), (3, .int z3), (4, .long a.2.1), (6, .int a.2.2)] []) ?_ n (s, z4, z6) h
  intro k hk0 a h
  obtain ⟨s, z4, z6⟩ := a
  have hk : ∀ (s : ba_St) (z4 : Int64) (z6 : Int32), k (s, z4, z6) = some o → ba_G ba_tC w 7 X s 38 [(0, .ref (w.1 0)), (3, .int z3), (4, .long z4), (6, .int z6)] [] := fun s z4 z6 e => hk0 (s, z4, z6) e
  unfold xb_withBall_l38 at h
  try dsimp only at h ⊢
  refine ba_iload V dX5_withBall_38 3 rfl ?_
  refine ba_gets (i := 3) (q := ("Bagatelle", "DIGEST_TICKS", [0, 6, 13, 23])) V dX5_withBall_40 ksX5_345 ba_sf3 ?_
  refine ba_slen V dX5_withBall_43 (ba_sf3) ?_
  refine ba_icmp_ge V dX5_withBall_44 rfl h (fun h => ?_) (fun h => ?_)
  · exact ba_sub [0, 1, 2] rfl (EX _ _ (Option.some.inj h))
  · refine ba_ldc2 V dX5_withBall_47 kkX5_294 ?_
    refine ba_lload V dX5_withBall_50 2 rfl ?_
    refine ba_lmul V dX5_withBall_52 ?_
    refine ba_aload_n V dX5_withBall_53 0 rfl ?_
    refine ba_gets (i := 3) (q := ("Bagatelle", "DIGEST_TICKS", [0, 6, 13, 23])) V dX5_withBall_54 ksX5_345 ba_sf3 ?_
    refine ba_iload V dX5_withBall_57 3 rfl ?_
    refine ba_sald V dX5_withBall_59 (ba_sf3) h (fun h => ?_)
    refine ba_iload_n V dX5_withBall_60 1 rfl ?_
    refine ba_iconst V dX5_withBall_61 ba_c0 ?_
    obtain ⟨v531, s532, hc, h⟩ := ba_bn2_some h
    refine ba_callVI (As := [.int (ba_tv [0, 6, 13, 23] z6), .int z3, .int 0]) (st := [.long (31 * z4)]) V dX5_withBall_62 kcX5_348 ba_sBag (fun l => yb_at V.inj l hc) ⟨rfl, rfl⟩ ⟨rfl, rfl, Nat.le_of_ble_eq_true rfl, Nat.le_of_ble_eq_true rfl⟩ (Nat.le_of_ble_eq_true rfl) ?_
    refine ba_i2l V dX5_withBall_65 ?_
    refine ba_ladd V dX5_withBall_66 ?_
    refine ba_letL h (fun x533 h => ?_)
    refine ba_lstore (lv' := [(4, .long x533), (0, .ref (w.1 0)), (3, .int z3), (6, .int z6)]) V dX5_withBall_67 (by decide) rfl ?_
    refine ba_ldc2 V dX5_withBall_69 kkX5_294 ?_
    refine ba_lload V dX5_withBall_72 0 rfl ?_
    refine ba_lmul V dX5_withBall_74 ?_
    refine ba_aload_n V dX5_withBall_75 1 rfl ?_
    refine ba_gets (i := 3) (q := ("Bagatelle", "DIGEST_TICKS", [0, 6, 13, 23])) V dX5_withBall_76 ksX5_345 ba_sf3 ?_
    refine ba_iload V dX5_withBall_79 3 rfl ?_
    refine ba_sald V dX5_withBall_81 (ba_sf3) h (fun h => ?_)
    refine ba_iload_n V dX5_withBall_82 2 rfl ?_
    refine ba_iconst V dX5_withBall_83 ba_c1 ?_
    obtain ⟨v534, s535, hc, h⟩ := ba_bn2_some h
    refine ba_callVI (As := [.int (ba_tv [0, 6, 13, 23] z6), .int z3, .int 1]) (st := [.long (31 * x533)]) V dX5_withBall_84 kcX5_348 ba_sBag (fun l => yb_at V.inj l hc) ⟨rfl, rfl⟩ ⟨rfl, rfl, Nat.le_of_ble_eq_true rfl, Nat.le_of_ble_eq_true rfl⟩ (Nat.le_of_ble_eq_true rfl) ?_
    refine ba_i2l V dX5_withBall_87 ?_
    refine ba_ladd V dX5_withBall_88 ?_
    refine ba_letL h (fun x536 h => ?_)
    refine ba_lstore (lv' := [(4, .long x536), (0, .ref (w.1 0)), (3, .int z3), (6, .int z6)]) V dX5_withBall_89 (by decide) rfl ?_
    refine ba_iinc V dX5_withBall_91 3 rfl ba_c1 (by decide) h (fun x537 h => ⟨[(6, .int x537), (4, .long x536), (0, .ref (w.1 0)), (3, .int z3)], rfl, ?_⟩)
    refine ba_goto V dX5_withBall_94 rfl ?_
    exact ba_sub [2, 3, 1, 0] rfl (hk _ _ _ h)
def xb_withBall_l100 (z3 : Int32) (k : (ba_St × Int64 × Int32) → Option (ba_St × Int64)) (a : (ba_St × Int64 × Int32)) : Option (ba_St × Int64) :=
  match a with
  | (s, z4, z6) =>
    if 3 ≤ z6 then
      some (s, z4)
    else
      ba_bn2 (xb_ends s z3 z6) fun v540 s541 =>
      ba_lt ((31 * z4) + (Int32.toInt64 v540)) fun x542 =>
      ba_lt (z6 + 1) fun x543 =>
      k (s541, x542, x543)
set_option maxHeartbeats 4000000 in
set_option maxRecDepth 100000 in
theorem yb_withBall_l100 {w : ba_W} {X : ba_X} (V : ba_V ba_tC w 7 X cX5_withBall RX5 rm_b_withBall) {z3 : Int32} {o : ba_St × Int64} (EX : ∀ (s : ba_St) (z4 : Int64), (s, z4) = o → ba_G ba_tC w 7 X s 129 [(0, .ref (w.1 0)), (3, .int z3), (4, .long z4)] []) : ∀ (n : Nat) (s : ba_St) (z4 : Int64) (z6 : Int32), ba_fix (xb_withBall_l100 z3) n (s, z4, z6) = some o → ba_G ba_tC w 7 X s 100 [(0, .ref (w.1 0)), (3, .int z3), (4, .long z4), (6, .int z6)] [] := by
  intro n s z4 z6 h
  refine ba_loop (P := fun a => ba_G ba_tC w 7 X a.1 100 [(0, .ref (w.1 0)), (3, .int z3), (4, .long a.2.1), (6, .int a.2.2)] []) ?_ n (s, z4, z6) h
  intro k hk0 a h
  obtain ⟨s, z4, z6⟩ := a
  have hk : ∀ (s : ba_St) (z4 : Int64) (z6 : Int32), k (s, z4, z6) = some o → ba_G ba_tC w 7 X s 100 [(0, .ref (w.1 0)), (3, .int z3), (4, .long z4), (6, .int z6)] [] := fun s z4 z6 e => hk0 (s, z4, z6) e
  unfold xb_withBall_l100 at h
  try dsimp only at h ⊢
  refine ba_iload V dX5_withBall_100 3 rfl ?_
  refine ba_iconst V dX5_withBall_102 ba_c3 ?_
  refine ba_icmp_ge V dX5_withBall_103 rfl h (fun h => ?_) (fun h => ?_)
  · exact ba_sub [0, 1, 2] rfl (EX _ _ (Option.some.inj h))
  · refine ba_ldc2 V dX5_withBall_106 kkX5_294 ?_
    refine ba_lload V dX5_withBall_109 2 rfl ?_
    refine ba_lmul V dX5_withBall_111 ?_
    refine ba_aload_n V dX5_withBall_112 0 rfl ?_
    refine ba_iload_n V dX5_withBall_113 1 rfl ?_
    refine ba_iload V dX5_withBall_114 3 rfl ?_
    obtain ⟨v540, s541, hc, h⟩ := ba_bn2_some h
    refine ba_callVI (As := [.int z3, .int z6]) (st := [.long (31 * z4)]) V dX5_withBall_116 kcX5_351 ba_sBag (fun l => yb_ends V.inj l hc) ⟨rfl, rfl⟩ ⟨rfl, rfl, Nat.le_of_ble_eq_true rfl, Nat.le_of_ble_eq_true rfl⟩ (Nat.le_of_ble_eq_true rfl) ?_
    refine ba_i2l V dX5_withBall_119 ?_
    refine ba_ladd V dX5_withBall_120 ?_
    refine ba_letL h (fun x542 h => ?_)
    refine ba_lstore (lv' := [(4, .long x542), (0, .ref (w.1 0)), (3, .int z3), (6, .int z6)]) V dX5_withBall_121 (by decide) rfl ?_
    refine ba_iinc V dX5_withBall_123 3 rfl ba_c1 (by decide) h (fun x543 h => ⟨[(6, .int x543), (4, .long x542), (0, .ref (w.1 0)), (3, .int z3)], rfl, ?_⟩)
    refine ba_goto V dX5_withBall_126 rfl ?_
    exact ba_sub [2, 3, 1, 0] rfl (hk _ _ _ h)
def xb_withBall (s : ba_St) (a1 : Int64) (a3 : Int32) : Option (Int64 × ba_St) :=
  ba_bnd (xb_ball s a3 0) fun v527 =>
  ba_lt ((31 * a1) + (Int32.toInt64 v527)) fun x528 =>
  ba_bnd (xb_ball s a3 1) fun v529 =>
  ba_lt ((31 * x528) + (Int32.toInt64 v529)) fun x530 =>
  ba_bnd (ba_fix (xb_withBall_l38 a3) 1000 (s, x530, 0)) fun o => match o with
  | (s538, x539) =>
    ba_bnd (ba_fix (xb_withBall_l100 a3) 1000 (s538, x539, 0)) fun o => match o with
    | (s544, x545) =>
      ba_bn2 (xb_shoot s544 a3 0) fun v546 s547 =>
      ba_lt ((31 * x545) + (Int32.toInt64 v546)) fun x548 =>
      ba_bn2 (xb_shoot s547 a3 1) fun v549 s550 =>
      ba_lt ((31 * x548) + (Int32.toInt64 v549)) fun x551 =>
      ba_bn2 (xb_time s550 a3 0) fun v552 s553 =>
      ba_lt ((31 * x551) + (Int32.toInt64 v552)) fun x554 =>
      ba_bn2 (xb_time s553 a3 1) fun v555 s556 =>
      ba_lt ((31 * x554) + (Int32.toInt64 v555)) fun x557 =>
      ba_bn2 (xb_forces s556 a3) fun v558 s559 =>
      ba_lt ((31 * x557) + (Int32.toInt64 v558)) fun x560 =>
      ba_bn2 (xb_ask s559 a3) fun v561 s562 =>
      ba_lt ((31 * x560) + (Int32.toInt64 v561)) fun x563 =>
      ba_bn2 (xb_chance s562 5 a3 0) fun v564 s565 =>
      ba_lt ((31 * x563) + v564) fun x566 =>
      ba_bn2 (xb_chance s565 5 a3 1) fun v567 s568 =>
      some (((31 * x566) + v567), s568)
set_option maxHeartbeats 4000000 in
set_option maxRecDepth 100000 in
theorem yb_withBall {w : ba_W} (hj : ba_inj ba_tC w) (l : Launch) {s : ba_St} {a1 : Int64} {a3 : Int32} {o : Int64 × ba_St} (h : xb_withBall s a1 a3 = some o) : ba_CL ba_tC w l yX5_withBall cX5_withBall 7 (some .long) rm_b_withBall [.ref (w.1 0), .long a1, .int a3] s o := by
  refine ba_metL (lv := [(0, .ref (w.1 0)), (1, .long a1), (3, .int a3)]) l hj (by decide +kernel) ⟨Nat.le_of_ble_eq_true rfl, rfl⟩ ?_
  intro X V RT
  unfold xb_withBall at h
  refine ba_lload_n V dX5_withBall_0 1 rfl ?_
  refine ba_lstore (lv' := [(4, .long a1), (0, .ref (w.1 0)), (1, .long a1), (3, .int a3)]) V dX5_withBall_1 (by decide) rfl ?_
  refine ba_ldc2 V dX5_withBall_3 kkX5_294 ?_
  refine ba_lload V dX5_withBall_6 0 rfl ?_
  refine ba_lmul V dX5_withBall_8 ?_
  refine ba_aload_n V dX5_withBall_9 1 rfl ?_
  refine ba_iload_n V dX5_withBall_10 3 rfl ?_
  refine ba_iconst V dX5_withBall_11 ba_c0 ?_
  obtain ⟨v527, hc, h⟩ := ba_bnd_some h
  refine ba_callVI (As := [.int a3, .int 0]) (st := [.long (31 * a1)]) V dX5_withBall_12 kcX5_342 ba_sBag (fun l => yb_ball V.inj l hc) ⟨rfl, rfl⟩ ⟨rfl, rfl, Nat.le_of_ble_eq_true rfl, Nat.le_of_ble_eq_true rfl⟩ (Nat.le_of_ble_eq_true rfl) ?_
  refine ba_i2l V dX5_withBall_15 ?_
  refine ba_ladd V dX5_withBall_16 ?_
  refine ba_letL h (fun x528 h => ?_)
  refine ba_lstore (lv' := [(4, .long x528), (0, .ref (w.1 0)), (1, .long a1), (3, .int a3)]) V dX5_withBall_17 (by decide) rfl ?_
  refine ba_ldc2 V dX5_withBall_19 kkX5_294 ?_
  refine ba_lload V dX5_withBall_22 0 rfl ?_
  refine ba_lmul V dX5_withBall_24 ?_
  refine ba_aload_n V dX5_withBall_25 1 rfl ?_
  refine ba_iload_n V dX5_withBall_26 3 rfl ?_
  refine ba_iconst V dX5_withBall_27 ba_c1 ?_
  obtain ⟨v529, hc, h⟩ := ba_bnd_some h
  refine ba_callVI (As := [.int a3, .int 1]) (st := [.long (31 * x528)]) V dX5_withBall_28 kcX5_342 ba_sBag (fun l => yb_ball V.inj l hc) ⟨rfl, rfl⟩ ⟨rfl, rfl, Nat.le_of_ble_eq_true rfl, Nat.le_of_ble_eq_true rfl⟩ (Nat.le_of_ble_eq_true rfl) ?_
  refine ba_i2l V dX5_withBall_31 ?_
  refine ba_ladd V dX5_withBall_32 ?_
  refine ba_letL h (fun x530 h => ?_)
  refine ba_lstore (lv' := [(4, .long x530), (0, .ref (w.1 0)), (1, .long a1), (3, .int a3)]) V dX5_withBall_33 (by decide) rfl ?_
  refine ba_iconst V dX5_withBall_35 ba_c0 ?_
  refine ba_istore (lv' := [(6, .int 0), (4, .long x530), (0, .ref (w.1 0)), (1, .long a1), (3, .int a3)]) V dX5_withBall_36 (by decide) rfl ?_
  obtain ⟨o, ho, h⟩ := ba_bnd_some h
  refine ba_sub [2, 4, 1, 0] rfl (yb_withBall_l38 V (o := o) (fun s538 x539 e => ?_) 1000 s x530 0 ho)
  subst e
  try dsimp only at h
  refine ba_iconst V dX5_withBall_97 ba_c0 ?_
  refine ba_istore (lv' := [(6, .int 0), (0, .ref (w.1 0)), (3, .int a3), (4, .long x539)]) V dX5_withBall_98 (by decide) rfl ?_
  obtain ⟨o, ho, h⟩ := ba_bnd_some h
  refine ba_sub [1, 2, 3, 0] rfl (yb_withBall_l100 V (o := o) (fun s544 x545 e => ?_) 1000 s538 x539 0 ho)
  subst e
  try dsimp only at h
  refine ba_ldc2 V dX5_withBall_129 kkX5_294 ?_
  refine ba_lload V dX5_withBall_132 2 rfl ?_
  refine ba_lmul V dX5_withBall_134 ?_
  refine ba_aload_n V dX5_withBall_135 0 rfl ?_
  refine ba_iload_n V dX5_withBall_136 1 rfl ?_
  refine ba_iconst V dX5_withBall_137 ba_c0 ?_
  obtain ⟨v546, s547, hc, h⟩ := ba_bn2_some h
  refine ba_callVI (As := [.int a3, .int 0]) (st := [.long (31 * x545)]) V dX5_withBall_138 kcX5_354 ba_sBag (fun l => yb_shoot V.inj l hc) ⟨rfl, rfl⟩ ⟨rfl, rfl, Nat.le_of_ble_eq_true rfl, Nat.le_of_ble_eq_true rfl⟩ (Nat.le_of_ble_eq_true rfl) ?_
  refine ba_i2l V dX5_withBall_141 ?_
  refine ba_ladd V dX5_withBall_142 ?_
  refine ba_letL h (fun x548 h => ?_)
  refine ba_lstore (lv' := [(4, .long x548), (0, .ref (w.1 0)), (3, .int a3)]) V dX5_withBall_143 (by decide) rfl ?_
  refine ba_ldc2 V dX5_withBall_145 kkX5_294 ?_
  refine ba_lload V dX5_withBall_148 0 rfl ?_
  refine ba_lmul V dX5_withBall_150 ?_
  refine ba_aload_n V dX5_withBall_151 1 rfl ?_
  refine ba_iload_n V dX5_withBall_152 2 rfl ?_
  refine ba_iconst V dX5_withBall_153 ba_c1 ?_
  obtain ⟨v549, s550, hc, h⟩ := ba_bn2_some h
  refine ba_callVI (As := [.int a3, .int 1]) (st := [.long (31 * x548)]) V dX5_withBall_154 kcX5_354 ba_sBag (fun l => yb_shoot V.inj l hc) ⟨rfl, rfl⟩ ⟨rfl, rfl, Nat.le_of_ble_eq_true rfl, Nat.le_of_ble_eq_true rfl⟩ (Nat.le_of_ble_eq_true rfl) ?_
  refine ba_i2l V dX5_withBall_157 ?_
  refine ba_ladd V dX5_withBall_158 ?_
  refine ba_letL h (fun x551 h => ?_)
  refine ba_lstore (lv' := [(4, .long x551), (0, .ref (w.1 0)), (3, .int a3)]) V dX5_withBall_159 (by decide) rfl ?_
  refine ba_ldc2 V dX5_withBall_161 kkX5_294 ?_
  refine ba_lload V dX5_withBall_164 0 rfl ?_
  refine ba_lmul V dX5_withBall_166 ?_
  refine ba_aload_n V dX5_withBall_167 1 rfl ?_
  refine ba_iload_n V dX5_withBall_168 2 rfl ?_
  refine ba_iconst V dX5_withBall_169 ba_c0 ?_
  obtain ⟨v552, s553, hc, h⟩ := ba_bn2_some h
  refine ba_callVI (As := [.int a3, .int 0]) (st := [.long (31 * x551)]) V dX5_withBall_170 kcX5_357 ba_sBag (fun l => yb_time V.inj l hc) ⟨rfl, rfl⟩ ⟨rfl, rfl, Nat.le_of_ble_eq_true rfl, Nat.le_of_ble_eq_true rfl⟩ (Nat.le_of_ble_eq_true rfl) ?_
  refine ba_i2l V dX5_withBall_173 ?_
  refine ba_ladd V dX5_withBall_174 ?_
  refine ba_letL h (fun x554 h => ?_)
  refine ba_lstore (lv' := [(4, .long x554), (0, .ref (w.1 0)), (3, .int a3)]) V dX5_withBall_175 (by decide) rfl ?_
  refine ba_ldc2 V dX5_withBall_177 kkX5_294 ?_
  refine ba_lload V dX5_withBall_180 0 rfl ?_
  refine ba_lmul V dX5_withBall_182 ?_
  refine ba_aload_n V dX5_withBall_183 1 rfl ?_
  refine ba_iload_n V dX5_withBall_184 2 rfl ?_
  refine ba_iconst V dX5_withBall_185 ba_c1 ?_
  obtain ⟨v555, s556, hc, h⟩ := ba_bn2_some h
  refine ba_callVI (As := [.int a3, .int 1]) (st := [.long (31 * x554)]) V dX5_withBall_186 kcX5_357 ba_sBag (fun l => yb_time V.inj l hc) ⟨rfl, rfl⟩ ⟨rfl, rfl, Nat.le_of_ble_eq_true rfl, Nat.le_of_ble_eq_true rfl⟩ (Nat.le_of_ble_eq_true rfl) ?_
  refine ba_i2l V dX5_withBall_189 ?_
  refine ba_ladd V dX5_withBall_190 ?_
  refine ba_letL h (fun x557 h => ?_)
  refine ba_lstore (lv' := [(4, .long x557), (0, .ref (w.1 0)), (3, .int a3)]) V dX5_withBall_191 (by decide) rfl ?_
  refine ba_ldc2 V dX5_withBall_193 kkX5_294 ?_
  refine ba_lload V dX5_withBall_196 0 rfl ?_
  refine ba_lmul V dX5_withBall_198 ?_
  refine ba_aload_n V dX5_withBall_199 1 rfl ?_
  refine ba_iload_n V dX5_withBall_200 2 rfl ?_
  obtain ⟨v558, s559, hc, h⟩ := ba_bn2_some h
  refine ba_callVI (As := [.int a3]) (st := [.long (31 * x557)]) V dX5_withBall_201 kcX5_360 ba_sBag (fun l => yb_forces V.inj l hc) ⟨rfl, rfl⟩ ⟨rfl, rfl, Nat.le_of_ble_eq_true rfl, Nat.le_of_ble_eq_true rfl⟩ (Nat.le_of_ble_eq_true rfl) ?_
  refine ba_i2l V dX5_withBall_204 ?_
  refine ba_ladd V dX5_withBall_205 ?_
  refine ba_letL h (fun x560 h => ?_)
  refine ba_lstore (lv' := [(4, .long x560), (0, .ref (w.1 0)), (3, .int a3)]) V dX5_withBall_206 (by decide) rfl ?_
  refine ba_ldc2 V dX5_withBall_208 kkX5_294 ?_
  refine ba_lload V dX5_withBall_211 0 rfl ?_
  refine ba_lmul V dX5_withBall_213 ?_
  refine ba_aload_n V dX5_withBall_214 1 rfl ?_
  refine ba_iload_n V dX5_withBall_215 2 rfl ?_
  obtain ⟨v561, s562, hc, h⟩ := ba_bn2_some h
  refine ba_callVI (As := [.int a3]) (st := [.long (31 * x560)]) V dX5_withBall_216 kcX5_363 ba_sBag (fun l => yb_ask V.inj l hc) ⟨rfl, rfl⟩ ⟨rfl, rfl, Nat.le_of_ble_eq_true rfl, Nat.le_of_ble_eq_true rfl⟩ (Nat.le_of_ble_eq_true rfl) ?_
  refine ba_i2l V dX5_withBall_219 ?_
  refine ba_ladd V dX5_withBall_220 ?_
  refine ba_letL h (fun x563 h => ?_)
  refine ba_lstore (lv' := [(4, .long x563), (0, .ref (w.1 0)), (3, .int a3)]) V dX5_withBall_221 (by decide) rfl ?_
  refine ba_ldc2 V dX5_withBall_223 kkX5_294 ?_
  refine ba_lload V dX5_withBall_226 0 rfl ?_
  refine ba_lmul V dX5_withBall_228 ?_
  refine ba_aload_n V dX5_withBall_229 1 rfl ?_
  refine ba_iconst V dX5_withBall_230 ba_c5 ?_
  refine ba_iload_n V dX5_withBall_231 2 rfl ?_
  refine ba_iconst V dX5_withBall_232 ba_c0 ?_
  obtain ⟨v564, s565, hc, h⟩ := ba_bn2_some h
  refine ba_callVL (As := [.int 5, .int a3, .int 0]) (st := [.long (31 * x563)]) V dX5_withBall_233 kcX5_366 ba_sBag (fun l => yb_chance V.inj l hc) ⟨rfl, rfl⟩ ⟨rfl, rfl, Nat.le_of_ble_eq_true rfl, Nat.le_of_ble_eq_true rfl⟩ (Nat.le_of_ble_eq_true rfl) ?_
  refine ba_ladd V dX5_withBall_236 ?_
  refine ba_letL h (fun x566 h => ?_)
  refine ba_lstore (lv' := [(4, .long x566), (0, .ref (w.1 0)), (3, .int a3)]) V dX5_withBall_237 (by decide) rfl ?_
  refine ba_ldc2 V dX5_withBall_239 kkX5_294 ?_
  refine ba_lload V dX5_withBall_242 0 rfl ?_
  refine ba_lmul V dX5_withBall_244 ?_
  refine ba_aload_n V dX5_withBall_245 1 rfl ?_
  refine ba_iconst V dX5_withBall_246 ba_c5 ?_
  refine ba_iload_n V dX5_withBall_247 2 rfl ?_
  refine ba_iconst V dX5_withBall_248 ba_c1 ?_
  obtain ⟨v567, s568, hc, h⟩ := ba_bn2_some h
  refine ba_callVL (As := [.int 5, .int a3, .int 1]) (st := [.long (31 * x566)]) V dX5_withBall_249 kcX5_366 ba_sBag (fun l => yb_chance V.inj l hc) ⟨rfl, rfl⟩ ⟨rfl, rfl, Nat.le_of_ble_eq_true rfl, Nat.le_of_ble_eq_true rfl⟩ (Nat.le_of_ble_eq_true rfl) ?_
  refine ba_ladd V dX5_withBall_252 ?_
  exact RT _ _ _ _ dX5_withBall_253 (Option.some.inj h)
def xb_digest_l6 (k : (ba_St × Int64 × Int32) → Option (ba_St × Int64)) (a : (ba_St × Int64 × Int32)) : Option (ba_St × Int64) :=
  match a with
  | (s, z1, z3) =>
    if 8 ≤ z3 then
      some (s, z1)
    else
      ba_bn2 (xb_count s z3) fun v569 s570 =>
      ba_lt ((31 * z1) + (Int32.toInt64 v569)) fun x571 =>
      ba_lt (z3 + 1) fun x572 =>
      k (s570, x571, x572)
set_option maxHeartbeats 4000000 in
set_option maxRecDepth 100000 in
theorem yb_digest_l6 {w : ba_W} {X : ba_X} (V : ba_V ba_tC w 5 X cX5_digest RX5 rm_b_digest) {o : ba_St × Int64} (EX : ∀ (s : ba_St) (z1 : Int64), (s, z1) = o → ba_G ba_tC w 5 X s 31 [(0, .ref (w.1 0)), (1, .long z1)] []) : ∀ (n : Nat) (s : ba_St) (z1 : Int64) (z3 : Int32), ba_fix (xb_digest_l6) n (s, z1, z3) = some o → ba_G ba_tC w 5 X s 6 [(0, .ref (w.1 0)), (1, .long z1), (3, .int z3)] [] := by
  intro n s z1 z3 h
  refine ba_loop (P := fun a => ba_G ba_tC w 5 X a.1 6 [(0, .ref (w.1 0)), (1, .long a.2.1), (3, .int a.2.2)] []) ?_ n (s, z1, z3) h
  intro k hk0 a h
  obtain ⟨s, z1, z3⟩ := a
  have hk : ∀ (s : ba_St) (z1 : Int64) (z3 : Int32), k (s, z1, z3) = some o → ba_G ba_tC w 5 X s 6 [(0, .ref (w.1 0)), (1, .long z1), (3, .int z3)] [] := fun s z1 z3 e => hk0 (s, z1, z3) e
  unfold xb_digest_l6 at h
  try dsimp only at h ⊢
  refine ba_iload_n V dX5_digest_6 2 rfl ?_
  refine ba_bipush V dX5_digest_7 ba_c8b ?_
  refine ba_icmp_ge V dX5_digest_9 rfl h (fun h => ?_) (fun h => ?_)
  · exact ba_sub [0, 1] rfl (EX _ _ (Option.some.inj h))
  · refine ba_ldc2 V dX5_digest_12 kkX5_294 ?_
    refine ba_lload_n V dX5_digest_15 1 rfl ?_
    refine ba_lmul V dX5_digest_16 ?_
    refine ba_aload_n V dX5_digest_17 0 rfl ?_
    refine ba_iload_n V dX5_digest_18 2 rfl ?_
    obtain ⟨v569, s570, hc, h⟩ := ba_bn2_some h
    refine ba_callVI (As := [.int z3]) (st := [.long (31 * z1)]) V dX5_digest_19 kcX5_296 ba_sBag (fun l => yb_count V.inj l hc) ⟨rfl, rfl⟩ ⟨rfl, rfl, Nat.le_of_ble_eq_true rfl, Nat.le_of_ble_eq_true rfl⟩ (Nat.le_of_ble_eq_true rfl) ?_
    refine ba_i2l V dX5_digest_22 ?_
    refine ba_ladd V dX5_digest_23 ?_
    refine ba_letL h (fun x571 h => ?_)
    refine ba_lstore_n (lv' := [(1, .long x571), (0, .ref (w.1 0)), (3, .int z3)]) V dX5_digest_24 (by decide) rfl ?_
    refine ba_iinc V dX5_digest_25 2 rfl ba_c1 (by decide) h (fun x572 h => ⟨[(3, .int x572), (1, .long x571), (0, .ref (w.1 0))], rfl, ?_⟩)
    refine ba_goto V dX5_digest_28 rfl ?_
    exact ba_sub [2, 1, 0] rfl (hk _ _ _ h)
def xb_digest_l33 (s : ba_St) (k : (Int64 × Int32) → Option (Int64)) (a : (Int64 × Int32)) : Option (Int64) :=
  match a with
  | (z1, z3) =>
    if 3 ≤ z3 then
      some z1
    else
      ba_bnd (xb_fault s z3) fun v575 =>
      ba_lt ((31 * z1) + (Int32.toInt64 v575)) fun x576 =>
      ba_lt (z3 + 1) fun x577 =>
      k (x576, x577)
set_option maxHeartbeats 4000000 in
set_option maxRecDepth 100000 in
theorem yb_digest_l33 {w : ba_W} {X : ba_X} (V : ba_V ba_tC w 5 X cX5_digest RX5 rm_b_digest) {s : ba_St} {o : Int64} (EX : ∀ (z1 : Int64), z1 = o → ba_G ba_tC w 5 X s 57 [(0, .ref (w.1 0)), (1, .long z1)] []) : ∀ (n : Nat) (z1 : Int64) (z3 : Int32), ba_fix (xb_digest_l33 s) n (z1, z3) = some o → ba_G ba_tC w 5 X s 33 [(0, .ref (w.1 0)), (1, .long z1), (3, .int z3)] [] := by
  intro n z1 z3 h
  refine ba_loop (P := fun a => ba_G ba_tC w 5 X s 33 [(0, .ref (w.1 0)), (1, .long a.1), (3, .int a.2)] []) ?_ n (z1, z3) h
  intro k hk0 a h
  obtain ⟨z1, z3⟩ := a
  have hk : ∀ (z1 : Int64) (z3 : Int32), k (z1, z3) = some o → ba_G ba_tC w 5 X s 33 [(0, .ref (w.1 0)), (1, .long z1), (3, .int z3)] [] := fun z1 z3 e => hk0 (z1, z3) e
  unfold xb_digest_l33 at h
  try dsimp only at h ⊢
  refine ba_iload_n V dX5_digest_33 2 rfl ?_
  refine ba_iconst V dX5_digest_34 ba_c3 ?_
  refine ba_icmp_ge V dX5_digest_35 rfl h (fun h => ?_) (fun h => ?_)
  · exact ba_sub [0, 1] rfl (EX _ (Option.some.inj h))
  · refine ba_ldc2 V dX5_digest_38 kkX5_294 ?_
    refine ba_lload_n V dX5_digest_41 1 rfl ?_
    refine ba_lmul V dX5_digest_42 ?_
    refine ba_aload_n V dX5_digest_43 0 rfl ?_
    refine ba_iload_n V dX5_digest_44 2 rfl ?_
    obtain ⟨v575, hc, h⟩ := ba_bnd_some h
    refine ba_callVI (As := [.int z3]) (st := [.long (31 * z1)]) V dX5_digest_45 kcX5_299 ba_sBag (fun l => yb_fault V.inj l hc) ⟨rfl, rfl⟩ ⟨rfl, rfl, Nat.le_of_ble_eq_true rfl, Nat.le_of_ble_eq_true rfl⟩ (Nat.le_of_ble_eq_true rfl) ?_
    refine ba_i2l V dX5_digest_48 ?_
    refine ba_ladd V dX5_digest_49 ?_
    refine ba_letL h (fun x576 h => ?_)
    refine ba_lstore_n (lv' := [(1, .long x576), (0, .ref (w.1 0)), (3, .int z3)]) V dX5_digest_50 (by decide) rfl ?_
    refine ba_iinc V dX5_digest_51 2 rfl ba_c1 (by decide) h (fun x577 h => ⟨[(3, .int x577), (1, .long x576), (0, .ref (w.1 0))], rfl, ?_⟩)
    refine ba_goto V dX5_digest_54 rfl ?_
    exact ba_sub [2, 1, 0] rfl (hk _ _ h)
def xb_digest_l59 (k : (ba_St × Int64 × Int32) → Option (ba_St × Int64)) (a : (ba_St × Int64 × Int32)) : Option (ba_St × Int64) :=
  match a with
  | (s, z1, z3) =>
    if 72 ≤ z3 then
      some (s, z1)
    else
      ba_bn2 (xb_sees s 9 (z3 / 9) (ba_irm z3 9)) fun v579 s580 =>
      ba_lt ((31 * z1) + (Int32.toInt64 v579)) fun x581 =>
      ba_lt (z3 + 1) fun x582 =>
      k (s580, x581, x582)
set_option maxHeartbeats 4000000 in
set_option maxRecDepth 100000 in
theorem yb_digest_l59 {w : ba_W} {X : ba_X} (V : ba_V ba_tC w 5 X cX5_digest RX5 rm_b_digest) {o : ba_St × Int64} (EX : ∀ (s : ba_St) (z1 : Int64), (s, z1) = o → ba_G ba_tC w 5 X s 93 [(0, .ref (w.1 0)), (1, .long z1)] []) : ∀ (n : Nat) (s : ba_St) (z1 : Int64) (z3 : Int32), ba_fix (xb_digest_l59) n (s, z1, z3) = some o → ba_G ba_tC w 5 X s 59 [(0, .ref (w.1 0)), (1, .long z1), (3, .int z3)] [] := by
  intro n s z1 z3 h
  refine ba_loop (P := fun a => ba_G ba_tC w 5 X a.1 59 [(0, .ref (w.1 0)), (1, .long a.2.1), (3, .int a.2.2)] []) ?_ n (s, z1, z3) h
  intro k hk0 a h
  obtain ⟨s, z1, z3⟩ := a
  have hk : ∀ (s : ba_St) (z1 : Int64) (z3 : Int32), k (s, z1, z3) = some o → ba_G ba_tC w 5 X s 59 [(0, .ref (w.1 0)), (1, .long z1), (3, .int z3)] [] := fun s z1 z3 e => hk0 (s, z1, z3) e
  unfold xb_digest_l59 at h
  try dsimp only at h ⊢
  refine ba_iload_n V dX5_digest_59 2 rfl ?_
  refine ba_bipush V dX5_digest_60 ba_c72b ?_
  refine ba_icmp_ge V dX5_digest_62 rfl h (fun h => ?_) (fun h => ?_)
  · exact ba_sub [0, 1] rfl (EX _ _ (Option.some.inj h))
  · refine ba_ldc2 V dX5_digest_65 kkX5_294 ?_
    refine ba_lload_n V dX5_digest_68 1 rfl ?_
    refine ba_lmul V dX5_digest_69 ?_
    refine ba_aload_n V dX5_digest_70 0 rfl ?_
    refine ba_bipush V dX5_digest_71 ba_c9b ?_
    refine ba_iload_n V dX5_digest_73 2 rfl ?_
    refine ba_bipush V dX5_digest_74 ba_c9b ?_
    refine ba_idiv V dX5_digest_76 (by decide) ?_
    refine ba_iload_n V dX5_digest_77 2 rfl ?_
    refine ba_bipush V dX5_digest_78 ba_c9b ?_
    refine ba_irem V dX5_digest_80 (by decide) ?_
    obtain ⟨v579, s580, hc, h⟩ := ba_bn2_some h
    refine ba_callVI (As := [.int 9, .int (z3 / 9), .int (ba_irm z3 9)]) (st := [.long (31 * z1)]) V dX5_digest_81 kcX5_302 ba_sBag (fun l => yb_sees V.inj l hc) ⟨rfl, rfl⟩ ⟨rfl, rfl, Nat.le_of_ble_eq_true rfl, Nat.le_of_ble_eq_true rfl⟩ (Nat.le_of_ble_eq_true rfl) ?_
    refine ba_i2l V dX5_digest_84 ?_
    refine ba_ladd V dX5_digest_85 ?_
    refine ba_letL h (fun x581 h => ?_)
    refine ba_lstore_n (lv' := [(1, .long x581), (0, .ref (w.1 0)), (3, .int z3)]) V dX5_digest_86 (by decide) rfl ?_
    refine ba_iinc V dX5_digest_87 2 rfl ba_c1 (by decide) h (fun x582 h => ⟨[(3, .int x582), (1, .long x581), (0, .ref (w.1 0))], rfl, ?_⟩)
    refine ba_goto V dX5_digest_90 rfl ?_
    exact ba_sub [2, 1, 0] rfl (hk _ _ _ h)
def xb_digest_l104 (z3 : Int32) (k : (ba_St × Int64 × Int32) → Option (ba_St × Int64)) (a : (ba_St × Int64 × Int32)) : Option (ba_St × Int64) :=
  match a with
  | (s, z1, z4) =>
    if 3 ≤ z4 then
      some (s, z1)
    else
      ba_bn2 (xb_cup s z3 z4) fun v585 s586 =>
      ba_lt ((31 * z1) + (Int32.toInt64 v585)) fun x587 =>
      ba_lt (z4 + 1) fun x588 =>
      k (s586, x587, x588)
set_option maxHeartbeats 4000000 in
set_option maxRecDepth 100000 in
theorem yb_digest_l104 {w : ba_W} {X : ba_X} (V : ba_V ba_tC w 5 X cX5_digest RX5 rm_b_digest) {z3 : Int32} {o : ba_St × Int64} (EX : ∀ (s : ba_St) (z1 : Int64), (s, z1) = o → ba_G ba_tC w 5 X s 131 [(0, .ref (w.1 0)), (1, .long z1), (3, .int z3)] []) : ∀ (n : Nat) (s : ba_St) (z1 : Int64) (z4 : Int32), ba_fix (xb_digest_l104 z3) n (s, z1, z4) = some o → ba_G ba_tC w 5 X s 104 [(0, .ref (w.1 0)), (1, .long z1), (3, .int z3), (4, .int z4)] [] := by
  intro n s z1 z4 h
  refine ba_loop (P := fun a => ba_G ba_tC w 5 X a.1 104 [(0, .ref (w.1 0)), (1, .long a.2.1), (3, .int z3), (4, .int a.2.2)] []) ?_ n (s, z1, z4) h
  intro k hk0 a h
  obtain ⟨s, z1, z4⟩ := a
  have hk : ∀ (s : ba_St) (z1 : Int64) (z4 : Int32), k (s, z1, z4) = some o → ba_G ba_tC w 5 X s 104 [(0, .ref (w.1 0)), (1, .long z1), (3, .int z3), (4, .int z4)] [] := fun s z1 z4 e => hk0 (s, z1, z4) e
  unfold xb_digest_l104 at h
  try dsimp only at h ⊢
  refine ba_iload V dX5_digest_104 3 rfl ?_
  refine ba_iconst V dX5_digest_106 ba_c3 ?_
  refine ba_icmp_ge V dX5_digest_107 rfl h (fun h => ?_) (fun h => ?_)
  · exact ba_sub [0, 1, 2] rfl (EX _ _ (Option.some.inj h))
  · refine ba_ldc2 V dX5_digest_110 kkX5_294 ?_
    refine ba_lload_n V dX5_digest_113 1 rfl ?_
    refine ba_lmul V dX5_digest_114 ?_
    refine ba_aload_n V dX5_digest_115 0 rfl ?_
    refine ba_iload_n V dX5_digest_116 2 rfl ?_
    refine ba_iload V dX5_digest_117 3 rfl ?_
    obtain ⟨v585, s586, hc, h⟩ := ba_bn2_some h
    refine ba_callVI (As := [.int z3, .int z4]) (st := [.long (31 * z1)]) V dX5_digest_119 kcX5_305 ba_sBag (fun l => yb_cup V.inj l hc) ⟨rfl, rfl⟩ ⟨rfl, rfl, Nat.le_of_ble_eq_true rfl, Nat.le_of_ble_eq_true rfl⟩ (Nat.le_of_ble_eq_true rfl) ?_
    refine ba_i2l V dX5_digest_122 ?_
    refine ba_ladd V dX5_digest_123 ?_
    refine ba_letL h (fun x587 h => ?_)
    refine ba_lstore_n (lv' := [(1, .long x587), (0, .ref (w.1 0)), (3, .int z3), (4, .int z4)]) V dX5_digest_124 (by decide) rfl ?_
    refine ba_iinc V dX5_digest_125 3 rfl ba_c1 (by decide) h (fun x588 h => ⟨[(4, .int x588), (1, .long x587), (0, .ref (w.1 0)), (3, .int z3)], rfl, ?_⟩)
    refine ba_goto V dX5_digest_128 rfl ?_
    exact ba_sub [2, 1, 3, 0] rfl (hk _ _ _ h)
def xb_digest_l95 (k : (ba_St × Int64 × Int32) → Option (ba_St × Int64)) (a : (ba_St × Int64 × Int32)) : Option (ba_St × Int64) :=
  match a with
  | (s, z1, z3) =>
    if 9 ≤ z3 then
      some (s, z1)
    else
      ba_bnd (ba_fix (xb_digest_l104 z3) 1000 (s, z1, 0)) fun o => match o with
      | (s589, x590) =>
        ba_lt (z3 + 1) fun x591 =>
        k (s589, x590, x591)
set_option maxHeartbeats 4000000 in
set_option maxRecDepth 100000 in
theorem yb_digest_l95 {w : ba_W} {X : ba_X} (V : ba_V ba_tC w 5 X cX5_digest RX5 rm_b_digest) {o : ba_St × Int64} (EX : ∀ (s : ba_St) (z1 : Int64), (s, z1) = o → ba_G ba_tC w 5 X s 137 [(0, .ref (w.1 0)), (1, .long z1)] []) : ∀ (n : Nat) (s : ba_St) (z1 : Int64) (z3 : Int32), ba_fix (xb_digest_l95) n (s, z1, z3) = some o → ba_G ba_tC w 5 X s 95 [(0, .ref (w.1 0)), (1, .long z1), (3, .int z3)] [] := by
  intro n s z1 z3 h
  refine ba_loop (P := fun a => ba_G ba_tC w 5 X a.1 95 [(0, .ref (w.1 0)), (1, .long a.2.1), (3, .int a.2.2)] []) ?_ n (s, z1, z3) h
  intro k hk0 a h
  obtain ⟨s, z1, z3⟩ := a
  have hk : ∀ (s : ba_St) (z1 : Int64) (z3 : Int32), k (s, z1, z3) = some o → ba_G ba_tC w 5 X s 95 [(0, .ref (w.1 0)), (1, .long z1), (3, .int z3)] [] := fun s z1 z3 e => hk0 (s, z1, z3) e
  unfold xb_digest_l95 at h
  try dsimp only at h ⊢
  refine ba_iload_n V dX5_digest_95 2 rfl ?_
  refine ba_bipush V dX5_digest_96 ba_c9b ?_
  refine ba_icmp_ge V dX5_digest_98 rfl h (fun h => ?_) (fun h => ?_)
  · exact ba_sub [0, 1] rfl (EX _ _ (Option.some.inj h))
  · refine ba_iconst V dX5_digest_101 ba_c0 ?_
    refine ba_istore (lv' := [(4, .int 0), (0, .ref (w.1 0)), (1, .long z1), (3, .int z3)]) V dX5_digest_102 (by decide) rfl ?_
    obtain ⟨o, ho, h⟩ := ba_bnd_some h
    refine ba_sub [1, 2, 3, 0] rfl (yb_digest_l104 V (o := o) (fun s589 x590 e => ?_) 1000 s z1 0 ho)
    subst e
    try dsimp only at h
    refine ba_iinc V dX5_digest_131 2 rfl ba_c1 (by decide) h (fun x591 h => ⟨[(3, .int x591), (0, .ref (w.1 0)), (1, .long x590)], rfl, ?_⟩)
    refine ba_goto V dX5_digest_134 rfl ?_
    exact ba_sub [1, 2, 0] rfl (hk _ _ _ h)
def xb_digest_l139 (k : (ba_St × Int64 × Int32) → Option (ba_St × Int64)) (a : (ba_St × Int64 × Int32)) : Option (ba_St × Int64) :=
  match a with
  | (s, z1, z3) =>
    if (s.1 3 3) ≤ z3 then
      some (s, z1)
    else
      ba_bn2 (xb_withPin s z1 z3) fun v594 s595 =>
      ba_lt (z3 + 1) fun x596 =>
      k (s595, v594, x596)
set_option maxHeartbeats 4000000 in
set_option maxRecDepth 100000 in
theorem yb_digest_l139 {w : ba_W} {X : ba_X} (V : ba_V ba_tC w 5 X cX5_digest RX5 rm_b_digest) {o : ba_St × Int64} (EX : ∀ (s : ba_St) (z1 : Int64), (s, z1) = o → ba_G ba_tC w 5 X s 163 [(0, .ref (w.1 0)), (1, .long z1)] []) : ∀ (n : Nat) (s : ba_St) (z1 : Int64) (z3 : Int32), ba_fix (xb_digest_l139) n (s, z1, z3) = some o → ba_G ba_tC w 5 X s 139 [(0, .ref (w.1 0)), (1, .long z1), (3, .int z3)] [] := by
  intro n s z1 z3 h
  refine ba_loop (P := fun a => ba_G ba_tC w 5 X a.1 139 [(0, .ref (w.1 0)), (1, .long a.2.1), (3, .int a.2.2)] []) ?_ n (s, z1, z3) h
  intro k hk0 a h
  obtain ⟨s, z1, z3⟩ := a
  have hk : ∀ (s : ba_St) (z1 : Int64) (z3 : Int32), k (s, z1, z3) = some o → ba_G ba_tC w 5 X s 139 [(0, .ref (w.1 0)), (1, .long z1), (3, .int z3)] [] := fun s z1 z3 e => hk0 (s, z1, z3) e
  unfold xb_digest_l139 at h
  try dsimp only at h ⊢
  refine ba_iload_n V dX5_digest_139 2 rfl ?_
  refine ba_aload_n V dX5_digest_140 0 rfl ?_
  refine ba_getR V dX5_digest_141 kfX5_22 ba_sBag rfl ?_
  refine ba_getI V dX5_digest_144 kfX5_111 ba_sBoard rfl ?_
  refine ba_icmp_ge V dX5_digest_147 rfl h (fun h => ?_) (fun h => ?_)
  · exact ba_sub [0, 1] rfl (EX _ _ (Option.some.inj h))
  · refine ba_aload_n V dX5_digest_150 0 rfl ?_
    refine ba_lload_n V dX5_digest_151 1 rfl ?_
    refine ba_iload_n V dX5_digest_152 2 rfl ?_
    obtain ⟨v594, s595, hc, h⟩ := ba_bn2_some h
    refine ba_callVL (As := [.long z1, .int z3]) (st := []) V dX5_digest_153 kcX5_308 ba_sBag (fun l => yb_withPin V.inj l hc) ⟨rfl, rfl⟩ ⟨rfl, rfl, Nat.le_of_ble_eq_true rfl, Nat.le_of_ble_eq_true rfl⟩ (Nat.le_of_ble_eq_true rfl) ?_
    refine ba_lstore_n (lv' := [(1, .long v594), (0, .ref (w.1 0)), (3, .int z3)]) V dX5_digest_156 (by decide) rfl ?_
    refine ba_iinc V dX5_digest_157 2 rfl ba_c1 (by decide) h (fun x596 h => ⟨[(3, .int x596), (1, .long v594), (0, .ref (w.1 0))], rfl, ?_⟩)
    refine ba_goto V dX5_digest_160 rfl ?_
    exact ba_sub [2, 1, 0] rfl (hk _ _ _ h)
def xb_digest_l165 (k : (ba_St × Int64 × Int32) → Option (ba_St × Int64)) (a : (ba_St × Int64 × Int32)) : Option (ba_St × Int64) :=
  match a with
  | (s, z1, z3) =>
    if (s.1 3 7) ≤ z3 then
      some (s, z1)
    else
      ba_bn2 (xb_withBall s z1 z3) fun v599 s600 =>
      ba_lt (z3 + 1) fun x601 =>
      k (s600, v599, x601)
set_option maxHeartbeats 4000000 in
set_option maxRecDepth 100000 in
theorem yb_digest_l165 {w : ba_W} {X : ba_X} (V : ba_V ba_tC w 5 X cX5_digest RX5 rm_b_digest) {o : ba_St × Int64} (EX : ∀ (s : ba_St) (z1 : Int64), (s, z1) = o → ba_G ba_tC w 5 X s 189 [(0, .ref (w.1 0)), (1, .long z1)] []) : ∀ (n : Nat) (s : ba_St) (z1 : Int64) (z3 : Int32), ba_fix (xb_digest_l165) n (s, z1, z3) = some o → ba_G ba_tC w 5 X s 165 [(0, .ref (w.1 0)), (1, .long z1), (3, .int z3)] [] := by
  intro n s z1 z3 h
  refine ba_loop (P := fun a => ba_G ba_tC w 5 X a.1 165 [(0, .ref (w.1 0)), (1, .long a.2.1), (3, .int a.2.2)] []) ?_ n (s, z1, z3) h
  intro k hk0 a h
  obtain ⟨s, z1, z3⟩ := a
  have hk : ∀ (s : ba_St) (z1 : Int64) (z3 : Int32), k (s, z1, z3) = some o → ba_G ba_tC w 5 X s 165 [(0, .ref (w.1 0)), (1, .long z1), (3, .int z3)] [] := fun s z1 z3 e => hk0 (s, z1, z3) e
  unfold xb_digest_l165 at h
  try dsimp only at h ⊢
  refine ba_iload_n V dX5_digest_165 2 rfl ?_
  refine ba_aload_n V dX5_digest_166 0 rfl ?_
  refine ba_getR V dX5_digest_167 kfX5_22 ba_sBag rfl ?_
  refine ba_getI V dX5_digest_170 kfX5_132 ba_sBoard rfl ?_
  refine ba_icmp_ge V dX5_digest_173 rfl h (fun h => ?_) (fun h => ?_)
  · exact ba_sub [0, 1] rfl (EX _ _ (Option.some.inj h))
  · refine ba_aload_n V dX5_digest_176 0 rfl ?_
    refine ba_lload_n V dX5_digest_177 1 rfl ?_
    refine ba_iload_n V dX5_digest_178 2 rfl ?_
    obtain ⟨v599, s600, hc, h⟩ := ba_bn2_some h
    refine ba_callVL (As := [.long z1, .int z3]) (st := []) V dX5_digest_179 kcX5_312 ba_sBag (fun l => yb_withBall V.inj l hc) ⟨rfl, rfl⟩ ⟨rfl, rfl, Nat.le_of_ble_eq_true rfl, Nat.le_of_ble_eq_true rfl⟩ (Nat.le_of_ble_eq_true rfl) ?_
    refine ba_lstore_n (lv' := [(1, .long v599), (0, .ref (w.1 0)), (3, .int z3)]) V dX5_digest_182 (by decide) rfl ?_
    refine ba_iinc V dX5_digest_183 2 rfl ba_c1 (by decide) h (fun x601 h => ⟨[(3, .int x601), (1, .long v599), (0, .ref (w.1 0))], rfl, ?_⟩)
    refine ba_goto V dX5_digest_186 rfl ?_
    exact ba_sub [2, 1, 0] rfl (hk _ _ _ h)
def xb_digest_l191 (k : (ba_St × Int64 × Int32) → Option (ba_St × Int64)) (a : (ba_St × Int64 × Int32)) : Option (ba_St × Int64) :=
  match a with
  | (s, z1, z3) =>
    if 3 ≤ z3 then
      some (s, z1)
    else
      ba_bn2 (xb_sum s z3) fun v604 s605 =>
      ba_lt ((31 * z1) + (Int32.toInt64 v604)) fun x606 =>
      ba_lt (z3 + 1) fun x607 =>
      k (s605, x606, x607)
set_option maxHeartbeats 4000000 in
set_option maxRecDepth 100000 in
theorem yb_digest_l191 {w : ba_W} {X : ba_X} (V : ba_V ba_tC w 5 X cX5_digest RX5 rm_b_digest) {o : ba_St × Int64} (EX : ∀ (s : ba_St) (z1 : Int64), (s, z1) = o → ba_G ba_tC w 5 X s 215 [(0, .ref (w.1 0)), (1, .long z1)] []) : ∀ (n : Nat) (s : ba_St) (z1 : Int64) (z3 : Int32), ba_fix (xb_digest_l191) n (s, z1, z3) = some o → ba_G ba_tC w 5 X s 191 [(0, .ref (w.1 0)), (1, .long z1), (3, .int z3)] [] := by
  intro n s z1 z3 h
  refine ba_loop (P := fun a => ba_G ba_tC w 5 X a.1 191 [(0, .ref (w.1 0)), (1, .long a.2.1), (3, .int a.2.2)] []) ?_ n (s, z1, z3) h
  intro k hk0 a h
  obtain ⟨s, z1, z3⟩ := a
  have hk : ∀ (s : ba_St) (z1 : Int64) (z3 : Int32), k (s, z1, z3) = some o → ba_G ba_tC w 5 X s 191 [(0, .ref (w.1 0)), (1, .long z1), (3, .int z3)] [] := fun s z1 z3 e => hk0 (s, z1, z3) e
  unfold xb_digest_l191 at h
  try dsimp only at h ⊢
  refine ba_iload_n V dX5_digest_191 2 rfl ?_
  refine ba_iconst V dX5_digest_192 ba_c3 ?_
  refine ba_icmp_ge V dX5_digest_193 rfl h (fun h => ?_) (fun h => ?_)
  · exact ba_sub [0, 1] rfl (EX _ _ (Option.some.inj h))
  · refine ba_ldc2 V dX5_digest_196 kkX5_294 ?_
    refine ba_lload_n V dX5_digest_199 1 rfl ?_
    refine ba_lmul V dX5_digest_200 ?_
    refine ba_aload_n V dX5_digest_201 0 rfl ?_
    refine ba_iload_n V dX5_digest_202 2 rfl ?_
    obtain ⟨v604, s605, hc, h⟩ := ba_bn2_some h
    refine ba_callVI (As := [.int z3]) (st := [.long (31 * z1)]) V dX5_digest_203 kcX5_286 ba_sBag (fun l => yb_sum V.inj l hc) ⟨rfl, rfl⟩ ⟨rfl, rfl, Nat.le_of_ble_eq_true rfl, Nat.le_of_ble_eq_true rfl⟩ (Nat.le_of_ble_eq_true rfl) ?_
    refine ba_i2l V dX5_digest_206 ?_
    refine ba_ladd V dX5_digest_207 ?_
    refine ba_letL h (fun x606 h => ?_)
    refine ba_lstore_n (lv' := [(1, .long x606), (0, .ref (w.1 0)), (3, .int z3)]) V dX5_digest_208 (by decide) rfl ?_
    refine ba_iinc V dX5_digest_209 2 rfl ba_c1 (by decide) h (fun x607 h => ⟨[(3, .int x607), (1, .long x606), (0, .ref (w.1 0))], rfl, ?_⟩)
    refine ba_goto V dX5_digest_212 rfl ?_
    exact ba_sub [2, 1, 0] rfl (hk _ _ _ h)
def xb_digest (s : ba_St) : Option (Int64 × ba_St) :=
  ba_bnd (ba_fix (xb_digest_l6) 1000 (s, 17, 0)) fun o => match o with
  | (s573, x574) =>
    ba_bnd (ba_fix (xb_digest_l33 s573) 1000 (x574, 0)) fun x578 =>
      ba_bnd (ba_fix (xb_digest_l59) 1000 (s573, x578, 0)) fun o => match o with
      | (s583, x584) =>
        ba_bnd (ba_fix (xb_digest_l95) 1000 (s583, x584, 0)) fun o => match o with
        | (s592, x593) =>
          ba_bnd (ba_fix (xb_digest_l139) 1000 (s592, x593, 0)) fun o => match o with
          | (s597, x598) =>
            ba_bnd (ba_fix (xb_digest_l165) 1000 (s597, x598, 0)) fun o => match o with
            | (s602, x603) =>
              ba_bnd (ba_fix (xb_digest_l191) 1000 (s602, x603, 0)) fun o => match o with
              | (s608, x609) =>
                ba_bn2 (xb_late s608) fun v610 s611 =>
                ba_lt ((31 * x609) + (Int32.toInt64 v610)) fun x612 =>
                ba_bn2 (xb_best s611) fun v613 s614 =>
                ba_lt ((31 * x612) + (Int32.toInt64 v613)) fun x615 =>
                ba_bn2 (xb_jam s614 0) fun v616 s617 =>
                ba_lt ((31 * x615) + (Int32.toInt64 v616)) fun x618 =>
                ba_bn2 (xb_jam s617 1) fun v619 s620 =>
                ba_lt ((31 * x618) + (Int32.toInt64 v619)) fun x621 =>
                ba_bn2 (xb_spare s620 (-1)) fun v622 s623 =>
                ba_lt ((31 * x621) + (Int32.toInt64 v622)) fun x624 =>
                ba_bn2 (xb_spare s623 0) fun v625 s626 =>
                ba_lt ((31 * x624) + (Int32.toInt64 v625)) fun x627 =>
                ba_bn2 (xb_never s626) fun v628 s629 =>
                ba_lt ((31 * x627) + (Int32.toInt64 v628)) fun x630 =>
                ba_bn2 (xb_sundays s629 7 9 0) fun v631 s632 =>
                ba_lt ((31 * x630) + (Int32.toInt64 v631)) fun x633 =>
                ba_bn2 (xb_sundays s632 7 9 1) fun v634 s635 =>
                some (((31 * x633) + (Int32.toInt64 v634)), s635)
set_option maxHeartbeats 4000000 in
set_option maxRecDepth 100000 in
theorem yb_digest {w : ba_W} (hj : ba_inj ba_tC w) (l : Launch) {s : ba_St} {o : Int64 × ba_St} (h : xb_digest s = some o) : ba_CL ba_tC w l yX5_digest cX5_digest 5 (some .long) rm_b_digest [.ref (w.1 0)] s o := by
  refine ba_metL (lv := [(0, .ref (w.1 0))]) l hj (by decide +kernel) ⟨Nat.le_of_ble_eq_true rfl, rfl⟩ ?_
  intro X V RT
  unfold xb_digest at h
  refine ba_ldc2 V dX5_digest_0 kkX5_292 ?_
  refine ba_lstore_n (lv' := [(1, .long 17), (0, .ref (w.1 0))]) V dX5_digest_3 (by decide) rfl ?_
  refine ba_iconst V dX5_digest_4 ba_c0 ?_
  refine ba_istore_n (lv' := [(3, .int 0), (1, .long 17), (0, .ref (w.1 0))]) V dX5_digest_5 (by decide) rfl ?_
  obtain ⟨o, ho, h⟩ := ba_bnd_some h
  refine ba_sub [2, 1, 0] rfl (yb_digest_l6 V (o := o) (fun s573 x574 e => ?_) 1000 s 17 0 ho)
  subst e
  try dsimp only at h
  refine ba_iconst V dX5_digest_31 ba_c0 ?_
  refine ba_istore_n (lv' := [(3, .int 0), (0, .ref (w.1 0)), (1, .long x574)]) V dX5_digest_32 (by decide) rfl ?_
  obtain ⟨o, ho, h⟩ := ba_bnd_some h
  refine ba_sub [1, 2, 0] rfl (yb_digest_l33 V (o := o) (fun x578 e => ?_) 1000 x574 0 ho)
  subst e
  try dsimp only at h
  refine ba_iconst V dX5_digest_57 ba_c0 ?_
  refine ba_istore_n (lv' := [(3, .int 0), (0, .ref (w.1 0)), (1, .long x578)]) V dX5_digest_58 (by decide) rfl ?_
  obtain ⟨o, ho, h⟩ := ba_bnd_some h
  refine ba_sub [1, 2, 0] rfl (yb_digest_l59 V (o := o) (fun s583 x584 e => ?_) 1000 s573 x578 0 ho)
  subst e
  try dsimp only at h
  refine ba_iconst V dX5_digest_93 ba_c0 ?_
  refine ba_istore_n (lv' := [(3, .int 0), (0, .ref (w.1 0)), (1, .long x584)]) V dX5_digest_94 (by decide) rfl ?_
  obtain ⟨o, ho, h⟩ := ba_bnd_some h
  refine ba_sub [1, 2, 0] rfl (yb_digest_l95 V (o := o) (fun s592 x593 e => ?_) 1000 s583 x584 0 ho)
  subst e
  try dsimp only at h
  refine ba_iconst V dX5_digest_137 ba_c0 ?_
  refine ba_istore_n (lv' := [(3, .int 0), (0, .ref (w.1 0)), (1, .long x593)]) V dX5_digest_138 (by decide) rfl ?_
  obtain ⟨o, ho, h⟩ := ba_bnd_some h
  refine ba_sub [1, 2, 0] rfl (yb_digest_l139 V (o := o) (fun s597 x598 e => ?_) 1000 s592 x593 0 ho)
  subst e
  try dsimp only at h
  refine ba_iconst V dX5_digest_163 ba_c0 ?_
  refine ba_istore_n (lv' := [(3, .int 0), (0, .ref (w.1 0)), (1, .long x598)]) V dX5_digest_164 (by decide) rfl ?_
  obtain ⟨o, ho, h⟩ := ba_bnd_some h
  refine ba_sub [1, 2, 0] rfl (yb_digest_l165 V (o := o) (fun s602 x603 e => ?_) 1000 s597 x598 0 ho)
  subst e
  try dsimp only at h
  refine ba_iconst V dX5_digest_189 ba_c0 ?_
  refine ba_istore_n (lv' := [(3, .int 0), (0, .ref (w.1 0)), (1, .long x603)]) V dX5_digest_190 (by decide) rfl ?_
  obtain ⟨o, ho, h⟩ := ba_bnd_some h
  refine ba_sub [1, 2, 0] rfl (yb_digest_l191 V (o := o) (fun s608 x609 e => ?_) 1000 s602 x603 0 ho)
  subst e
  try dsimp only at h
  refine ba_ldc2 V dX5_digest_215 kkX5_294 ?_
  refine ba_lload_n V dX5_digest_218 1 rfl ?_
  refine ba_lmul V dX5_digest_219 ?_
  refine ba_aload_n V dX5_digest_220 0 rfl ?_
  obtain ⟨v610, s611, hc, h⟩ := ba_bn2_some h
  refine ba_callVI (As := []) (st := [.long (31 * x609)]) V dX5_digest_221 kcX5_315 ba_sBag (fun l => yb_late V.inj l hc) ⟨rfl, rfl⟩ ⟨rfl, rfl, Nat.le_of_ble_eq_true rfl, Nat.le_of_ble_eq_true rfl⟩ (Nat.le_of_ble_eq_true rfl) ?_
  refine ba_i2l V dX5_digest_224 ?_
  refine ba_ladd V dX5_digest_225 ?_
  refine ba_letL h (fun x612 h => ?_)
  refine ba_lstore_n (lv' := [(1, .long x612), (0, .ref (w.1 0))]) V dX5_digest_226 (by decide) rfl ?_
  refine ba_ldc2 V dX5_digest_227 kkX5_294 ?_
  refine ba_lload_n V dX5_digest_230 0 rfl ?_
  refine ba_lmul V dX5_digest_231 ?_
  refine ba_aload_n V dX5_digest_232 1 rfl ?_
  obtain ⟨v613, s614, hc, h⟩ := ba_bn2_some h
  refine ba_callVI (As := []) (st := [.long (31 * x612)]) V dX5_digest_233 kcX5_318 ba_sBag (fun l => yb_best V.inj l hc) ⟨rfl, rfl⟩ ⟨rfl, rfl, Nat.le_of_ble_eq_true rfl, Nat.le_of_ble_eq_true rfl⟩ (Nat.le_of_ble_eq_true rfl) ?_
  refine ba_i2l V dX5_digest_236 ?_
  refine ba_ladd V dX5_digest_237 ?_
  refine ba_letL h (fun x615 h => ?_)
  refine ba_lstore_n (lv' := [(1, .long x615), (0, .ref (w.1 0))]) V dX5_digest_238 (by decide) rfl ?_
  refine ba_ldc2 V dX5_digest_239 kkX5_294 ?_
  refine ba_lload_n V dX5_digest_242 0 rfl ?_
  refine ba_lmul V dX5_digest_243 ?_
  refine ba_aload_n V dX5_digest_244 1 rfl ?_
  refine ba_iconst V dX5_digest_245 ba_c0 ?_
  obtain ⟨v616, s617, hc, h⟩ := ba_bn2_some h
  refine ba_callVI (As := [.int 0]) (st := [.long (31 * x615)]) V dX5_digest_246 kcX5_321 ba_sBag (fun l => yb_jam V.inj l hc) ⟨rfl, rfl⟩ ⟨rfl, rfl, Nat.le_of_ble_eq_true rfl, Nat.le_of_ble_eq_true rfl⟩ (Nat.le_of_ble_eq_true rfl) ?_
  refine ba_i2l V dX5_digest_249 ?_
  refine ba_ladd V dX5_digest_250 ?_
  refine ba_letL h (fun x618 h => ?_)
  refine ba_lstore_n (lv' := [(1, .long x618), (0, .ref (w.1 0))]) V dX5_digest_251 (by decide) rfl ?_
  refine ba_ldc2 V dX5_digest_252 kkX5_294 ?_
  refine ba_lload_n V dX5_digest_255 0 rfl ?_
  refine ba_lmul V dX5_digest_256 ?_
  refine ba_aload_n V dX5_digest_257 1 rfl ?_
  refine ba_iconst V dX5_digest_258 ba_c1 ?_
  obtain ⟨v619, s620, hc, h⟩ := ba_bn2_some h
  refine ba_callVI (As := [.int 1]) (st := [.long (31 * x618)]) V dX5_digest_259 kcX5_321 ba_sBag (fun l => yb_jam V.inj l hc) ⟨rfl, rfl⟩ ⟨rfl, rfl, Nat.le_of_ble_eq_true rfl, Nat.le_of_ble_eq_true rfl⟩ (Nat.le_of_ble_eq_true rfl) ?_
  refine ba_i2l V dX5_digest_262 ?_
  refine ba_ladd V dX5_digest_263 ?_
  refine ba_letL h (fun x621 h => ?_)
  refine ba_lstore_n (lv' := [(1, .long x621), (0, .ref (w.1 0))]) V dX5_digest_264 (by decide) rfl ?_
  refine ba_ldc2 V dX5_digest_265 kkX5_294 ?_
  refine ba_lload_n V dX5_digest_268 0 rfl ?_
  refine ba_lmul V dX5_digest_269 ?_
  refine ba_aload_n V dX5_digest_270 1 rfl ?_
  refine ba_iconst V dX5_digest_271 ba_cm1 ?_
  obtain ⟨v622, s623, hc, h⟩ := ba_bn2_some h
  refine ba_callVI (As := [.int (-1)]) (st := [.long (31 * x621)]) V dX5_digest_272 kcX5_324 ba_sBag (fun l => yb_spare V.inj l hc) ⟨rfl, rfl⟩ ⟨rfl, rfl, Nat.le_of_ble_eq_true rfl, Nat.le_of_ble_eq_true rfl⟩ (Nat.le_of_ble_eq_true rfl) ?_
  refine ba_i2l V dX5_digest_275 ?_
  refine ba_ladd V dX5_digest_276 ?_
  refine ba_letL h (fun x624 h => ?_)
  refine ba_lstore_n (lv' := [(1, .long x624), (0, .ref (w.1 0))]) V dX5_digest_277 (by decide) rfl ?_
  refine ba_ldc2 V dX5_digest_278 kkX5_294 ?_
  refine ba_lload_n V dX5_digest_281 0 rfl ?_
  refine ba_lmul V dX5_digest_282 ?_
  refine ba_aload_n V dX5_digest_283 1 rfl ?_
  refine ba_iconst V dX5_digest_284 ba_c0 ?_
  obtain ⟨v625, s626, hc, h⟩ := ba_bn2_some h
  refine ba_callVI (As := [.int 0]) (st := [.long (31 * x624)]) V dX5_digest_285 kcX5_324 ba_sBag (fun l => yb_spare V.inj l hc) ⟨rfl, rfl⟩ ⟨rfl, rfl, Nat.le_of_ble_eq_true rfl, Nat.le_of_ble_eq_true rfl⟩ (Nat.le_of_ble_eq_true rfl) ?_
  refine ba_i2l V dX5_digest_288 ?_
  refine ba_ladd V dX5_digest_289 ?_
  refine ba_letL h (fun x627 h => ?_)
  refine ba_lstore_n (lv' := [(1, .long x627), (0, .ref (w.1 0))]) V dX5_digest_290 (by decide) rfl ?_
  refine ba_ldc2 V dX5_digest_291 kkX5_294 ?_
  refine ba_lload_n V dX5_digest_294 0 rfl ?_
  refine ba_lmul V dX5_digest_295 ?_
  refine ba_aload_n V dX5_digest_296 1 rfl ?_
  obtain ⟨v628, s629, hc, h⟩ := ba_bn2_some h
  refine ba_callVI (As := []) (st := [.long (31 * x627)]) V dX5_digest_297 kcX5_327 ba_sBag (fun l => yb_never V.inj l hc) ⟨rfl, rfl⟩ ⟨rfl, rfl, Nat.le_of_ble_eq_true rfl, Nat.le_of_ble_eq_true rfl⟩ (Nat.le_of_ble_eq_true rfl) ?_
  refine ba_i2l V dX5_digest_300 ?_
  refine ba_ladd V dX5_digest_301 ?_
  refine ba_letL h (fun x630 h => ?_)
  refine ba_lstore_n (lv' := [(1, .long x630), (0, .ref (w.1 0))]) V dX5_digest_302 (by decide) rfl ?_
  refine ba_ldc2 V dX5_digest_303 kkX5_294 ?_
  refine ba_lload_n V dX5_digest_306 0 rfl ?_
  refine ba_lmul V dX5_digest_307 ?_
  refine ba_aload_n V dX5_digest_308 1 rfl ?_
  refine ba_bipush V dX5_digest_309 ba_c7b ?_
  refine ba_bipush V dX5_digest_311 ba_c9b ?_
  refine ba_iconst V dX5_digest_313 ba_c0 ?_
  obtain ⟨v631, s632, hc, h⟩ := ba_bn2_some h
  refine ba_callVI (As := [.int 7, .int 9, .int 0]) (st := [.long (31 * x630)]) V dX5_digest_314 kcX5_330 ba_sBag (fun l => yb_sundays V.inj l hc) ⟨rfl, rfl⟩ ⟨rfl, rfl, Nat.le_of_ble_eq_true rfl, Nat.le_of_ble_eq_true rfl⟩ (Nat.le_of_ble_eq_true rfl) ?_
  refine ba_i2l V dX5_digest_317 ?_
  refine ba_ladd V dX5_digest_318 ?_
  refine ba_letL h (fun x633 h => ?_)
  refine ba_lstore_n (lv' := [(1, .long x633), (0, .ref (w.1 0))]) V dX5_digest_319 (by decide) rfl ?_
  refine ba_ldc2 V dX5_digest_320 kkX5_294 ?_
  refine ba_lload_n V dX5_digest_323 0 rfl ?_
  refine ba_lmul V dX5_digest_324 ?_
  refine ba_aload_n V dX5_digest_325 1 rfl ?_
  refine ba_bipush V dX5_digest_326 ba_c7b ?_
  refine ba_bipush V dX5_digest_328 ba_c9b ?_
  refine ba_iconst V dX5_digest_330 ba_c1 ?_
  obtain ⟨v634, s635, hc, h⟩ := ba_bn2_some h
  refine ba_callVI (As := [.int 7, .int 9, .int 1]) (st := [.long (31 * x633)]) V dX5_digest_331 kcX5_330 ba_sBag (fun l => yb_sundays V.inj l hc) ⟨rfl, rfl⟩ ⟨rfl, rfl, Nat.le_of_ble_eq_true rfl, Nat.le_of_ble_eq_true rfl⟩ (Nat.le_of_ble_eq_true rfl) ?_
  refine ba_i2l V dX5_digest_334 ?_
  refine ba_ladd V dX5_digest_335 ?_
  exact RT _ _ _ _ dX5_digest_336 (Option.some.inj h)
