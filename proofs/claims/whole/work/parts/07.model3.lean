def xm_count (s : ba_St) (a1 : Int32) : Option (Int32 × ba_St) :=
  ba_bnd (xm_find s) fun s1123 =>
  if a1 = 0 then
    some ((s1123.1 0 7), s1123)
  else if a1 = 1 then
    some ((s1123.1 0 10), s1123)
  else if a1 = 2 then
    ba_grd (ba_inb 0 3) <|
    ba_grd (ba_inb 1 3) <|
    ba_grd (ba_inb 2 3) <|
    some ((((s1123.1 6 (ba_ix 0)) + (s1123.1 6 (ba_ix 1))) + (s1123.1 6 (ba_ix 2))), s1123)
  else if a1 = 3 then
    some ((s1123.1 0 13), s1123)
  else if a1 = 4 then
    ba_bnd (xm_score s1123) fun v1124 =>
    some (v1124, s1123)
  else if a1 = 5 then
    some ((s1123.1 0 12), s1123)
  else if a1 = 6 then
    ba_bnd (xm_onBoard s1123) fun v1125 =>
    some (v1125, s1123)
  else if a1 = 7 then
    some ((s1123.1 0 29), s1123)
  else if a1 = 8 then
    some ((s1123.1 0 4), s1123)
  else
    some ((-2), s1123)
set_option maxHeartbeats 4000000 in
set_option maxRecDepth 100000 in
theorem ym_count {w : ba_W} (hj : ba_inj ba_tM w) (l : Launch) {s : ba_St} {a1 : Int32} {o : Int32 × ba_St} (h : xm_count s a1 = some o) : ba_CI ba_tM w l yX6_count cX6_count 2 (some .int) rm_m_count [.ref (w.1 0), .int a1] s o := by
  refine ba_metI (lv := [(0, .ref (w.1 0)), (1, .int a1)]) l hj (by decide +kernel) ⟨Nat.le_of_ble_eq_true rfl, rfl⟩ ?_
  intro X V RT
  unfold xm_count at h
  refine ba_aload_n V dX6_count_0 0 rfl ?_
  obtain ⟨s1123, hc, h⟩ := ba_bnd_some h
  refine ba_callVV (As := []) (st := []) V dX6_count_1 kcX6_239 ba_sModel (fun l => ym_find V.inj l hc) ⟨rfl, rfl⟩ ⟨rfl, rfl, Nat.le_of_ble_eq_true rfl, Nat.le_of_ble_eq_true rfl⟩ (Nat.le_of_ble_eq_true rfl) ?_
  refine ba_iload_n V dX6_count_4 1 rfl ?_
  refine ba_case h (fun e0 h => ?_) (fun e0 h => ?_)
  · refine ba_swT (off := 51) (tgt := 56) V dX6_count_5 (Or.inl ⟨by rw [e0]; decide, by rw [e0]; decide, by rw [e0]; rfl⟩) rfl ?_
    refine ba_aload_n V dX6_count_56 0 rfl ?_
    refine ba_getI V dX6_count_57 kfX6_127 ba_sModel rfl ?_
    exact RT _ _ _ _ dX6_count_60 (Option.some.inj h)
  refine ba_case h (fun e1 h => ?_) (fun e1 h => ?_)
  · refine ba_swT (off := 56) (tgt := 61) V dX6_count_5 (Or.inl ⟨by rw [e1]; decide, by rw [e1]; decide, by rw [e1]; rfl⟩) rfl ?_
    refine ba_aload_n V dX6_count_61 0 rfl ?_
    refine ba_getI V dX6_count_62 kfX6_143 ba_sModel rfl ?_
    exact RT _ _ _ _ dX6_count_65 (Option.some.inj h)
  refine ba_case h (fun e2 h => ?_) (fun e2 h => ?_)
  · refine ba_swT (off := 61) (tgt := 66) V dX6_count_5 (Or.inl ⟨by rw [e2]; decide, by rw [e2]; decide, by rw [e2]; rfl⟩) rfl ?_
    refine ba_aload_n V dX6_count_66 0 rfl ?_
    refine ba_getR V dX6_count_67 kfX6_25 ba_sModel rfl ?_
    refine ba_iconst V dX6_count_70 ba_c0 ?_
    refine ba_iald V dX6_count_71 ba_sM_6 h (fun h => ?_)
    refine ba_aload_n V dX6_count_72 0 rfl ?_
    refine ba_getR V dX6_count_73 kfX6_25 ba_sModel rfl ?_
    refine ba_iconst V dX6_count_76 ba_c1 ?_
    refine ba_iald V dX6_count_77 ba_sM_6 h (fun h => ?_)
    refine ba_iadd V dX6_count_78 ?_
    refine ba_aload_n V dX6_count_79 0 rfl ?_
    refine ba_getR V dX6_count_80 kfX6_25 ba_sModel rfl ?_
    refine ba_iconst V dX6_count_83 ba_c2 ?_
    refine ba_iald V dX6_count_84 ba_sM_6 h (fun h => ?_)
    refine ba_iadd V dX6_count_85 ?_
    exact RT _ _ _ _ dX6_count_86 (Option.some.inj h)
  refine ba_case h (fun e3 h => ?_) (fun e3 h => ?_)
  · refine ba_swT (off := 82) (tgt := 87) V dX6_count_5 (Or.inl ⟨by rw [e3]; decide, by rw [e3]; decide, by rw [e3]; rfl⟩) rfl ?_
    refine ba_aload_n V dX6_count_87 0 rfl ?_
    refine ba_getI V dX6_count_88 kfX6_182 ba_sModel rfl ?_
    exact RT _ _ _ _ dX6_count_91 (Option.some.inj h)
  refine ba_case h (fun e4 h => ?_) (fun e4 h => ?_)
  · refine ba_swT (off := 87) (tgt := 92) V dX6_count_5 (Or.inl ⟨by rw [e4]; decide, by rw [e4]; decide, by rw [e4]; rfl⟩) rfl ?_
    refine ba_aload_n V dX6_count_92 0 rfl ?_
    obtain ⟨v1124, hc, h⟩ := ba_bnd_some h
    refine ba_callVI (As := []) (st := []) V dX6_count_93 kcX6_256 ba_sModel (fun l => ym_score V.inj l hc) ⟨rfl, rfl⟩ ⟨rfl, rfl, Nat.le_of_ble_eq_true rfl, Nat.le_of_ble_eq_true rfl⟩ (Nat.le_of_ble_eq_true rfl) ?_
    exact RT _ _ _ _ dX6_count_96 (Option.some.inj h)
  refine ba_case h (fun e5 h => ?_) (fun e5 h => ?_)
  · refine ba_swT (off := 92) (tgt := 97) V dX6_count_5 (Or.inl ⟨by rw [e5]; decide, by rw [e5]; decide, by rw [e5]; rfl⟩) rfl ?_
    refine ba_aload_n V dX6_count_97 0 rfl ?_
    refine ba_getI V dX6_count_98 kfX6_82 ba_sModel rfl ?_
    exact RT _ _ _ _ dX6_count_101 (Option.some.inj h)
  refine ba_case h (fun e6 h => ?_) (fun e6 h => ?_)
  · refine ba_swT (off := 97) (tgt := 102) V dX6_count_5 (Or.inl ⟨by rw [e6]; decide, by rw [e6]; decide, by rw [e6]; rfl⟩) rfl ?_
    refine ba_aload_n V dX6_count_102 0 rfl ?_
    obtain ⟨v1125, hc, h⟩ := ba_bnd_some h
    refine ba_callVI (As := []) (st := []) V dX6_count_103 kcX6_347 ba_sModel (fun l => ym_onBoard V.inj l hc) ⟨rfl, rfl⟩ ⟨rfl, rfl, Nat.le_of_ble_eq_true rfl, Nat.le_of_ble_eq_true rfl⟩ (Nat.le_of_ble_eq_true rfl) ?_
    exact RT _ _ _ _ dX6_count_106 (Option.some.inj h)
  refine ba_case h (fun e7 h => ?_) (fun e7 h => ?_)
  · refine ba_swT (off := 102) (tgt := 107) V dX6_count_5 (Or.inl ⟨by rw [e7]; decide, by rw [e7]; decide, by rw [e7]; rfl⟩) rfl ?_
    refine ba_aload_n V dX6_count_107 0 rfl ?_
    refine ba_getI V dX6_count_108 kfX6_294 ba_sModel rfl ?_
    exact RT _ _ _ _ dX6_count_111 (Option.some.inj h)
  refine ba_case h (fun e8 h => ?_) (fun e8 h => ?_)
  · refine ba_swT (off := 107) (tgt := 112) V dX6_count_5 (Or.inl ⟨by rw [e8]; decide, by rw [e8]; decide, by rw [e8]; rfl⟩) rfl ?_
    refine ba_aload_n V dX6_count_112 0 rfl ?_
    refine ba_getI V dX6_count_113 kfX6_92 ba_sModel rfl ?_
    exact RT _ _ _ _ dX6_count_116 (Option.some.inj h)
  refine ba_swT (off := 112) (tgt := 117) V dX6_count_5 (Or.inr ⟨by have g0 : ¬ Int32.toInt a1 = 0 := ba_ne e0; have g1 : ¬ Int32.toInt a1 = 1 := ba_ne e1; have g2 : ¬ Int32.toInt a1 = 2 := ba_ne e2; have g3 : ¬ Int32.toInt a1 = 3 := ba_ne e3; have g4 : ¬ Int32.toInt a1 = 4 := ba_ne e4; have g5 : ¬ Int32.toInt a1 = 5 := ba_ne e5; have g6 : ¬ Int32.toInt a1 = 6 := ba_ne e6; have g7 : ¬ Int32.toInt a1 = 7 := ba_ne e7; have g8 : ¬ Int32.toInt a1 = 8 := ba_ne e8; omega, rfl⟩) rfl ?_
  refine ba_bipush V dX6_count_117 ba_cm2b ?_
  exact RT _ _ _ _ dX6_count_119 (Option.some.inj h)
def xm_tellsPin_l6 (s : ba_St) (z3 : Int32) (k : (Int64 × Int32) → Option (Int64)) (a : (Int64 × Int32)) : Option (Int64) :=
  match a with
  | (z4, z6) =>
    if 3 ≤ z6 then
      some z4
    else
      ba_grd (ba_inb ((3 * z3) + z6) 36) <|
      ba_lt ((31 * z4) + (Int32.toInt64 (s.1 7 (ba_ix ((3 * z3) + z6))))) fun x1126 =>
      ba_lt (z6 + 1) fun x1127 =>
      k (x1126, x1127)
set_option maxHeartbeats 4000000 in
set_option maxRecDepth 100000 in
theorem ym_tellsPin_l6 {w : ba_W} {X : ba_X} (V : ba_V ba_tM w 7 X cX6_tellsPin RX6 rm_m_tellsPin) {s : ba_St} {z3 : Int32} {o : Int64} (EX : ∀ (z4 : Int64), z4 = o → ba_G ba_tM w 7 X s 39 [(0, .ref (w.1 0)), (3, .int z3), (4, .long z4)] []) : ∀ (n : Nat) (z4 : Int64) (z6 : Int32), ba_fix (xm_tellsPin_l6 s z3) n (z4, z6) = some o → ba_G ba_tM w 7 X s 6 [(0, .ref (w.1 0)), (3, .int z3), (4, .long z4), (6, .int z6)] [] := by
  intro n z4 z6 h
  refine ba_loop (P := fun a => ba_G ba_tM w 7 X s 6 [(0, .ref (w.1 0)), (3, .int z3), (4, .long a.1), (6, .int a.2)] []) ?_ n (z4, z6) h
  intro k hk0 a h
  obtain ⟨z4, z6⟩ := a
  have hk : ∀ (z4 : Int64) (z6 : Int32), k (z4, z6) = some o → ba_G ba_tM w 7 X s 6 [(0, .ref (w.1 0)), (3, .int z3), (4, .long z4), (6, .int z6)] [] := fun z4 z6 e => hk0 (z4, z6) e
  unfold xm_tellsPin_l6 at h
  try dsimp only at h ⊢
  refine ba_iload V dX6_tellsPin_6 3 rfl ?_
  refine ba_iconst V dX6_tellsPin_8 ba_c3 ?_
  refine ba_icmp_ge V dX6_tellsPin_9 rfl h (fun h => ?_) (fun h => ?_)
  · exact ba_sub [0, 1, 2] rfl (EX _ (Option.some.inj h))
  · refine ba_ldc2 V dX6_tellsPin_12 kkX6_350 ?_
    refine ba_lload V dX6_tellsPin_15 2 rfl ?_
    refine ba_lmul V dX6_tellsPin_17 ?_
    refine ba_aload_n V dX6_tellsPin_18 0 rfl ?_
    refine ba_getR V dX6_tellsPin_19 kfX6_28 ba_sModel rfl ?_
    refine ba_iconst V dX6_tellsPin_22 ba_c3 ?_
    refine ba_iload_n V dX6_tellsPin_23 1 rfl ?_
    refine ba_imul V dX6_tellsPin_24 ?_
    refine ba_iload V dX6_tellsPin_25 3 rfl ?_
    refine ba_iadd V dX6_tellsPin_27 ?_
    refine ba_iald V dX6_tellsPin_28 ba_sM_7 h (fun h => ?_)
    refine ba_i2l V dX6_tellsPin_29 ?_
    refine ba_ladd V dX6_tellsPin_30 ?_
    refine ba_letL h (fun x1126 h => ?_)
    refine ba_lstore (lv' := [(4, .long x1126), (0, .ref (w.1 0)), (3, .int z3), (6, .int z6)]) V dX6_tellsPin_31 (by decide) rfl ?_
    refine ba_iinc V dX6_tellsPin_33 3 rfl ba_c1 (by decide) h (fun x1127 h => ⟨[(6, .int x1127), (4, .long x1126), (0, .ref (w.1 0)), (3, .int z3)], rfl, ?_⟩)
    refine ba_goto V dX6_tellsPin_36 rfl ?_
    exact ba_sub [2, 3, 1, 0] rfl (hk _ _ h)
def xm_tellsPin (s : ba_St) (a1 : Int64) (a3 : Int32) : Option (Int64 × ba_St) :=
  ba_bnd (ba_fix (xm_tellsPin_l6 s a3) 1000 (a1, 0)) fun x1128 =>
    ba_bn2 (xm_bendOf s a3 0) fun v1129 s1130 =>
    ba_lt ((31 * x1128) + (Int32.toInt64 v1129)) fun x1131 =>
    ba_bn2 (xm_bendOf s1130 a3 1) fun v1132 s1133 =>
    ba_lt ((31 * x1131) + (Int32.toInt64 v1132)) fun x1134 =>
    ba_bn2 (xm_kindOf s1133 a3) fun v1135 s1136 =>
    some (((31 * x1134) + (Int32.toInt64 v1135)), s1136)
set_option maxHeartbeats 4000000 in
set_option maxRecDepth 100000 in
theorem ym_tellsPin {w : ba_W} (hj : ba_inj ba_tM w) (l : Launch) {s : ba_St} {a1 : Int64} {a3 : Int32} {o : Int64 × ba_St} (h : xm_tellsPin s a1 a3 = some o) : ba_CL ba_tM w l yX6_tellsPin cX6_tellsPin 7 (some .long) rm_m_tellsPin [.ref (w.1 0), .long a1, .int a3] s o := by
  refine ba_metL (lv := [(0, .ref (w.1 0)), (1, .long a1), (3, .int a3)]) l hj (by decide +kernel) ⟨Nat.le_of_ble_eq_true rfl, rfl⟩ ?_
  intro X V RT
  unfold xm_tellsPin at h
  refine ba_lload_n V dX6_tellsPin_0 1 rfl ?_
  refine ba_lstore (lv' := [(4, .long a1), (0, .ref (w.1 0)), (1, .long a1), (3, .int a3)]) V dX6_tellsPin_1 (by decide) rfl ?_
  refine ba_iconst V dX6_tellsPin_3 ba_c0 ?_
  refine ba_istore (lv' := [(6, .int 0), (4, .long a1), (0, .ref (w.1 0)), (1, .long a1), (3, .int a3)]) V dX6_tellsPin_4 (by decide) rfl ?_
  obtain ⟨o, ho, h⟩ := ba_bnd_some h
  refine ba_sub [2, 4, 1, 0] rfl (ym_tellsPin_l6 V (o := o) (fun x1128 e => ?_) 1000 a1 0 ho)
  subst e
  try dsimp only at h
  refine ba_ldc2 V dX6_tellsPin_39 kkX6_350 ?_
  refine ba_lload V dX6_tellsPin_42 2 rfl ?_
  refine ba_lmul V dX6_tellsPin_44 ?_
  refine ba_aload_n V dX6_tellsPin_45 0 rfl ?_
  refine ba_iload_n V dX6_tellsPin_46 1 rfl ?_
  refine ba_iconst V dX6_tellsPin_47 ba_c0 ?_
  obtain ⟨v1129, s1130, hc, h⟩ := ba_bn2_some h
  refine ba_callVI (As := [.int a3, .int 0]) (st := [.long (31 * x1128)]) V dX6_tellsPin_48 kcX6_281 ba_sModel (fun l => ym_bendOf V.inj l hc) ⟨rfl, rfl⟩ ⟨rfl, rfl, Nat.le_of_ble_eq_true rfl, Nat.le_of_ble_eq_true rfl⟩ (Nat.le_of_ble_eq_true rfl) ?_
  refine ba_i2l V dX6_tellsPin_51 ?_
  refine ba_ladd V dX6_tellsPin_52 ?_
  refine ba_letL h (fun x1131 h => ?_)
  refine ba_lstore (lv' := [(4, .long x1131), (0, .ref (w.1 0)), (3, .int a3)]) V dX6_tellsPin_53 (by decide) rfl ?_
  refine ba_ldc2 V dX6_tellsPin_55 kkX6_350 ?_
  refine ba_lload V dX6_tellsPin_58 0 rfl ?_
  refine ba_lmul V dX6_tellsPin_60 ?_
  refine ba_aload_n V dX6_tellsPin_61 1 rfl ?_
  refine ba_iload_n V dX6_tellsPin_62 2 rfl ?_
  refine ba_iconst V dX6_tellsPin_63 ba_c1 ?_
  obtain ⟨v1132, s1133, hc, h⟩ := ba_bn2_some h
  refine ba_callVI (As := [.int a3, .int 1]) (st := [.long (31 * x1131)]) V dX6_tellsPin_64 kcX6_281 ba_sModel (fun l => ym_bendOf V.inj l hc) ⟨rfl, rfl⟩ ⟨rfl, rfl, Nat.le_of_ble_eq_true rfl, Nat.le_of_ble_eq_true rfl⟩ (Nat.le_of_ble_eq_true rfl) ?_
  refine ba_i2l V dX6_tellsPin_67 ?_
  refine ba_ladd V dX6_tellsPin_68 ?_
  refine ba_letL h (fun x1134 h => ?_)
  refine ba_lstore (lv' := [(4, .long x1134), (0, .ref (w.1 0)), (3, .int a3)]) V dX6_tellsPin_69 (by decide) rfl ?_
  refine ba_ldc2 V dX6_tellsPin_71 kkX6_350 ?_
  refine ba_lload V dX6_tellsPin_74 0 rfl ?_
  refine ba_lmul V dX6_tellsPin_76 ?_
  refine ba_aload_n V dX6_tellsPin_77 1 rfl ?_
  refine ba_iload_n V dX6_tellsPin_78 2 rfl ?_
  obtain ⟨v1135, s1136, hc, h⟩ := ba_bn2_some h
  refine ba_callVI (As := [.int a3]) (st := [.long (31 * x1134)]) V dX6_tellsPin_79 kcX6_307 ba_sModel (fun l => ym_kindOf V.inj l hc) ⟨rfl, rfl⟩ ⟨rfl, rfl, Nat.le_of_ble_eq_true rfl, Nat.le_of_ble_eq_true rfl⟩ (Nat.le_of_ble_eq_true rfl) ?_
  refine ba_i2l V dX6_tellsPin_82 ?_
  refine ba_ladd V dX6_tellsPin_83 ?_
  exact RT _ _ _ _ dX6_tellsPin_84 (Option.some.inj h)
def xm_tellsTick (s : ba_St) (a1 : Int64) (a3 : Int32) (a4 : Int32) : Option (Int64) :=
  ba_bnd (xm_atBy s a3 a4 0) fun v1137 =>
  ba_lt ((31 * a1) + (Int32.toInt64 v1137)) fun x1138 =>
  ba_bnd (xm_atBy s a3 a4 1) fun v1139 =>
  some ((31 * x1138) + (Int32.toInt64 v1139))
set_option maxHeartbeats 4000000 in
set_option maxRecDepth 100000 in
theorem ym_tellsTick {w : ba_W} (hj : ba_inj ba_tM w) (l : Launch) {s : ba_St} {a1 : Int64} {a3 : Int32} {a4 : Int32} {o : Int64} (h : xm_tellsTick s a1 a3 a4 = some o) : ba_CL ba_tM w l yX6_tellsTick cX6_tellsTick 7 (some .long) rm_m_tellsTick [.ref (w.1 0), .long a1, .int a3, .int a4] s (o, s) := by
  refine ba_metL (lv := [(0, .ref (w.1 0)), (1, .long a1), (3, .int a3), (4, .int a4)]) l hj (by decide +kernel) ⟨Nat.le_of_ble_eq_true rfl, rfl⟩ ?_
  intro X V RT
  replace RT := fun pc lv v D e => RT pc lv v s D (congrArg (fun q => (q, s)) e)
  unfold xm_tellsTick at h
  refine ba_ldc2 V dX6_tellsTick_0 kkX6_350 ?_
  refine ba_lload_n V dX6_tellsTick_3 1 rfl ?_
  refine ba_lmul V dX6_tellsTick_4 ?_
  refine ba_aload_n V dX6_tellsTick_5 0 rfl ?_
  refine ba_iload_n V dX6_tellsTick_6 2 rfl ?_
  refine ba_iload V dX6_tellsTick_7 3 rfl ?_
  refine ba_iconst V dX6_tellsTick_9 ba_c0 ?_
  obtain ⟨v1137, hc, h⟩ := ba_bnd_some h
  refine ba_callVI (As := [.int a3, .int a4, .int 0]) (st := [.long (31 * a1)]) V dX6_tellsTick_10 kcX6_245 ba_sModel (fun l => ym_atBy V.inj l hc) ⟨rfl, rfl⟩ ⟨rfl, rfl, Nat.le_of_ble_eq_true rfl, Nat.le_of_ble_eq_true rfl⟩ (Nat.le_of_ble_eq_true rfl) ?_
  refine ba_i2l V dX6_tellsTick_13 ?_
  refine ba_ladd V dX6_tellsTick_14 ?_
  refine ba_letL h (fun x1138 h => ?_)
  refine ba_lstore (lv' := [(5, .long x1138), (0, .ref (w.1 0)), (1, .long a1), (3, .int a3), (4, .int a4)]) V dX6_tellsTick_15 (by decide) rfl ?_
  refine ba_ldc2 V dX6_tellsTick_17 kkX6_350 ?_
  refine ba_lload V dX6_tellsTick_20 0 rfl ?_
  refine ba_lmul V dX6_tellsTick_22 ?_
  refine ba_aload_n V dX6_tellsTick_23 1 rfl ?_
  refine ba_iload_n V dX6_tellsTick_24 3 rfl ?_
  refine ba_iload V dX6_tellsTick_25 4 rfl ?_
  refine ba_iconst V dX6_tellsTick_27 ba_c1 ?_
  obtain ⟨v1139, hc, h⟩ := ba_bnd_some h
  refine ba_callVI (As := [.int a3, .int a4, .int 1]) (st := [.long (31 * x1138)]) V dX6_tellsTick_28 kcX6_245 ba_sModel (fun l => ym_atBy V.inj l hc) ⟨rfl, rfl⟩ ⟨rfl, rfl, Nat.le_of_ble_eq_true rfl, Nat.le_of_ble_eq_true rfl⟩ (Nat.le_of_ble_eq_true rfl) ?_
  refine ba_i2l V dX6_tellsTick_31 ?_
  refine ba_ladd V dX6_tellsTick_32 ?_
  exact RT _ _ _ dX6_tellsTick_33 (Option.some.inj h)
def xm_tellsBall_l75 (s : ba_St) (z3 : Int32) (k : (Int64 × Int32) → Option (Int64)) (a : (Int64 × Int32)) : Option (Int64) :=
  match a with
  | (z4, z6) =>
    if 3 ≤ z6 then
      some z4
    else
      ba_bnd (xm_endsBy s z3 z6) fun v1147 =>
      ba_lt ((31 * z4) + (Int32.toInt64 v1147)) fun x1148 =>
      ba_lt (z6 + 1) fun x1149 =>
      k (x1148, x1149)
set_option maxHeartbeats 4000000 in
set_option maxRecDepth 100000 in
theorem ym_tellsBall_l75 {w : ba_W} {X : ba_X} (V : ba_V ba_tM w 7 X cX6_tellsBall RX6 rm_m_tellsBall) {s : ba_St} {z3 : Int32} {o : Int64} (EX : ∀ (z4 : Int64), z4 = o → ba_G ba_tM w 7 X s 104 [(0, .ref (w.1 0)), (3, .int z3), (4, .long z4)] []) : ∀ (n : Nat) (z4 : Int64) (z6 : Int32), ba_fix (xm_tellsBall_l75 s z3) n (z4, z6) = some o → ba_G ba_tM w 7 X s 75 [(0, .ref (w.1 0)), (3, .int z3), (4, .long z4), (6, .int z6)] [] := by
  intro n z4 z6 h
  refine ba_loop (P := fun a => ba_G ba_tM w 7 X s 75 [(0, .ref (w.1 0)), (3, .int z3), (4, .long a.1), (6, .int a.2)] []) ?_ n (z4, z6) h
  intro k hk0 a h
  obtain ⟨z4, z6⟩ := a
  have hk : ∀ (z4 : Int64) (z6 : Int32), k (z4, z6) = some o → ba_G ba_tM w 7 X s 75 [(0, .ref (w.1 0)), (3, .int z3), (4, .long z4), (6, .int z6)] [] := fun z4 z6 e => hk0 (z4, z6) e
  unfold xm_tellsBall_l75 at h
  try dsimp only at h ⊢
  refine ba_iload V dX6_tellsBall_75 3 rfl ?_
  refine ba_iconst V dX6_tellsBall_77 ba_c3 ?_
  refine ba_icmp_ge V dX6_tellsBall_78 rfl h (fun h => ?_) (fun h => ?_)
  · exact ba_sub [0, 1, 2] rfl (EX _ (Option.some.inj h))
  · refine ba_ldc2 V dX6_tellsBall_81 kkX6_350 ?_
    refine ba_lload V dX6_tellsBall_84 2 rfl ?_
    refine ba_lmul V dX6_tellsBall_86 ?_
    refine ba_aload_n V dX6_tellsBall_87 0 rfl ?_
    refine ba_iload_n V dX6_tellsBall_88 1 rfl ?_
    refine ba_iload V dX6_tellsBall_89 3 rfl ?_
    obtain ⟨v1147, hc, h⟩ := ba_bnd_some h
    refine ba_callVI (As := [.int z3, .int z6]) (st := [.long (31 * z4)]) V dX6_tellsBall_91 kcX6_253 ba_sModel (fun l => ym_endsBy V.inj l hc) ⟨rfl, rfl⟩ ⟨rfl, rfl, Nat.le_of_ble_eq_true rfl, Nat.le_of_ble_eq_true rfl⟩ (Nat.le_of_ble_eq_true rfl) ?_
    refine ba_i2l V dX6_tellsBall_94 ?_
    refine ba_ladd V dX6_tellsBall_95 ?_
    refine ba_letL h (fun x1148 h => ?_)
    refine ba_lstore (lv' := [(4, .long x1148), (0, .ref (w.1 0)), (3, .int z3), (6, .int z6)]) V dX6_tellsBall_96 (by decide) rfl ?_
    refine ba_iinc V dX6_tellsBall_98 3 rfl ba_c1 (by decide) h (fun x1149 h => ⟨[(6, .int x1149), (4, .long x1148), (0, .ref (w.1 0)), (3, .int z3)], rfl, ?_⟩)
    refine ba_goto V dX6_tellsBall_101 rfl ?_
    exact ba_sub [2, 3, 1, 0] rfl (hk _ _ h)
def xm_tellsBall (s : ba_St) (a1 : Int64) (a3 : Int32) : Option (Int64 × ba_St) :=
  ba_bnd (xm_lives s) fun s1140 =>
  ba_grd (ba_inb (2 * a3) 24) <|
  ba_lt ((31 * a1) + (Int32.toInt64 (s1140.1 9 (ba_ix (2 * a3))))) fun x1141 =>
  ba_grd (ba_inb ((2 * a3) + 1) 24) <|
  ba_lt ((31 * x1141) + (Int32.toInt64 (s1140.1 9 (ba_ix ((2 * a3) + 1))))) fun x1142 =>
  ba_bnd (xm_tellsTick s1140 x1142 0 a3) fun v1143 =>
  ba_bnd (xm_tellsTick s1140 v1143 6 a3) fun v1144 =>
  ba_bnd (xm_tellsTick s1140 v1144 13 a3) fun v1145 =>
  ba_bnd (xm_tellsTick s1140 v1145 23 a3) fun v1146 =>
  ba_bnd (ba_fix (xm_tellsBall_l75 s1140 a3) 1000 (v1146, 0)) fun x1150 =>
    ba_bn2 (xm_ballBetter s1140 ((2 * a3) + 1) 1 10 0) fun v1151 s1152 =>
    ba_lt ((31 * x1150) + (Int32.toInt64 v1151)) fun x1153 =>
    ba_bn2 (xm_ballBetter s1152 ((2 * a3) + 1) 1 10 1) fun v1154 s1155 =>
    ba_lt ((31 * x1153) + (Int32.toInt64 v1154)) fun x1156 =>
    ba_bn2 (xm_ballBetter s1155 (2 * a3) 0 24 0) fun v1157 s1158 =>
    ba_lt ((31 * x1156) + (Int32.toInt64 v1157)) fun x1159 =>
    ba_bn2 (xm_ballBetter s1158 (2 * a3) 0 24 1) fun v1160 s1161 =>
    ba_lt ((31 * x1159) + (Int32.toInt64 v1160)) fun x1162 =>
    ba_bn2 (xm_forcesOf s1161 a3) fun v1163 s1164 =>
    ba_lt ((31 * x1162) + (Int32.toInt64 v1163)) fun x1165 =>
    ba_bn2 (xm_askOf s1164 a3) fun v1166 s1167 =>
    ba_lt ((31 * x1165) + (Int32.toInt64 v1166)) fun x1168 =>
    ba_bn2 (xm_chanceOf s1167 5 a3 0) fun v1169 s1170 =>
    ba_lt ((31 * x1168) + v1169) fun x1171 =>
    ba_bn2 (xm_chanceOf s1170 5 a3 1) fun v1172 s1173 =>
    some (((31 * x1171) + v1172), s1173)
set_option maxHeartbeats 4000000 in
set_option maxRecDepth 100000 in
theorem ym_tellsBall {w : ba_W} (hj : ba_inj ba_tM w) (l : Launch) {s : ba_St} {a1 : Int64} {a3 : Int32} {o : Int64 × ba_St} (h : xm_tellsBall s a1 a3 = some o) : ba_CL ba_tM w l yX6_tellsBall cX6_tellsBall 7 (some .long) rm_m_tellsBall [.ref (w.1 0), .long a1, .int a3] s o := by
  refine ba_metL (lv := [(0, .ref (w.1 0)), (1, .long a1), (3, .int a3)]) l hj (by decide +kernel) ⟨Nat.le_of_ble_eq_true rfl, rfl⟩ ?_
  intro X V RT
  unfold xm_tellsBall at h
  refine ba_aload_n V dX6_tellsBall_0 0 rfl ?_
  obtain ⟨s1140, hc, h⟩ := ba_bnd_some h
  refine ba_callVV (As := []) (st := []) V dX6_tellsBall_1 kcX6_236 ba_sModel (fun l => ym_lives V.inj l hc) ⟨rfl, rfl⟩ ⟨rfl, rfl, Nat.le_of_ble_eq_true rfl, Nat.le_of_ble_eq_true rfl⟩ (Nat.le_of_ble_eq_true rfl) ?_
  refine ba_ldc2 V dX6_tellsBall_4 kkX6_350 ?_
  refine ba_lload_n V dX6_tellsBall_7 1 rfl ?_
  refine ba_lmul V dX6_tellsBall_8 ?_
  refine ba_aload_n V dX6_tellsBall_9 0 rfl ?_
  refine ba_getR V dX6_tellsBall_10 kfX6_34 ba_sModel rfl ?_
  refine ba_iconst V dX6_tellsBall_13 ba_c2 ?_
  refine ba_iload_n V dX6_tellsBall_14 2 rfl ?_
  refine ba_imul V dX6_tellsBall_15 ?_
  refine ba_iald V dX6_tellsBall_16 ba_sM_9 h (fun h => ?_)
  refine ba_i2l V dX6_tellsBall_17 ?_
  refine ba_ladd V dX6_tellsBall_18 ?_
  refine ba_letL h (fun x1141 h => ?_)
  refine ba_lstore (lv' := [(4, .long x1141), (0, .ref (w.1 0)), (1, .long a1), (3, .int a3)]) V dX6_tellsBall_19 (by decide) rfl ?_
  refine ba_ldc2 V dX6_tellsBall_21 kkX6_350 ?_
  refine ba_lload V dX6_tellsBall_24 0 rfl ?_
  refine ba_lmul V dX6_tellsBall_26 ?_
  refine ba_aload_n V dX6_tellsBall_27 1 rfl ?_
  refine ba_getR V dX6_tellsBall_28 kfX6_34 ba_sModel rfl ?_
  refine ba_iconst V dX6_tellsBall_31 ba_c2 ?_
  refine ba_iload_n V dX6_tellsBall_32 3 rfl ?_
  refine ba_imul V dX6_tellsBall_33 ?_
  refine ba_iconst V dX6_tellsBall_34 ba_c1 ?_
  refine ba_iadd V dX6_tellsBall_35 ?_
  refine ba_iald V dX6_tellsBall_36 ba_sM_9 h (fun h => ?_)
  refine ba_i2l V dX6_tellsBall_37 ?_
  refine ba_ladd V dX6_tellsBall_38 ?_
  refine ba_letL h (fun x1142 h => ?_)
  refine ba_lstore (lv' := [(4, .long x1142), (0, .ref (w.1 0)), (1, .long a1), (3, .int a3)]) V dX6_tellsBall_39 (by decide) rfl ?_
  refine ba_aload_n V dX6_tellsBall_41 1 rfl ?_
  refine ba_aload_n V dX6_tellsBall_42 1 rfl ?_
  refine ba_aload_n V dX6_tellsBall_43 1 rfl ?_
  refine ba_aload_n V dX6_tellsBall_44 1 rfl ?_
  refine ba_lload V dX6_tellsBall_45 0 rfl ?_
  refine ba_iconst V dX6_tellsBall_47 ba_c0 ?_
  refine ba_iload_n V dX6_tellsBall_48 3 rfl ?_
  obtain ⟨v1143, hc, h⟩ := ba_bnd_some h
  refine ba_callVL (As := [.long x1142, .int 0, .int a3]) (st := [.ref (w.1 0), .ref (w.1 0), .ref (w.1 0)]) V dX6_tellsBall_49 kcX6_352 ba_sModel (fun l => ym_tellsTick V.inj l hc) ⟨rfl, rfl⟩ ⟨rfl, rfl, Nat.le_of_ble_eq_true rfl, Nat.le_of_ble_eq_true rfl⟩ (Nat.le_of_ble_eq_true rfl) ?_
  refine ba_bipush V dX6_tellsBall_52 ba_c6b ?_
  refine ba_iload_n V dX6_tellsBall_54 3 rfl ?_
  obtain ⟨v1144, hc, h⟩ := ba_bnd_some h
  refine ba_callVL (As := [.long v1143, .int 6, .int a3]) (st := [.ref (w.1 0), .ref (w.1 0)]) V dX6_tellsBall_55 kcX6_352 ba_sModel (fun l => ym_tellsTick V.inj l hc) ⟨rfl, rfl⟩ ⟨rfl, rfl, Nat.le_of_ble_eq_true rfl, Nat.le_of_ble_eq_true rfl⟩ (Nat.le_of_ble_eq_true rfl) ?_
  refine ba_bipush V dX6_tellsBall_58 ba_c13b ?_
  refine ba_iload_n V dX6_tellsBall_60 3 rfl ?_
  obtain ⟨v1145, hc, h⟩ := ba_bnd_some h
  refine ba_callVL (As := [.long v1144, .int 13, .int a3]) (st := [.ref (w.1 0)]) V dX6_tellsBall_61 kcX6_352 ba_sModel (fun l => ym_tellsTick V.inj l hc) ⟨rfl, rfl⟩ ⟨rfl, rfl, Nat.le_of_ble_eq_true rfl, Nat.le_of_ble_eq_true rfl⟩ (Nat.le_of_ble_eq_true rfl) ?_
  refine ba_bipush V dX6_tellsBall_64 ba_c23b ?_
  refine ba_iload_n V dX6_tellsBall_66 3 rfl ?_
  obtain ⟨v1146, hc, h⟩ := ba_bnd_some h
  refine ba_callVL (As := [.long v1145, .int 23, .int a3]) (st := []) V dX6_tellsBall_67 kcX6_352 ba_sModel (fun l => ym_tellsTick V.inj l hc) ⟨rfl, rfl⟩ ⟨rfl, rfl, Nat.le_of_ble_eq_true rfl, Nat.le_of_ble_eq_true rfl⟩ (Nat.le_of_ble_eq_true rfl) ?_
  refine ba_lstore (lv' := [(4, .long v1146), (0, .ref (w.1 0)), (1, .long a1), (3, .int a3)]) V dX6_tellsBall_70 (by decide) rfl ?_
  refine ba_iconst V dX6_tellsBall_72 ba_c0 ?_
  refine ba_istore (lv' := [(6, .int 0), (4, .long v1146), (0, .ref (w.1 0)), (1, .long a1), (3, .int a3)]) V dX6_tellsBall_73 (by decide) rfl ?_
  obtain ⟨o, ho, h⟩ := ba_bnd_some h
  refine ba_sub [2, 4, 1, 0] rfl (ym_tellsBall_l75 V (o := o) (fun x1150 e => ?_) 1000 v1146 0 ho)
  subst e
  try dsimp only at h
  refine ba_ldc2 V dX6_tellsBall_104 kkX6_350 ?_
  refine ba_lload V dX6_tellsBall_107 2 rfl ?_
  refine ba_lmul V dX6_tellsBall_109 ?_
  refine ba_aload_n V dX6_tellsBall_110 0 rfl ?_
  refine ba_iconst V dX6_tellsBall_111 ba_c2 ?_
  refine ba_iload_n V dX6_tellsBall_112 1 rfl ?_
  refine ba_imul V dX6_tellsBall_113 ?_
  refine ba_iconst V dX6_tellsBall_114 ba_c1 ?_
  refine ba_iadd V dX6_tellsBall_115 ?_
  refine ba_iconst V dX6_tellsBall_116 ba_c1 ?_
  refine ba_bipush V dX6_tellsBall_117 ba_c10b ?_
  refine ba_iconst V dX6_tellsBall_119 ba_c0 ?_
  obtain ⟨v1151, s1152, hc, h⟩ := ba_bn2_some h
  refine ba_callVI (As := [.int ((2 * a3) + 1), .int 1, .int 10, .int 0]) (st := [.long (31 * x1150)]) V dX6_tellsBall_120 kcX6_277 ba_sModel (fun l => ym_ballBetter V.inj l hc) ⟨rfl, rfl⟩ ⟨rfl, rfl, Nat.le_of_ble_eq_true rfl, Nat.le_of_ble_eq_true rfl⟩ (Nat.le_of_ble_eq_true rfl) ?_
  refine ba_i2l V dX6_tellsBall_123 ?_
  refine ba_ladd V dX6_tellsBall_124 ?_
  refine ba_letL h (fun x1153 h => ?_)
  refine ba_lstore (lv' := [(4, .long x1153), (0, .ref (w.1 0)), (3, .int a3)]) V dX6_tellsBall_125 (by decide) rfl ?_
  refine ba_ldc2 V dX6_tellsBall_127 kkX6_350 ?_
  refine ba_lload V dX6_tellsBall_130 0 rfl ?_
  refine ba_lmul V dX6_tellsBall_132 ?_
  refine ba_aload_n V dX6_tellsBall_133 1 rfl ?_
  refine ba_iconst V dX6_tellsBall_134 ba_c2 ?_
  refine ba_iload_n V dX6_tellsBall_135 2 rfl ?_
  refine ba_imul V dX6_tellsBall_136 ?_
  refine ba_iconst V dX6_tellsBall_137 ba_c1 ?_
  refine ba_iadd V dX6_tellsBall_138 ?_
  refine ba_iconst V dX6_tellsBall_139 ba_c1 ?_
  refine ba_bipush V dX6_tellsBall_140 ba_c10b ?_
  refine ba_iconst V dX6_tellsBall_142 ba_c1 ?_
  obtain ⟨v1154, s1155, hc, h⟩ := ba_bn2_some h
  refine ba_callVI (As := [.int ((2 * a3) + 1), .int 1, .int 10, .int 1]) (st := [.long (31 * x1153)]) V dX6_tellsBall_143 kcX6_277 ba_sModel (fun l => ym_ballBetter V.inj l hc) ⟨rfl, rfl⟩ ⟨rfl, rfl, Nat.le_of_ble_eq_true rfl, Nat.le_of_ble_eq_true rfl⟩ (Nat.le_of_ble_eq_true rfl) ?_
  refine ba_i2l V dX6_tellsBall_146 ?_
  refine ba_ladd V dX6_tellsBall_147 ?_
  refine ba_letL h (fun x1156 h => ?_)
  refine ba_lstore (lv' := [(4, .long x1156), (0, .ref (w.1 0)), (3, .int a3)]) V dX6_tellsBall_148 (by decide) rfl ?_
  refine ba_ldc2 V dX6_tellsBall_150 kkX6_350 ?_
  refine ba_lload V dX6_tellsBall_153 0 rfl ?_
  refine ba_lmul V dX6_tellsBall_155 ?_
  refine ba_aload_n V dX6_tellsBall_156 1 rfl ?_
  refine ba_iconst V dX6_tellsBall_157 ba_c2 ?_
  refine ba_iload_n V dX6_tellsBall_158 2 rfl ?_
  refine ba_imul V dX6_tellsBall_159 ?_
  refine ba_iconst V dX6_tellsBall_160 ba_c0 ?_
  refine ba_bipush V dX6_tellsBall_161 ba_c24b ?_
  refine ba_iconst V dX6_tellsBall_163 ba_c0 ?_
  obtain ⟨v1157, s1158, hc, h⟩ := ba_bn2_some h
  refine ba_callVI (As := [.int (2 * a3), .int 0, .int 24, .int 0]) (st := [.long (31 * x1156)]) V dX6_tellsBall_164 kcX6_277 ba_sModel (fun l => ym_ballBetter V.inj l hc) ⟨rfl, rfl⟩ ⟨rfl, rfl, Nat.le_of_ble_eq_true rfl, Nat.le_of_ble_eq_true rfl⟩ (Nat.le_of_ble_eq_true rfl) ?_
  refine ba_i2l V dX6_tellsBall_167 ?_
  refine ba_ladd V dX6_tellsBall_168 ?_
  refine ba_letL h (fun x1159 h => ?_)
  refine ba_lstore (lv' := [(4, .long x1159), (0, .ref (w.1 0)), (3, .int a3)]) V dX6_tellsBall_169 (by decide) rfl ?_
  refine ba_ldc2 V dX6_tellsBall_171 kkX6_350 ?_
  refine ba_lload V dX6_tellsBall_174 0 rfl ?_
  refine ba_lmul V dX6_tellsBall_176 ?_
  refine ba_aload_n V dX6_tellsBall_177 1 rfl ?_
  refine ba_iconst V dX6_tellsBall_178 ba_c2 ?_
  refine ba_iload_n V dX6_tellsBall_179 2 rfl ?_
  refine ba_imul V dX6_tellsBall_180 ?_
  refine ba_iconst V dX6_tellsBall_181 ba_c0 ?_
  refine ba_bipush V dX6_tellsBall_182 ba_c24b ?_
  refine ba_iconst V dX6_tellsBall_184 ba_c1 ?_
  obtain ⟨v1160, s1161, hc, h⟩ := ba_bn2_some h
  refine ba_callVI (As := [.int (2 * a3), .int 0, .int 24, .int 1]) (st := [.long (31 * x1159)]) V dX6_tellsBall_185 kcX6_277 ba_sModel (fun l => ym_ballBetter V.inj l hc) ⟨rfl, rfl⟩ ⟨rfl, rfl, Nat.le_of_ble_eq_true rfl, Nat.le_of_ble_eq_true rfl⟩ (Nat.le_of_ble_eq_true rfl) ?_
  refine ba_i2l V dX6_tellsBall_188 ?_
  refine ba_ladd V dX6_tellsBall_189 ?_
  refine ba_letL h (fun x1162 h => ?_)
  refine ba_lstore (lv' := [(4, .long x1162), (0, .ref (w.1 0)), (3, .int a3)]) V dX6_tellsBall_190 (by decide) rfl ?_
  refine ba_ldc2 V dX6_tellsBall_192 kkX6_350 ?_
  refine ba_lload V dX6_tellsBall_195 0 rfl ?_
  refine ba_lmul V dX6_tellsBall_197 ?_
  refine ba_aload_n V dX6_tellsBall_198 1 rfl ?_
  refine ba_iload_n V dX6_tellsBall_199 2 rfl ?_
  obtain ⟨v1163, s1164, hc, h⟩ := ba_bn2_some h
  refine ba_callVI (As := [.int a3]) (st := [.long (31 * x1162)]) V dX6_tellsBall_200 kcX6_304 ba_sModel (fun l => ym_forcesOf V.inj l hc) ⟨rfl, rfl⟩ ⟨rfl, rfl, Nat.le_of_ble_eq_true rfl, Nat.le_of_ble_eq_true rfl⟩ (Nat.le_of_ble_eq_true rfl) ?_
  refine ba_i2l V dX6_tellsBall_203 ?_
  refine ba_ladd V dX6_tellsBall_204 ?_
  refine ba_letL h (fun x1165 h => ?_)
  refine ba_lstore (lv' := [(4, .long x1165), (0, .ref (w.1 0)), (3, .int a3)]) V dX6_tellsBall_205 (by decide) rfl ?_
  refine ba_ldc2 V dX6_tellsBall_207 kkX6_350 ?_
  refine ba_lload V dX6_tellsBall_210 0 rfl ?_
  refine ba_lmul V dX6_tellsBall_212 ?_
  refine ba_aload_n V dX6_tellsBall_213 1 rfl ?_
  refine ba_iload_n V dX6_tellsBall_214 2 rfl ?_
  obtain ⟨v1166, s1167, hc, h⟩ := ba_bn2_some h
  refine ba_callVI (As := [.int a3]) (st := [.long (31 * x1165)]) V dX6_tellsBall_215 kcX6_320 ba_sModel (fun l => ym_askOf V.inj l hc) ⟨rfl, rfl⟩ ⟨rfl, rfl, Nat.le_of_ble_eq_true rfl, Nat.le_of_ble_eq_true rfl⟩ (Nat.le_of_ble_eq_true rfl) ?_
  refine ba_i2l V dX6_tellsBall_218 ?_
  refine ba_ladd V dX6_tellsBall_219 ?_
  refine ba_letL h (fun x1168 h => ?_)
  refine ba_lstore (lv' := [(4, .long x1168), (0, .ref (w.1 0)), (3, .int a3)]) V dX6_tellsBall_220 (by decide) rfl ?_
  refine ba_ldc2 V dX6_tellsBall_222 kkX6_350 ?_
  refine ba_lload V dX6_tellsBall_225 0 rfl ?_
  refine ba_lmul V dX6_tellsBall_227 ?_
  refine ba_aload_n V dX6_tellsBall_228 1 rfl ?_
  refine ba_iconst V dX6_tellsBall_229 ba_c5 ?_
  refine ba_iload_n V dX6_tellsBall_230 2 rfl ?_
  refine ba_iconst V dX6_tellsBall_231 ba_c0 ?_
  obtain ⟨v1169, s1170, hc, h⟩ := ba_bn2_some h
  refine ba_callVL (As := [.int 5, .int a3, .int 0]) (st := [.long (31 * x1168)]) V dX6_tellsBall_232 kcX6_329 ba_sModel (fun l => ym_chanceOf V.inj l hc) ⟨rfl, rfl⟩ ⟨rfl, rfl, Nat.le_of_ble_eq_true rfl, Nat.le_of_ble_eq_true rfl⟩ (Nat.le_of_ble_eq_true rfl) ?_
  refine ba_ladd V dX6_tellsBall_235 ?_
  refine ba_letL h (fun x1171 h => ?_)
  refine ba_lstore (lv' := [(4, .long x1171), (0, .ref (w.1 0)), (3, .int a3)]) V dX6_tellsBall_236 (by decide) rfl ?_
  refine ba_ldc2 V dX6_tellsBall_238 kkX6_350 ?_
  refine ba_lload V dX6_tellsBall_241 0 rfl ?_
  refine ba_lmul V dX6_tellsBall_243 ?_
  refine ba_aload_n V dX6_tellsBall_244 1 rfl ?_
  refine ba_iconst V dX6_tellsBall_245 ba_c5 ?_
  refine ba_iload_n V dX6_tellsBall_246 2 rfl ?_
  refine ba_iconst V dX6_tellsBall_247 ba_c1 ?_
  obtain ⟨v1172, s1173, hc, h⟩ := ba_bn2_some h
  refine ba_callVL (As := [.int 5, .int a3, .int 1]) (st := [.long (31 * x1171)]) V dX6_tellsBall_248 kcX6_329 ba_sModel (fun l => ym_chanceOf V.inj l hc) ⟨rfl, rfl⟩ ⟨rfl, rfl, Nat.le_of_ble_eq_true rfl, Nat.le_of_ble_eq_true rfl⟩ (Nat.le_of_ble_eq_true rfl) ?_
  refine ba_ladd V dX6_tellsBall_251 ?_
  exact RT _ _ _ _ dX6_tellsBall_252 (Option.some.inj h)
def xm_digest_l6 (k : (ba_St × Int64 × Int32) → Option (ba_St × Int64)) (a : (ba_St × Int64 × Int32)) : Option (ba_St × Int64) :=
  match a with
  | (s, z1, z3) =>
    if 8 ≤ z3 then
      some (s, z1)
    else
      ba_bn2 (xm_count s z3) fun v1174 s1175 =>
      ba_lt ((31 * z1) + (Int32.toInt64 v1174)) fun x1176 =>
      ba_lt (z3 + 1) fun x1177 =>
      k (s1175, x1176, x1177)
set_option maxHeartbeats 4000000 in
set_option maxRecDepth 100000 in
theorem ym_digest_l6 {w : ba_W} {X : ba_X} (V : ba_V ba_tM w 5 X cX6_digest RX6 rm_m_digest) {o : ba_St × Int64} (EX : ∀ (s : ba_St) (z1 : Int64), (s, z1) = o → ba_G ba_tM w 5 X s 31 [(0, .ref (w.1 0)), (1, .long z1)] []) : ∀ (n : Nat) (s : ba_St) (z1 : Int64) (z3 : Int32), ba_fix (xm_digest_l6) n (s, z1, z3) = some o → ba_G ba_tM w 5 X s 6 [(0, .ref (w.1 0)), (1, .long z1), (3, .int z3)] [] := by
  intro n s z1 z3 h
  refine ba_loop (P := fun a => ba_G ba_tM w 5 X a.1 6 [(0, .ref (w.1 0)), (1, .long a.2.1), (3, .int a.2.2)] []) ?_ n (s, z1, z3) h
  intro k hk0 a h
  obtain ⟨s, z1, z3⟩ := a
  have hk : ∀ (s : ba_St) (z1 : Int64) (z3 : Int32), k (s, z1, z3) = some o → ba_G ba_tM w 5 X s 6 [(0, .ref (w.1 0)), (1, .long z1), (3, .int z3)] [] := fun s z1 z3 e => hk0 (s, z1, z3) e
  unfold xm_digest_l6 at h
  try dsimp only at h ⊢
  refine ba_iload_n V dX6_digest_6 2 rfl ?_
  refine ba_bipush V dX6_digest_7 ba_c8b ?_
  refine ba_icmp_ge V dX6_digest_9 rfl h (fun h => ?_) (fun h => ?_)
  · exact ba_sub [0, 1] rfl (EX _ _ (Option.some.inj h))
  · refine ba_ldc2 V dX6_digest_12 kkX6_350 ?_
    refine ba_lload_n V dX6_digest_15 1 rfl ?_
    refine ba_lmul V dX6_digest_16 ?_
    refine ba_aload_n V dX6_digest_17 0 rfl ?_
    refine ba_iload_n V dX6_digest_18 2 rfl ?_
    obtain ⟨v1174, s1175, hc, h⟩ := ba_bn2_some h
    refine ba_callVI (As := [.int z3]) (st := [.long (31 * z1)]) V dX6_digest_19 kcX6_358 ba_sModel (fun l => ym_count V.inj l hc) ⟨rfl, rfl⟩ ⟨rfl, rfl, Nat.le_of_ble_eq_true rfl, Nat.le_of_ble_eq_true rfl⟩ (Nat.le_of_ble_eq_true rfl) ?_
    refine ba_i2l V dX6_digest_22 ?_
    refine ba_ladd V dX6_digest_23 ?_
    refine ba_letL h (fun x1176 h => ?_)
    refine ba_lstore_n (lv' := [(1, .long x1176), (0, .ref (w.1 0)), (3, .int z3)]) V dX6_digest_24 (by decide) rfl ?_
    refine ba_iinc V dX6_digest_25 2 rfl ba_c1 (by decide) h (fun x1177 h => ⟨[(3, .int x1177), (1, .long x1176), (0, .ref (w.1 0))], rfl, ?_⟩)
    refine ba_goto V dX6_digest_28 rfl ?_
    exact ba_sub [2, 1, 0] rfl (hk _ _ _ h)
def xm_digest_l33 (k : (ba_St × Int64 × Int32) → Option (ba_St × Int64)) (a : (ba_St × Int64 × Int32)) : Option (ba_St × Int64) :=
  match a with
  | (s, z1, z3) =>
    if 3 ≤ z3 then
      some (s, z1)
    else
      ba_bn2 (xm_readsText s z3) fun v1180 s1181 =>
      ba_lt ((31 * z1) + (Int32.toInt64 v1180)) fun x1182 =>
      ba_lt (z3 + 1) fun x1183 =>
      k (s1181, x1182, x1183)
set_option maxHeartbeats 4000000 in
set_option maxRecDepth 100000 in
theorem ym_digest_l33 {w : ba_W} {X : ba_X} (V : ba_V ba_tM w 5 X cX6_digest RX6 rm_m_digest) {o : ba_St × Int64} (EX : ∀ (s : ba_St) (z1 : Int64), (s, z1) = o → ba_G ba_tM w 5 X s 57 [(0, .ref (w.1 0)), (1, .long z1)] []) : ∀ (n : Nat) (s : ba_St) (z1 : Int64) (z3 : Int32), ba_fix (xm_digest_l33) n (s, z1, z3) = some o → ba_G ba_tM w 5 X s 33 [(0, .ref (w.1 0)), (1, .long z1), (3, .int z3)] [] := by
  intro n s z1 z3 h
  refine ba_loop (P := fun a => ba_G ba_tM w 5 X a.1 33 [(0, .ref (w.1 0)), (1, .long a.2.1), (3, .int a.2.2)] []) ?_ n (s, z1, z3) h
  intro k hk0 a h
  obtain ⟨s, z1, z3⟩ := a
  have hk : ∀ (s : ba_St) (z1 : Int64) (z3 : Int32), k (s, z1, z3) = some o → ba_G ba_tM w 5 X s 33 [(0, .ref (w.1 0)), (1, .long z1), (3, .int z3)] [] := fun s z1 z3 e => hk0 (s, z1, z3) e
  unfold xm_digest_l33 at h
  try dsimp only at h ⊢
  refine ba_iload_n V dX6_digest_33 2 rfl ?_
  refine ba_iconst V dX6_digest_34 ba_c3 ?_
  refine ba_icmp_ge V dX6_digest_35 rfl h (fun h => ?_) (fun h => ?_)
  · exact ba_sub [0, 1] rfl (EX _ _ (Option.some.inj h))
  · refine ba_ldc2 V dX6_digest_38 kkX6_350 ?_
    refine ba_lload_n V dX6_digest_41 1 rfl ?_
    refine ba_lmul V dX6_digest_42 ?_
    refine ba_aload_n V dX6_digest_43 0 rfl ?_
    refine ba_iload_n V dX6_digest_44 2 rfl ?_
    obtain ⟨v1180, s1181, hc, h⟩ := ba_bn2_some h
    refine ba_callVI (As := [.int z3]) (st := [.long (31 * z1)]) V dX6_digest_45 kcX6_159 ba_sModel (fun l => ym_readsText V.inj l hc) ⟨rfl, rfl⟩ ⟨rfl, rfl, Nat.le_of_ble_eq_true rfl, Nat.le_of_ble_eq_true rfl⟩ (Nat.le_of_ble_eq_true rfl) ?_
    refine ba_i2l V dX6_digest_48 ?_
    refine ba_ladd V dX6_digest_49 ?_
    refine ba_letL h (fun x1182 h => ?_)
    refine ba_lstore_n (lv' := [(1, .long x1182), (0, .ref (w.1 0)), (3, .int z3)]) V dX6_digest_50 (by decide) rfl ?_
    refine ba_iinc V dX6_digest_51 2 rfl ba_c1 (by decide) h (fun x1183 h => ⟨[(3, .int x1183), (1, .long x1182), (0, .ref (w.1 0))], rfl, ?_⟩)
    refine ba_goto V dX6_digest_54 rfl ?_
    exact ba_sub [2, 1, 0] rfl (hk _ _ _ h)
def xm_digest_l63 (s : ba_St) (k : (Int64 × Int32) → Option (Int64)) (a : (Int64 × Int32)) : Option (Int64) :=
  match a with
  | (z1, z3) =>
    if 72 ≤ z3 then
      some z1
    else
      ba_bnd (xm_seesBy s 9 (z3 / 9) (ba_irm z3 9)) fun v1187 =>
      ba_lt ((31 * z1) + (Int32.toInt64 v1187)) fun x1188 =>
      ba_lt (z3 + 1) fun x1189 =>
      k (x1188, x1189)
set_option maxHeartbeats 4000000 in
set_option maxRecDepth 100000 in
theorem ym_digest_l63 {w : ba_W} {X : ba_X} (V : ba_V ba_tM w 5 X cX6_digest RX6 rm_m_digest) {s : ba_St} {o : Int64} (EX : ∀ (z1 : Int64), z1 = o → ba_G ba_tM w 5 X s 97 [(0, .ref (w.1 0)), (1, .long z1)] []) : ∀ (n : Nat) (z1 : Int64) (z3 : Int32), ba_fix (xm_digest_l63 s) n (z1, z3) = some o → ba_G ba_tM w 5 X s 63 [(0, .ref (w.1 0)), (1, .long z1), (3, .int z3)] [] := by
  intro n z1 z3 h
  refine ba_loop (P := fun a => ba_G ba_tM w 5 X s 63 [(0, .ref (w.1 0)), (1, .long a.1), (3, .int a.2)] []) ?_ n (z1, z3) h
  intro k hk0 a h
  obtain ⟨z1, z3⟩ := a
  have hk : ∀ (z1 : Int64) (z3 : Int32), k (z1, z3) = some o → ba_G ba_tM w 5 X s 63 [(0, .ref (w.1 0)), (1, .long z1), (3, .int z3)] [] := fun z1 z3 e => hk0 (z1, z3) e
  unfold xm_digest_l63 at h
  try dsimp only at h ⊢
  refine ba_iload_n V dX6_digest_63 2 rfl ?_
  refine ba_bipush V dX6_digest_64 ba_c72b ?_
  refine ba_icmp_ge V dX6_digest_66 rfl h (fun h => ?_) (fun h => ?_)
  · exact ba_sub [0, 1] rfl (EX _ (Option.some.inj h))
  · refine ba_ldc2 V dX6_digest_69 kkX6_350 ?_
    refine ba_lload_n V dX6_digest_72 1 rfl ?_
    refine ba_lmul V dX6_digest_73 ?_
    refine ba_aload_n V dX6_digest_74 0 rfl ?_
    refine ba_bipush V dX6_digest_75 ba_c9b ?_
    refine ba_iload_n V dX6_digest_77 2 rfl ?_
    refine ba_bipush V dX6_digest_78 ba_c9b ?_
    refine ba_idiv V dX6_digest_80 (by decide) ?_
    refine ba_iload_n V dX6_digest_81 2 rfl ?_
    refine ba_bipush V dX6_digest_82 ba_c9b ?_
    refine ba_irem V dX6_digest_84 (by decide) ?_
    obtain ⟨v1187, hc, h⟩ := ba_bnd_some h
    refine ba_callVI (As := [.int 9, .int (z3 / 9), .int (ba_irm z3 9)]) (st := [.long (31 * z1)]) V dX6_digest_85 kcX6_250 ba_sModel (fun l => ym_seesBy V.inj l hc) ⟨rfl, rfl⟩ ⟨rfl, rfl, Nat.le_of_ble_eq_true rfl, Nat.le_of_ble_eq_true rfl⟩ (Nat.le_of_ble_eq_true rfl) ?_
    refine ba_i2l V dX6_digest_88 ?_
    refine ba_ladd V dX6_digest_89 ?_
    refine ba_letL h (fun x1188 h => ?_)
    refine ba_lstore_n (lv' := [(1, .long x1188), (0, .ref (w.1 0)), (3, .int z3)]) V dX6_digest_90 (by decide) rfl ?_
    refine ba_iinc V dX6_digest_91 2 rfl ba_c1 (by decide) h (fun x1189 h => ⟨[(3, .int x1189), (1, .long x1188), (0, .ref (w.1 0))], rfl, ?_⟩)
    refine ba_goto V dX6_digest_94 rfl ?_
    exact ba_sub [2, 1, 0] rfl (hk _ _ h)
def xm_digest_l108 (s : ba_St) (z3 : Int32) (k : (Int64 × Int32) → Option (Int64)) (a : (Int64 × Int32)) : Option (Int64) :=
  match a with
  | (z1, z4) =>
    if 3 ≤ z4 then
      some z1
    else
      ba_bnd (xm_cupBy s z3 z4) fun v1191 =>
      ba_lt ((31 * z1) + (Int32.toInt64 v1191)) fun x1192 =>
      ba_lt (z4 + 1) fun x1193 =>
      k (x1192, x1193)
set_option maxHeartbeats 4000000 in
set_option maxRecDepth 100000 in
theorem ym_digest_l108 {w : ba_W} {X : ba_X} (V : ba_V ba_tM w 5 X cX6_digest RX6 rm_m_digest) {s : ba_St} {z3 : Int32} {o : Int64} (EX : ∀ (z1 : Int64), z1 = o → ba_G ba_tM w 5 X s 135 [(0, .ref (w.1 0)), (1, .long z1), (3, .int z3)] []) : ∀ (n : Nat) (z1 : Int64) (z4 : Int32), ba_fix (xm_digest_l108 s z3) n (z1, z4) = some o → ba_G ba_tM w 5 X s 108 [(0, .ref (w.1 0)), (1, .long z1), (3, .int z3), (4, .int z4)] [] := by
  intro n z1 z4 h
  refine ba_loop (P := fun a => ba_G ba_tM w 5 X s 108 [(0, .ref (w.1 0)), (1, .long a.1), (3, .int z3), (4, .int a.2)] []) ?_ n (z1, z4) h
  intro k hk0 a h
  obtain ⟨z1, z4⟩ := a
  have hk : ∀ (z1 : Int64) (z4 : Int32), k (z1, z4) = some o → ba_G ba_tM w 5 X s 108 [(0, .ref (w.1 0)), (1, .long z1), (3, .int z3), (4, .int z4)] [] := fun z1 z4 e => hk0 (z1, z4) e
  unfold xm_digest_l108 at h
  try dsimp only at h ⊢
  refine ba_iload V dX6_digest_108 3 rfl ?_
  refine ba_iconst V dX6_digest_110 ba_c3 ?_
  refine ba_icmp_ge V dX6_digest_111 rfl h (fun h => ?_) (fun h => ?_)
  · exact ba_sub [0, 1, 2] rfl (EX _ (Option.some.inj h))
  · refine ba_ldc2 V dX6_digest_114 kkX6_350 ?_
    refine ba_lload_n V dX6_digest_117 1 rfl ?_
    refine ba_lmul V dX6_digest_118 ?_
    refine ba_aload_n V dX6_digest_119 0 rfl ?_
    refine ba_iload_n V dX6_digest_120 2 rfl ?_
    refine ba_iload V dX6_digest_121 3 rfl ?_
    obtain ⟨v1191, hc, h⟩ := ba_bnd_some h
    refine ba_callVI (As := [.int z3, .int z4]) (st := [.long (31 * z1)]) V dX6_digest_123 kcX6_242 ba_sModel (fun l => ym_cupBy V.inj l hc) ⟨rfl, rfl⟩ ⟨rfl, rfl, Nat.le_of_ble_eq_true rfl, Nat.le_of_ble_eq_true rfl⟩ (Nat.le_of_ble_eq_true rfl) ?_
    refine ba_i2l V dX6_digest_126 ?_
    refine ba_ladd V dX6_digest_127 ?_
    refine ba_letL h (fun x1192 h => ?_)
    refine ba_lstore_n (lv' := [(1, .long x1192), (0, .ref (w.1 0)), (3, .int z3), (4, .int z4)]) V dX6_digest_128 (by decide) rfl ?_
    refine ba_iinc V dX6_digest_129 3 rfl ba_c1 (by decide) h (fun x1193 h => ⟨[(4, .int x1193), (1, .long x1192), (0, .ref (w.1 0)), (3, .int z3)], rfl, ?_⟩)
    refine ba_goto V dX6_digest_132 rfl ?_
    exact ba_sub [2, 1, 3, 0] rfl (hk _ _ h)
def xm_digest_l99 (s : ba_St) (k : (Int64 × Int32) → Option (Int64)) (a : (Int64 × Int32)) : Option (Int64) :=
  match a with
  | (z1, z3) =>
    if 9 ≤ z3 then
      some z1
    else
      ba_bnd (ba_fix (xm_digest_l108 s z3) 1000 (z1, 0)) fun x1194 =>
        ba_lt (z3 + 1) fun x1195 =>
        k (x1194, x1195)
set_option maxHeartbeats 4000000 in
set_option maxRecDepth 100000 in
theorem ym_digest_l99 {w : ba_W} {X : ba_X} (V : ba_V ba_tM w 5 X cX6_digest RX6 rm_m_digest) {s : ba_St} {o : Int64} (EX : ∀ (z1 : Int64), z1 = o → ba_G ba_tM w 5 X s 141 [(0, .ref (w.1 0)), (1, .long z1)] []) : ∀ (n : Nat) (z1 : Int64) (z3 : Int32), ba_fix (xm_digest_l99 s) n (z1, z3) = some o → ba_G ba_tM w 5 X s 99 [(0, .ref (w.1 0)), (1, .long z1), (3, .int z3)] [] := by
  intro n z1 z3 h
  refine ba_loop (P := fun a => ba_G ba_tM w 5 X s 99 [(0, .ref (w.1 0)), (1, .long a.1), (3, .int a.2)] []) ?_ n (z1, z3) h
  intro k hk0 a h
  obtain ⟨z1, z3⟩ := a
  have hk : ∀ (z1 : Int64) (z3 : Int32), k (z1, z3) = some o → ba_G ba_tM w 5 X s 99 [(0, .ref (w.1 0)), (1, .long z1), (3, .int z3)] [] := fun z1 z3 e => hk0 (z1, z3) e
  unfold xm_digest_l99 at h
  try dsimp only at h ⊢
  refine ba_iload_n V dX6_digest_99 2 rfl ?_
  refine ba_bipush V dX6_digest_100 ba_c9b ?_
  refine ba_icmp_ge V dX6_digest_102 rfl h (fun h => ?_) (fun h => ?_)
  · exact ba_sub [0, 1] rfl (EX _ (Option.some.inj h))
  · refine ba_iconst V dX6_digest_105 ba_c0 ?_
    refine ba_istore (lv' := [(4, .int 0), (0, .ref (w.1 0)), (1, .long z1), (3, .int z3)]) V dX6_digest_106 (by decide) rfl ?_
    obtain ⟨o, ho, h⟩ := ba_bnd_some h
    refine ba_sub [1, 2, 3, 0] rfl (ym_digest_l108 V (o := o) (fun x1194 e => ?_) 1000 z1 0 ho)
    subst e
    try dsimp only at h
    refine ba_iinc V dX6_digest_135 2 rfl ba_c1 (by decide) h (fun x1195 h => ⟨[(3, .int x1195), (0, .ref (w.1 0)), (1, .long x1194)], rfl, ?_⟩)
    refine ba_goto V dX6_digest_138 rfl ?_
    exact ba_sub [1, 2, 0] rfl (hk _ _ h)
def xm_digest_l143 (k : (ba_St × Int64 × Int32) → Option (ba_St × Int64)) (a : (ba_St × Int64 × Int32)) : Option (ba_St × Int64) :=
  match a with
  | (s, z1, z3) =>
    if (s.1 0 7) ≤ z3 then
      some (s, z1)
    else
      ba_bn2 (xm_tellsPin s z1 z3) fun v1197 s1198 =>
      ba_lt (z3 + 1) fun x1199 =>
      k (s1198, v1197, x1199)
set_option maxHeartbeats 4000000 in
set_option maxRecDepth 100000 in
theorem ym_digest_l143 {w : ba_W} {X : ba_X} (V : ba_V ba_tM w 5 X cX6_digest RX6 rm_m_digest) {o : ba_St × Int64} (EX : ∀ (s : ba_St) (z1 : Int64), (s, z1) = o → ba_G ba_tM w 5 X s 164 [(0, .ref (w.1 0)), (1, .long z1)] []) : ∀ (n : Nat) (s : ba_St) (z1 : Int64) (z3 : Int32), ba_fix (xm_digest_l143) n (s, z1, z3) = some o → ba_G ba_tM w 5 X s 143 [(0, .ref (w.1 0)), (1, .long z1), (3, .int z3)] [] := by
  intro n s z1 z3 h
  refine ba_loop (P := fun a => ba_G ba_tM w 5 X a.1 143 [(0, .ref (w.1 0)), (1, .long a.2.1), (3, .int a.2.2)] []) ?_ n (s, z1, z3) h
  intro k hk0 a h
  obtain ⟨s, z1, z3⟩ := a
  have hk : ∀ (s : ba_St) (z1 : Int64) (z3 : Int32), k (s, z1, z3) = some o → ba_G ba_tM w 5 X s 143 [(0, .ref (w.1 0)), (1, .long z1), (3, .int z3)] [] := fun s z1 z3 e => hk0 (s, z1, z3) e
  unfold xm_digest_l143 at h
  try dsimp only at h ⊢
  refine ba_iload_n V dX6_digest_143 2 rfl ?_
  refine ba_aload_n V dX6_digest_144 0 rfl ?_
  refine ba_getI V dX6_digest_145 kfX6_127 ba_sModel rfl ?_
  refine ba_icmp_ge V dX6_digest_148 rfl h (fun h => ?_) (fun h => ?_)
  · exact ba_sub [0, 1] rfl (EX _ _ (Option.some.inj h))
  · refine ba_aload_n V dX6_digest_151 0 rfl ?_
    refine ba_lload_n V dX6_digest_152 1 rfl ?_
    refine ba_iload_n V dX6_digest_153 2 rfl ?_
    obtain ⟨v1197, s1198, hc, h⟩ := ba_bn2_some h
    refine ba_callVL (As := [.long z1, .int z3]) (st := []) V dX6_digest_154 kcX6_361 ba_sModel (fun l => ym_tellsPin V.inj l hc) ⟨rfl, rfl⟩ ⟨rfl, rfl, Nat.le_of_ble_eq_true rfl, Nat.le_of_ble_eq_true rfl⟩ (Nat.le_of_ble_eq_true rfl) ?_
    refine ba_lstore_n (lv' := [(1, .long v1197), (0, .ref (w.1 0)), (3, .int z3)]) V dX6_digest_157 (by decide) rfl ?_
    refine ba_iinc V dX6_digest_158 2 rfl ba_c1 (by decide) h (fun x1199 h => ⟨[(3, .int x1199), (1, .long v1197), (0, .ref (w.1 0))], rfl, ?_⟩)
    refine ba_goto V dX6_digest_161 rfl ?_
    exact ba_sub [2, 1, 0] rfl (hk _ _ _ h)
def xm_digest_l166 (k : (ba_St × Int64 × Int32) → Option (ba_St × Int64)) (a : (ba_St × Int64 × Int32)) : Option (ba_St × Int64) :=
  match a with
  | (s, z1, z3) =>
    if (s.1 0 10) ≤ z3 then
      some (s, z1)
    else
      ba_bn2 (xm_tellsBall s z1 z3) fun v1202 s1203 =>
      ba_lt (z3 + 1) fun x1204 =>
      k (s1203, v1202, x1204)
set_option maxHeartbeats 4000000 in
set_option maxRecDepth 100000 in
theorem ym_digest_l166 {w : ba_W} {X : ba_X} (V : ba_V ba_tM w 5 X cX6_digest RX6 rm_m_digest) {o : ba_St × Int64} (EX : ∀ (s : ba_St) (z1 : Int64), (s, z1) = o → ba_G ba_tM w 5 X s 187 [(0, .ref (w.1 0)), (1, .long z1)] []) : ∀ (n : Nat) (s : ba_St) (z1 : Int64) (z3 : Int32), ba_fix (xm_digest_l166) n (s, z1, z3) = some o → ba_G ba_tM w 5 X s 166 [(0, .ref (w.1 0)), (1, .long z1), (3, .int z3)] [] := by
  intro n s z1 z3 h
  refine ba_loop (P := fun a => ba_G ba_tM w 5 X a.1 166 [(0, .ref (w.1 0)), (1, .long a.2.1), (3, .int a.2.2)] []) ?_ n (s, z1, z3) h
  intro k hk0 a h
  obtain ⟨s, z1, z3⟩ := a
  have hk : ∀ (s : ba_St) (z1 : Int64) (z3 : Int32), k (s, z1, z3) = some o → ba_G ba_tM w 5 X s 166 [(0, .ref (w.1 0)), (1, .long z1), (3, .int z3)] [] := fun s z1 z3 e => hk0 (s, z1, z3) e
  unfold xm_digest_l166 at h
  try dsimp only at h ⊢
  refine ba_iload_n V dX6_digest_166 2 rfl ?_
  refine ba_aload_n V dX6_digest_167 0 rfl ?_
  refine ba_getI V dX6_digest_168 kfX6_143 ba_sModel rfl ?_
  refine ba_icmp_ge V dX6_digest_171 rfl h (fun h => ?_) (fun h => ?_)
  · exact ba_sub [0, 1] rfl (EX _ _ (Option.some.inj h))
  · refine ba_aload_n V dX6_digest_174 0 rfl ?_
    refine ba_lload_n V dX6_digest_175 1 rfl ?_
    refine ba_iload_n V dX6_digest_176 2 rfl ?_
    obtain ⟨v1202, s1203, hc, h⟩ := ba_bn2_some h
    refine ba_callVL (As := [.long z1, .int z3]) (st := []) V dX6_digest_177 kcX6_365 ba_sModel (fun l => ym_tellsBall V.inj l hc) ⟨rfl, rfl⟩ ⟨rfl, rfl, Nat.le_of_ble_eq_true rfl, Nat.le_of_ble_eq_true rfl⟩ (Nat.le_of_ble_eq_true rfl) ?_
    refine ba_lstore_n (lv' := [(1, .long v1202), (0, .ref (w.1 0)), (3, .int z3)]) V dX6_digest_180 (by decide) rfl ?_
    refine ba_iinc V dX6_digest_181 2 rfl ba_c1 (by decide) h (fun x1204 h => ⟨[(3, .int x1204), (1, .long v1202), (0, .ref (w.1 0))], rfl, ?_⟩)
    refine ba_goto V dX6_digest_184 rfl ?_
    exact ba_sub [2, 1, 0] rfl (hk _ _ _ h)
def xm_digest_l193 (s : ba_St) (k : (Int64 × Int32) → Option (Int64)) (a : (Int64 × Int32)) : Option (Int64) :=
  match a with
  | (z1, z3) =>
    if 3 ≤ z3 then
      some z1
    else
      ba_bnd (xm_sumBy s z3) fun v1208 =>
      ba_lt ((31 * z1) + (Int32.toInt64 v1208)) fun x1209 =>
      ba_lt (z3 + 1) fun x1210 =>
      k (x1209, x1210)
set_option maxHeartbeats 4000000 in
set_option maxRecDepth 100000 in
theorem ym_digest_l193 {w : ba_W} {X : ba_X} (V : ba_V ba_tM w 5 X cX6_digest RX6 rm_m_digest) {s : ba_St} {o : Int64} (EX : ∀ (z1 : Int64), z1 = o → ba_G ba_tM w 5 X s 217 [(0, .ref (w.1 0)), (1, .long z1)] []) : ∀ (n : Nat) (z1 : Int64) (z3 : Int32), ba_fix (xm_digest_l193 s) n (z1, z3) = some o → ba_G ba_tM w 5 X s 193 [(0, .ref (w.1 0)), (1, .long z1), (3, .int z3)] [] := by
  intro n z1 z3 h
  refine ba_loop (P := fun a => ba_G ba_tM w 5 X s 193 [(0, .ref (w.1 0)), (1, .long a.1), (3, .int a.2)] []) ?_ n (z1, z3) h
  intro k hk0 a h
  obtain ⟨z1, z3⟩ := a
  have hk : ∀ (z1 : Int64) (z3 : Int32), k (z1, z3) = some o → ba_G ba_tM w 5 X s 193 [(0, .ref (w.1 0)), (1, .long z1), (3, .int z3)] [] := fun z1 z3 e => hk0 (z1, z3) e
  unfold xm_digest_l193 at h
  try dsimp only at h ⊢
  refine ba_iload_n V dX6_digest_193 2 rfl ?_
  refine ba_iconst V dX6_digest_194 ba_c3 ?_
  refine ba_icmp_ge V dX6_digest_195 rfl h (fun h => ?_) (fun h => ?_)
  · exact ba_sub [0, 1] rfl (EX _ (Option.some.inj h))
  · refine ba_ldc2 V dX6_digest_198 kkX6_350 ?_
    refine ba_lload_n V dX6_digest_201 1 rfl ?_
    refine ba_lmul V dX6_digest_202 ?_
    refine ba_aload_n V dX6_digest_203 0 rfl ?_
    refine ba_iload_n V dX6_digest_204 2 rfl ?_
    obtain ⟨v1208, hc, h⟩ := ba_bnd_some h
    refine ba_callVI (As := [.int z3]) (st := [.long (31 * z1)]) V dX6_digest_205 kcX6_262 ba_sModel (fun l => ym_sumBy V.inj l hc) ⟨rfl, rfl⟩ ⟨rfl, rfl, Nat.le_of_ble_eq_true rfl, Nat.le_of_ble_eq_true rfl⟩ (Nat.le_of_ble_eq_true rfl) ?_
    refine ba_i2l V dX6_digest_208 ?_
    refine ba_ladd V dX6_digest_209 ?_
    refine ba_letL h (fun x1209 h => ?_)
    refine ba_lstore_n (lv' := [(1, .long x1209), (0, .ref (w.1 0)), (3, .int z3)]) V dX6_digest_210 (by decide) rfl ?_
    refine ba_iinc V dX6_digest_211 2 rfl ba_c1 (by decide) h (fun x1210 h => ⟨[(3, .int x1210), (1, .long x1209), (0, .ref (w.1 0))], rfl, ?_⟩)
    refine ba_goto V dX6_digest_214 rfl ?_
    exact ba_sub [2, 1, 0] rfl (hk _ _ h)
def xm_digest (s : ba_St) : Option (Int64 × ba_St) :=
  ba_bnd (ba_fix (xm_digest_l6) 1000 (s, 17, 0)) fun o => match o with
  | (s1178, x1179) =>
    ba_bnd (ba_fix (xm_digest_l33) 1000 (s1178, x1179, 0)) fun o => match o with
    | (s1184, x1185) =>
      ba_bnd (xm_lives s1184) fun s1186 =>
      ba_bnd (ba_fix (xm_digest_l63 s1186) 1000 (x1185, 0)) fun x1190 =>
        ba_bnd (ba_fix (xm_digest_l99 s1186) 1000 (x1190, 0)) fun x1196 =>
          ba_bnd (ba_fix (xm_digest_l143) 1000 (s1186, x1196, 0)) fun o => match o with
          | (s1200, x1201) =>
            ba_bnd (ba_fix (xm_digest_l166) 1000 (s1200, x1201, 0)) fun o => match o with
            | (s1205, x1206) =>
              ba_bnd (xm_lives s1205) fun s1207 =>
              ba_bnd (ba_fix (xm_digest_l193 s1207) 1000 (x1206, 0)) fun x1211 =>
                ba_bnd (xm_lateNow s1207) fun v1212 =>
                ba_lt ((31 * x1211) + (Int32.toInt64 v1212)) fun x1213 =>
                ba_bnd (xm_bestNow s1207) fun v1214 =>
                ba_lt ((31 * x1213) + (Int32.toInt64 v1214)) fun x1215 =>
                ba_bnd (xm_jamBy s1207 0) fun v1216 =>
                ba_lt ((31 * x1215) + (Int32.toInt64 v1216)) fun x1217 =>
                ba_bnd (xm_jamBy s1207 1) fun v1218 =>
                ba_lt ((31 * x1217) + (Int32.toInt64 v1218)) fun x1219 =>
                ba_bn2 (xm_spareBy s1207 (-1)) fun v1220 s1221 =>
                ba_lt ((31 * x1219) + (Int32.toInt64 v1220)) fun x1222 =>
                ba_bn2 (xm_spareBy s1221 0) fun v1223 s1224 =>
                ba_lt ((31 * x1222) + (Int32.toInt64 v1223)) fun x1225 =>
                ba_bn2 (xm_neverNow s1224) fun v1226 s1227 =>
                ba_lt ((31 * x1225) + (Int32.toInt64 v1226)) fun x1228 =>
                ba_bn2 (xm_sundaysOf s1227 7 9 0) fun v1229 s1230 =>
                ba_lt ((31 * x1228) + (Int32.toInt64 v1229)) fun x1231 =>
                ba_bn2 (xm_sundaysOf s1230 7 9 1) fun v1232 s1233 =>
                some (((31 * x1231) + (Int32.toInt64 v1232)), s1233)
set_option maxHeartbeats 4000000 in
set_option maxRecDepth 100000 in
theorem ym_digest {w : ba_W} (hj : ba_inj ba_tM w) (l : Launch) {s : ba_St} {o : Int64 × ba_St} (h : xm_digest s = some o) : ba_CL ba_tM w l yX6_digest cX6_digest 5 (some .long) rm_m_digest [.ref (w.1 0)] s o := by
  refine ba_metL (lv := [(0, .ref (w.1 0))]) l hj (by decide +kernel) ⟨Nat.le_of_ble_eq_true rfl, rfl⟩ ?_
  intro X V RT
  unfold xm_digest at h
  refine ba_ldc2 V dX6_digest_0 kkX6_356 ?_
  refine ba_lstore_n (lv' := [(1, .long 17), (0, .ref (w.1 0))]) V dX6_digest_3 (by decide) rfl ?_
  refine ba_iconst V dX6_digest_4 ba_c0 ?_
  refine ba_istore_n (lv' := [(3, .int 0), (1, .long 17), (0, .ref (w.1 0))]) V dX6_digest_5 (by decide) rfl ?_
  obtain ⟨o, ho, h⟩ := ba_bnd_some h
  refine ba_sub [2, 1, 0] rfl (ym_digest_l6 V (o := o) (fun s1178 x1179 e => ?_) 1000 s 17 0 ho)
  subst e
  try dsimp only at h
  refine ba_iconst V dX6_digest_31 ba_c0 ?_
  refine ba_istore_n (lv' := [(3, .int 0), (0, .ref (w.1 0)), (1, .long x1179)]) V dX6_digest_32 (by decide) rfl ?_
  obtain ⟨o, ho, h⟩ := ba_bnd_some h
  refine ba_sub [1, 2, 0] rfl (ym_digest_l33 V (o := o) (fun s1184 x1185 e => ?_) 1000 s1178 x1179 0 ho)
  subst e
  try dsimp only at h
  refine ba_aload_n V dX6_digest_57 0 rfl ?_
  obtain ⟨s1186, hc, h⟩ := ba_bnd_some h
  refine ba_callVV (As := []) (st := []) V dX6_digest_58 kcX6_236 ba_sModel (fun l => ym_lives V.inj l hc) ⟨rfl, rfl⟩ ⟨rfl, rfl, Nat.le_of_ble_eq_true rfl, Nat.le_of_ble_eq_true rfl⟩ (Nat.le_of_ble_eq_true rfl) ?_
  refine ba_iconst V dX6_digest_61 ba_c0 ?_
  refine ba_istore_n (lv' := [(3, .int 0), (0, .ref (w.1 0)), (1, .long x1185)]) V dX6_digest_62 (by decide) rfl ?_
  obtain ⟨o, ho, h⟩ := ba_bnd_some h
  refine ba_sub [1, 2, 0] rfl (ym_digest_l63 V (o := o) (fun x1190 e => ?_) 1000 x1185 0 ho)
  subst e
  try dsimp only at h
  refine ba_iconst V dX6_digest_97 ba_c0 ?_
  refine ba_istore_n (lv' := [(3, .int 0), (0, .ref (w.1 0)), (1, .long x1190)]) V dX6_digest_98 (by decide) rfl ?_
  obtain ⟨o, ho, h⟩ := ba_bnd_some h
  refine ba_sub [1, 2, 0] rfl (ym_digest_l99 V (o := o) (fun x1196 e => ?_) 1000 x1190 0 ho)
  subst e
  try dsimp only at h
  refine ba_iconst V dX6_digest_141 ba_c0 ?_
  refine ba_istore_n (lv' := [(3, .int 0), (0, .ref (w.1 0)), (1, .long x1196)]) V dX6_digest_142 (by decide) rfl ?_
  obtain ⟨o, ho, h⟩ := ba_bnd_some h
  refine ba_sub [1, 2, 0] rfl (ym_digest_l143 V (o := o) (fun s1200 x1201 e => ?_) 1000 s1186 x1196 0 ho)
  subst e
  try dsimp only at h
  refine ba_iconst V dX6_digest_164 ba_c0 ?_
  refine ba_istore_n (lv' := [(3, .int 0), (0, .ref (w.1 0)), (1, .long x1201)]) V dX6_digest_165 (by decide) rfl ?_
  obtain ⟨o, ho, h⟩ := ba_bnd_some h
  refine ba_sub [1, 2, 0] rfl (ym_digest_l166 V (o := o) (fun s1205 x1206 e => ?_) 1000 s1200 x1201 0 ho)
  subst e
  try dsimp only at h
  refine ba_aload_n V dX6_digest_187 0 rfl ?_
  obtain ⟨s1207, hc, h⟩ := ba_bnd_some h
  refine ba_callVV (As := []) (st := []) V dX6_digest_188 kcX6_236 ba_sModel (fun l => ym_lives V.inj l hc) ⟨rfl, rfl⟩ ⟨rfl, rfl, Nat.le_of_ble_eq_true rfl, Nat.le_of_ble_eq_true rfl⟩ (Nat.le_of_ble_eq_true rfl) ?_
  refine ba_iconst V dX6_digest_191 ba_c0 ?_
  refine ba_istore_n (lv' := [(3, .int 0), (0, .ref (w.1 0)), (1, .long x1206)]) V dX6_digest_192 (by decide) rfl ?_
  obtain ⟨o, ho, h⟩ := ba_bnd_some h
  refine ba_sub [1, 2, 0] rfl (ym_digest_l193 V (o := o) (fun x1211 e => ?_) 1000 x1206 0 ho)
  subst e
  try dsimp only at h
  refine ba_ldc2 V dX6_digest_217 kkX6_350 ?_
  refine ba_lload_n V dX6_digest_220 1 rfl ?_
  refine ba_lmul V dX6_digest_221 ?_
  refine ba_aload_n V dX6_digest_222 0 rfl ?_
  obtain ⟨v1212, hc, h⟩ := ba_bnd_some h
  refine ba_callVI (As := []) (st := [.long (31 * x1211)]) V dX6_digest_223 kcX6_265 ba_sModel (fun l => ym_lateNow V.inj l hc) ⟨rfl, rfl⟩ ⟨rfl, rfl, Nat.le_of_ble_eq_true rfl, Nat.le_of_ble_eq_true rfl⟩ (Nat.le_of_ble_eq_true rfl) ?_
  refine ba_i2l V dX6_digest_226 ?_
  refine ba_ladd V dX6_digest_227 ?_
  refine ba_letL h (fun x1213 h => ?_)
  refine ba_lstore_n (lv' := [(1, .long x1213), (0, .ref (w.1 0))]) V dX6_digest_228 (by decide) rfl ?_
  refine ba_ldc2 V dX6_digest_229 kkX6_350 ?_
  refine ba_lload_n V dX6_digest_232 0 rfl ?_
  refine ba_lmul V dX6_digest_233 ?_
  refine ba_aload_n V dX6_digest_234 1 rfl ?_
  obtain ⟨v1214, hc, h⟩ := ba_bnd_some h
  refine ba_callVI (As := []) (st := [.long (31 * x1213)]) V dX6_digest_235 kcX6_271 ba_sModel (fun l => ym_bestNow V.inj l hc) ⟨rfl, rfl⟩ ⟨rfl, rfl, Nat.le_of_ble_eq_true rfl, Nat.le_of_ble_eq_true rfl⟩ (Nat.le_of_ble_eq_true rfl) ?_
  refine ba_i2l V dX6_digest_238 ?_
  refine ba_ladd V dX6_digest_239 ?_
  refine ba_letL h (fun x1215 h => ?_)
  refine ba_lstore_n (lv' := [(1, .long x1215), (0, .ref (w.1 0))]) V dX6_digest_240 (by decide) rfl ?_
  refine ba_ldc2 V dX6_digest_241 kkX6_350 ?_
  refine ba_lload_n V dX6_digest_244 0 rfl ?_
  refine ba_lmul V dX6_digest_245 ?_
  refine ba_aload_n V dX6_digest_246 1 rfl ?_
  refine ba_iconst V dX6_digest_247 ba_c0 ?_
  obtain ⟨v1216, hc, h⟩ := ba_bnd_some h
  refine ba_callVI (As := [.int 0]) (st := [.long (31 * x1215)]) V dX6_digest_248 kcX6_274 ba_sModel (fun l => ym_jamBy V.inj l hc) ⟨rfl, rfl⟩ ⟨rfl, rfl, Nat.le_of_ble_eq_true rfl, Nat.le_of_ble_eq_true rfl⟩ (Nat.le_of_ble_eq_true rfl) ?_
  refine ba_i2l V dX6_digest_251 ?_
  refine ba_ladd V dX6_digest_252 ?_
  refine ba_letL h (fun x1217 h => ?_)
  refine ba_lstore_n (lv' := [(1, .long x1217), (0, .ref (w.1 0))]) V dX6_digest_253 (by decide) rfl ?_
  refine ba_ldc2 V dX6_digest_254 kkX6_350 ?_
  refine ba_lload_n V dX6_digest_257 0 rfl ?_
  refine ba_lmul V dX6_digest_258 ?_
  refine ba_aload_n V dX6_digest_259 1 rfl ?_
  refine ba_iconst V dX6_digest_260 ba_c1 ?_
  obtain ⟨v1218, hc, h⟩ := ba_bnd_some h
  refine ba_callVI (As := [.int 1]) (st := [.long (31 * x1217)]) V dX6_digest_261 kcX6_274 ba_sModel (fun l => ym_jamBy V.inj l hc) ⟨rfl, rfl⟩ ⟨rfl, rfl, Nat.le_of_ble_eq_true rfl, Nat.le_of_ble_eq_true rfl⟩ (Nat.le_of_ble_eq_true rfl) ?_
  refine ba_i2l V dX6_digest_264 ?_
  refine ba_ladd V dX6_digest_265 ?_
  refine ba_letL h (fun x1219 h => ?_)
  refine ba_lstore_n (lv' := [(1, .long x1219), (0, .ref (w.1 0))]) V dX6_digest_266 (by decide) rfl ?_
  refine ba_ldc2 V dX6_digest_267 kkX6_350 ?_
  refine ba_lload_n V dX6_digest_270 0 rfl ?_
  refine ba_lmul V dX6_digest_271 ?_
  refine ba_aload_n V dX6_digest_272 1 rfl ?_
  refine ba_iconst V dX6_digest_273 ba_cm1 ?_
  obtain ⟨v1220, s1221, hc, h⟩ := ba_bn2_some h
  refine ba_callVI (As := [.int (-1)]) (st := [.long (31 * x1219)]) V dX6_digest_274 kcX6_289 ba_sModel (fun l => ym_spareBy V.inj l hc) ⟨rfl, rfl⟩ ⟨rfl, rfl, Nat.le_of_ble_eq_true rfl, Nat.le_of_ble_eq_true rfl⟩ (Nat.le_of_ble_eq_true rfl) ?_
  refine ba_i2l V dX6_digest_277 ?_
  refine ba_ladd V dX6_digest_278 ?_
  refine ba_letL h (fun x1222 h => ?_)
  refine ba_lstore_n (lv' := [(1, .long x1222), (0, .ref (w.1 0))]) V dX6_digest_279 (by decide) rfl ?_
  refine ba_ldc2 V dX6_digest_280 kkX6_350 ?_
  refine ba_lload_n V dX6_digest_283 0 rfl ?_
  refine ba_lmul V dX6_digest_284 ?_
  refine ba_aload_n V dX6_digest_285 1 rfl ?_
  refine ba_iconst V dX6_digest_286 ba_c0 ?_
  obtain ⟨v1223, s1224, hc, h⟩ := ba_bn2_some h
  refine ba_callVI (As := [.int 0]) (st := [.long (31 * x1222)]) V dX6_digest_287 kcX6_289 ba_sModel (fun l => ym_spareBy V.inj l hc) ⟨rfl, rfl⟩ ⟨rfl, rfl, Nat.le_of_ble_eq_true rfl, Nat.le_of_ble_eq_true rfl⟩ (Nat.le_of_ble_eq_true rfl) ?_
  refine ba_i2l V dX6_digest_290 ?_
  refine ba_ladd V dX6_digest_291 ?_
  refine ba_letL h (fun x1225 h => ?_)
  refine ba_lstore_n (lv' := [(1, .long x1225), (0, .ref (w.1 0))]) V dX6_digest_292 (by decide) rfl ?_
  refine ba_ldc2 V dX6_digest_293 kkX6_350 ?_
  refine ba_lload_n V dX6_digest_296 0 rfl ?_
  refine ba_lmul V dX6_digest_297 ?_
  refine ba_aload_n V dX6_digest_298 1 rfl ?_
  obtain ⟨v1226, s1227, hc, h⟩ := ba_bn2_some h
  refine ba_callVI (As := []) (st := [.long (31 * x1225)]) V dX6_digest_299 kcX6_301 ba_sModel (fun l => ym_neverNow V.inj l hc) ⟨rfl, rfl⟩ ⟨rfl, rfl, Nat.le_of_ble_eq_true rfl, Nat.le_of_ble_eq_true rfl⟩ (Nat.le_of_ble_eq_true rfl) ?_
  refine ba_i2l V dX6_digest_302 ?_
  refine ba_ladd V dX6_digest_303 ?_
  refine ba_letL h (fun x1228 h => ?_)
  refine ba_lstore_n (lv' := [(1, .long x1228), (0, .ref (w.1 0))]) V dX6_digest_304 (by decide) rfl ?_
  refine ba_ldc2 V dX6_digest_305 kkX6_350 ?_
  refine ba_lload_n V dX6_digest_308 0 rfl ?_
  refine ba_lmul V dX6_digest_309 ?_
  refine ba_aload_n V dX6_digest_310 1 rfl ?_
  refine ba_bipush V dX6_digest_311 ba_c7b ?_
  refine ba_bipush V dX6_digest_313 ba_c9b ?_
  refine ba_iconst V dX6_digest_315 ba_c0 ?_
  obtain ⟨v1229, s1230, hc, h⟩ := ba_bn2_some h
  refine ba_callVI (As := [.int 7, .int 9, .int 0]) (st := [.long (31 * x1228)]) V dX6_digest_316 kcX6_344 ba_sModel (fun l => ym_sundaysOf V.inj l hc) ⟨rfl, rfl⟩ ⟨rfl, rfl, Nat.le_of_ble_eq_true rfl, Nat.le_of_ble_eq_true rfl⟩ (Nat.le_of_ble_eq_true rfl) ?_
  refine ba_i2l V dX6_digest_319 ?_
  refine ba_ladd V dX6_digest_320 ?_
  refine ba_letL h (fun x1231 h => ?_)
  refine ba_lstore_n (lv' := [(1, .long x1231), (0, .ref (w.1 0))]) V dX6_digest_321 (by decide) rfl ?_
  refine ba_ldc2 V dX6_digest_322 kkX6_350 ?_
  refine ba_lload_n V dX6_digest_325 0 rfl ?_
  refine ba_lmul V dX6_digest_326 ?_
  refine ba_aload_n V dX6_digest_327 1 rfl ?_
  refine ba_bipush V dX6_digest_328 ba_c7b ?_
  refine ba_bipush V dX6_digest_330 ba_c9b ?_
  refine ba_iconst V dX6_digest_332 ba_c1 ?_
  obtain ⟨v1232, s1233, hc, h⟩ := ba_bn2_some h
  refine ba_callVI (As := [.int 7, .int 9, .int 1]) (st := [.long (31 * x1231)]) V dX6_digest_333 kcX6_344 ba_sModel (fun l => ym_sundaysOf V.inj l hc) ⟨rfl, rfl⟩ ⟨rfl, rfl, Nat.le_of_ble_eq_true rfl, Nat.le_of_ble_eq_true rfl⟩ (Nat.le_of_ble_eq_true rfl) ?_
  refine ba_i2l V dX6_digest_336 ?_
  refine ba_ladd V dX6_digest_337 ?_
  exact RT _ _ _ _ dX6_digest_338 (Option.some.inj h)
