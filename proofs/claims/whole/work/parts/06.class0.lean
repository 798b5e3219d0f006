def xj_fill_l5 (a0 : Nat) (a0n : Nat) (z1 : Int32) (z3 : Int32) (k : (ba_St × Int32) → Option (ba_St)) (a : (ba_St × Int32)) : Option (ba_St) :=
  match a with
  | (s, z2) =>
    if z3 ≤ z2 then
      some s
    else
      ba_grd (ba_inb z2 a0n) <|
      ba_lt (ba_w s a0 (ba_ix z2) z1) fun s1235 =>
      ba_lt (z2 + 1) fun x1236 =>
      k (s1235, x1236)
set_option maxHeartbeats 4000000 in
set_option maxRecDepth 100000 in
theorem yj_fill_l5 {w : ba_W} {X : ba_X} (V : ba_V ba_tC w 4 X cJ7_fill_53178 RJ7 rm_j_fill) {a0 : Nat} {a0n : Nat} (h0 : ba_Sh ba_tC a0 (.inr (.inl a0n)) ∧ ba_ok ba_tC) {z1 : Int32} {z3 : Int32} {o : ba_St} (EX : ∀ (s : ba_St) , s = o → ba_G ba_tC w 4 X s 20 [] []) : ∀ (n : Nat) (s : ba_St) (z2 : Int32), ba_fix (xj_fill_l5 a0 a0n z1 z3) n (s, z2) = some o → ba_G ba_tC w 4 X s 5 [(0, .ref (w.1 a0)), (1, .int z1), (2, .int z2), (3, .int z3)] [] := by
  intro n s z2 h
  refine ba_loop (P := fun a => ba_G ba_tC w 4 X a.1 5 [(0, .ref (w.1 a0)), (1, .int z1), (2, .int a.2), (3, .int z3)] []) ?_ n (s, z2) h
  intro k hk0 a h
  obtain ⟨s, z2⟩ := a
  have hk : ∀ (s : ba_St) (z2 : Int32), k (s, z2) = some o → ba_G ba_tC w 4 X s 5 [(0, .ref (w.1 a0)), (1, .int z1), (2, .int z2), (3, .int z3)] [] := fun s z2 e => hk0 (s, z2) e
  unfold xj_fill_l5 at h
  try dsimp only at h ⊢
  refine ba_iload_n V dJ7_fill_53178_5 2 rfl ?_
  refine ba_iload_n V dJ7_fill_53178_6 3 rfl ?_
  refine ba_icmp_ge V dJ7_fill_53178_7 rfl h (fun h => ?_) (fun h => ?_)
  · exact ba_sub [] rfl (EX _ (Option.some.inj h))
  · refine ba_aload_n V dJ7_fill_53178_10 0 rfl ?_
    refine ba_iload_n V dJ7_fill_53178_11 2 rfl ?_
    refine ba_iload_n V dJ7_fill_53178_12 1 rfl ?_
    refine ba_iast V dJ7_fill_53178_13 h0 h (fun s1235 h => ?_)
    refine ba_iinc V dJ7_fill_53178_14 2 rfl ba_c1 (by decide) h (fun x1236 h => ⟨[(2, .int x1236), (0, .ref (w.1 a0)), (1, .int z1), (3, .int z3)], rfl, ?_⟩)
    refine ba_goto V dJ7_fill_53178_17 rfl ?_
    exact ba_sub [1, 2, 0, 3] rfl (hk _ _ h)
def xj_fill (s : ba_St) (a0 : Nat) (a0n : Nat) (a1 : Int32) : Option (ba_St) :=
  ba_lt (nI a0n) fun x1234 =>
  ba_bnd (ba_fix (xj_fill_l5 a0 a0n a1 x1234) 1000 (s, 0)) fun s1237 =>
    some s1237
set_option maxHeartbeats 4000000 in
set_option maxRecDepth 100000 in
theorem yj_fill {w : ba_W} (hj : ba_inj ba_tC w) (l : Launch) {s : ba_St} {a0 : Nat} {a0n : Nat} {a1 : Int32} (h0 : ba_Sh ba_tC a0 (.inr (.inl a0n)) ∧ ba_ok ba_tC) {o : ba_St} (h : xj_fill s a0 a0n a1 = some o) : ba_CV ba_tC w l yJ7_fill_53178 cJ7_fill_53178 4 none rm_j_fill [.ref (w.1 a0), .int a1] s o := by
  refine ba_metV (lv := [(0, .ref (w.1 a0)), (1, .int a1)]) l hj (by decide +kernel) ⟨Nat.le_of_ble_eq_true rfl, rfl⟩ ?_
  intro X V RT
  unfold xj_fill at h
  refine ba_iconst V dJ7_fill_53178_0 ba_c0 ?_
  refine ba_istore_n (lv' := [(2, .int 0), (0, .ref (w.1 a0)), (1, .int a1)]) V dJ7_fill_53178_1 (by decide) rfl ?_
  refine ba_aload_n V dJ7_fill_53178_2 1 rfl ?_
  refine ba_alen V dJ7_fill_53178_3 h0 ?_
  refine ba_letI h (fun x1234 h => ?_)
  refine ba_istore_n (lv' := [(3, .int x1234), (2, .int 0), (0, .ref (w.1 a0)), (1, .int a1)]) V dJ7_fill_53178_4 (by decide) rfl ?_
  obtain ⟨o, ho, h⟩ := ba_bnd_some h
  refine ba_sub [2, 3, 1, 0] rfl (yj_fill_l5 V h0 (o := o) (fun s1237 e => ?_) 1000 s 0 ho)
  subst e
  try dsimp only at h
  exact RT _ _ _ dJ7_fill_53178_20 (Option.some.inj h)
def xj_bitCount (a0 : Int32) : Option (Int32) :=
  ba_lt (a0 - ((ba_fiushr a0 1) &&& 1431655765)) fun x1238 =>
  ba_lt ((x1238 &&& 858993459) + ((ba_fiushr x1238 2) &&& 858993459)) fun x1239 =>
  ba_lt ((x1239 + (ba_fiushr x1239 4)) &&& 252645135) fun x1240 =>
  ba_lt (x1240 + (ba_fiushr x1240 8)) fun x1241 =>
  ba_lt (x1241 + (ba_fiushr x1241 16)) fun x1242 =>
  some (x1242 &&& 63)
set_option maxHeartbeats 4000000 in
set_option maxRecDepth 100000 in
theorem yj_bitCount {w : ba_W} (hj : ba_inj ba_tC w) (l : Launch) {σ : ba_St} {a0 : Int32} {o : Int32} (h : xj_bitCount a0 = some o) : ba_CI ba_tC w l yJ6_bitCount_0f7a4 cJ6_bitCount_0f7a4 1 (some .int) rm_j_bitCount [.int a0] σ (o, σ) := by
  refine ba_metI (lv := [(0, .int a0)]) l hj (by decide +kernel) ⟨Nat.le_of_ble_eq_true rfl, rfl⟩ ?_
  intro X V RT
  replace RT := fun pc lv v D e => RT pc lv v σ D (congrArg (fun q => (q, σ)) e)
  unfold xj_bitCount at h
  refine ba_iload_n V dJ6_bitCount_0f7a4_0 0 rfl ?_
  refine ba_iload_n V dJ6_bitCount_0f7a4_1 0 rfl ?_
  refine ba_iconst V dJ6_bitCount_0f7a4_2 ba_c1 ?_
  refine ba_iushr V dJ6_bitCount_0f7a4_3 ?_
  refine ba_ldc_w V dJ6_bitCount_0f7a4_4 kkJ6_265 ?_
  refine ba_iand V dJ6_bitCount_0f7a4_7 ?_
  refine ba_isub V dJ6_bitCount_0f7a4_8 ?_
  refine ba_letI h (fun x1238 h => ?_)
  refine ba_istore_n (lv' := [(0, .int x1238)]) V dJ6_bitCount_0f7a4_9 (by decide) rfl ?_
  refine ba_iload_n V dJ6_bitCount_0f7a4_10 0 rfl ?_
  refine ba_ldc_w V dJ6_bitCount_0f7a4_11 kkJ6_266 ?_
  refine ba_iand V dJ6_bitCount_0f7a4_14 ?_
  refine ba_iload_n V dJ6_bitCount_0f7a4_15 0 rfl ?_
  refine ba_iconst V dJ6_bitCount_0f7a4_16 ba_c2 ?_
  refine ba_iushr V dJ6_bitCount_0f7a4_17 ?_
  refine ba_ldc_w V dJ6_bitCount_0f7a4_18 kkJ6_266 ?_
  refine ba_iand V dJ6_bitCount_0f7a4_21 ?_
  refine ba_iadd V dJ6_bitCount_0f7a4_22 ?_
  refine ba_letI h (fun x1239 h => ?_)
  refine ba_istore_n (lv' := [(0, .int x1239)]) V dJ6_bitCount_0f7a4_23 (by decide) rfl ?_
  refine ba_iload_n V dJ6_bitCount_0f7a4_24 0 rfl ?_
  refine ba_iload_n V dJ6_bitCount_0f7a4_25 0 rfl ?_
  refine ba_iconst V dJ6_bitCount_0f7a4_26 ba_c4 ?_
  refine ba_iushr V dJ6_bitCount_0f7a4_27 ?_
  refine ba_iadd V dJ6_bitCount_0f7a4_28 ?_
  refine ba_ldc_w V dJ6_bitCount_0f7a4_29 kkJ6_267 ?_
  refine ba_iand V dJ6_bitCount_0f7a4_32 ?_
  refine ba_letI h (fun x1240 h => ?_)
  refine ba_istore_n (lv' := [(0, .int x1240)]) V dJ6_bitCount_0f7a4_33 (by decide) rfl ?_
  refine ba_iload_n V dJ6_bitCount_0f7a4_34 0 rfl ?_
  refine ba_iload_n V dJ6_bitCount_0f7a4_35 0 rfl ?_
  refine ba_bipush V dJ6_bitCount_0f7a4_36 ba_c8b ?_
  refine ba_iushr V dJ6_bitCount_0f7a4_38 ?_
  refine ba_iadd V dJ6_bitCount_0f7a4_39 ?_
  refine ba_letI h (fun x1241 h => ?_)
  refine ba_istore_n (lv' := [(0, .int x1241)]) V dJ6_bitCount_0f7a4_40 (by decide) rfl ?_
  refine ba_iload_n V dJ6_bitCount_0f7a4_41 0 rfl ?_
  refine ba_iload_n V dJ6_bitCount_0f7a4_42 0 rfl ?_
  refine ba_bipush V dJ6_bitCount_0f7a4_43 ba_c16b ?_
  refine ba_iushr V dJ6_bitCount_0f7a4_45 ?_
  refine ba_iadd V dJ6_bitCount_0f7a4_46 ?_
  refine ba_letI h (fun x1242 h => ?_)
  refine ba_istore_n (lv' := [(0, .int x1242)]) V dJ6_bitCount_0f7a4_47 (by decide) rfl ?_
  refine ba_iload_n V dJ6_bitCount_0f7a4_48 0 rfl ?_
  refine ba_bipush V dJ6_bitCount_0f7a4_49 ba_c63b ?_
  refine ba_iand V dJ6_bitCount_0f7a4_51 ?_
  exact RT _ _ _ dJ6_bitCount_0f7a4_52 (Option.some.inj h)
def xb_within_j13 : Option (Int32) :=
  some 0
set_option maxHeartbeats 4000000 in
set_option maxRecDepth 100000 in
theorem yb_within_j13 {w : ba_W} {X : ba_X} {σ : ba_St} (V : ba_V ba_tC w 2 X cX5_within RX5 rm_b_within) {o : Int32} (RT : ∀ (pc : Nat) (lv : List (Nat × Value)) (v : Int32) , decode cX5_within pc = .ok (.ireturn, 1) → v = 0 ∨ v = 1 → v = o → ba_G ba_tC w 2 X σ pc lv [.int v]) (h : xb_within_j13 = some o) : ba_G ba_tC w 2 X σ 13 [] [] := by
  unfold xb_within_j13 at h
  refine ba_iconst V dX5_within_13 ba_c0 ?_
  exact RT _ _ _ dX5_within_14 ba_y0 (Option.some.inj h)
def xb_within (a0 : Int32) (a1 : Int32) : Option (Int32) :=
  if a0 < 0 then
    xb_within_j13
  else
    if a1 ≤ a0 then
      xb_within_j13
    else
      some 1
set_option maxHeartbeats 4000000 in
set_option maxRecDepth 100000 in
theorem yb_within {w : ba_W} (hj : ba_inj ba_tC w) (l : Launch) {σ : ba_St} {a0 : Int32} {a1 : Int32} {o : Int32} (h : xb_within a0 a1 = some o) : ba_CI ba_tC w l yX5_within cX5_within 2 (some .boolean) rm_b_within [.int a0, .int a1] σ (o, σ) := by
  refine ba_metZ (lv := [(0, .int a0), (1, .int a1)]) l hj (by decide +kernel) ⟨Nat.le_of_ble_eq_true rfl, rfl⟩ ?_
  intro X V RT
  replace RT := fun pc lv v D z e => RT pc lv v σ D z (congrArg (fun q => (q, σ)) e)
  unfold xb_within at h
  refine ba_iload_n V dX5_within_0 0 rfl ?_
  refine ba_if_lt V dX5_within_1 rfl h (fun h => ?_) (fun h => ?_)
  · exact ba_sub [] rfl (yb_within_j13 V RT h)
  · refine ba_iload_n V dX5_within_4 0 rfl ?_
    refine ba_iload_n V dX5_within_5 1 rfl ?_
    refine ba_icmp_ge V dX5_within_6 rfl h (fun h => ?_) (fun h => ?_)
    · exact ba_sub [] rfl (yb_within_j13 V RT h)
    · refine ba_iconst V dX5_within_9 ba_c1 ?_
      refine ba_goto V dX5_within_10 rfl ?_
      exact RT _ _ _ dX5_within_14 ba_y1 (Option.some.inj h)
def xt_append (s : ba_St) (b : Nat) (a1 : Int32) : Option (Int32 × ba_St) :=
  if (s.1 b 1) < (nI (ba_tl b)) then
    ba_grd (ba_inb (s.1 b 1) (ba_tl b)) <|
    ba_lt (ba_w s (b + 1) (ba_ix (s.1 b 1)) a1) fun s1 =>
    ba_lt (ba_w s1 b 1 ((s1.1 b 1) + 1)) fun s2 =>
    some (1, s2)
  else
    some (0, s)
set_option maxHeartbeats 4000000 in
set_option maxRecDepth 100000 in
theorem yt_append {w : ba_W} (hj : ba_inj ba_tC w) (l : Launch) {s : ba_St} {b : Nat} {a1 : Int32} (hb : ba_isText b) {o : Int32 × ba_St} (h : xt_append s b a1 = some o) : ba_CI ba_tC w l yX4_append cX4_append 2 (some .boolean) rm_t_append [.ref (w.1 b), .int a1] s o := by
  refine ba_metZ (lv := [(0, .ref (w.1 b)), (1, .int a1)]) l hj (by decide +kernel) ⟨Nat.le_of_ble_eq_true rfl, rfl⟩ ?_
  intro X V RT
  unfold xt_append at h
  refine ba_aload_n V dX4_append_0 0 rfl ?_
  refine ba_getI V dX4_append_1 kfX4_9 (ba_sText hb) rfl ?_
  refine ba_aload_n V dX4_append_4 0 rfl ?_
  refine ba_getR V dX4_append_5 kfX4_15 (ba_sText hb) rfl ?_
  refine ba_alen V dX4_append_8 (ba_sText_1 hb) ?_
  refine ba_icmp_lt V dX4_append_9 rfl h (fun h => ?_) (fun h => ?_)
  · refine ba_aload_n V dX4_append_14 0 rfl ?_
    refine ba_getR V dX4_append_15 kfX4_15 (ba_sText hb) rfl ?_
    refine ba_aload_n V dX4_append_18 0 rfl ?_
    refine ba_getI V dX4_append_19 kfX4_9 (ba_sText hb) rfl ?_
    refine ba_iload_n V dX4_append_22 1 rfl ?_
    refine ba_iast V dX4_append_23 (ba_sText_1 hb) h (fun s1 h => ?_)
    refine ba_aload_n V dX4_append_24 0 rfl ?_
    refine ba_dup V dX4_append_25 rfl ?_
    refine ba_getI V dX4_append_26 kfX4_9 (ba_sText hb) rfl ?_
    refine ba_iconst V dX4_append_29 ba_c1 ?_
    refine ba_iadd V dX4_append_30 ?_
    refine ba_putI V dX4_append_31 kfX4_9 (ba_sText hb) rfl h (fun s2 h => ?_)
    refine ba_iconst V dX4_append_34 ba_c1 ?_
    exact RT _ _ _ _ dX4_append_35 ba_y1 (Option.some.inj h)
  · refine ba_iconst V dX4_append_12 ba_c0 ?_
    exact RT _ _ _ _ dX4_append_13 ba_y0 (Option.some.inj h)
def xo_clearPins (s : ba_St) : Option (ba_St) :=
  ba_lt (ba_w s 3 3 0) fun s3 =>
  ba_bnd (xj_fill s3 6 72 (-1)) fun s4 =>
  some s4
set_option maxHeartbeats 4000000 in
set_option maxRecDepth 100000 in
theorem yo_clearPins {w : ba_W} (hj : ba_inj ba_tC w) (l : Launch) {s : ba_St} {o : ba_St} (h : xo_clearPins s = some o) : ba_CV ba_tC w l yX0_clearPins cX0_clearPins 1 none rm_o_clearPins [.ref (w.1 3)] s o := by
  refine ba_metV (lv := [(0, .ref (w.1 3))]) l hj (by decide +kernel) ⟨Nat.le_of_ble_eq_true rfl, rfl⟩ ?_
  intro X V RT
  unfold xo_clearPins at h
  refine ba_aload_n V dX0_clearPins_0 0 rfl ?_
  refine ba_iconst V dX0_clearPins_1 ba_c0 ?_
  refine ba_putI V dX0_clearPins_2 kfX0_21 ba_sBoard rfl h (fun s3 h => ?_)
  refine ba_aload_n V dX0_clearPins_5 0 rfl ?_
  refine ba_getR V dX0_clearPins_6 kfX0_18 ba_sBoard rfl ?_
  refine ba_iconst V dX0_clearPins_9 ba_cm1 ?_
  obtain ⟨s4, hc, h⟩ := ba_bnd_some h
  refine ba_callSV (As := [.ref (w.1 6), .int (-1)]) (st := []) V dX0_clearPins_10 kcX0_47 (fun l => yj_fill V.inj l ba_sC_6 hc) ⟨rfl, rfl⟩ ⟨rfl, rfl, Nat.le_of_ble_eq_true rfl, Nat.le_of_ble_eq_true rfl⟩ (Nat.le_of_ble_eq_true rfl) ?_
  exact RT _ _ _ dX0_clearPins_13 (Option.some.inj h)
def xt_byteAt_j21 (b : Nat) (s : ba_St) : Option (Int32) :=
  some (-1)
set_option maxHeartbeats 4000000 in
set_option maxRecDepth 100000 in
theorem yt_byteAt_j21 {w : ba_W} {X : ba_X} (V : ba_V ba_tC w 2 X cX4_byteAt RX4 rm_t_byteAt) {b : Nat} (hb : ba_isText b) {s : ba_St} {o : Int32} (RT : ∀ (pc : Nat) (lv : List (Nat × Value)) (v : Int32) , decode cX4_byteAt pc = .ok (.ireturn, 1) → v = o → ba_G ba_tC w 2 X s pc lv [.int v]) (h : xt_byteAt_j21 b s = some o) : ba_G ba_tC w 2 X s 21 [] [] := by
  unfold xt_byteAt_j21 at h
  refine ba_iconst V dX4_byteAt_21 ba_cm1 ?_
  exact RT _ _ _ dX4_byteAt_22 (Option.some.inj h)
def xt_byteAt (s : ba_St) (b : Nat) (a1 : Int32) : Option (Int32) :=
  if a1 < 0 then
    xt_byteAt_j21 b s
  else
    if (s.1 b 1) ≤ a1 then
      xt_byteAt_j21 b s
    else
      ba_grd (ba_inb a1 (ba_tl b)) <|
      some (s.1 (b + 1) (ba_ix a1))
set_option maxHeartbeats 4000000 in
set_option maxRecDepth 100000 in
theorem yt_byteAt {w : ba_W} (hj : ba_inj ba_tC w) (l : Launch) {s : ba_St} {b : Nat} {a1 : Int32} (hb : ba_isText b) {o : Int32} (h : xt_byteAt s b a1 = some o) : ba_CI ba_tC w l yX4_byteAt cX4_byteAt 2 (some .int) rm_t_byteAt [.ref (w.1 b), .int a1] s (o, s) := by
  refine ba_metI (lv := [(0, .ref (w.1 b)), (1, .int a1)]) l hj (by decide +kernel) ⟨Nat.le_of_ble_eq_true rfl, rfl⟩ ?_
  intro X V RT
  replace RT := fun pc lv v D e => RT pc lv v s D (congrArg (fun q => (q, s)) e)
  unfold xt_byteAt at h
  refine ba_iload_n V dX4_byteAt_0 1 rfl ?_
  refine ba_if_lt V dX4_byteAt_1 rfl h (fun h => ?_) (fun h => ?_)
  · exact ba_sub [] rfl (yt_byteAt_j21 V hb RT h)
  · refine ba_iload_n V dX4_byteAt_4 1 rfl ?_
    refine ba_aload_n V dX4_byteAt_5 0 rfl ?_
    refine ba_getI V dX4_byteAt_6 kfX4_9 (ba_sText hb) rfl ?_
    refine ba_icmp_ge V dX4_byteAt_9 rfl h (fun h => ?_) (fun h => ?_)
    · exact ba_sub [] rfl (yt_byteAt_j21 V hb RT h)
    · refine ba_aload_n V dX4_byteAt_12 0 rfl ?_
      refine ba_getR V dX4_byteAt_13 kfX4_15 (ba_sText hb) rfl ?_
      refine ba_iload_n V dX4_byteAt_16 1 rfl ?_
      refine ba_iald V dX4_byteAt_17 (ba_sText_1 hb) h (fun h => ?_)
      refine ba_goto V dX4_byteAt_18 rfl ?_
      exact RT _ _ _ dX4_byteAt_22 (Option.some.inj h)
def xt_countedFrom (s : ba_St) (b : Nat) (a1 : Int32) (a2 : Int32) (a3 : Int32) : Option (Int32) :=
  ba_bnd (xt_byteAt s b a2) fun v5 =>
  ba_lt (v5 - a1) fun x6 =>
  ba_bnd (xb_within x6 a3) fun v7 =>
  if v7 = 0 then
    some (-1)
  else
    some x6
set_option maxHeartbeats 4000000 in
set_option maxRecDepth 100000 in
theorem yt_countedFrom {w : ba_W} (hj : ba_inj ba_tC w) (l : Launch) {s : ba_St} {b : Nat} {a1 : Int32} {a2 : Int32} {a3 : Int32} (hb : ba_isText b) {o : Int32} (h : xt_countedFrom s b a1 a2 a3 = some o) : ba_CI ba_tC w l yX4_countedFrom cX4_countedFrom 5 (some .int) rm_t_countedFrom [.ref (w.1 b), .int a1, .int a2, .int a3] s (o, s) := by
  refine ba_metI (lv := [(0, .ref (w.1 b)), (1, .int a1), (2, .int a2), (3, .int a3)]) l hj (by decide +kernel) ⟨Nat.le_of_ble_eq_true rfl, rfl⟩ ?_
  intro X V RT
  replace RT := fun pc lv v D e => RT pc lv v s D (congrArg (fun q => (q, s)) e)
  unfold xt_countedFrom at h
  refine ba_aload_n V dX4_countedFrom_0 0 rfl ?_
  refine ba_iload_n V dX4_countedFrom_1 2 rfl ?_
  obtain ⟨v5, hc, h⟩ := ba_bnd_some h
  refine ba_callVI (As := [.int a2]) (st := []) V dX4_countedFrom_2 kcX4_19 (ba_sText hb) (fun l => yt_byteAt V.inj l hb hc) ⟨rfl, rfl⟩ ⟨rfl, rfl, Nat.le_of_ble_eq_true rfl, Nat.le_of_ble_eq_true rfl⟩ (Nat.le_of_ble_eq_true rfl) ?_
  refine ba_iload_n V dX4_countedFrom_5 1 rfl ?_
  refine ba_isub V dX4_countedFrom_6 ?_
  refine ba_letI h (fun x6 h => ?_)
  refine ba_istore (lv' := [(4, .int x6), (0, .ref (w.1 b)), (1, .int a1), (2, .int a2), (3, .int a3)]) V dX4_countedFrom_7 (by decide) rfl ?_
  refine ba_iload V dX4_countedFrom_9 0 rfl ?_
  refine ba_iload_n V dX4_countedFrom_11 4 rfl ?_
  obtain ⟨v7, hc, h⟩ := ba_bnd_some h
  refine ba_callNI (As := [.int x6, .int a3]) (st := []) V dX4_countedFrom_12 kcX4_23 (fun l => yb_within V.inj l hc) ⟨rfl, rfl⟩ ⟨rfl, rfl, Nat.le_of_ble_eq_true rfl, Nat.le_of_ble_eq_true rfl⟩ (Nat.le_of_ble_eq_true rfl) ?_
  refine ba_if_eq V dX4_countedFrom_15 rfl h (fun h => ?_) (fun h => ?_)
  · refine ba_iconst V dX4_countedFrom_23 ba_cm1 ?_
    exact RT _ _ _ dX4_countedFrom_24 (Option.some.inj h)
  · refine ba_iload V dX4_countedFrom_18 0 rfl ?_
    refine ba_goto V dX4_countedFrom_20 rfl ?_
    exact RT _ _ _ dX4_countedFrom_24 (Option.some.inj h)
def xo_sortOf (a0 : Int32) : Option (Int32) :=
  if a0 = 98 then
    some 3
  else if a0 = 108 then
    some 0
  else if a0 = 114 then
    some 1
  else if a0 = 116 then
    some 2
  else
    some (-1)
set_option maxHeartbeats 4000000 in
set_option maxRecDepth 100000 in
theorem yo_sortOf {w : ba_W} (hj : ba_inj ba_tC w) (l : Launch) {σ : ba_St} {a0 : Int32} {o : Int32} (h : xo_sortOf a0 = some o) : ba_CI ba_tC w l yX0_sortOf cX0_sortOf 1 (some .int) rm_o_sortOf [.int a0] σ (o, σ) := by
  refine ba_metI (lv := [(0, .int a0)]) l hj (by decide +kernel) ⟨Nat.le_of_ble_eq_true rfl, rfl⟩ ?_
  intro X V RT
  replace RT := fun pc lv v D e => RT pc lv v σ D (congrArg (fun q => (q, σ)) e)
  unfold xo_sortOf at h
  refine ba_iload_n V dX0_sortOf_0 0 rfl ?_
  refine ba_case h (fun e0 h => ?_) (fun e0 h => ?_)
  · refine ba_swL (off := 49) (tgt := 50) V dX0_sortOf_1 (by decide) (by rw [e0]; decide) rfl ?_
    refine ba_iconst V dX0_sortOf_50 ba_c3 ?_
    exact RT _ _ _ dX0_sortOf_51 (Option.some.inj h)
  refine ba_case h (fun e1 h => ?_) (fun e1 h => ?_)
  · refine ba_swL (off := 43) (tgt := 44) V dX0_sortOf_1 (by decide) (by rw [e1]; decide) rfl ?_
    refine ba_iconst V dX0_sortOf_44 ba_c0 ?_
    exact RT _ _ _ dX0_sortOf_45 (Option.some.inj h)
  refine ba_case h (fun e2 h => ?_) (fun e2 h => ?_)
  · refine ba_swL (off := 45) (tgt := 46) V dX0_sortOf_1 (by decide) (by rw [e2]; decide) rfl ?_
    refine ba_iconst V dX0_sortOf_46 ba_c1 ?_
    exact RT _ _ _ dX0_sortOf_47 (Option.some.inj h)
  refine ba_case h (fun e3 h => ?_) (fun e3 h => ?_)
  · refine ba_swL (off := 47) (tgt := 48) V dX0_sortOf_1 (by decide) (by rw [e3]; decide) rfl ?_
    refine ba_iconst V dX0_sortOf_48 ba_c2 ?_
    exact RT _ _ _ dX0_sortOf_49 (Option.some.inj h)
  refine ba_swL (off := 51) (tgt := 52) V dX0_sortOf_1 (by decide) (by show Op.lookupswitch.offset [(98, 49), (108, 43), (114, 45), (116, 47)] 51 _ = 51; rw [lv_osw (a := 98) e0 rfl, lv_osw (a := 108) e1 rfl, lv_osw (a := 114) e2 rfl, lv_osw (a := 116) e3 rfl]; rfl) rfl ?_
  refine ba_iconst V dX0_sortOf_52 ba_cm1 ?_
  exact RT _ _ _ dX0_sortOf_53 (Option.some.inj h)
def xo_addPin (s : ba_St) (a1 : Int32) (a2 : Int32) : Option (ba_St) :=
  ba_grd (ba_inb (s.1 3 3) 12) <|
  ba_lt (ba_w s 4 (ba_ix (s.1 3 3)) a1) fun s8 =>
  ba_grd (ba_inb (s8.1 3 3) 12) <|
  ba_lt (ba_w s8 5 (ba_ix (s8.1 3 3)) a2) fun s9 =>
  ba_grd (ba_inb a1 72) <|
  ba_lt (ba_w s9 6 (ba_ix a1) (s9.1 3 3)) fun s10 =>
  ba_lt (ba_w s10 3 3 ((s10.1 3 3) + 1)) fun s11 =>
  some s11
set_option maxHeartbeats 4000000 in
set_option maxRecDepth 100000 in
theorem yo_addPin {w : ba_W} (hj : ba_inj ba_tC w) (l : Launch) {s : ba_St} {a1 : Int32} {a2 : Int32} {o : ba_St} (h : xo_addPin s a1 a2 = some o) : ba_CV ba_tC w l yX0_addPin cX0_addPin 3 none rm_o_addPin [.ref (w.1 3), .int a1, .int a2] s o := by
  refine ba_metV (lv := [(0, .ref (w.1 3)), (1, .int a1), (2, .int a2)]) l hj (by decide +kernel) ⟨Nat.le_of_ble_eq_true rfl, rfl⟩ ?_
  intro X V RT
  unfold xo_addPin at h
  refine ba_aload_n V dX0_addPin_0 0 rfl ?_
  refine ba_getR V dX0_addPin_1 kfX0_9 ba_sBoard rfl ?_
  refine ba_aload_n V dX0_addPin_4 0 rfl ?_
  refine ba_getI V dX0_addPin_5 kfX0_21 ba_sBoard rfl ?_
  refine ba_iload_n V dX0_addPin_8 1 rfl ?_
  refine ba_iast V dX0_addPin_9 ba_sC_4 h (fun s8 h => ?_)
  refine ba_aload_n V dX0_addPin_10 0 rfl ?_
  refine ba_getR V dX0_addPin_11 kfX0_15 ba_sBoard rfl ?_
  refine ba_aload_n V dX0_addPin_14 0 rfl ?_
  refine ba_getI V dX0_addPin_15 kfX0_21 ba_sBoard rfl ?_
  refine ba_iload_n V dX0_addPin_18 2 rfl ?_
  refine ba_iast V dX0_addPin_19 ba_sC_5 h (fun s9 h => ?_)
  refine ba_aload_n V dX0_addPin_20 0 rfl ?_
  refine ba_getR V dX0_addPin_21 kfX0_18 ba_sBoard rfl ?_
  refine ba_iload_n V dX0_addPin_24 1 rfl ?_
  refine ba_aload_n V dX0_addPin_25 0 rfl ?_
  refine ba_getI V dX0_addPin_26 kfX0_21 ba_sBoard rfl ?_
  refine ba_iast V dX0_addPin_29 ba_sC_6 h (fun s10 h => ?_)
  refine ba_aload_n V dX0_addPin_30 0 rfl ?_
  refine ba_dup V dX0_addPin_31 rfl ?_
  refine ba_getI V dX0_addPin_32 kfX0_21 ba_sBoard rfl ?_
  refine ba_iconst V dX0_addPin_35 ba_c1 ?_
  refine ba_iadd V dX0_addPin_36 ?_
  refine ba_putI V dX0_addPin_37 kfX0_21 ba_sBoard rfl h (fun s11 h => ?_)
  exact RT _ _ _ dX0_addPin_40 (Option.some.inj h)
def xo_scanPins_j76_11 (a1 : Nat) (k : (ba_St × Int32) → Option ((ba_St) ⊕ (Int32 × ba_St))) (s : ba_St) (z3 : Int32) : Option ((ba_St) ⊕ (Int32 × ba_St)) :=
  some (.inr ((z3 + 1), s))
set_option maxHeartbeats 4000000 in
set_option maxRecDepth 100000 in
theorem yo_scanPins_j76_11 {w : ba_W} {X : ba_X} (V : ba_V ba_tC w 7 X cX0_scanPins RX0 rm_o_scanPins) {a1 : Nat} (h1 : ba_isText a1) {s : ba_St} {z3 : Int32} {o : (ba_St) ⊕ (Int32 × ba_St)} {k : (ba_St × Int32) → Option ((ba_St) ⊕ (Int32 × ba_St))} (hk : ∀ (s : ba_St) (z2 : Int32), k (s, z2) = some o → ba_G ba_tC w 7 X s 11 [(0, .ref (w.1 3)), (1, .ref (w.1 a1)), (2, .int z2)] []) (EX : ∀ (s : ba_St) , .inl s = o → ba_G ba_tC w 7 X s 150 [] []) (RT : ∀ (pc : Nat) (lv : List (Nat × Value)) (v : Int32) (s : ba_St), decode cX0_scanPins pc = .ok (.ireturn, 1) → .inr (v, s) = o → ba_G ba_tC w 7 X s pc lv [.int v]) (h : xo_scanPins_j76_11 a1 k s z3 = some o) : ba_G ba_tC w 7 X s 76 [(3, .int z3)] [] := by
  unfold xo_scanPins_j76_11 at h
  refine ba_iload_n V dX0_scanPins_76 0 rfl ?_
  refine ba_iconst V dX0_scanPins_77 ba_c1 ?_
  refine ba_iadd V dX0_scanPins_78 ?_
  exact RT _ _ _ _ dX0_scanPins_79 (Option.some.inj h)
def xo_scanPins_l11 (a1 : Nat) (k : (ba_St × Int32) → Option ((ba_St) ⊕ (Int32 × ba_St))) (a : (ba_St × Int32)) : Option ((ba_St) ⊕ (Int32 × ba_St)) :=
  match a with
  | (s, z2) =>
    if 12 ≤ z2 then
      some (.inl s)
    else
      ba_lt (4 * z2) fun x12 =>
      ba_bnd (xt_countedFrom s a1 48 x12 8) fun v13 =>
      if v13 = (-1) then
        some (.inr (x12, s))
      else
        ba_bnd (xt_countedFrom s a1 48 (x12 + 1) 9) fun v14 =>
        if v14 = (-1) then
          xo_scanPins_j76_11 a1 k s x12
        else
          ba_grd (ba_inb ((v13 * 9) + v14) 72) <|
          if (s.1 6 (ba_ix ((v13 * 9) + v14))) = (-1) then
            ba_bnd (xt_byteAt s a1 (x12 + 2)) fun v15 =>
            ba_bnd (xo_sortOf v15) fun v16 =>
            if v16 = (-1) then
              some (.inr ((x12 + 2), s))
            else
              ba_bnd (xo_addPin s ((v13 * 9) + v14) v16) fun s17 =>
              if (s17.1 a1 1) = (x12 + 3) then
                some (.inr ((-1), s17))
              else
                ba_bnd (xt_byteAt s17 a1 (x12 + 3)) fun v18 =>
                if v18 = 59 then
                  ba_lt (z2 + 1) fun x19 =>
                  k (s17, x19)
                else
                  some (.inr ((x12 + 3), s17))
          else
            xo_scanPins_j76_11 a1 k s x12
set_option maxHeartbeats 4000000 in
set_option maxRecDepth 100000 in
theorem yo_scanPins_l11 {w : ba_W} {X : ba_X} (V : ba_V ba_tC w 7 X cX0_scanPins RX0 rm_o_scanPins) {a1 : Nat} (h1 : ba_isText a1) {o : (ba_St) ⊕ (Int32 × ba_St)} (EX : ∀ (s : ba_St) , .inl s = o → ba_G ba_tC w 7 X s 150 [] []) (RT : ∀ (pc : Nat) (lv : List (Nat × Value)) (v : Int32) (s : ba_St), decode cX0_scanPins pc = .ok (.ireturn, 1) → .inr (v, s) = o → ba_G ba_tC w 7 X s pc lv [.int v]) : ∀ (n : Nat) (s : ba_St) (z2 : Int32), ba_fix (xo_scanPins_l11 a1) n (s, z2) = some o → ba_G ba_tC w 7 X s 11 [(0, .ref (w.1 3)), (1, .ref (w.1 a1)), (2, .int z2)] [] := by
  intro n s z2 h
  refine ba_loop (P := fun a => ba_G ba_tC w 7 X a.1 11 [(0, .ref (w.1 3)), (1, .ref (w.1 a1)), (2, .int a.2)] []) ?_ n (s, z2) h
  intro k hk0 a h
  obtain ⟨s, z2⟩ := a
  have hk : ∀ (s : ba_St) (z2 : Int32), k (s, z2) = some o → ba_G ba_tC w 7 X s 11 [(0, .ref (w.1 3)), (1, .ref (w.1 a1)), (2, .int z2)] [] := fun s z2 e => hk0 (s, z2) e
  unfold xo_scanPins_l11 at h
  try dsimp only at h ⊢
  refine ba_iload_n V dX0_scanPins_11 2 rfl ?_
  refine ba_bipush V dX0_scanPins_12 ba_c12b ?_
  refine ba_icmp_ge V dX0_scanPins_14 rfl h (fun h => ?_) (fun h => ?_)
  · exact ba_sub [] rfl (EX _ (Option.some.inj h))
  · refine ba_iconst V dX0_scanPins_17 ba_c4 ?_
    refine ba_iload_n V dX0_scanPins_18 2 rfl ?_
    refine ba_imul V dX0_scanPins_19 ?_
    refine ba_letI h (fun x12 h => ?_)
    refine ba_istore_n (lv' := [(3, .int x12), (0, .ref (w.1 3)), (1, .ref (w.1 a1)), (2, .int z2)]) V dX0_scanPins_20 (by decide) rfl ?_
    refine ba_aload_n V dX0_scanPins_21 2 rfl ?_
    refine ba_bipush V dX0_scanPins_22 ba_c48b ?_
    refine ba_iload_n V dX0_scanPins_24 0 rfl ?_
    refine ba_bipush V dX0_scanPins_25 ba_c8b ?_
    obtain ⟨v13, hc, h⟩ := ba_bnd_some h
    refine ba_callVI (As := [.int 48, .int x12, .int 8]) (st := []) V dX0_scanPins_27 kcX0_66 (ba_sText h1) (fun l => yt_countedFrom V.inj l h1 hc) ⟨rfl, rfl⟩ ⟨rfl, rfl, Nat.le_of_ble_eq_true rfl, Nat.le_of_ble_eq_true rfl⟩ (Nat.le_of_ble_eq_true rfl) ?_
    refine ba_istore (lv' := [(4, .int v13), (3, .int x12), (0, .ref (w.1 3)), (1, .ref (w.1 a1)), (2, .int z2)]) V dX0_scanPins_30 (by decide) rfl ?_
    refine ba_iload V dX0_scanPins_32 0 rfl ?_
    refine ba_iconst V dX0_scanPins_34 ba_cm1 ?_
    refine ba_icmp_ne V dX0_scanPins_35 rfl h (fun h => ?_) (fun h => ?_)
    · refine ba_iload_n V dX0_scanPins_38 1 rfl ?_
      exact RT _ _ _ _ dX0_scanPins_39 (Option.some.inj h)
    · refine ba_aload_n V dX0_scanPins_40 3 rfl ?_
      refine ba_bipush V dX0_scanPins_41 ba_c48b ?_
      refine ba_iload_n V dX0_scanPins_43 1 rfl ?_
      refine ba_iconst V dX0_scanPins_44 ba_c1 ?_
      refine ba_iadd V dX0_scanPins_45 ?_
      refine ba_bipush V dX0_scanPins_46 ba_c9b ?_
      obtain ⟨v14, hc, h⟩ := ba_bnd_some h
      refine ba_callVI (As := [.int 48, .int (x12 + 1), .int 9]) (st := []) V dX0_scanPins_48 kcX0_66 (ba_sText h1) (fun l => yt_countedFrom V.inj l h1 hc) ⟨rfl, rfl⟩ ⟨rfl, rfl, Nat.le_of_ble_eq_true rfl, Nat.le_of_ble_eq_true rfl⟩ (Nat.le_of_ble_eq_true rfl) ?_
      refine ba_istore (lv' := [(5, .int v14), (4, .int v13), (3, .int x12), (0, .ref (w.1 3)), (1, .ref (w.1 a1)), (2, .int z2)]) V dX0_scanPins_51 (by decide) rfl ?_
      refine ba_iload V dX0_scanPins_53 0 rfl ?_
      refine ba_iconst V dX0_scanPins_55 ba_cm1 ?_
      refine ba_icmp_eq V dX0_scanPins_56 rfl h (fun h => ?_) (fun h => ?_)
      · exact ba_sub [2] rfl (yo_scanPins_j76_11 V h1 hk EX RT h)
      · refine ba_aload_n V dX0_scanPins_59 3 rfl ?_
        refine ba_getR V dX0_scanPins_60 kfX0_18 ba_sBoard rfl ?_
        refine ba_iload V dX0_scanPins_63 1 rfl ?_
        refine ba_bipush V dX0_scanPins_65 ba_c9b ?_
        refine ba_imul V dX0_scanPins_67 ?_
        refine ba_iload V dX0_scanPins_68 0 rfl ?_
        refine ba_iadd V dX0_scanPins_70 ?_
        refine ba_iald V dX0_scanPins_71 ba_sC_6 h (fun h => ?_)
        refine ba_iconst V dX0_scanPins_72 ba_cm1 ?_
        refine ba_icmp_eq V dX0_scanPins_73 rfl h (fun h => ?_) (fun h => ?_)
        · refine ba_aload_n V dX0_scanPins_80 4 rfl ?_
          refine ba_iload_n V dX0_scanPins_81 2 rfl ?_
          refine ba_iconst V dX0_scanPins_82 ba_c2 ?_
          refine ba_iadd V dX0_scanPins_83 ?_
          obtain ⟨v15, hc, h⟩ := ba_bnd_some h
          refine ba_callVI (As := [.int (x12 + 2)]) (st := []) V dX0_scanPins_84 kcX0_70 (ba_sText h1) (fun l => yt_byteAt V.inj l h1 hc) ⟨rfl, rfl⟩ ⟨rfl, rfl, Nat.le_of_ble_eq_true rfl, Nat.le_of_ble_eq_true rfl⟩ (Nat.le_of_ble_eq_true rfl) ?_
          obtain ⟨v16, hc, h⟩ := ba_bnd_some h
          refine ba_callSI (As := [.int v15]) (st := []) V dX0_scanPins_87 kcX0_74 (fun l => yo_sortOf V.inj l hc) ⟨rfl, rfl⟩ ⟨rfl, rfl, Nat.le_of_ble_eq_true rfl, Nat.le_of_ble_eq_true rfl⟩ (Nat.le_of_ble_eq_true rfl) ?_
          refine ba_istore (lv' := [(6, .int v16), (5, .int v14), (4, .int v13), (3, .int x12), (0, .ref (w.1 3)), (1, .ref (w.1 a1)), (2, .int z2)]) V dX0_scanPins_90 (by decide) rfl ?_
          refine ba_iload V dX0_scanPins_92 0 rfl ?_
          refine ba_iconst V dX0_scanPins_94 ba_cm1 ?_
          refine ba_icmp_ne V dX0_scanPins_95 rfl h (fun h => ?_) (fun h => ?_)
          · refine ba_iload_n V dX0_scanPins_98 3 rfl ?_
            refine ba_iconst V dX0_scanPins_99 ba_c2 ?_
            refine ba_iadd V dX0_scanPins_100 ?_
            exact RT _ _ _ _ dX0_scanPins_101 (Option.some.inj h)
          · refine ba_aload_n V dX0_scanPins_102 4 rfl ?_
            refine ba_iload V dX0_scanPins_103 2 rfl ?_
            refine ba_bipush V dX0_scanPins_105 ba_c9b ?_
            refine ba_imul V dX0_scanPins_107 ?_
            refine ba_iload V dX0_scanPins_108 1 rfl ?_
            refine ba_iadd V dX0_scanPins_110 ?_
            refine ba_iload V dX0_scanPins_111 0 rfl ?_
            obtain ⟨s17, hc, h⟩ := ba_bnd_some h
            refine ba_callVV (As := [.int ((v13 * 9) + v14), .int v16]) (st := []) V dX0_scanPins_113 kcX0_77 ba_sBoard (fun l => yo_addPin V.inj l hc) ⟨rfl, rfl⟩ ⟨rfl, rfl, Nat.le_of_ble_eq_true rfl, Nat.le_of_ble_eq_true rfl⟩ (Nat.le_of_ble_eq_true rfl) ?_
            refine ba_aload_n V dX0_scanPins_116 5 rfl ?_
            refine ba_getI V dX0_scanPins_117 kfX0_63 (ba_sText h1) rfl ?_
            refine ba_iload_n V dX0_scanPins_120 3 rfl ?_
            refine ba_iconst V dX0_scanPins_121 ba_c3 ?_
            refine ba_iadd V dX0_scanPins_122 ?_
            refine ba_icmp_ne V dX0_scanPins_123 rfl h (fun h => ?_) (fun h => ?_)
            · refine ba_iconst V dX0_scanPins_126 ba_cm1 ?_
              exact RT _ _ _ _ dX0_scanPins_127 (Option.some.inj h)
            · refine ba_aload_n V dX0_scanPins_128 5 rfl ?_
              refine ba_iload_n V dX0_scanPins_129 3 rfl ?_
              refine ba_iconst V dX0_scanPins_130 ba_c3 ?_
              refine ba_iadd V dX0_scanPins_131 ?_
              obtain ⟨v18, hc, h⟩ := ba_bnd_some h
              refine ba_callVI (As := [.int (x12 + 3)]) (st := []) V dX0_scanPins_132 kcX0_70 (ba_sText h1) (fun l => yt_byteAt V.inj l h1 hc) ⟨rfl, rfl⟩ ⟨rfl, rfl, Nat.le_of_ble_eq_true rfl, Nat.le_of_ble_eq_true rfl⟩ (Nat.le_of_ble_eq_true rfl) ?_
              refine ba_bipush V dX0_scanPins_135 ba_c59b ?_
              refine ba_icmp_eq V dX0_scanPins_137 rfl h (fun h => ?_) (fun h => ?_)
              · refine ba_iinc V dX0_scanPins_144 6 rfl ba_c1 (by decide) h (fun x19 h => ⟨[(2, .int x19), (6, .int v16), (5, .int v14), (4, .int v13), (3, .int x12), (0, .ref (w.1 3)), (1, .ref (w.1 a1))], rfl, ?_⟩)
                refine ba_goto V dX0_scanPins_147 rfl ?_
                exact ba_sub [5, 6, 0] rfl (hk _ _ h)
              · refine ba_iload_n V dX0_scanPins_140 3 rfl ?_
                refine ba_iconst V dX0_scanPins_141 ba_c3 ?_
                refine ba_iadd V dX0_scanPins_142 ?_
                exact RT _ _ _ _ dX0_scanPins_143 (Option.some.inj h)
        · exact ba_sub [2] rfl (yo_scanPins_j76_11 V h1 hk EX RT h)
def xo_scanPins (s : ba_St) (a1 : Nat) : Option (Int32 × ba_St) :=
  if (s.1 a1 1) = 0 then
    some ((-1), s)
  else
    ba_bnd (ba_fix (xo_scanPins_l11 a1) 1000 (s, 0)) fun o => match o with
    | .inr r21 => some r21
    | .inl s20 =>
      some (48, s20)
set_option maxHeartbeats 4000000 in
set_option maxRecDepth 100000 in
theorem yo_scanPins {w : ba_W} (hj : ba_inj ba_tC w) (l : Launch) {s : ba_St} {a1 : Nat} (h1 : ba_isText a1) {o : Int32 × ba_St} (h : xo_scanPins s a1 = some o) : ba_CI ba_tC w l yX0_scanPins cX0_scanPins 7 (some .int) rm_o_scanPins [.ref (w.1 3), .ref (w.1 a1)] s o := by
  refine ba_metI (lv := [(0, .ref (w.1 3)), (1, .ref (w.1 a1))]) l hj (by decide +kernel) ⟨Nat.le_of_ble_eq_true rfl, rfl⟩ ?_
  intro X V RT
  unfold xo_scanPins at h
  refine ba_aload_n V dX0_scanPins_0 1 rfl ?_
  refine ba_getI V dX0_scanPins_1 kfX0_63 (ba_sText h1) rfl ?_
  refine ba_if_ne V dX0_scanPins_4 rfl h (fun h => ?_) (fun h => ?_)
  · refine ba_iconst V dX0_scanPins_7 ba_cm1 ?_
    exact RT _ _ _ _ dX0_scanPins_8 (Option.some.inj h)
  · refine ba_iconst V dX0_scanPins_9 ba_c0 ?_
    refine ba_istore_n (lv' := [(2, .int 0), (0, .ref (w.1 3)), (1, .ref (w.1 a1))]) V dX0_scanPins_10 (by decide) rfl ?_
    obtain ⟨o, ho, h⟩ := ba_bnd_some h
    refine ba_sub [1, 2, 0] rfl (yo_scanPins_l11 V h1 (o := o) (fun s20 e => ?_) (fun pc lv v s D  e => by subst e; exact RT pc lv v s D  (Option.some.inj h)) 1000 s 0 ho)
    subst e
    try dsimp only at h
    refine ba_bipush V dX0_scanPins_150 ba_c48b ?_
    exact RT _ _ _ _ dX0_scanPins_152 (Option.some.inj h)
def xo_takePins (s : ba_St) (a1 : Nat) : Option (Int32 × ba_St) :=
  ba_bnd (xo_clearPins s) fun s22 =>
  ba_bn2 (xo_scanPins s22 a1) fun v23 s24 =>
  if v23 = (-1) then
    some (v23, s24)
  else
    ba_bnd (xo_clearPins s24) fun s25 =>
    some (v23, s25)
set_option maxHeartbeats 4000000 in
set_option maxRecDepth 100000 in
theorem yo_takePins {w : ba_W} (hj : ba_inj ba_tC w) (l : Launch) {s : ba_St} {a1 : Nat} (h1 : ba_isText a1) {o : Int32 × ba_St} (h : xo_takePins s a1 = some o) : ba_CI ba_tC w l yX0_takePins cX0_takePins 3 (some .int) rm_o_takePins [.ref (w.1 3), .ref (w.1 a1)] s o := by
  refine ba_metI (lv := [(0, .ref (w.1 3)), (1, .ref (w.1 a1))]) l hj (by decide +kernel) ⟨Nat.le_of_ble_eq_true rfl, rfl⟩ ?_
  intro X V RT
  unfold xo_takePins at h
  refine ba_aload_n V dX0_takePins_0 0 rfl ?_
  obtain ⟨s22, hc, h⟩ := ba_bnd_some h
  refine ba_callVV (As := []) (st := []) V dX0_takePins_1 kcX0_56 ba_sBoard (fun l => yo_clearPins V.inj l hc) ⟨rfl, rfl⟩ ⟨rfl, rfl, Nat.le_of_ble_eq_true rfl, Nat.le_of_ble_eq_true rfl⟩ (Nat.le_of_ble_eq_true rfl) ?_
  refine ba_aload_n V dX0_takePins_4 0 rfl ?_
  refine ba_aload_n V dX0_takePins_5 1 rfl ?_
  obtain ⟨v23, s24, hc, h⟩ := ba_bn2_some h
  refine ba_callVI (As := [.ref (w.1 a1)]) (st := []) V dX0_takePins_6 kcX0_59 ba_sBoard (fun l => yo_scanPins V.inj l h1 hc) ⟨rfl, rfl⟩ ⟨rfl, rfl, Nat.le_of_ble_eq_true rfl, Nat.le_of_ble_eq_true rfl⟩ (Nat.le_of_ble_eq_true rfl) ?_
  refine ba_istore_n (lv' := [(2, .int v23), (0, .ref (w.1 3)), (1, .ref (w.1 a1))]) V dX0_takePins_9 (by decide) rfl ?_
  refine ba_iload_n V dX0_takePins_10 0 rfl ?_
  refine ba_iconst V dX0_takePins_11 ba_cm1 ?_
  refine ba_icmp_eq V dX0_takePins_12 rfl h (fun h => ?_) (fun h => ?_)
  · refine ba_iload_n V dX0_takePins_19 0 rfl ?_
    exact RT _ _ _ _ dX0_takePins_20 (Option.some.inj h)
  · refine ba_aload_n V dX0_takePins_15 1 rfl ?_
    obtain ⟨s25, hc, h⟩ := ba_bnd_some h
    refine ba_callVV (As := []) (st := []) V dX0_takePins_16 kcX0_56 ba_sBoard (fun l => yo_clearPins V.inj l hc) ⟨rfl, rfl⟩ ⟨rfl, rfl, Nat.le_of_ble_eq_true rfl, Nat.le_of_ble_eq_true rfl⟩ (Nat.le_of_ble_eq_true rfl) ?_
    refine ba_iload_n V dX0_takePins_19 0 rfl ?_
    exact RT _ _ _ _ dX0_takePins_20 (Option.some.inj h)
def xo_takeCups_l10 (a1 : Nat) (k : (ba_St × Int32) → Option ((ba_St) ⊕ (Int32 × ba_St))) (a : (ba_St × Int32)) : Option ((ba_St) ⊕ (Int32 × ba_St)) :=
  match a with
  | (s, z2) =>
    if (s.1 a1 1) ≤ z2 then
      some (.inl s)
    else
      if 9 ≤ z2 then
        some (.inl s)
      else
        ba_bnd (xt_countedFrom s a1 48 z2 10) fun v27 =>
        if v27 = (-1) then
          ba_bnd (xj_fill s 7 9 0) fun s28 =>
          some (.inr (z2, s28))
        else
          ba_grd (ba_inb z2 9) <|
          ba_lt (ba_w s 7 (ba_ix z2) v27) fun s29 =>
          ba_lt (z2 + 1) fun x30 =>
          k (s29, x30)
set_option maxHeartbeats 4000000 in
set_option maxRecDepth 100000 in
theorem yo_takeCups_l10 {w : ba_W} {X : ba_X} (V : ba_V ba_tC w 4 X cX0_takeCups RX0 rm_o_takeCups) {a1 : Nat} (h1 : ba_isText a1) {o : (ba_St) ⊕ (Int32 × ba_St)} (EX : ∀ (s : ba_St) , .inl s = o → ba_G ba_tC w 4 X s 62 [] []) (RT : ∀ (pc : Nat) (lv : List (Nat × Value)) (v : Int32) (s : ba_St), decode cX0_takeCups pc = .ok (.ireturn, 1) → .inr (v, s) = o → ba_G ba_tC w 4 X s pc lv [.int v]) : ∀ (n : Nat) (s : ba_St) (z2 : Int32), ba_fix (xo_takeCups_l10 a1) n (s, z2) = some o → ba_G ba_tC w 4 X s 10 [(0, .ref (w.1 3)), (1, .ref (w.1 a1)), (2, .int z2)] [] := by
  intro n s z2 h
  refine ba_loop (P := fun a => ba_G ba_tC w 4 X a.1 10 [(0, .ref (w.1 3)), (1, .ref (w.1 a1)), (2, .int a.2)] []) ?_ n (s, z2) h
  intro k hk0 a h
  obtain ⟨s, z2⟩ := a
  have hk : ∀ (s : ba_St) (z2 : Int32), k (s, z2) = some o → ba_G ba_tC w 4 X s 10 [(0, .ref (w.1 3)), (1, .ref (w.1 a1)), (2, .int z2)] [] := fun s z2 e => hk0 (s, z2) e
  unfold xo_takeCups_l10 at h
  try dsimp only at h ⊢
  refine ba_iload_n V dX0_takeCups_10 2 rfl ?_
  refine ba_aload_n V dX0_takeCups_11 1 rfl ?_
  refine ba_getI V dX0_takeCups_12 kfX0_63 (ba_sText h1) rfl ?_
  refine ba_icmp_ge V dX0_takeCups_15 rfl h (fun h => ?_) (fun h => ?_)
  · exact ba_sub [] rfl (EX _ (Option.some.inj h))
  · refine ba_iload_n V dX0_takeCups_18 2 rfl ?_
    refine ba_bipush V dX0_takeCups_19 ba_c9b ?_
    refine ba_icmp_ge V dX0_takeCups_21 rfl h (fun h => ?_) (fun h => ?_)
    · exact ba_sub [] rfl (EX _ (Option.some.inj h))
    · refine ba_aload_n V dX0_takeCups_24 1 rfl ?_
      refine ba_bipush V dX0_takeCups_25 ba_c48b ?_
      refine ba_iload_n V dX0_takeCups_27 2 rfl ?_
      refine ba_bipush V dX0_takeCups_28 ba_c10b ?_
      obtain ⟨v27, hc, h⟩ := ba_bnd_some h
      refine ba_callVI (As := [.int 48, .int z2, .int 10]) (st := []) V dX0_takeCups_30 kcX0_66 (ba_sText h1) (fun l => yt_countedFrom V.inj l h1 hc) ⟨rfl, rfl⟩ ⟨rfl, rfl, Nat.le_of_ble_eq_true rfl, Nat.le_of_ble_eq_true rfl⟩ (Nat.le_of_ble_eq_true rfl) ?_
      refine ba_istore_n (lv' := [(3, .int v27), (0, .ref (w.1 3)), (1, .ref (w.1 a1)), (2, .int z2)]) V dX0_takeCups_33 (by decide) rfl ?_
      refine ba_iload_n V dX0_takeCups_34 0 rfl ?_
      refine ba_iconst V dX0_takeCups_35 ba_cm1 ?_
      refine ba_icmp_ne V dX0_takeCups_36 rfl h (fun h => ?_) (fun h => ?_)
      · refine ba_aload_n V dX0_takeCups_39 1 rfl ?_
        refine ba_getR V dX0_takeCups_40 kfX0_25 ba_sBoard rfl ?_
        refine ba_iconst V dX0_takeCups_43 ba_c0 ?_
        obtain ⟨s28, hc, h⟩ := ba_bnd_some h
        refine ba_callSV (As := [.ref (w.1 7), .int 0]) (st := []) V dX0_takeCups_44 kcX0_47 (fun l => yj_fill V.inj l ba_sC_7 hc) ⟨rfl, rfl⟩ ⟨rfl, rfl, Nat.le_of_ble_eq_true rfl, Nat.le_of_ble_eq_true rfl⟩ (Nat.le_of_ble_eq_true rfl) ?_
        refine ba_iload_n V dX0_takeCups_47 3 rfl ?_
        exact RT _ _ _ _ dX0_takeCups_48 (Option.some.inj h)
      · refine ba_aload_n V dX0_takeCups_49 1 rfl ?_
        refine ba_getR V dX0_takeCups_50 kfX0_25 ba_sBoard rfl ?_
        refine ba_iload_n V dX0_takeCups_53 3 rfl ?_
        refine ba_iload_n V dX0_takeCups_54 0 rfl ?_
        refine ba_iast V dX0_takeCups_55 ba_sC_7 h (fun s29 h => ?_)
        refine ba_iinc V dX0_takeCups_56 3 rfl ba_c1 (by decide) h (fun x30 h => ⟨[(2, .int x30), (3, .int v27), (0, .ref (w.1 3)), (1, .ref (w.1 a1))], rfl, ?_⟩)
        refine ba_goto V dX0_takeCups_59 rfl ?_
        exact ba_sub [2, 3, 0] rfl (hk _ _ h)
def xo_takeCups (s : ba_St) (a1 : Nat) : Option (Int32 × ba_St) :=
  ba_bnd (xj_fill s 7 9 0) fun s26 =>
  ba_bnd (ba_fix (xo_takeCups_l10 a1) 1000 (s26, 0)) fun o => match o with
  | .inr r32 => some r32
  | .inl s31 =>
    some ((-1), s31)
set_option maxHeartbeats 4000000 in
set_option maxRecDepth 100000 in
theorem yo_takeCups {w : ba_W} (hj : ba_inj ba_tC w) (l : Launch) {s : ba_St} {a1 : Nat} (h1 : ba_isText a1) {o : Int32 × ba_St} (h : xo_takeCups s a1 = some o) : ba_CI ba_tC w l yX0_takeCups cX0_takeCups 4 (some .int) rm_o_takeCups [.ref (w.1 3), .ref (w.1 a1)] s o := by
  refine ba_metI (lv := [(0, .ref (w.1 3)), (1, .ref (w.1 a1))]) l hj (by decide +kernel) ⟨Nat.le_of_ble_eq_true rfl, rfl⟩ ?_
  intro X V RT
  unfold xo_takeCups at h
  refine ba_aload_n V dX0_takeCups_0 0 rfl ?_
  refine ba_getR V dX0_takeCups_1 kfX0_25 ba_sBoard rfl ?_
  refine ba_iconst V dX0_takeCups_4 ba_c0 ?_
  obtain ⟨s26, hc, h⟩ := ba_bnd_some h
  refine ba_callSV (As := [.ref (w.1 7), .int 0]) (st := []) V dX0_takeCups_5 kcX0_47 (fun l => yj_fill V.inj l ba_sC_7 hc) ⟨rfl, rfl⟩ ⟨rfl, rfl, Nat.le_of_ble_eq_true rfl, Nat.le_of_ble_eq_true rfl⟩ (Nat.le_of_ble_eq_true rfl) ?_
  refine ba_iconst V dX0_takeCups_8 ba_c0 ?_
  refine ba_istore_n (lv' := [(2, .int 0), (0, .ref (w.1 3)), (1, .ref (w.1 a1))]) V dX0_takeCups_9 (by decide) rfl ?_
  obtain ⟨o, ho, h⟩ := ba_bnd_some h
  refine ba_sub [1, 2, 0] rfl (yo_takeCups_l10 V h1 (o := o) (fun s31 e => ?_) (fun pc lv v s D  e => by subst e; exact RT pc lv v s D  (Option.some.inj h)) 1000 s26 0 ho)
  subst e
  try dsimp only at h
  refine ba_iconst V dX0_takeCups_62 ba_cm1 ?_
  exact RT _ _ _ _ dX0_takeCups_63 (Option.some.inj h)
def xo_scanBalls_l11 (a1 : Nat) (k : (ba_St × Int32) → Option ((ba_St) ⊕ (Int32 × ba_St))) (a : (ba_St × Int32)) : Option ((ba_St) ⊕ (Int32 × ba_St)) :=
  match a with
  | (s, z2) =>
    if 12 ≤ z2 then
      some (.inl s)
    else
      ba_lt (3 * z2) fun x33 =>
      ba_bnd (xt_countedFrom s a1 97 x33 24) fun v34 =>
      if v34 = (-1) then
        some (.inr (x33, s))
      else
        ba_bnd (xt_countedFrom s a1 49 (x33 + 1) 9) fun v35 =>
        if v35 = (-1) then
          some (.inr ((x33 + 1), s))
        else
          ba_grd (ba_inb z2 12) <|
          ba_lt (ba_w s 8 (ba_ix z2) v34) fun s36 =>
          ba_grd (ba_inb z2 12) <|
          ba_lt (ba_w s36 9 (ba_ix z2) (v35 + 1)) fun s37 =>
          ba_lt (ba_w s37 3 7 ((s37.1 3 7) + 1)) fun s38 =>
          if (s38.1 a1 1) = (x33 + 2) then
            some (.inr ((-1), s38))
          else
            ba_bnd (xt_byteAt s38 a1 (x33 + 2)) fun v39 =>
            if v39 = 59 then
              ba_lt (z2 + 1) fun x40 =>
              k (s38, x40)
            else
              some (.inr ((x33 + 2), s38))
set_option maxHeartbeats 4000000 in
set_option maxRecDepth 100000 in
theorem yo_scanBalls_l11 {w : ba_W} {X : ba_X} (V : ba_V ba_tC w 6 X cX0_scanBalls RX0 rm_o_scanBalls) {a1 : Nat} (h1 : ba_isText a1) {o : (ba_St) ⊕ (Int32 × ba_St)} (EX : ∀ (s : ba_St) , .inl s = o → ba_G ba_tC w 6 X s 125 [] []) (RT : ∀ (pc : Nat) (lv : List (Nat × Value)) (v : Int32) (s : ba_St), decode cX0_scanBalls pc = .ok (.ireturn, 1) → .inr (v, s) = o → ba_G ba_tC w 6 X s pc lv [.int v]) : ∀ (n : Nat) (s : ba_St) (z2 : Int32), ba_fix (xo_scanBalls_l11 a1) n (s, z2) = some o → ba_G ba_tC w 6 X s 11 [(0, .ref (w.1 3)), (1, .ref (w.1 a1)), (2, .int z2)] [] := by
  intro n s z2 h
  refine ba_loop (P := fun a => ba_G ba_tC w 6 X a.1 11 [(0, .ref (w.1 3)), (1, .ref (w.1 a1)), (2, .int a.2)] []) ?_ n (s, z2) h
  intro k hk0 a h
  obtain ⟨s, z2⟩ := a
  have hk : ∀ (s : ba_St) (z2 : Int32), k (s, z2) = some o → ba_G ba_tC w 6 X s 11 [(0, .ref (w.1 3)), (1, .ref (w.1 a1)), (2, .int z2)] [] := fun s z2 e => hk0 (s, z2) e
  unfold xo_scanBalls_l11 at h
  try dsimp only at h ⊢
  refine ba_iload_n V dX0_scanBalls_11 2 rfl ?_
  refine ba_bipush V dX0_scanBalls_12 ba_c12b ?_
  refine ba_icmp_ge V dX0_scanBalls_14 rfl h (fun h => ?_) (fun h => ?_)
  · exact ba_sub [] rfl (EX _ (Option.some.inj h))
  · refine ba_iconst V dX0_scanBalls_17 ba_c3 ?_
    refine ba_iload_n V dX0_scanBalls_18 2 rfl ?_
    refine ba_imul V dX0_scanBalls_19 ?_
    refine ba_letI h (fun x33 h => ?_)
    refine ba_istore_n (lv' := [(3, .int x33), (0, .ref (w.1 3)), (1, .ref (w.1 a1)), (2, .int z2)]) V dX0_scanBalls_20 (by decide) rfl ?_
    refine ba_aload_n V dX0_scanBalls_21 2 rfl ?_
    refine ba_bipush V dX0_scanBalls_22 ba_c97b ?_
    refine ba_iload_n V dX0_scanBalls_24 0 rfl ?_
    refine ba_bipush V dX0_scanBalls_25 ba_c24b ?_
    obtain ⟨v34, hc, h⟩ := ba_bnd_some h
    refine ba_callVI (As := [.int 97, .int x33, .int 24]) (st := []) V dX0_scanBalls_27 kcX0_66 (ba_sText h1) (fun l => yt_countedFrom V.inj l h1 hc) ⟨rfl, rfl⟩ ⟨rfl, rfl, Nat.le_of_ble_eq_true rfl, Nat.le_of_ble_eq_true rfl⟩ (Nat.le_of_ble_eq_true rfl) ?_
    refine ba_istore (lv' := [(4, .int v34), (3, .int x33), (0, .ref (w.1 3)), (1, .ref (w.1 a1)), (2, .int z2)]) V dX0_scanBalls_30 (by decide) rfl ?_
    refine ba_iload V dX0_scanBalls_32 0 rfl ?_
    refine ba_iconst V dX0_scanBalls_34 ba_cm1 ?_
    refine ba_icmp_ne V dX0_scanBalls_35 rfl h (fun h => ?_) (fun h => ?_)
    · refine ba_iload_n V dX0_scanBalls_38 1 rfl ?_
      exact RT _ _ _ _ dX0_scanBalls_39 (Option.some.inj h)
    · refine ba_aload_n V dX0_scanBalls_40 3 rfl ?_
      refine ba_bipush V dX0_scanBalls_41 ba_c49b ?_
      refine ba_iload_n V dX0_scanBalls_43 1 rfl ?_
      refine ba_iconst V dX0_scanBalls_44 ba_c1 ?_
      refine ba_iadd V dX0_scanBalls_45 ?_
      refine ba_bipush V dX0_scanBalls_46 ba_c9b ?_
      obtain ⟨v35, hc, h⟩ := ba_bnd_some h
      refine ba_callVI (As := [.int 49, .int (x33 + 1), .int 9]) (st := []) V dX0_scanBalls_48 kcX0_66 (ba_sText h1) (fun l => yt_countedFrom V.inj l h1 hc) ⟨rfl, rfl⟩ ⟨rfl, rfl, Nat.le_of_ble_eq_true rfl, Nat.le_of_ble_eq_true rfl⟩ (Nat.le_of_ble_eq_true rfl) ?_
      refine ba_istore (lv' := [(5, .int v35), (4, .int v34), (3, .int x33), (0, .ref (w.1 3)), (1, .ref (w.1 a1)), (2, .int z2)]) V dX0_scanBalls_51 (by decide) rfl ?_
      refine ba_iload V dX0_scanBalls_53 0 rfl ?_
      refine ba_iconst V dX0_scanBalls_55 ba_cm1 ?_
      refine ba_icmp_ne V dX0_scanBalls_56 rfl h (fun h => ?_) (fun h => ?_)
      · refine ba_iload_n V dX0_scanBalls_59 2 rfl ?_
        refine ba_iconst V dX0_scanBalls_60 ba_c1 ?_
        refine ba_iadd V dX0_scanBalls_61 ?_
        exact RT _ _ _ _ dX0_scanBalls_62 (Option.some.inj h)
      · refine ba_aload_n V dX0_scanBalls_63 3 rfl ?_
        refine ba_getR V dX0_scanBalls_64 kfX0_28 ba_sBoard rfl ?_
        refine ba_iload_n V dX0_scanBalls_67 5 rfl ?_
        refine ba_iload V dX0_scanBalls_68 1 rfl ?_
        refine ba_iast V dX0_scanBalls_70 ba_sC_8 h (fun s36 h => ?_)
        refine ba_aload_n V dX0_scanBalls_71 3 rfl ?_
        refine ba_getR V dX0_scanBalls_72 kfX0_31 ba_sBoard rfl ?_
        refine ba_iload_n V dX0_scanBalls_75 5 rfl ?_
        refine ba_iload V dX0_scanBalls_76 0 rfl ?_
        refine ba_iconst V dX0_scanBalls_78 ba_c1 ?_
        refine ba_iadd V dX0_scanBalls_79 ?_
        refine ba_iast V dX0_scanBalls_80 ba_sC_9 h (fun s37 h => ?_)
        refine ba_aload_n V dX0_scanBalls_81 3 rfl ?_
        refine ba_dup V dX0_scanBalls_82 rfl ?_
        refine ba_getI V dX0_scanBalls_83 kfX0_34 ba_sBoard rfl ?_
        refine ba_iconst V dX0_scanBalls_86 ba_c1 ?_
        refine ba_iadd V dX0_scanBalls_87 ?_
        refine ba_putI V dX0_scanBalls_88 kfX0_34 ba_sBoard rfl h (fun s38 h => ?_)
        refine ba_aload_n V dX0_scanBalls_91 4 rfl ?_
        refine ba_getI V dX0_scanBalls_92 kfX0_63 (ba_sText h1) rfl ?_
        refine ba_iload_n V dX0_scanBalls_95 2 rfl ?_
        refine ba_iconst V dX0_scanBalls_96 ba_c2 ?_
        refine ba_iadd V dX0_scanBalls_97 ?_
        refine ba_icmp_ne V dX0_scanBalls_98 rfl h (fun h => ?_) (fun h => ?_)
        · refine ba_iconst V dX0_scanBalls_101 ba_cm1 ?_
          exact RT _ _ _ _ dX0_scanBalls_102 (Option.some.inj h)
        · refine ba_aload_n V dX0_scanBalls_103 4 rfl ?_
          refine ba_iload_n V dX0_scanBalls_104 2 rfl ?_
          refine ba_iconst V dX0_scanBalls_105 ba_c2 ?_
          refine ba_iadd V dX0_scanBalls_106 ?_
          obtain ⟨v39, hc, h⟩ := ba_bnd_some h
          refine ba_callVI (As := [.int (x33 + 2)]) (st := []) V dX0_scanBalls_107 kcX0_70 (ba_sText h1) (fun l => yt_byteAt V.inj l h1 hc) ⟨rfl, rfl⟩ ⟨rfl, rfl, Nat.le_of_ble_eq_true rfl, Nat.le_of_ble_eq_true rfl⟩ (Nat.le_of_ble_eq_true rfl) ?_
          refine ba_bipush V dX0_scanBalls_110 ba_c59b ?_
          refine ba_icmp_eq V dX0_scanBalls_112 rfl h (fun h => ?_) (fun h => ?_)
          · refine ba_iinc V dX0_scanBalls_119 5 rfl ba_c1 (by decide) h (fun x40 h => ⟨[(2, .int x40), (5, .int v35), (4, .int v34), (3, .int x33), (0, .ref (w.1 3)), (1, .ref (w.1 a1))], rfl, ?_⟩)
            refine ba_goto V dX0_scanBalls_122 rfl ?_
            exact ba_sub [4, 5, 0] rfl (hk _ _ h)
          · refine ba_iload_n V dX0_scanBalls_115 2 rfl ?_
            refine ba_iconst V dX0_scanBalls_116 ba_c2 ?_
            refine ba_iadd V dX0_scanBalls_117 ?_
            exact RT _ _ _ _ dX0_scanBalls_118 (Option.some.inj h)
def xo_scanBalls (s : ba_St) (a1 : Nat) : Option (Int32 × ba_St) :=
  if (s.1 a1 1) = 0 then
    some ((-1), s)
  else
    ba_bnd (ba_fix (xo_scanBalls_l11 a1) 1000 (s, 0)) fun o => match o with
    | .inr r42 => some r42
    | .inl s41 =>
      some (36, s41)
set_option maxHeartbeats 4000000 in
set_option maxRecDepth 100000 in
theorem yo_scanBalls {w : ba_W} (hj : ba_inj ba_tC w) (l : Launch) {s : ba_St} {a1 : Nat} (h1 : ba_isText a1) {o : Int32 × ba_St} (h : xo_scanBalls s a1 = some o) : ba_CI ba_tC w l yX0_scanBalls cX0_scanBalls 6 (some .int) rm_o_scanBalls [.ref (w.1 3), .ref (w.1 a1)] s o := by
  refine ba_metI (lv := [(0, .ref (w.1 3)), (1, .ref (w.1 a1))]) l hj (by decide +kernel) ⟨Nat.le_of_ble_eq_true rfl, rfl⟩ ?_
  intro X V RT
  unfold xo_scanBalls at h
  refine ba_aload_n V dX0_scanBalls_0 1 rfl ?_
  refine ba_getI V dX0_scanBalls_1 kfX0_63 (ba_sText h1) rfl ?_
  refine ba_if_ne V dX0_scanBalls_4 rfl h (fun h => ?_) (fun h => ?_)
  · refine ba_iconst V dX0_scanBalls_7 ba_cm1 ?_
    exact RT _ _ _ _ dX0_scanBalls_8 (Option.some.inj h)
  · refine ba_iconst V dX0_scanBalls_9 ba_c0 ?_
    refine ba_istore_n (lv' := [(2, .int 0), (0, .ref (w.1 3)), (1, .ref (w.1 a1))]) V dX0_scanBalls_10 (by decide) rfl ?_
    obtain ⟨o, ho, h⟩ := ba_bnd_some h
    refine ba_sub [1, 2, 0] rfl (yo_scanBalls_l11 V h1 (o := o) (fun s41 e => ?_) (fun pc lv v s D  e => by subst e; exact RT pc lv v s D  (Option.some.inj h)) 1000 s 0 ho)
    subst e
    try dsimp only at h
    refine ba_bipush V dX0_scanBalls_125 ba_c36b ?_
    exact RT _ _ _ _ dX0_scanBalls_127 (Option.some.inj h)
def xo_takeBalls (s : ba_St) (a1 : Nat) : Option (Int32 × ba_St) :=
  ba_lt (ba_w s 3 7 0) fun s43 =>
  ba_bn2 (xo_scanBalls s43 a1) fun v44 s45 =>
  if v44 = (-1) then
    some (v44, s45)
  else
    ba_lt (ba_w s45 3 7 0) fun s46 =>
    some (v44, s46)
set_option maxHeartbeats 4000000 in
set_option maxRecDepth 100000 in
theorem yo_takeBalls {w : ba_W} (hj : ba_inj ba_tC w) (l : Launch) {s : ba_St} {a1 : Nat} (h1 : ba_isText a1) {o : Int32 × ba_St} (h : xo_takeBalls s a1 = some o) : ba_CI ba_tC w l yX0_takeBalls cX0_takeBalls 3 (some .int) rm_o_takeBalls [.ref (w.1 3), .ref (w.1 a1)] s o := by
  refine ba_metI (lv := [(0, .ref (w.1 3)), (1, .ref (w.1 a1))]) l hj (by decide +kernel) ⟨Nat.le_of_ble_eq_true rfl, rfl⟩ ?_
  intro X V RT
  unfold xo_takeBalls at h
  refine ba_aload_n V dX0_takeBalls_0 0 rfl ?_
  refine ba_iconst V dX0_takeBalls_1 ba_c0 ?_
  refine ba_putI V dX0_takeBalls_2 kfX0_34 ba_sBoard rfl h (fun s43 h => ?_)
  refine ba_aload_n V dX0_takeBalls_5 0 rfl ?_
  refine ba_aload_n V dX0_takeBalls_6 1 rfl ?_
  obtain ⟨v44, s45, hc, h⟩ := ba_bn2_some h
  refine ba_callVI (As := [.ref (w.1 a1)]) (st := []) V dX0_takeBalls_7 kcX0_81 ba_sBoard (fun l => yo_scanBalls V.inj l h1 hc) ⟨rfl, rfl⟩ ⟨rfl, rfl, Nat.le_of_ble_eq_true rfl, Nat.le_of_ble_eq_true rfl⟩ (Nat.le_of_ble_eq_true rfl) ?_
  refine ba_istore_n (lv' := [(2, .int v44), (0, .ref (w.1 3)), (1, .ref (w.1 a1))]) V dX0_takeBalls_10 (by decide) rfl ?_
  refine ba_iload_n V dX0_takeBalls_11 0 rfl ?_
  refine ba_iconst V dX0_takeBalls_12 ba_cm1 ?_
  refine ba_icmp_eq V dX0_takeBalls_13 rfl h (fun h => ?_) (fun h => ?_)
  · refine ba_iload_n V dX0_takeBalls_21 0 rfl ?_
    exact RT _ _ _ _ dX0_takeBalls_22 (Option.some.inj h)
  · refine ba_aload_n V dX0_takeBalls_16 1 rfl ?_
    refine ba_iconst V dX0_takeBalls_17 ba_c0 ?_
    refine ba_putI V dX0_takeBalls_18 kfX0_34 ba_sBoard rfl h (fun s46 h => ?_)
    refine ba_iload_n V dX0_takeBalls_21 0 rfl ?_
    exact RT _ _ _ _ dX0_takeBalls_22 (Option.some.inj h)
def xb_forgetResults (s : ba_St) : Option (ba_St) :=
  ba_lt (ba_w s 0 8 0) fun s47 =>
  ba_lt (ba_w s47 0 9 (-1)) fun s48 =>
  ba_lt (ba_w s48 0 12 0) fun s49 =>
  ba_lt (ba_w s49 0 16 0) fun s50 =>
  some s50
set_option maxHeartbeats 4000000 in
set_option maxRecDepth 100000 in
theorem yb_forgetResults {w : ba_W} (hj : ba_inj ba_tC w) (l : Launch) {s : ba_St} {o : ba_St} (h : xb_forgetResults s = some o) : ba_CV ba_tC w l yX5_forgetResults cX5_forgetResults 1 none rm_b_forgetResults [.ref (w.1 0)] s o := by
  refine ba_metV (lv := [(0, .ref (w.1 0))]) l hj (by decide +kernel) ⟨Nat.le_of_ble_eq_true rfl, rfl⟩ ?_
  intro X V RT
  unfold xb_forgetResults at h
  refine ba_aload_n V dX5_forgetResults_0 0 rfl ?_
  refine ba_iconst V dX5_forgetResults_1 ba_c0 ?_
  refine ba_putZ V dX5_forgetResults_2 kfX5_55 ba_sBag rfl ba_y0 h (fun s47 h => ?_)
  refine ba_aload_n V dX5_forgetResults_5 0 rfl ?_
  refine ba_iconst V dX5_forgetResults_6 ba_cm1 ?_
  refine ba_putI V dX5_forgetResults_7 kfX5_59 ba_sBag rfl h (fun s48 h => ?_)
  refine ba_aload_n V dX5_forgetResults_10 0 rfl ?_
  refine ba_iconst V dX5_forgetResults_11 ba_c0 ?_
  refine ba_putZ V dX5_forgetResults_12 kfX5_68 ba_sBag rfl ba_y0 h (fun s49 h => ?_)
  refine ba_aload_n V dX5_forgetResults_15 0 rfl ?_
  refine ba_iconst V dX5_forgetResults_16 ba_c0 ?_
  refine ba_putZ V dX5_forgetResults_17 kfX5_80 ba_sBag rfl ba_y0 h (fun s50 h => ?_)
  exact RT _ _ _ dX5_forgetResults_20 (Option.some.inj h)
def xb_parse_j72 (s : ba_St) : Option (ba_St) :=
  ba_bnd (xb_forgetResults s) fun s55 =>
  some s55
set_option maxHeartbeats 4000000 in
set_option maxRecDepth 100000 in
theorem yb_parse_j72 {w : ba_W} {X : ba_X} (V : ba_V ba_tC w 2 X cX5_parse RX5 rm_b_parse) {s : ba_St} {o : ba_St} (RT : ∀ (pc : Nat) (lv : List (Nat × Value)) (s : ba_St), decode cX5_parse pc = .ok (.return_, 1) → s = o → ba_G ba_tC w 2 X s pc lv []) (h : xb_parse_j72 s = some o) : ba_G ba_tC w 2 X s 72 [(0, .ref (w.1 0))] [] := by
  unfold xb_parse_j72 at h
  refine ba_aload_n V dX5_parse_72 0 rfl ?_
  obtain ⟨s55, hc, h⟩ := ba_bnd_some h
  refine ba_callVV (As := []) (st := []) V dX5_parse_73 kcX5_144 ba_sBag (fun l => yb_forgetResults V.inj l hc) ⟨rfl, rfl⟩ ⟨rfl, rfl, Nat.le_of_ble_eq_true rfl, Nat.le_of_ble_eq_true rfl⟩ (Nat.le_of_ble_eq_true rfl) ?_
  exact RT _ _ _ dX5_parse_76 (Option.some.inj h)
def xb_parse (s : ba_St) (a1 : Int32) : Option (ba_St) :=
  if a1 = 0 then
    ba_grd (ba_inb a1 3) <|
    ba_bn2 (xo_takePins s (17 + 2 * ba_ix a1)) fun v52 s53 =>
    ba_grd (ba_inb a1 3) <|
    ba_lt (ba_w s53 2 (ba_ix a1) v52) fun s54 =>
    xb_parse_j72 s54
  else
    if a1 = 1 then
      ba_grd (ba_inb a1 3) <|
      ba_bn2 (xo_takeCups s (17 + 2 * ba_ix a1)) fun v57 s58 =>
      ba_grd (ba_inb a1 3) <|
      ba_lt (ba_w s58 2 (ba_ix a1) v57) fun s59 =>
      xb_parse_j72 s59
    else
      ba_grd (ba_inb a1 3) <|
      ba_bn2 (xo_takeBalls s (17 + 2 * ba_ix a1)) fun v61 s62 =>
      ba_grd (ba_inb a1 3) <|
      ba_lt (ba_w s62 2 (ba_ix a1) v61) fun s63 =>
      xb_parse_j72 s63
set_option maxHeartbeats 4000000 in
set_option maxRecDepth 100000 in
theorem yb_parse {w : ba_W} (hj : ba_inj ba_tC w) (l : Launch) {s : ba_St} {a1 : Int32} {o : ba_St} (h : xb_parse s a1 = some o) : ba_CV ba_tC w l yX5_parse cX5_parse 2 none rm_b_parse [.ref (w.1 0), .int a1] s o := by
  refine ba_metV (lv := [(0, .ref (w.1 0)), (1, .int a1)]) l hj (by decide +kernel) ⟨Nat.le_of_ble_eq_true rfl, rfl⟩ ?_
  intro X V RT
  unfold xb_parse at h
  refine ba_iload_n V dX5_parse_0 1 rfl ?_
  refine ba_if_ne V dX5_parse_1 rfl h (fun h => ?_) (fun h => ?_)
  · refine ba_aload_n V dX5_parse_4 0 rfl ?_
    refine ba_getR V dX5_parse_5 kfX5_15 ba_sBag rfl ?_
    refine ba_iload_n V dX5_parse_8 1 rfl ?_
    refine ba_aload_n V dX5_parse_9 0 rfl ?_
    refine ba_getR V dX5_parse_10 kfX5_22 ba_sBag rfl ?_
    refine ba_aload_n V dX5_parse_13 0 rfl ?_
    refine ba_getR V dX5_parse_14 kfX5_11 ba_sBag rfl ?_
    refine ba_iload_n V dX5_parse_17 1 rfl ?_
    refine ba_aald V dX5_parse_18 ba_sC_1 h (fun z h => ?_)
    have hz51 := ba_elText z
    obtain ⟨v52, s53, hc, h⟩ := ba_bn2_some h
    refine ba_callVI (As := [.ref (w.1 (17 + 2 * ba_ix a1))]) (st := [.int a1, .ref (w.1 2)]) V dX5_parse_19 kcX5_371 ba_sBoard (fun l => yo_takePins V.inj l hz51 hc) ⟨rfl, rfl⟩ ⟨rfl, rfl, Nat.le_of_ble_eq_true rfl, Nat.le_of_ble_eq_true rfl⟩ (Nat.le_of_ble_eq_true rfl) ?_
    refine ba_iast V dX5_parse_22 ba_sC_2 h (fun s54 h => ?_)
    refine ba_goto V dX5_parse_23 rfl ?_
    exact ba_sub [0] rfl (yb_parse_j72 V RT h)
  · refine ba_iload_n V dX5_parse_26 1 rfl ?_
    refine ba_iconst V dX5_parse_27 ba_c1 ?_
    refine ba_icmp_ne V dX5_parse_28 rfl h (fun h => ?_) (fun h => ?_)
    · refine ba_aload_n V dX5_parse_31 0 rfl ?_
      refine ba_getR V dX5_parse_32 kfX5_15 ba_sBag rfl ?_
      refine ba_iload_n V dX5_parse_35 1 rfl ?_
      refine ba_aload_n V dX5_parse_36 0 rfl ?_
      refine ba_getR V dX5_parse_37 kfX5_22 ba_sBag rfl ?_
      refine ba_aload_n V dX5_parse_40 0 rfl ?_
      refine ba_getR V dX5_parse_41 kfX5_11 ba_sBag rfl ?_
      refine ba_iload_n V dX5_parse_44 1 rfl ?_
      refine ba_aald V dX5_parse_45 ba_sC_1 h (fun z h => ?_)
      have hz56 := ba_elText z
      obtain ⟨v57, s58, hc, h⟩ := ba_bn2_some h
      refine ba_callVI (As := [.ref (w.1 (17 + 2 * ba_ix a1))]) (st := [.int a1, .ref (w.1 2)]) V dX5_parse_46 kcX5_375 ba_sBoard (fun l => yo_takeCups V.inj l hz56 hc) ⟨rfl, rfl⟩ ⟨rfl, rfl, Nat.le_of_ble_eq_true rfl, Nat.le_of_ble_eq_true rfl⟩ (Nat.le_of_ble_eq_true rfl) ?_
      refine ba_iast V dX5_parse_49 ba_sC_2 h (fun s59 h => ?_)
      refine ba_goto V dX5_parse_50 rfl ?_
      exact ba_sub [0] rfl (yb_parse_j72 V RT h)
    · refine ba_aload_n V dX5_parse_53 0 rfl ?_
      refine ba_getR V dX5_parse_54 kfX5_15 ba_sBag rfl ?_
      refine ba_iload_n V dX5_parse_57 1 rfl ?_
      refine ba_aload_n V dX5_parse_58 0 rfl ?_
      refine ba_getR V dX5_parse_59 kfX5_22 ba_sBag rfl ?_
      refine ba_aload_n V dX5_parse_62 0 rfl ?_
      refine ba_getR V dX5_parse_63 kfX5_11 ba_sBag rfl ?_
      refine ba_iload_n V dX5_parse_66 1 rfl ?_
      refine ba_aald V dX5_parse_67 ba_sC_1 h (fun z h => ?_)
      have hz60 := ba_elText z
      obtain ⟨v61, s62, hc, h⟩ := ba_bn2_some h
      refine ba_callVI (As := [.ref (w.1 (17 + 2 * ba_ix a1))]) (st := [.int a1, .ref (w.1 2)]) V dX5_parse_68 kcX5_378 ba_sBoard (fun l => yo_takeBalls V.inj l hz60 hc) ⟨rfl, rfl⟩ ⟨rfl, rfl, Nat.le_of_ble_eq_true rfl, Nat.le_of_ble_eq_true rfl⟩ (Nat.le_of_ble_eq_true rfl) ?_
      refine ba_iast V dX5_parse_71 ba_sC_2 h (fun s63 h => ?_)
      exact ba_sub [0] rfl (yb_parse_j72 V RT h)
def xb_type (s : ba_St) (a1 : Int32) (a2 : Int32) : Option (Int32 × ba_St) :=
  ba_bnd (xb_within a1 3) fun v64 =>
  if v64 = 0 then
    some ((-2), s)
  else
    ba_bnd (xb_within a2 256) fun v65 =>
    if v65 = 0 then
      some ((-2), s)
    else
      ba_grd (ba_inb a1 3) <|
      ba_bn2 (xt_append s (17 + 2 * ba_ix a1) a2) fun v67 s68 =>
      if v67 = 0 then
        some ((-4), s68)
      else
        ba_bnd (xb_parse s68 a1) fun s69 =>
        ba_grd (ba_inb a1 3) <|
        some ((s69.1 (17 + 2 * ba_ix a1) 1), s69)
set_option maxHeartbeats 4000000 in
set_option maxRecDepth 100000 in
theorem yb_type {w : ba_W} (hj : ba_inj ba_tC w) (l : Launch) {s : ba_St} {a1 : Int32} {a2 : Int32} {o : Int32 × ba_St} (h : xb_type s a1 a2 = some o) : ba_CI ba_tC w l yX5_type cX5_type 3 (some .int) rm_b_type [.ref (w.1 0), .int a1, .int a2] s o := by
  refine ba_metI (lv := [(0, .ref (w.1 0)), (1, .int a1), (2, .int a2)]) l hj (by decide +kernel) ⟨Nat.le_of_ble_eq_true rfl, rfl⟩ ?_
  intro X V RT
  unfold xb_type at h
  refine ba_iload_n V dX5_type_0 1 rfl ?_
  refine ba_iconst V dX5_type_1 ba_c3 ?_
  obtain ⟨v64, hc, h⟩ := ba_bnd_some h
  refine ba_callSI (As := [.int a1, .int 3]) (st := []) V dX5_type_2 kcX5_97 (fun l => yb_within V.inj l hc) ⟨rfl, rfl⟩ ⟨rfl, rfl, Nat.le_of_ble_eq_true rfl, Nat.le_of_ble_eq_true rfl⟩ (Nat.le_of_ble_eq_true rfl) ?_
  refine ba_if_eq V dX5_type_5 rfl h (fun h => ?_) (fun h => ?_)
  · refine ba_bipush V dX5_type_18 ba_cm2b ?_
    exact RT _ _ _ _ dX5_type_20 (Option.some.inj h)
  · refine ba_iload_n V dX5_type_8 2 rfl ?_
    refine ba_sipush V dX5_type_9 ba_c256s ?_
    obtain ⟨v65, hc, h⟩ := ba_bnd_some h
    refine ba_callSI (As := [.int a2, .int 256]) (st := []) V dX5_type_12 kcX5_97 (fun l => yb_within V.inj l hc) ⟨rfl, rfl⟩ ⟨rfl, rfl, Nat.le_of_ble_eq_true rfl, Nat.le_of_ble_eq_true rfl⟩ (Nat.le_of_ble_eq_true rfl) ?_
    refine ba_if_ne V dX5_type_15 rfl h (fun h => ?_) (fun h => ?_)
    · refine ba_bipush V dX5_type_18 ba_cm2b ?_
      exact RT _ _ _ _ dX5_type_20 (Option.some.inj h)
    · refine ba_aload_n V dX5_type_21 0 rfl ?_
      refine ba_getR V dX5_type_22 kfX5_11 ba_sBag rfl ?_
      refine ba_iload_n V dX5_type_25 1 rfl ?_
      refine ba_aald V dX5_type_26 ba_sC_1 h (fun z h => ?_)
      have hz66 := ba_elText z
      refine ba_iload_n V dX5_type_27 2 rfl ?_
      obtain ⟨v67, s68, hc, h⟩ := ba_bn2_some h
      refine ba_callVI (As := [.int a2]) (st := []) V dX5_type_28 kcX5_101 (ba_sText hz66) (fun l => yt_append V.inj l hz66 hc) ⟨rfl, rfl⟩ ⟨rfl, rfl, Nat.le_of_ble_eq_true rfl, Nat.le_of_ble_eq_true rfl⟩ (Nat.le_of_ble_eq_true rfl) ?_
      refine ba_if_ne V dX5_type_31 rfl h (fun h => ?_) (fun h => ?_)
      · refine ba_bipush V dX5_type_34 ba_cm4b ?_
        exact RT _ _ _ _ dX5_type_36 (Option.some.inj h)
      · refine ba_aload_n V dX5_type_37 0 rfl ?_
        refine ba_iload_n V dX5_type_38 1 rfl ?_
        obtain ⟨s69, hc, h⟩ := ba_bnd_some h
        refine ba_callVV (As := [.int a1]) (st := []) V dX5_type_39 kcX5_105 ba_sBag (fun l => yb_parse V.inj l hc) ⟨rfl, rfl⟩ ⟨rfl, rfl, Nat.le_of_ble_eq_true rfl, Nat.le_of_ble_eq_true rfl⟩ (Nat.le_of_ble_eq_true rfl) ?_
        refine ba_aload_n V dX5_type_42 0 rfl ?_
        refine ba_getR V dX5_type_43 kfX5_11 ba_sBag rfl ?_
        refine ba_iload_n V dX5_type_46 1 rfl ?_
        refine ba_aald V dX5_type_47 ba_sC_1 h (fun z h => ?_)
        have hz70 := ba_elText z
        refine ba_getI V dX5_type_48 kfX5_108 (ba_sText hz70) rfl ?_
        exact RT _ _ _ _ dX5_type_51 (Option.some.inj h)
def xb_wipe (s : ba_St) (a1 : Int32) : Option (Int32 × ba_St) :=
  ba_bnd (xb_within a1 3) fun v71 =>
  if v71 = 0 then
    some ((-2), s)
  else
    ba_grd (ba_inb a1 3) <|
    ba_lt (s.1 (17 + 2 * ba_ix a1) 1) fun x73 =>
    ba_grd (ba_inb a1 3) <|
    ba_lt (ba_w s (17 + 2 * ba_ix a1) 1 0) fun s75 =>
    ba_bnd (xb_parse s75 a1) fun s76 =>
    some (x73, s76)
set_option maxHeartbeats 4000000 in
set_option maxRecDepth 100000 in
theorem yb_wipe {w : ba_W} (hj : ba_inj ba_tC w) (l : Launch) {s : ba_St} {a1 : Int32} {o : Int32 × ba_St} (h : xb_wipe s a1 = some o) : ba_CI ba_tC w l yX5_wipe cX5_wipe 3 (some .int) rm_b_wipe [.ref (w.1 0), .int a1] s o := by
  refine ba_metI (lv := [(0, .ref (w.1 0)), (1, .int a1)]) l hj (by decide +kernel) ⟨Nat.le_of_ble_eq_true rfl, rfl⟩ ?_
  intro X V RT
  unfold xb_wipe at h
  refine ba_iload_n V dX5_wipe_0 1 rfl ?_
  refine ba_iconst V dX5_wipe_1 ba_c3 ?_
  obtain ⟨v71, hc, h⟩ := ba_bnd_some h
  refine ba_callSI (As := [.int a1, .int 3]) (st := []) V dX5_wipe_2 kcX5_97 (fun l => yb_within V.inj l hc) ⟨rfl, rfl⟩ ⟨rfl, rfl, Nat.le_of_ble_eq_true rfl, Nat.le_of_ble_eq_true rfl⟩ (Nat.le_of_ble_eq_true rfl) ?_
  refine ba_if_ne V dX5_wipe_5 rfl h (fun h => ?_) (fun h => ?_)
  · refine ba_bipush V dX5_wipe_8 ba_cm2b ?_
    exact RT _ _ _ _ dX5_wipe_10 (Option.some.inj h)
  · refine ba_aload_n V dX5_wipe_11 0 rfl ?_
    refine ba_getR V dX5_wipe_12 kfX5_11 ba_sBag rfl ?_
    refine ba_iload_n V dX5_wipe_15 1 rfl ?_
    refine ba_aald V dX5_wipe_16 ba_sC_1 h (fun z h => ?_)
    have hz72 := ba_elText z
    refine ba_getI V dX5_wipe_17 kfX5_108 (ba_sText hz72) rfl ?_
    refine ba_letI h (fun x73 h => ?_)
    refine ba_istore_n (lv' := [(2, .int x73), (0, .ref (w.1 0)), (1, .int a1)]) V dX5_wipe_20 (by decide) rfl ?_
    refine ba_aload_n V dX5_wipe_21 1 rfl ?_
    refine ba_getR V dX5_wipe_22 kfX5_11 ba_sBag rfl ?_
    refine ba_iload_n V dX5_wipe_25 2 rfl ?_
    refine ba_aald V dX5_wipe_26 ba_sC_1 h (fun z h => ?_)
    have hz74 := ba_elText z
    refine ba_iconst V dX5_wipe_27 ba_c0 ?_
    refine ba_putI V dX5_wipe_28 kfX5_108 (ba_sText hz74) rfl h (fun s75 h => ?_)
    refine ba_aload_n V dX5_wipe_31 1 rfl ?_
    refine ba_iload_n V dX5_wipe_32 2 rfl ?_
    obtain ⟨s76, hc, h⟩ := ba_bnd_some h
    refine ba_callVV (As := [.int a1]) (st := []) V dX5_wipe_33 kcX5_105 ba_sBag (fun l => yb_parse V.inj l hc) ⟨rfl, rfl⟩ ⟨rfl, rfl, Nat.le_of_ble_eq_true rfl, Nat.le_of_ble_eq_true rfl⟩ (Nat.le_of_ble_eq_true rfl) ?_
    refine ba_iload_n V dX5_wipe_36 0 rfl ?_
    exact RT _ _ _ _ dX5_wipe_37 (Option.some.inj h)
def xb_undo (s : ba_St) (a1 : Int32) : Option (Int32 × ba_St) :=
  ba_bnd (xb_within a1 3) fun v77 =>
  if v77 = 0 then
    some ((-2), s)
  else
    ba_grd (ba_inb a1 3) <|
    if (s.1 (17 + 2 * ba_ix a1) 1) = 0 then
      some ((-3), s)
    else
      ba_grd (ba_inb a1 3) <|
      ba_lt (ba_w s (17 + 2 * ba_ix a1) 1 ((s.1 (17 + 2 * ba_ix a1) 1) - 1)) fun s80 =>
      ba_bnd (xb_parse s80 a1) fun s81 =>
      ba_grd (ba_inb a1 3) <|
      some ((s81.1 (17 + 2 * ba_ix a1) 1), s81)
set_option maxHeartbeats 4000000 in
set_option maxRecDepth 100000 in
theorem yb_undo {w : ba_W} (hj : ba_inj ba_tC w) (l : Launch) {s : ba_St} {a1 : Int32} {o : Int32 × ba_St} (h : xb_undo s a1 = some o) : ba_CI ba_tC w l yX5_undo cX5_undo 2 (some .int) rm_b_undo [.ref (w.1 0), .int a1] s o := by
  refine ba_metI (lv := [(0, .ref (w.1 0)), (1, .int a1)]) l hj (by decide +kernel) ⟨Nat.le_of_ble_eq_true rfl, rfl⟩ ?_
  intro X V RT
  unfold xb_undo at h
  refine ba_iload_n V dX5_undo_0 1 rfl ?_
  refine ba_iconst V dX5_undo_1 ba_c3 ?_
  obtain ⟨v77, hc, h⟩ := ba_bnd_some h
  refine ba_callSI (As := [.int a1, .int 3]) (st := []) V dX5_undo_2 kcX5_97 (fun l => yb_within V.inj l hc) ⟨rfl, rfl⟩ ⟨rfl, rfl, Nat.le_of_ble_eq_true rfl, Nat.le_of_ble_eq_true rfl⟩ (Nat.le_of_ble_eq_true rfl) ?_
  refine ba_if_ne V dX5_undo_5 rfl h (fun h => ?_) (fun h => ?_)
  · refine ba_bipush V dX5_undo_8 ba_cm2b ?_
    exact RT _ _ _ _ dX5_undo_10 (Option.some.inj h)
  · refine ba_aload_n V dX5_undo_11 0 rfl ?_
    refine ba_getR V dX5_undo_12 kfX5_11 ba_sBag rfl ?_
    refine ba_iload_n V dX5_undo_15 1 rfl ?_
    refine ba_aald V dX5_undo_16 ba_sC_1 h (fun z h => ?_)
    have hz78 := ba_elText z
    refine ba_getI V dX5_undo_17 kfX5_108 (ba_sText hz78) rfl ?_
    refine ba_if_ne V dX5_undo_20 rfl h (fun h => ?_) (fun h => ?_)
    · refine ba_bipush V dX5_undo_23 ba_cm3b ?_
      exact RT _ _ _ _ dX5_undo_25 (Option.some.inj h)
    · refine ba_aload_n V dX5_undo_26 0 rfl ?_
      refine ba_getR V dX5_undo_27 kfX5_11 ba_sBag rfl ?_
      refine ba_iload_n V dX5_undo_30 1 rfl ?_
      refine ba_aald V dX5_undo_31 ba_sC_1 h (fun z h => ?_)
      have hz79 := ba_elText z
      refine ba_dup V dX5_undo_32 rfl ?_
      refine ba_getI V dX5_undo_33 kfX5_108 (ba_sText hz79) rfl ?_
      refine ba_iconst V dX5_undo_36 ba_c1 ?_
      refine ba_isub V dX5_undo_37 ?_
      refine ba_putI V dX5_undo_38 kfX5_108 (ba_sText hz79) rfl h (fun s80 h => ?_)
      refine ba_aload_n V dX5_undo_41 0 rfl ?_
      refine ba_iload_n V dX5_undo_42 1 rfl ?_
      obtain ⟨s81, hc, h⟩ := ba_bnd_some h
      refine ba_callVV (As := [.int a1]) (st := []) V dX5_undo_43 kcX5_105 ba_sBag (fun l => yb_parse V.inj l hc) ⟨rfl, rfl⟩ ⟨rfl, rfl, Nat.le_of_ble_eq_true rfl, Nat.le_of_ble_eq_true rfl⟩ (Nat.le_of_ble_eq_true rfl) ?_
      refine ba_aload_n V dX5_undo_46 0 rfl ?_
      refine ba_getR V dX5_undo_47 kfX5_11 ba_sBag rfl ?_
      refine ba_iload_n V dX5_undo_50 1 rfl ?_
      refine ba_aald V dX5_undo_51 ba_sC_1 h (fun z h => ?_)
      have hz82 := ba_elText z
      refine ba_getI V dX5_undo_52 kfX5_108 (ba_sText hz82) rfl ?_
      exact RT _ _ _ _ dX5_undo_55 (Option.some.inj h)
def xb_fault (s : ba_St) (a1 : Int32) : Option (Int32) :=
  ba_bnd (xb_within a1 3) fun v83 =>
  if v83 = 0 then
    some (-2)
  else
    ba_grd (ba_inb a1 3) <|
    some (s.1 2 (ba_ix a1))
set_option maxHeartbeats 4000000 in
set_option maxRecDepth 100000 in
theorem yb_fault {w : ba_W} (hj : ba_inj ba_tC w) (l : Launch) {s : ba_St} {a1 : Int32} {o : Int32} (h : xb_fault s a1 = some o) : ba_CI ba_tC w l yX5_fault cX5_fault 2 (some .int) rm_b_fault [.ref (w.1 0), .int a1] s (o, s) := by
  refine ba_metI (lv := [(0, .ref (w.1 0)), (1, .int a1)]) l hj (by decide +kernel) ⟨Nat.le_of_ble_eq_true rfl, rfl⟩ ?_
  intro X V RT
  replace RT := fun pc lv v D e => RT pc lv v s D (congrArg (fun q => (q, s)) e)
  unfold xb_fault at h
  refine ba_iload_n V dX5_fault_0 1 rfl ?_
  refine ba_iconst V dX5_fault_1 ba_c3 ?_
  obtain ⟨v83, hc, h⟩ := ba_bnd_some h
  refine ba_callSI (As := [.int a1, .int 3]) (st := []) V dX5_fault_2 kcX5_97 (fun l => yb_within V.inj l hc) ⟨rfl, rfl⟩ ⟨rfl, rfl, Nat.le_of_ble_eq_true rfl, Nat.le_of_ble_eq_true rfl⟩ (Nat.le_of_ble_eq_true rfl) ?_
  refine ba_if_eq V dX5_fault_5 rfl h (fun h => ?_) (fun h => ?_)
  · refine ba_bipush V dX5_fault_17 ba_cm2b ?_
    exact RT _ _ _ dX5_fault_19 (Option.some.inj h)
  · refine ba_aload_n V dX5_fault_8 0 rfl ?_
    refine ba_getR V dX5_fault_9 kfX5_15 ba_sBag rfl ?_
    refine ba_iload_n V dX5_fault_12 1 rfl ?_
    refine ba_iald V dX5_fault_13 ba_sC_2 h (fun h => ?_)
    refine ba_goto V dX5_fault_14 rfl ?_
    exact RT _ _ _ dX5_fault_19 (Option.some.inj h)
def xb_pin (s : ba_St) (a1 : Int32) (a2 : Int32) : Option (Int32) :=
  ba_bnd (xb_within a1 (s.1 3 3)) fun v84 =>
  if v84 = 0 then
    some (-2)
  else
    if a2 = 0 then
      ba_grd (ba_inb a1 12) <|
      some ((s.1 4 (ba_ix a1)) / 9)
    else if a2 = 1 then
      ba_grd (ba_inb a1 12) <|
      some (ba_irm (s.1 4 (ba_ix a1)) 9)
    else if a2 = 2 then
      ba_grd (ba_inb a1 12) <|
      some (s.1 5 (ba_ix a1))
    else
      some (-2)
set_option maxHeartbeats 4000000 in
set_option maxRecDepth 100000 in
theorem yb_pin {w : ba_W} (hj : ba_inj ba_tC w) (l : Launch) {s : ba_St} {a1 : Int32} {a2 : Int32} {o : Int32} (h : xb_pin s a1 a2 = some o) : ba_CI ba_tC w l yX5_pin cX5_pin 3 (some .int) rm_b_pin [.ref (w.1 0), .int a1, .int a2] s (o, s) := by
  refine ba_metI (lv := [(0, .ref (w.1 0)), (1, .int a1), (2, .int a2)]) l hj (by decide +kernel) ⟨Nat.le_of_ble_eq_true rfl, rfl⟩ ?_
  intro X V RT
  replace RT := fun pc lv v D e => RT pc lv v s D (congrArg (fun q => (q, s)) e)
  unfold xb_pin at h
  refine ba_iload_n V dX5_pin_0 1 rfl ?_
  refine ba_aload_n V dX5_pin_1 0 rfl ?_
  refine ba_getR V dX5_pin_2 kfX5_22 ba_sBag rfl ?_
  refine ba_getI V dX5_pin_5 kfX5_111 ba_sBoard rfl ?_
  obtain ⟨v84, hc, h⟩ := ba_bnd_some h
  refine ba_callSI (As := [.int a1, .int (s.1 3 3)]) (st := []) V dX5_pin_8 kcX5_97 (fun l => yb_within V.inj l hc) ⟨rfl, rfl⟩ ⟨rfl, rfl, Nat.le_of_ble_eq_true rfl, Nat.le_of_ble_eq_true rfl⟩ (Nat.le_of_ble_eq_true rfl) ?_
  refine ba_if_ne V dX5_pin_11 rfl h (fun h => ?_) (fun h => ?_)
  · refine ba_bipush V dX5_pin_14 ba_cm2b ?_
    exact RT _ _ _ dX5_pin_16 (Option.some.inj h)
  · refine ba_iload_n V dX5_pin_17 2 rfl ?_
    refine ba_case h (fun e0 h => ?_) (fun e0 h => ?_)
    · refine ba_swT (off := 26) (tgt := 44) V dX5_pin_18 (Or.inl ⟨by rw [e0]; decide, by rw [e0]; decide, by rw [e0]; rfl⟩) rfl ?_
      refine ba_aload_n V dX5_pin_44 0 rfl ?_
      refine ba_getR V dX5_pin_45 kfX5_22 ba_sBag rfl ?_
      refine ba_getR V dX5_pin_48 kfX5_114 ba_sBoard rfl ?_
      refine ba_iload_n V dX5_pin_51 1 rfl ?_
      refine ba_iald V dX5_pin_52 ba_sC_4 h (fun h => ?_)
      refine ba_bipush V dX5_pin_53 ba_c9b ?_
      refine ba_idiv V dX5_pin_55 (by decide) ?_
      exact RT _ _ _ dX5_pin_56 (Option.some.inj h)
    refine ba_case h (fun e1 h => ?_) (fun e1 h => ?_)
    · refine ba_swT (off := 39) (tgt := 57) V dX5_pin_18 (Or.inl ⟨by rw [e1]; decide, by rw [e1]; decide, by rw [e1]; rfl⟩) rfl ?_
      refine ba_aload_n V dX5_pin_57 0 rfl ?_
      refine ba_getR V dX5_pin_58 kfX5_22 ba_sBag rfl ?_
      refine ba_getR V dX5_pin_61 kfX5_114 ba_sBoard rfl ?_
      refine ba_iload_n V dX5_pin_64 1 rfl ?_
      refine ba_iald V dX5_pin_65 ba_sC_4 h (fun h => ?_)
      refine ba_bipush V dX5_pin_66 ba_c9b ?_
      refine ba_irem V dX5_pin_68 (by decide) ?_
      exact RT _ _ _ dX5_pin_69 (Option.some.inj h)
    refine ba_case h (fun e2 h => ?_) (fun e2 h => ?_)
    · refine ba_swT (off := 52) (tgt := 70) V dX5_pin_18 (Or.inl ⟨by rw [e2]; decide, by rw [e2]; decide, by rw [e2]; rfl⟩) rfl ?_
      refine ba_aload_n V dX5_pin_70 0 rfl ?_
      refine ba_getR V dX5_pin_71 kfX5_22 ba_sBag rfl ?_
      refine ba_getR V dX5_pin_74 kfX5_117 ba_sBoard rfl ?_
      refine ba_iload_n V dX5_pin_77 1 rfl ?_
      refine ba_iald V dX5_pin_78 ba_sC_5 h (fun h => ?_)
      exact RT _ _ _ dX5_pin_79 (Option.some.inj h)
    refine ba_swT (off := 62) (tgt := 80) V dX5_pin_18 (Or.inr ⟨by have g0 : ¬ Int32.toInt a2 = 0 := ba_ne e0; have g1 : ¬ Int32.toInt a2 = 1 := ba_ne e1; have g2 : ¬ Int32.toInt a2 = 2 := ba_ne e2; omega, rfl⟩) rfl ?_
    refine ba_bipush V dX5_pin_80 ba_cm2b ?_
    exact RT _ _ _ dX5_pin_82 (Option.some.inj h)
def xo_allEvents (s : ba_St) : Option (Int32) :=
  some ((ba_fishl 1 (s.1 10 1)) - 1)
set_option maxHeartbeats 4000000 in
set_option maxRecDepth 100000 in
theorem yo_allEvents {w : ba_W} (hj : ba_inj ba_tC w) (l : Launch) {s : ba_St} {o : Int32} (h : xo_allEvents s = some o) : ba_CI ba_tC w l yX0_allEvents cX0_allEvents 1 (some .int) rm_o_allEvents [.ref (w.1 3)] s (o, s) := by
  refine ba_metI (lv := [(0, .ref (w.1 3))]) l hj (by decide +kernel) ⟨Nat.le_of_ble_eq_true rfl, rfl⟩ ?_
  intro X V RT
  replace RT := fun pc lv v D e => RT pc lv v s D (congrArg (fun q => (q, s)) e)
  unfold xo_allEvents at h
  refine ba_iconst V dX0_allEvents_0 ba_c1 ?_
  refine ba_aload_n V dX0_allEvents_1 0 rfl ?_
  refine ba_getR V dX0_allEvents_2 kfX0_43 ba_sBoard rfl ?_
  refine ba_getI V dX0_allEvents_5 kfX0_53 (ba_sSlips ba_isSlips_10) rfl ?_
  refine ba_ishl V dX0_allEvents_8 ?_
  refine ba_iconst V dX0_allEvents_9 ba_c1 ?_
  refine ba_isub V dX0_allEvents_10 ?_
  exact RT _ _ _ dX0_allEvents_11 (Option.some.inj h)
def xc_takeTold (s : ba_St) (b : Nat) : Option (ba_St) :=
  ba_grd (ba_cok 0 0 12 12 12) <|
  ba_lt (ba_cp s 5 (b + 1) (ba_ix 0) (ba_ix 0) (ba_ix 12)) fun s85 =>
  ba_grd (ba_cok 0 0 12 12 12) <|
  ba_lt (ba_cp s85 8 (b + 2) (ba_ix 0) (ba_ix 0) (ba_ix 12)) fun s86 =>
  ba_grd (ba_cok 0 0 12 12 12) <|
  ba_lt (ba_cp s86 9 (b + 3) (ba_ix 0) (ba_ix 0) (ba_ix 12)) fun s87 =>
  ba_lt (ba_w s87 b 4 (s87.1 3 7)) fun s88 =>
  ba_bnd (xo_allEvents s88) fun v89 =>
  ba_lt (ba_w s88 b 5 v89) fun s90 =>
  some s90
set_option maxHeartbeats 4000000 in
set_option maxRecDepth 100000 in
theorem yc_takeTold {w : ba_W} (hj : ba_inj ba_tC w) (l : Launch) {s : ba_St} {b : Nat} (hb : ba_isCourse b) {o : ba_St} (h : xc_takeTold s b = some o) : ba_CV ba_tC w l yX1_takeTold cX1_takeTold 1 none rm_c_takeTold [.ref (w.1 b)] s o := by
  refine ba_metV (lv := [(0, .ref (w.1 b))]) l hj (by decide +kernel) ⟨Nat.le_of_ble_eq_true rfl, rfl⟩ ?_
  intro X V RT
  unfold xc_takeTold at h
  refine ba_aload_n V dX1_takeTold_0 0 rfl ?_
  refine ba_getR V dX1_takeTold_1 kfX1_67 (ba_sCourse hb) rfl ?_
  refine ba_getR V dX1_takeTold_4 kfX1_71 ba_sBoard rfl ?_
  refine ba_iconst V dX1_takeTold_7 ba_c0 ?_
  refine ba_aload_n V dX1_takeTold_8 0 rfl ?_
  refine ba_getR V dX1_takeTold_9 kfX1_9 (ba_sCourse hb) rfl ?_
  refine ba_iconst V dX1_takeTold_12 ba_c0 ?_
  refine ba_bipush V dX1_takeTold_13 ba_c12b ?_
  refine ba_acopy V dX1_takeTold_15 ⟨kjX1_76.1, kjX1_76.2.1, kjX1_76.2.2.1, kjX1_76.2.2.2, Nat.le_of_ble_eq_true rfl, by decide +kernel⟩ ba_sC_5 (ba_sCourse_1 hb) h (fun s85 h => ?_)
  refine ba_aload_n V dX1_takeTold_18 0 rfl ?_
  refine ba_getR V dX1_takeTold_19 kfX1_67 (ba_sCourse hb) rfl ?_
  refine ba_getR V dX1_takeTold_22 kfX1_82 ba_sBoard rfl ?_
  refine ba_iconst V dX1_takeTold_25 ba_c0 ?_
  refine ba_aload_n V dX1_takeTold_26 0 rfl ?_
  refine ba_getR V dX1_takeTold_27 kfX1_15 (ba_sCourse hb) rfl ?_
  refine ba_iconst V dX1_takeTold_30 ba_c0 ?_
  refine ba_bipush V dX1_takeTold_31 ba_c12b ?_
  refine ba_acopy V dX1_takeTold_33 ⟨kjX1_76.1, kjX1_76.2.1, kjX1_76.2.2.1, kjX1_76.2.2.2, Nat.le_of_ble_eq_true rfl, by decide +kernel⟩ ba_sC_8 (ba_sCourse_2 hb) h (fun s86 h => ?_)
  refine ba_aload_n V dX1_takeTold_36 0 rfl ?_
  refine ba_getR V dX1_takeTold_37 kfX1_67 (ba_sCourse hb) rfl ?_
  refine ba_getR V dX1_takeTold_40 kfX1_85 ba_sBoard rfl ?_
  refine ba_iconst V dX1_takeTold_43 ba_c0 ?_
  refine ba_aload_n V dX1_takeTold_44 0 rfl ?_
  refine ba_getR V dX1_takeTold_45 kfX1_18 (ba_sCourse hb) rfl ?_
  refine ba_iconst V dX1_takeTold_48 ba_c0 ?_
  refine ba_bipush V dX1_takeTold_49 ba_c12b ?_
  refine ba_acopy V dX1_takeTold_51 ⟨kjX1_76.1, kjX1_76.2.1, kjX1_76.2.2.1, kjX1_76.2.2.2, Nat.le_of_ble_eq_true rfl, by decide +kernel⟩ ba_sC_9 (ba_sCourse_3 hb) h (fun s87 h => ?_)
  refine ba_aload_n V dX1_takeTold_54 0 rfl ?_
  refine ba_aload_n V dX1_takeTold_55 0 rfl ?_
  refine ba_getR V dX1_takeTold_56 kfX1_67 (ba_sCourse hb) rfl ?_
  refine ba_getI V dX1_takeTold_59 kfX1_88 ba_sBoard rfl ?_
  refine ba_putI V dX1_takeTold_62 kfX1_21 (ba_sCourse hb) rfl h (fun s88 h => ?_)
  refine ba_aload_n V dX1_takeTold_65 0 rfl ?_
  refine ba_aload_n V dX1_takeTold_66 0 rfl ?_
  refine ba_getR V dX1_takeTold_67 kfX1_67 (ba_sCourse hb) rfl ?_
  obtain ⟨v89, hc, h⟩ := ba_bnd_some h
  refine ba_callVI (As := []) (st := [.ref (w.1 b)]) V dX1_takeTold_70 kcX1_89 ba_sBoard (fun l => yo_allEvents V.inj l hc) ⟨rfl, rfl⟩ ⟨rfl, rfl, Nat.le_of_ble_eq_true rfl, Nat.le_of_ble_eq_true rfl⟩ (Nat.le_of_ble_eq_true rfl) ?_
  refine ba_putI V dX1_takeTold_73 kfX1_25 (ba_sCourse hb) rfl h (fun s90 h => ?_)
  exact RT _ _ _ dX1_takeTold_76 (Option.some.inj h)
def xc_begin_j42_2 (b : Nat) (k : (ba_St × Int32) → Option (ba_St)) (s : ba_St) (z1 : Int32) (q0 : Int32) (q1 : Int32) : Option (ba_St) :=
  ba_grd (ba_inb q1 12) <|
  ba_lt (ba_w s (b + 4) (ba_ix q1) q0) fun s91 =>
  ba_lt (z1 + 1) fun x92 =>
  k (s91, x92)
set_option maxHeartbeats 4000000 in
set_option maxRecDepth 100000 in
theorem yc_begin_j42_2 {w : ba_W} {X : ba_X} (V : ba_V ba_tC w 2 X cX1_begin RX1 rm_c_begin) {b : Nat} (hb : ba_isCourse b) {s : ba_St} {z1 : Int32} {q0 : Int32} {q1 : Int32} {o : ba_St} {k : (ba_St × Int32) → Option (ba_St)} (hk : ∀ (s : ba_St) (z1 : Int32), k (s, z1) = some o → ba_G ba_tC w 2 X s 2 [(0, .ref (w.1 b)), (1, .int z1)] []) (EX : ∀ (s : ba_St) , s = o → ba_G ba_tC w 2 X s 49 [(0, .ref (w.1 b))] []) (h : xc_begin_j42_2 b k s z1 q0 q1 = some o) : ba_G ba_tC w 2 X s 42 [(0, .ref (w.1 b)), (1, .int z1)] [.int q0, .int q1, .ref (w.1 (b + 4))] := by
  unfold xc_begin_j42_2 at h
  refine ba_iast V dX1_begin_42 (ba_sCourse_4 hb) h (fun s91 h => ?_)
  refine ba_iinc V dX1_begin_43 1 rfl ba_c1 (by decide) h (fun x92 h => ⟨[(1, .int x92), (0, .ref (w.1 b))], rfl, ?_⟩)
  refine ba_goto V dX1_begin_46 rfl ?_
  exact ba_sub [1, 0] rfl (hk _ _ h)
def xc_begin_l2 (b : Nat) (k : (ba_St × Int32) → Option (ba_St)) (a : (ba_St × Int32)) : Option (ba_St) :=
  match a with
  | (s, z1) =>
    if 12 ≤ z1 then
      some s
    else
      ba_grd (ba_inb z1 12) <|
      if (s.1 (b + 1) (ba_ix z1)) = 3 then
        xc_begin_j42_2 b k s z1 0 z1
      else
        ba_grd (ba_inb z1 12) <|
        if (s.1 (b + 1) (ba_ix z1)) = 1 then
          xc_begin_j42_2 b k s z1 1 z1
        else
          xc_begin_j42_2 b k s z1 (-1) z1
set_option maxHeartbeats 4000000 in
set_option maxRecDepth 100000 in
theorem yc_begin_l2 {w : ba_W} {X : ba_X} (V : ba_V ba_tC w 2 X cX1_begin RX1 rm_c_begin) {b : Nat} (hb : ba_isCourse b) {o : ba_St} (EX : ∀ (s : ba_St) , s = o → ba_G ba_tC w 2 X s 49 [(0, .ref (w.1 b))] []) : ∀ (n : Nat) (s : ba_St) (z1 : Int32), ba_fix (xc_begin_l2 b) n (s, z1) = some o → ba_G ba_tC w 2 X s 2 [(0, .ref (w.1 b)), (1, .int z1)] [] := by
  intro n s z1 h
  refine ba_loop (P := fun a => ba_G ba_tC w 2 X a.1 2 [(0, .ref (w.1 b)), (1, .int a.2)] []) ?_ n (s, z1) h
  intro k hk0 a h
  obtain ⟨s, z1⟩ := a
  have hk : ∀ (s : ba_St) (z1 : Int32), k (s, z1) = some o → ba_G ba_tC w 2 X s 2 [(0, .ref (w.1 b)), (1, .int z1)] [] := fun s z1 e => hk0 (s, z1) e
  unfold xc_begin_l2 at h
  try dsimp only at h ⊢
  refine ba_iload_n V dX1_begin_2 1 rfl ?_
  refine ba_bipush V dX1_begin_3 ba_c12b ?_
  refine ba_icmp_ge V dX1_begin_5 rfl h (fun h => ?_) (fun h => ?_)
  · exact ba_sub [0] rfl (EX _ (Option.some.inj h))
  · refine ba_aload_n V dX1_begin_8 0 rfl ?_
    refine ba_getR V dX1_begin_9 kfX1_28 (ba_sCourse hb) rfl ?_
    refine ba_iload_n V dX1_begin_12 1 rfl ?_
    refine ba_aload_n V dX1_begin_13 0 rfl ?_
    refine ba_getR V dX1_begin_14 kfX1_9 (ba_sCourse hb) rfl ?_
    refine ba_iload_n V dX1_begin_17 1 rfl ?_
    refine ba_iald V dX1_begin_18 (ba_sCourse_1 hb) h (fun h => ?_)
    refine ba_iconst V dX1_begin_19 ba_c3 ?_
    refine ba_icmp_ne V dX1_begin_20 rfl h (fun h => ?_) (fun h => ?_)
    · refine ba_iconst V dX1_begin_23 ba_c0 ?_
      refine ba_goto V dX1_begin_24 rfl ?_
      exact ba_sub [0, 1] rfl (yc_begin_j42_2 V hb hk EX h)
    · refine ba_aload_n V dX1_begin_27 0 rfl ?_
      refine ba_getR V dX1_begin_28 kfX1_9 (ba_sCourse hb) rfl ?_
      refine ba_iload_n V dX1_begin_31 1 rfl ?_
      refine ba_iald V dX1_begin_32 (ba_sCourse_1 hb) h (fun h => ?_)
      refine ba_iconst V dX1_begin_33 ba_c1 ?_
      refine ba_icmp_ne V dX1_begin_34 rfl h (fun h => ?_) (fun h => ?_)
      · refine ba_iconst V dX1_begin_37 ba_c1 ?_
        refine ba_goto V dX1_begin_38 rfl ?_
        exact ba_sub [0, 1] rfl (yc_begin_j42_2 V hb hk EX h)
      · refine ba_iconst V dX1_begin_41 ba_cm1 ?_
        exact ba_sub [0, 1] rfl (yc_begin_j42_2 V hb hk EX h)
def xc_begin (s : ba_St) (b : Nat) : Option (ba_St) :=
  ba_bnd (ba_fix (xc_begin_l2 b) 1000 (s, 0)) fun s93 =>
    ba_bnd (xj_fill s93 (b + 5) 72 (-1)) fun s94 =>
    ba_bnd (xj_fill s94 (b + 6) 8 0) fun s95 =>
    ba_bnd (xj_fill s95 (b + 7) 12 (-1)) fun s96 =>
    ba_lt (ba_w s96 b 10 ((ba_fishl 1 (s96.1 b 4)) - 1)) fun s97 =>
    ba_bnd (xj_fill s97 (b + 9) 9 0) fun s98 =>
    ba_bnd (xj_fill s98 (b + 10) 9 0) fun s99 =>
    ba_bnd (xj_fill s99 (b + 11) 12 0) fun s100 =>
    ba_bnd (xj_fill s100 (b + 12) 12 (-1)) fun s101 =>
    ba_bnd (xj_fill s101 (b + 13) 12 0) fun s102 =>
    ba_bnd (xj_fill s102 (b + 14) 24 0) fun s103 =>
    ba_lt (ba_w s103 b 18 0) fun s104 =>
    some s104
set_option maxHeartbeats 4000000 in
set_option maxRecDepth 100000 in
theorem yc_begin {w : ba_W} (hj : ba_inj ba_tC w) (l : Launch) {s : ba_St} {b : Nat} (hb : ba_isCourse b) {o : ba_St} (h : xc_begin s b = some o) : ba_CV ba_tC w l yX1_begin cX1_begin 2 none rm_c_begin [.ref (w.1 b)] s o := by
  refine ba_metV (lv := [(0, .ref (w.1 b))]) l hj (by decide +kernel) ⟨Nat.le_of_ble_eq_true rfl, rfl⟩ ?_
  intro X V RT
  unfold xc_begin at h
  refine ba_iconst V dX1_begin_0 ba_c0 ?_
  refine ba_istore_n (lv' := [(1, .int 0), (0, .ref (w.1 b))]) V dX1_begin_1 (by decide) rfl ?_
  obtain ⟨o, ho, h⟩ := ba_bnd_some h
  refine ba_sub [1, 0] rfl (yc_begin_l2 V hb (o := o) (fun s93 e => ?_) 1000 s 0 ho)
  subst e
  try dsimp only at h
  refine ba_aload_n V dX1_begin_49 0 rfl ?_
  refine ba_getR V dX1_begin_50 kfX1_31 (ba_sCourse hb) rfl ?_
  refine ba_iconst V dX1_begin_53 ba_cm1 ?_
  obtain ⟨s94, hc, h⟩ := ba_bnd_some h
  refine ba_callSV (As := [.ref (w.1 (b + 5)), .int (-1)]) (st := []) V dX1_begin_54 kcX1_107 (fun l => yj_fill V.inj l (ba_sCourse_5 hb) hc) ⟨rfl, rfl⟩ ⟨rfl, rfl, Nat.le_of_ble_eq_true rfl, Nat.le_of_ble_eq_true rfl⟩ (Nat.le_of_ble_eq_true rfl) ?_
  refine ba_aload_n V dX1_begin_57 0 rfl ?_
  refine ba_getR V dX1_begin_58 kfX1_34 (ba_sCourse hb) rfl ?_
  refine ba_iconst V dX1_begin_61 ba_c0 ?_
  obtain ⟨s95, hc, h⟩ := ba_bnd_some h
  refine ba_callSV (As := [.ref (w.1 (b + 6)), .int 0]) (st := []) V dX1_begin_62 kcX1_107 (fun l => yj_fill V.inj l (ba_sCourse_6 hb) hc) ⟨rfl, rfl⟩ ⟨rfl, rfl, Nat.le_of_ble_eq_true rfl, Nat.le_of_ble_eq_true rfl⟩ (Nat.le_of_ble_eq_true rfl) ?_
  refine ba_aload_n V dX1_begin_65 0 rfl ?_
  refine ba_getR V dX1_begin_66 kfX1_37 (ba_sCourse hb) rfl ?_
  refine ba_iconst V dX1_begin_69 ba_cm1 ?_
  obtain ⟨s96, hc, h⟩ := ba_bnd_some h
  refine ba_callSV (As := [.ref (w.1 (b + 7)), .int (-1)]) (st := []) V dX1_begin_70 kcX1_107 (fun l => yj_fill V.inj l (ba_sCourse_7 hb) hc) ⟨rfl, rfl⟩ ⟨rfl, rfl, Nat.le_of_ble_eq_true rfl, Nat.le_of_ble_eq_true rfl⟩ (Nat.le_of_ble_eq_true rfl) ?_
  refine ba_aload_n V dX1_begin_73 0 rfl ?_
  refine ba_iconst V dX1_begin_74 ba_c1 ?_
  refine ba_aload_n V dX1_begin_75 0 rfl ?_
  refine ba_getI V dX1_begin_76 kfX1_21 (ba_sCourse hb) rfl ?_
  refine ba_ishl V dX1_begin_79 ?_
  refine ba_iconst V dX1_begin_80 ba_c1 ?_
  refine ba_isub V dX1_begin_81 ?_
  refine ba_putI V dX1_begin_82 kfX1_40 (ba_sCourse hb) rfl h (fun s97 h => ?_)
  refine ba_aload_n V dX1_begin_85 0 rfl ?_
  refine ba_getR V dX1_begin_86 kfX1_46 (ba_sCourse hb) rfl ?_
  refine ba_iconst V dX1_begin_89 ba_c0 ?_
  obtain ⟨s98, hc, h⟩ := ba_bnd_some h
  refine ba_callSV (As := [.ref (w.1 (b + 9)), .int 0]) (st := []) V dX1_begin_90 kcX1_107 (fun l => yj_fill V.inj l (ba_sCourse_9 hb) hc) ⟨rfl, rfl⟩ ⟨rfl, rfl, Nat.le_of_ble_eq_true rfl, Nat.le_of_ble_eq_true rfl⟩ (Nat.le_of_ble_eq_true rfl) ?_
  refine ba_aload_n V dX1_begin_93 0 rfl ?_
  refine ba_getR V dX1_begin_94 kfX1_49 (ba_sCourse hb) rfl ?_
  refine ba_iconst V dX1_begin_97 ba_c0 ?_
  obtain ⟨s99, hc, h⟩ := ba_bnd_some h
  refine ba_callSV (As := [.ref (w.1 (b + 10)), .int 0]) (st := []) V dX1_begin_98 kcX1_107 (fun l => yj_fill V.inj l (ba_sCourse_10 hb) hc) ⟨rfl, rfl⟩ ⟨rfl, rfl, Nat.le_of_ble_eq_true rfl, Nat.le_of_ble_eq_true rfl⟩ (Nat.le_of_ble_eq_true rfl) ?_
  refine ba_aload_n V dX1_begin_101 0 rfl ?_
  refine ba_getR V dX1_begin_102 kfX1_52 (ba_sCourse hb) rfl ?_
  refine ba_iconst V dX1_begin_105 ba_c0 ?_
  obtain ⟨s100, hc, h⟩ := ba_bnd_some h
  refine ba_callSV (As := [.ref (w.1 (b + 11)), .int 0]) (st := []) V dX1_begin_106 kcX1_107 (fun l => yj_fill V.inj l (ba_sCourse_11 hb) hc) ⟨rfl, rfl⟩ ⟨rfl, rfl, Nat.le_of_ble_eq_true rfl, Nat.le_of_ble_eq_true rfl⟩ (Nat.le_of_ble_eq_true rfl) ?_
  refine ba_aload_n V dX1_begin_109 0 rfl ?_
  refine ba_getR V dX1_begin_110 kfX1_55 (ba_sCourse hb) rfl ?_
  refine ba_iconst V dX1_begin_113 ba_cm1 ?_
  obtain ⟨s101, hc, h⟩ := ba_bnd_some h
  refine ba_callSV (As := [.ref (w.1 (b + 12)), .int (-1)]) (st := []) V dX1_begin_114 kcX1_107 (fun l => yj_fill V.inj l (ba_sCourse_12 hb) hc) ⟨rfl, rfl⟩ ⟨rfl, rfl, Nat.le_of_ble_eq_true rfl, Nat.le_of_ble_eq_true rfl⟩ (Nat.le_of_ble_eq_true rfl) ?_
  refine ba_aload_n V dX1_begin_117 0 rfl ?_
  refine ba_getR V dX1_begin_118 kfX1_58 (ba_sCourse hb) rfl ?_
  refine ba_iconst V dX1_begin_121 ba_c0 ?_
  obtain ⟨s102, hc, h⟩ := ba_bnd_some h
  refine ba_callSV (As := [.ref (w.1 (b + 13)), .int 0]) (st := []) V dX1_begin_122 kcX1_107 (fun l => yj_fill V.inj l (ba_sCourse_13 hb) hc) ⟨rfl, rfl⟩ ⟨rfl, rfl, Nat.le_of_ble_eq_true rfl, Nat.le_of_ble_eq_true rfl⟩ (Nat.le_of_ble_eq_true rfl) ?_
  refine ba_aload_n V dX1_begin_125 0 rfl ?_
  refine ba_getR V dX1_begin_126 kfX1_61 (ba_sCourse hb) rfl ?_
  refine ba_iconst V dX1_begin_129 ba_c0 ?_
  obtain ⟨s103, hc, h⟩ := ba_bnd_some h
  refine ba_callSV (As := [.ref (w.1 (b + 14)), .int 0]) (st := []) V dX1_begin_130 kcX1_107 (fun l => yj_fill V.inj l (ba_sCourse_14 hb) hc) ⟨rfl, rfl⟩ ⟨rfl, rfl, Nat.le_of_ble_eq_true rfl, Nat.le_of_ble_eq_true rfl⟩ (Nat.le_of_ble_eq_true rfl) ?_
  refine ba_aload_n V dX1_begin_133 0 rfl ?_
  refine ba_iconst V dX1_begin_134 ba_c0 ?_
  refine ba_putI V dX1_begin_135 kfX1_64 (ba_sCourse hb) rfl h (fun s104 h => ?_)
  exact RT _ _ _ dX1_begin_138 (Option.some.inj h)
def xl_number (s : ba_St) (b : Nat) (a1 : Int32) (a2 : Int32) : Option (Int32) :=
  ba_grd (ba_inb ((a1 * 4) + a2) 32) <|
  some (s.1 (b + 1) (ba_ix ((a1 * 4) + a2)))
set_option maxHeartbeats 4000000 in
set_option maxRecDepth 100000 in
theorem yl_number {w : ba_W} (hj : ba_inj ba_tC w) (l : Launch) {s : ba_St} {b : Nat} {a1 : Int32} {a2 : Int32} (hb : ba_isSlips b) {o : Int32} (h : xl_number s b a1 a2 = some o) : ba_CI ba_tC w l yX3_number cX3_number 3 (some .int) rm_l_number [.ref (w.1 b), .int a1, .int a2] s (o, s) := by
  refine ba_metI (lv := [(0, .ref (w.1 b)), (1, .int a1), (2, .int a2)]) l hj (by decide +kernel) ⟨Nat.le_of_ble_eq_true rfl, rfl⟩ ?_
  intro X V RT
  replace RT := fun pc lv v D e => RT pc lv v s D (congrArg (fun q => (q, s)) e)
  unfold xl_number at h
  refine ba_aload_n V dX3_number_0 0 rfl ?_
  refine ba_getR V dX3_number_1 kfX3_11 (ba_sSlips hb) rfl ?_
  refine ba_iload_n V dX3_number_4 1 rfl ?_
  refine ba_iconst V dX3_number_5 ba_c4 ?_
  refine ba_imul V dX3_number_6 ?_
  refine ba_iload_n V dX3_number_7 2 rfl ?_
  refine ba_iadd V dX3_number_8 ?_
  refine ba_iald V dX3_number_9 (ba_sSlips_1 hb) h (fun h => ?_)
  exact RT _ _ _ dX3_number_10 (Option.some.inj h)
def xc_tilt_l35 (b : Nat) (z1 : Int32) (z2 : Int32) (z3 : Int32) (z4 : Int32) (k : (ba_St × Int32) → Option (ba_St)) (a : (ba_St × Int32)) : Option (ba_St) :=
  match a with
  | (s, z5) =>
    if 8 ≤ z5 then
      some s
    else
      ba_lt ((z5 * 9) + z4) fun x105 =>
      ba_grd (ba_inb x105 72) <|
      ba_lt (s.1 (b + 5) (ba_ix x105)) fun x106 =>
      if x106 = (-1) then
        ba_lt (z5 + 1) fun x107 =>
        k (s, x107)
      else
        ba_grd (ba_inb (x105 + z2) 72) <|
        if (s.1 (b + 5) (ba_ix (x105 + z2))) = (-1) then
          ba_grd (ba_inb x105 72) <|
          ba_lt (ba_w s (b + 5) (ba_ix x105) (-1)) fun s108 =>
          ba_grd (ba_inb (x105 + z2) 72) <|
          ba_lt (ba_w s108 (b + 5) (ba_ix (x105 + z2)) x106) fun s109 =>
          ba_grd (ba_inb x106 12) <|
          ba_lt (ba_w s109 (b + 7) (ba_ix x106) (x105 + z2)) fun s110 =>
          ba_lt (z5 + 1) fun x111 =>
          k (s110, x111)
        else
          ba_lt (z5 + 1) fun x112 =>
          k (s, x112)
set_option maxHeartbeats 4000000 in
set_option maxRecDepth 100000 in
theorem yc_tilt_l35 {w : ba_W} {X : ba_X} (V : ba_V ba_tC w 8 X cX1_tilt RX1 rm_c_tilt) {b : Nat} (hb : ba_isCourse b) {z1 : Int32} {z2 : Int32} {z3 : Int32} {z4 : Int32} {o : ba_St} (EX : ∀ (s : ba_St) , s = o → ba_G ba_tC w 8 X s 116 [(0, .ref (w.1 b)), (1, .int z1), (2, .int z2), (3, .int z3)] []) : ∀ (n : Nat) (s : ba_St) (z5 : Int32), ba_fix (xc_tilt_l35 b z1 z2 z3 z4) n (s, z5) = some o → ba_G ba_tC w 8 X s 35 [(0, .ref (w.1 b)), (1, .int z1), (2, .int z2), (3, .int z3), (4, .int z4), (5, .int z5)] [] := by
  intro n s z5 h
  refine ba_loop (P := fun a => ba_G ba_tC w 8 X a.1 35 [(0, .ref (w.1 b)), (1, .int z1), (2, .int z2), (3, .int z3), (4, .int z4), (5, .int a.2)] []) ?_ n (s, z5) h
  intro k hk0 a h
  obtain ⟨s, z5⟩ := a
  have hk : ∀ (s : ba_St) (z5 : Int32), k (s, z5) = some o → ba_G ba_tC w 8 X s 35 [(0, .ref (w.1 b)), (1, .int z1), (2, .int z2), (3, .int z3), (4, .int z4), (5, .int z5)] [] := fun s z5 e => hk0 (s, z5) e
  unfold xc_tilt_l35 at h
  try dsimp only at h ⊢
  refine ba_iload V dX1_tilt_35 5 rfl ?_
  refine ba_bipush V dX1_tilt_37 ba_c8b ?_
  refine ba_icmp_ge V dX1_tilt_39 rfl h (fun h => ?_) (fun h => ?_)
  · exact ba_sub [0, 1, 2, 3] rfl (EX _ (Option.some.inj h))
  · refine ba_iload V dX1_tilt_42 5 rfl ?_
    refine ba_bipush V dX1_tilt_44 ba_c9b ?_
    refine ba_imul V dX1_tilt_46 ?_
    refine ba_iload V dX1_tilt_47 4 rfl ?_
    refine ba_iadd V dX1_tilt_49 ?_
    refine ba_letI h (fun x105 h => ?_)
    refine ba_istore (lv' := [(6, .int x105), (0, .ref (w.1 b)), (1, .int z1), (2, .int z2), (3, .int z3), (4, .int z4), (5, .int z5)]) V dX1_tilt_50 (by decide) rfl ?_
    refine ba_aload_n V dX1_tilt_52 1 rfl ?_
    refine ba_getR V dX1_tilt_53 kfX1_31 (ba_sCourse hb) rfl ?_
    refine ba_iload V dX1_tilt_56 0 rfl ?_
    refine ba_iald V dX1_tilt_58 (ba_sCourse_5 hb) h (fun h => ?_)
    refine ba_letI h (fun x106 h => ?_)
    refine ba_istore (lv' := [(7, .int x106), (6, .int x105), (0, .ref (w.1 b)), (1, .int z1), (2, .int z2), (3, .int z3), (4, .int z4), (5, .int z5)]) V dX1_tilt_59 (by decide) rfl ?_
    refine ba_iload V dX1_tilt_61 0 rfl ?_
    refine ba_iconst V dX1_tilt_63 ba_cm1 ?_
    refine ba_icmp_eq V dX1_tilt_64 rfl h (fun h => ?_) (fun h => ?_)
    · refine ba_iinc V dX1_tilt_110 7 rfl ba_c1 (by decide) h (fun x107 h => ⟨[(5, .int x107), (7, .int x106), (6, .int x105), (0, .ref (w.1 b)), (1, .int z1), (2, .int z2), (3, .int z3), (4, .int z4)], rfl, ?_⟩)
      refine ba_goto V dX1_tilt_113 rfl ?_
      exact ba_sub [3, 4, 5, 6, 7, 0] rfl (hk _ _ h)
    · refine ba_aload_n V dX1_tilt_67 2 rfl ?_
      refine ba_getR V dX1_tilt_68 kfX1_31 (ba_sCourse hb) rfl ?_
      refine ba_iload V dX1_tilt_71 1 rfl ?_
      refine ba_iload_n V dX1_tilt_73 4 rfl ?_
      refine ba_iadd V dX1_tilt_74 ?_
      refine ba_iald V dX1_tilt_75 (ba_sCourse_5 hb) h (fun h => ?_)
      refine ba_iconst V dX1_tilt_76 ba_cm1 ?_
      refine ba_icmp_ne V dX1_tilt_77 rfl h (fun h => ?_) (fun h => ?_)
      · refine ba_aload_n V dX1_tilt_80 2 rfl ?_
        refine ba_getR V dX1_tilt_81 kfX1_31 (ba_sCourse hb) rfl ?_
        refine ba_iload V dX1_tilt_84 1 rfl ?_
        refine ba_iconst V dX1_tilt_86 ba_cm1 ?_
        refine ba_iast V dX1_tilt_87 (ba_sCourse_5 hb) h (fun s108 h => ?_)
        refine ba_aload_n V dX1_tilt_88 2 rfl ?_
        refine ba_getR V dX1_tilt_89 kfX1_31 (ba_sCourse hb) rfl ?_
        refine ba_iload V dX1_tilt_92 1 rfl ?_
        refine ba_iload_n V dX1_tilt_94 4 rfl ?_
        refine ba_iadd V dX1_tilt_95 ?_
        refine ba_iload V dX1_tilt_96 0 rfl ?_
        refine ba_iast V dX1_tilt_98 (ba_sCourse_5 hb) h (fun s109 h => ?_)
        refine ba_aload_n V dX1_tilt_99 2 rfl ?_
        refine ba_getR V dX1_tilt_100 kfX1_37 (ba_sCourse hb) rfl ?_
        refine ba_iload V dX1_tilt_103 0 rfl ?_
        refine ba_iload V dX1_tilt_105 1 rfl ?_
        refine ba_iload_n V dX1_tilt_107 4 rfl ?_
        refine ba_iadd V dX1_tilt_108 ?_
        refine ba_iast V dX1_tilt_109 (ba_sCourse_7 hb) h (fun s110 h => ?_)
        refine ba_iinc V dX1_tilt_110 7 rfl ba_c1 (by decide) h (fun x111 h => ⟨[(5, .int x111), (7, .int x106), (6, .int x105), (0, .ref (w.1 b)), (1, .int z1), (2, .int z2), (3, .int z3), (4, .int z4)], rfl, ?_⟩)
        refine ba_goto V dX1_tilt_113 rfl ?_
        exact ba_sub [3, 4, 5, 6, 7, 0] rfl (hk _ _ h)
      · refine ba_iinc V dX1_tilt_110 7 rfl ba_c1 (by decide) h (fun x112 h => ⟨[(5, .int x112), (7, .int x106), (6, .int x105), (0, .ref (w.1 b)), (1, .int z1), (2, .int z2), (3, .int z3), (4, .int z4)], rfl, ?_⟩)
        refine ba_goto V dX1_tilt_113 rfl ?_
        exact ba_sub [3, 4, 5, 6, 7, 0] rfl (hk _ _ h)
def xc_tilt_j30_12 (b : Nat) (k : (ba_St × Int32) → Option (ba_St)) (s : ba_St) (z1 : Int32) (z2 : Int32) (z3 : Int32) (q0 : Int32) : Option (ba_St) :=
  ba_bnd (ba_fix (xc_tilt_l35 b z1 z2 z3 q0) 1000 (s, 0)) fun s113 =>
    ba_lt (z3 + 1) fun x114 =>
    k (s113, x114)
set_option maxHeartbeats 4000000 in
set_option maxRecDepth 100000 in
theorem yc_tilt_j30_12 {w : ba_W} {X : ba_X} (V : ba_V ba_tC w 8 X cX1_tilt RX1 rm_c_tilt) {b : Nat} (hb : ba_isCourse b) {s : ba_St} {z1 : Int32} {z2 : Int32} {z3 : Int32} {q0 : Int32} {o : ba_St} {k : (ba_St × Int32) → Option (ba_St)} (hk : ∀ (s : ba_St) (z3 : Int32), k (s, z3) = some o → ba_G ba_tC w 8 X s 12 [(0, .ref (w.1 b)), (1, .int z1), (2, .int z2), (3, .int z3)] []) (EX : ∀ (s : ba_St) , s = o → ba_G ba_tC w 8 X s 122 [] []) (h : xc_tilt_j30_12 b k s z1 z2 z3 q0 = some o) : ba_G ba_tC w 8 X s 30 [(0, .ref (w.1 b)), (1, .int z1), (2, .int z2), (3, .int z3)] [.int q0] := by
  unfold xc_tilt_j30_12 at h
  refine ba_istore (lv' := [(4, .int q0), (0, .ref (w.1 b)), (1, .int z1), (2, .int z2), (3, .int z3)]) V dX1_tilt_30 (by decide) rfl ?_
  refine ba_iconst V dX1_tilt_32 ba_c0 ?_
  refine ba_istore (lv' := [(5, .int 0), (4, .int q0), (0, .ref (w.1 b)), (1, .int z1), (2, .int z2), (3, .int z3)]) V dX1_tilt_33 (by decide) rfl ?_
  obtain ⟨o, ho, h⟩ := ba_bnd_some h
  refine ba_sub [2, 3, 4, 5, 1, 0] rfl (yc_tilt_l35 V hb (o := o) (fun s113 e => ?_) 1000 s 0 ho)
  subst e
  try dsimp only at h
  refine ba_iinc V dX1_tilt_116 3 rfl ba_c1 (by decide) h (fun x114 h => ⟨[(3, .int x114), (0, .ref (w.1 b)), (1, .int z1), (2, .int z2)], rfl, ?_⟩)
  refine ba_goto V dX1_tilt_119 rfl ?_
  exact ba_sub [1, 2, 3, 0] rfl (hk _ _ h)
def xc_tilt_l12 (b : Nat) (z1 : Int32) (z2 : Int32) (k : (ba_St × Int32) → Option (ba_St)) (a : (ba_St × Int32)) : Option (ba_St) :=
  match a with
  | (s, z3) =>
    if 9 ≤ z3 then
      some s
    else
      if z1 = 0 then
        xc_tilt_j30_12 b k s z1 z2 z3 z3
      else
        xc_tilt_j30_12 b k s z1 z2 z3 (8 - z3)
set_option maxHeartbeats 4000000 in
set_option maxRecDepth 100000 in
theorem yc_tilt_l12 {w : ba_W} {X : ba_X} (V : ba_V ba_tC w 8 X cX1_tilt RX1 rm_c_tilt) {b : Nat} (hb : ba_isCourse b) {z1 : Int32} {z2 : Int32} {o : ba_St} (EX : ∀ (s : ba_St) , s = o → ba_G ba_tC w 8 X s 122 [] []) : ∀ (n : Nat) (s : ba_St) (z3 : Int32), ba_fix (xc_tilt_l12 b z1 z2) n (s, z3) = some o → ba_G ba_tC w 8 X s 12 [(0, .ref (w.1 b)), (1, .int z1), (2, .int z2), (3, .int z3)] [] := by
  intro n s z3 h
  refine ba_loop (P := fun a => ba_G ba_tC w 8 X a.1 12 [(0, .ref (w.1 b)), (1, .int z1), (2, .int z2), (3, .int a.2)] []) ?_ n (s, z3) h
  intro k hk0 a h
  obtain ⟨s, z3⟩ := a
  have hk : ∀ (s : ba_St) (z3 : Int32), k (s, z3) = some o → ba_G ba_tC w 8 X s 12 [(0, .ref (w.1 b)), (1, .int z1), (2, .int z2), (3, .int z3)] [] := fun s z3 e => hk0 (s, z3) e
  unfold xc_tilt_l12 at h
  try dsimp only at h ⊢
  refine ba_iload_n V dX1_tilt_12 3 rfl ?_
  refine ba_bipush V dX1_tilt_13 ba_c9b ?_
  refine ba_icmp_ge V dX1_tilt_15 rfl h (fun h => ?_) (fun h => ?_)
  · exact ba_sub [] rfl (EX _ (Option.some.inj h))
  · refine ba_iload_n V dX1_tilt_18 1 rfl ?_
    refine ba_if_eq V dX1_tilt_19 rfl h (fun h => ?_) (fun h => ?_)
    · refine ba_iload_n V dX1_tilt_29 3 rfl ?_
      exact ba_sub [0, 1, 2, 3] rfl (yc_tilt_j30_12 V hb hk EX h)
    · refine ba_bipush V dX1_tilt_22 ba_c8b ?_
      refine ba_iload_n V dX1_tilt_24 3 rfl ?_
      refine ba_isub V dX1_tilt_25 ?_
      refine ba_goto V dX1_tilt_26 rfl ?_
      exact ba_sub [0, 1, 2, 3] rfl (yc_tilt_j30_12 V hb hk EX h)
def xc_tilt_j9 (b : Nat) (s : ba_St) (z1 : Int32) (q0 : Int32) : Option (ba_St) :=
  ba_bnd (ba_fix (xc_tilt_l12 b z1 q0) 1000 (s, 1)) fun s115 =>
    some s115
set_option maxHeartbeats 4000000 in
set_option maxRecDepth 100000 in
theorem yc_tilt_j9 {w : ba_W} {X : ba_X} (V : ba_V ba_tC w 8 X cX1_tilt RX1 rm_c_tilt) {b : Nat} (hb : ba_isCourse b) {s : ba_St} {z1 : Int32} {q0 : Int32} {o : ba_St} (RT : ∀ (pc : Nat) (lv : List (Nat × Value)) (s : ba_St), decode cX1_tilt pc = .ok (.return_, 1) → s = o → ba_G ba_tC w 8 X s pc lv []) (h : xc_tilt_j9 b s z1 q0 = some o) : ba_G ba_tC w 8 X s 9 [(0, .ref (w.1 b)), (1, .int z1)] [.int q0] := by
  unfold xc_tilt_j9 at h
  refine ba_istore_n (lv' := [(2, .int q0), (0, .ref (w.1 b)), (1, .int z1)]) V dX1_tilt_9 (by decide) rfl ?_
  refine ba_iconst V dX1_tilt_10 ba_c1 ?_
  refine ba_istore_n (lv' := [(3, .int 1), (2, .int q0), (0, .ref (w.1 b)), (1, .int z1)]) V dX1_tilt_11 (by decide) rfl ?_
  obtain ⟨o, ho, h⟩ := ba_bnd_some h
  refine ba_sub [2, 3, 1, 0] rfl (yc_tilt_l12 V hb (o := o) (fun s115 e => ?_) 1000 s 1 ho)
  subst e
  try dsimp only at h
  exact RT _ _ _ dX1_tilt_122 (Option.some.inj h)
def xc_tilt (s : ba_St) (b : Nat) (a1 : Int32) : Option (ba_St) :=
  if a1 = 0 then
    xc_tilt_j9 b s a1 (-1)
  else
    xc_tilt_j9 b s a1 1
set_option maxHeartbeats 4000000 in
set_option maxRecDepth 100000 in
theorem yc_tilt {w : ba_W} (hj : ba_inj ba_tC w) (l : Launch) {s : ba_St} {b : Nat} {a1 : Int32} (hb : ba_isCourse b) {o : ba_St} (h : xc_tilt s b a1 = some o) : ba_CV ba_tC w l yX1_tilt cX1_tilt 8 none rm_c_tilt [.ref (w.1 b), .int a1] s o := by
  refine ba_metV (lv := [(0, .ref (w.1 b)), (1, .int a1)]) l hj (by decide +kernel) ⟨Nat.le_of_ble_eq_true rfl, rfl⟩ ?_
  intro X V RT
  unfold xc_tilt at h
  refine ba_iload_n V dX1_tilt_0 1 rfl ?_
  refine ba_if_eq V dX1_tilt_1 rfl h (fun h => ?_) (fun h => ?_)
  · refine ba_iconst V dX1_tilt_8 ba_cm1 ?_
    exact ba_sub [0, 1] rfl (yc_tilt_j9 V hb RT h)
  · refine ba_iconst V dX1_tilt_4 ba_c1 ?_
    refine ba_goto V dX1_tilt_5 rfl ?_
    exact ba_sub [0, 1] rfl (yc_tilt_j9 V hb RT h)
def xc_doEvents_j77_10 (b : Nat) (k : (ba_St × Int32) → Option (ba_St)) (s : ba_St) (z1 : Int32) (z3 : Int32) (q0 : Int32) : Option (ba_St) :=
  ba_bnd (xc_tilt s b q0) fun s120 =>
  ba_lt (z3 + 1) fun x121 =>
  k (s120, x121)
set_option maxHeartbeats 4000000 in
set_option maxRecDepth 100000 in
theorem yc_doEvents_j77_10 {w : ba_W} {X : ba_X} (V : ba_V ba_tC w 6 X cX1_doEvents RX1 rm_c_doEvents) {b : Nat} (hb : ba_isCourse b) {s : ba_St} {z1 : Int32} {z3 : Int32} {q0 : Int32} {o : ba_St} {k : (ba_St × Int32) → Option (ba_St)} (hk : ∀ (s : ba_St) (z3 : Int32), k (s, z3) = some o → ba_G ba_tC w 6 X s 10 [(0, .ref (w.1 b)), (1, .int z1), (2, .ref (w.1 10)), (3, .int z3)] []) (EX : ∀ (s : ba_St) , s = o → ba_G ba_tC w 6 X s 146 [] []) (h : xc_doEvents_j77_10 b k s z1 z3 q0 = some o) : ba_G ba_tC w 6 X s 77 [(0, .ref (w.1 b)), (1, .int z1), (2, .ref (w.1 10)), (3, .int z3)] [.int q0, .ref (w.1 b)] := by
  unfold xc_doEvents_j77_10 at h
  obtain ⟨s120, hc, h⟩ := ba_bnd_some h
  refine ba_callVV (As := [.int q0]) (st := []) V dX1_doEvents_77 kcX1_126 (ba_sCourse hb) (fun l => yc_tilt V.inj l hb hc) ⟨rfl, rfl⟩ ⟨rfl, rfl, Nat.le_of_ble_eq_true rfl, Nat.le_of_ble_eq_true rfl⟩ (Nat.le_of_ble_eq_true rfl) ?_
  refine ba_goto V dX1_doEvents_80 rfl ?_
  refine ba_iinc V dX1_doEvents_140 3 rfl ba_c1 (by decide) h (fun x121 h => ⟨[(3, .int x121), (0, .ref (w.1 b)), (1, .int z1), (2, .ref (w.1 10))], rfl, ?_⟩)
  refine ba_goto V dX1_doEvents_143 rfl ?_
  exact ba_sub [1, 2, 3, 0] rfl (hk _ _ h)
def xc_doEvents_j119_10 (b : Nat) (k : (ba_St × Int32) → Option (ba_St)) (s : ba_St) (z1 : Int32) (z3 : Int32) (z4 : Int32) (z5 : Int32) : Option (ba_St) :=
  if z4 = 2 then
    if 9 ≤ z5 then
      ba_lt (z3 + 1) fun x122 =>
      k (s, x122)
    else
      ba_grd (ba_inb z5 9) <|
      ba_lt (ba_w s (b + 9) (ba_ix z5) 0) fun s123 =>
      ba_lt (z3 + 1) fun x124 =>
      k (s123, x124)
  else
    ba_lt (z3 + 1) fun x125 =>
    k (s, x125)
set_option maxHeartbeats 4000000 in
set_option maxRecDepth 100000 in
theorem yc_doEvents_j119_10 {w : ba_W} {X : ba_X} (V : ba_V ba_tC w 6 X cX1_doEvents RX1 rm_c_doEvents) {b : Nat} (hb : ba_isCourse b) {s : ba_St} {z1 : Int32} {z3 : Int32} {z4 : Int32} {z5 : Int32} {o : ba_St} {k : (ba_St × Int32) → Option (ba_St)} (hk : ∀ (s : ba_St) (z3 : Int32), k (s, z3) = some o → ba_G ba_tC w 6 X s 10 [(0, .ref (w.1 b)), (1, .int z1), (2, .ref (w.1 10)), (3, .int z3)] []) (EX : ∀ (s : ba_St) , s = o → ba_G ba_tC w 6 X s 146 [] []) (h : xc_doEvents_j119_10 b k s z1 z3 z4 z5 = some o) : ba_G ba_tC w 6 X s 119 [(0, .ref (w.1 b)), (1, .int z1), (2, .ref (w.1 10)), (3, .int z3), (4, .int z4), (5, .int z5)] [] := by
  unfold xc_doEvents_j119_10 at h
  refine ba_iload V dX1_doEvents_119 4 rfl ?_
  refine ba_iconst V dX1_doEvents_121 ba_c2 ?_
  refine ba_icmp_ne V dX1_doEvents_122 rfl h (fun h => ?_) (fun h => ?_)
  · refine ba_iload V dX1_doEvents_125 5 rfl ?_
    refine ba_bipush V dX1_doEvents_127 ba_c9b ?_
    refine ba_icmp_ge V dX1_doEvents_129 rfl h (fun h => ?_) (fun h => ?_)
    · refine ba_iinc V dX1_doEvents_140 3 rfl ba_c1 (by decide) h (fun x122 h => ⟨[(3, .int x122), (0, .ref (w.1 b)), (1, .int z1), (2, .ref (w.1 10)), (4, .int z4), (5, .int z5)], rfl, ?_⟩)
      refine ba_goto V dX1_doEvents_143 rfl ?_
      exact ba_sub [1, 2, 3, 0] rfl (hk _ _ h)
    · refine ba_aload_n V dX1_doEvents_132 0 rfl ?_
      refine ba_getR V dX1_doEvents_133 kfX1_46 (ba_sCourse hb) rfl ?_
      refine ba_iload V dX1_doEvents_136 5 rfl ?_
      refine ba_iconst V dX1_doEvents_138 ba_c0 ?_
      refine ba_iast V dX1_doEvents_139 (ba_sCourse_9 hb) h (fun s123 h => ?_)
      refine ba_iinc V dX1_doEvents_140 3 rfl ba_c1 (by decide) h (fun x124 h => ⟨[(3, .int x124), (0, .ref (w.1 b)), (1, .int z1), (2, .ref (w.1 10)), (4, .int z4), (5, .int z5)], rfl, ?_⟩)
      refine ba_goto V dX1_doEvents_143 rfl ?_
      exact ba_sub [1, 2, 3, 0] rfl (hk _ _ h)
  · refine ba_iinc V dX1_doEvents_140 3 rfl ba_c1 (by decide) h (fun x125 h => ⟨[(3, .int x125), (0, .ref (w.1 b)), (1, .int z1), (2, .ref (w.1 10)), (4, .int z4), (5, .int z5)], rfl, ?_⟩)
    refine ba_goto V dX1_doEvents_143 rfl ?_
    exact ba_sub [1, 2, 3, 0] rfl (hk _ _ h)
def xc_doEvents_l10 (b : Nat) (z1 : Int32) (k : (ba_St × Int32) → Option (ba_St)) (a : (ba_St × Int32)) : Option (ba_St) :=
  match a with
  | (s, z3) =>
    if (s.1 10 1) ≤ z3 then
      some s
    else
      if ((ba_fishr (s.1 b 5) z3) &&& 1) = 0 then
        ba_lt (z3 + 1) fun x116 =>
        k (s, x116)
      else
        ba_bnd (xl_number s 10 z3 1) fun v117 =>
        if v117 = z1 then
          ba_bnd (xl_number s 10 z3 0) fun v118 =>
          ba_bnd (xl_number s 10 z3 2) fun v119 =>
          if v118 = 0 then
            if (ba_irm v119 2) = 1 then
              xc_doEvents_j77_10 b k s z1 z3 1
            else
              xc_doEvents_j77_10 b k s z1 z3 0
          else
            if v118 = 1 then
              if (s.1 3 3) ≤ v119 then
                xc_doEvents_j119_10 b k s z1 z3 v118 v119
              else
                ba_grd (ba_inb v119 12) <|
                ba_grd (ba_inb v119 12) <|
                ba_lt (ba_w s (b + 4) (ba_ix v119) (-(s.1 (b + 4) (ba_ix v119)))) fun s126 =>
                ba_lt (z3 + 1) fun x127 =>
                k (s126, x127)
            else
              xc_doEvents_j119_10 b k s z1 z3 v118 v119
        else
          ba_lt (z3 + 1) fun x128 =>
          k (s, x128)
set_option maxHeartbeats 4000000 in
set_option maxRecDepth 100000 in
theorem yc_doEvents_l10 {w : ba_W} {X : ba_X} (V : ba_V ba_tC w 6 X cX1_doEvents RX1 rm_c_doEvents) {b : Nat} (hb : ba_isCourse b) {z1 : Int32} {o : ba_St} (EX : ∀ (s : ba_St) , s = o → ba_G ba_tC w 6 X s 146 [] []) : ∀ (n : Nat) (s : ba_St) (z3 : Int32), ba_fix (xc_doEvents_l10 b z1) n (s, z3) = some o → ba_G ba_tC w 6 X s 10 [(0, .ref (w.1 b)), (1, .int z1), (2, .ref (w.1 10)), (3, .int z3)] [] := by
  intro n s z3 h
  refine ba_loop (P := fun a => ba_G ba_tC w 6 X a.1 10 [(0, .ref (w.1 b)), (1, .int z1), (2, .ref (w.1 10)), (3, .int a.2)] []) ?_ n (s, z3) h
  intro k hk0 a h
  obtain ⟨s, z3⟩ := a
  have hk : ∀ (s : ba_St) (z3 : Int32), k (s, z3) = some o → ba_G ba_tC w 6 X s 10 [(0, .ref (w.1 b)), (1, .int z1), (2, .ref (w.1 10)), (3, .int z3)] [] := fun s z3 e => hk0 (s, z3) e
  unfold xc_doEvents_l10 at h
  try dsimp only at h ⊢
  refine ba_iload_n V dX1_doEvents_10 3 rfl ?_
  refine ba_aload_n V dX1_doEvents_11 2 rfl ?_
  refine ba_getI V dX1_doEvents_12 kfX1_117 (ba_sSlips ba_isSlips_10) rfl ?_
  refine ba_icmp_ge V dX1_doEvents_15 rfl h (fun h => ?_) (fun h => ?_)
  · exact ba_sub [] rfl (EX _ (Option.some.inj h))
  · refine ba_aload_n V dX1_doEvents_18 0 rfl ?_
    refine ba_getI V dX1_doEvents_19 kfX1_25 (ba_sCourse hb) rfl ?_
    refine ba_iload_n V dX1_doEvents_22 3 rfl ?_
    refine ba_ishr V dX1_doEvents_23 ?_
    refine ba_iconst V dX1_doEvents_24 ba_c1 ?_
    refine ba_iand V dX1_doEvents_25 ?_
    refine ba_if_eq V dX1_doEvents_26 rfl h (fun h => ?_) (fun h => ?_)
    · refine ba_iinc V dX1_doEvents_140 3 rfl ba_c1 (by decide) h (fun x116 h => ⟨[(3, .int x116), (0, .ref (w.1 b)), (1, .int z1), (2, .ref (w.1 10))], rfl, ?_⟩)
      refine ba_goto V dX1_doEvents_143 rfl ?_
      exact ba_sub [1, 2, 3, 0] rfl (hk _ _ h)
    · refine ba_aload_n V dX1_doEvents_29 2 rfl ?_
      refine ba_iload_n V dX1_doEvents_30 3 rfl ?_
      refine ba_iconst V dX1_doEvents_31 ba_c1 ?_
      obtain ⟨v117, hc, h⟩ := ba_bnd_some h
      refine ba_callVI (As := [.int z3, .int 1]) (st := []) V dX1_doEvents_32 kcX1_122 (ba_sSlips ba_isSlips_10) (fun l => yl_number V.inj l ba_isSlips_10 hc) ⟨rfl, rfl⟩ ⟨rfl, rfl, Nat.le_of_ble_eq_true rfl, Nat.le_of_ble_eq_true rfl⟩ (Nat.le_of_ble_eq_true rfl) ?_
      refine ba_iload_n V dX1_doEvents_35 1 rfl ?_
      refine ba_icmp_eq V dX1_doEvents_36 rfl h (fun h => ?_) (fun h => ?_)
      · refine ba_aload_n V dX1_doEvents_42 2 rfl ?_
        refine ba_iload_n V dX1_doEvents_43 3 rfl ?_
        refine ba_iconst V dX1_doEvents_44 ba_c0 ?_
        obtain ⟨v118, hc, h⟩ := ba_bnd_some h
        refine ba_callVI (As := [.int z3, .int 0]) (st := []) V dX1_doEvents_45 kcX1_122 (ba_sSlips ba_isSlips_10) (fun l => yl_number V.inj l ba_isSlips_10 hc) ⟨rfl, rfl⟩ ⟨rfl, rfl, Nat.le_of_ble_eq_true rfl, Nat.le_of_ble_eq_true rfl⟩ (Nat.le_of_ble_eq_true rfl) ?_
        refine ba_istore (lv' := [(4, .int v118), (0, .ref (w.1 b)), (1, .int z1), (2, .ref (w.1 10)), (3, .int z3)]) V dX1_doEvents_48 (by decide) rfl ?_
        refine ba_aload_n V dX1_doEvents_50 3 rfl ?_
        refine ba_iload_n V dX1_doEvents_51 4 rfl ?_
        refine ba_iconst V dX1_doEvents_52 ba_c2 ?_
        obtain ⟨v119, hc, h⟩ := ba_bnd_some h
        refine ba_callVI (As := [.int z3, .int 2]) (st := []) V dX1_doEvents_53 kcX1_122 (ba_sSlips ba_isSlips_10) (fun l => yl_number V.inj l ba_isSlips_10 hc) ⟨rfl, rfl⟩ ⟨rfl, rfl, Nat.le_of_ble_eq_true rfl, Nat.le_of_ble_eq_true rfl⟩ (Nat.le_of_ble_eq_true rfl) ?_
        refine ba_istore (lv' := [(5, .int v119), (4, .int v118), (0, .ref (w.1 b)), (1, .int z1), (2, .ref (w.1 10)), (3, .int z3)]) V dX1_doEvents_56 (by decide) rfl ?_
        refine ba_iload V dX1_doEvents_58 1 rfl ?_
        refine ba_if_ne V dX1_doEvents_60 rfl h (fun h => ?_) (fun h => ?_)
        · refine ba_aload_n V dX1_doEvents_63 2 rfl ?_
          refine ba_iload V dX1_doEvents_64 0 rfl ?_
          refine ba_iconst V dX1_doEvents_66 ba_c2 ?_
          refine ba_irem V dX1_doEvents_67 (by decide) ?_
          refine ba_iconst V dX1_doEvents_68 ba_c1 ?_
          refine ba_icmp_ne V dX1_doEvents_69 rfl h (fun h => ?_) (fun h => ?_)
          · refine ba_iconst V dX1_doEvents_72 ba_c1 ?_
            refine ba_goto V dX1_doEvents_73 rfl ?_
            exact ba_sub [2, 3, 4, 5] rfl (yc_doEvents_j77_10 V hb hk EX h)
          · refine ba_iconst V dX1_doEvents_76 ba_c0 ?_
            exact ba_sub [2, 3, 4, 5] rfl (yc_doEvents_j77_10 V hb hk EX h)
        · refine ba_iload V dX1_doEvents_83 1 rfl ?_
          refine ba_iconst V dX1_doEvents_85 ba_c1 ?_
          refine ba_icmp_ne V dX1_doEvents_86 rfl h (fun h => ?_) (fun h => ?_)
          · refine ba_iload V dX1_doEvents_89 0 rfl ?_
            refine ba_aload_n V dX1_doEvents_91 2 rfl ?_
            refine ba_getR V dX1_doEvents_92 kfX1_67 (ba_sCourse hb) rfl ?_
            refine ba_getI V dX1_doEvents_95 kfX1_130 ba_sBoard rfl ?_
            refine ba_icmp_ge V dX1_doEvents_98 rfl h (fun h => ?_) (fun h => ?_)
            · exact ba_sub [2, 3, 4, 5, 1, 0] rfl (yc_doEvents_j119_10 V hb hk EX h)
            · refine ba_aload_n V dX1_doEvents_101 2 rfl ?_
              refine ba_getR V dX1_doEvents_102 kfX1_28 (ba_sCourse hb) rfl ?_
              refine ba_iload V dX1_doEvents_105 0 rfl ?_
              refine ba_aload_n V dX1_doEvents_107 2 rfl ?_
              refine ba_getR V dX1_doEvents_108 kfX1_28 (ba_sCourse hb) rfl ?_
              refine ba_iload V dX1_doEvents_111 0 rfl ?_
              refine ba_iald V dX1_doEvents_113 (ba_sCourse_4 hb) h (fun h => ?_)
              refine ba_ineg V dX1_doEvents_114 ?_
              refine ba_iast V dX1_doEvents_115 (ba_sCourse_4 hb) h (fun s126 h => ?_)
              refine ba_goto V dX1_doEvents_116 rfl ?_
              refine ba_iinc V dX1_doEvents_140 5 rfl ba_c1 (by decide) h (fun x127 h => ⟨[(3, .int x127), (5, .int v119), (4, .int v118), (0, .ref (w.1 b)), (1, .int z1), (2, .ref (w.1 10))], rfl, ?_⟩)
              refine ba_goto V dX1_doEvents_143 rfl ?_
              exact ba_sub [3, 4, 5, 0] rfl (hk _ _ h)
          · exact ba_sub [2, 3, 4, 5, 1, 0] rfl (yc_doEvents_j119_10 V hb hk EX h)
      · refine ba_goto V dX1_doEvents_39 rfl ?_
        refine ba_iinc V dX1_doEvents_140 3 rfl ba_c1 (by decide) h (fun x128 h => ⟨[(3, .int x128), (0, .ref (w.1 b)), (1, .int z1), (2, .ref (w.1 10))], rfl, ?_⟩)
        refine ba_goto V dX1_doEvents_143 rfl ?_
        exact ba_sub [1, 2, 3, 0] rfl (hk _ _ h)
def xc_doEvents (s : ba_St) (b : Nat) (a1 : Int32) : Option (ba_St) :=
  ba_bnd (ba_fix (xc_doEvents_l10 b a1) 1000 (s, 0)) fun s129 =>
    some s129
set_option maxHeartbeats 4000000 in
set_option maxRecDepth 100000 in
theorem yc_doEvents {w : ba_W} (hj : ba_inj ba_tC w) (l : Launch) {s : ba_St} {b : Nat} {a1 : Int32} (hb : ba_isCourse b) {o : ba_St} (h : xc_doEvents s b a1 = some o) : ba_CV ba_tC w l yX1_doEvents cX1_doEvents 6 none rm_c_doEvents [.ref (w.1 b), .int a1] s o := by
  refine ba_metV (lv := [(0, .ref (w.1 b)), (1, .int a1)]) l hj (by decide +kernel) ⟨Nat.le_of_ble_eq_true rfl, rfl⟩ ?_
  intro X V RT
  unfold xc_doEvents at h
  refine ba_aload_n V dX1_doEvents_0 0 rfl ?_
  refine ba_getR V dX1_doEvents_1 kfX1_67 (ba_sCourse hb) rfl ?_
  refine ba_getR V dX1_doEvents_4 kfX1_113 ba_sBoard rfl ?_
  refine ba_astore_n (lv' := [(2, .ref (w.1 10)), (0, .ref (w.1 b)), (1, .int a1)]) V dX1_doEvents_7 (by decide) rfl ?_
  refine ba_iconst V dX1_doEvents_8 ba_c0 ?_
  refine ba_istore_n (lv' := [(3, .int 0), (2, .ref (w.1 10)), (0, .ref (w.1 b)), (1, .int a1)]) V dX1_doEvents_9 (by decide) rfl ?_
  obtain ⟨o, ho, h⟩ := ba_bnd_some h
  refine ba_sub [2, 3, 1, 0] rfl (yc_doEvents_l10 V hb (o := o) (fun s129 e => ?_) 1000 s 0 ho)
  subst e
  try dsimp only at h
  exact RT _ _ _ dX1_doEvents_146 (Option.some.inj h)
def xc_columnFrom (s : ba_St) (b : Nat) (a1 : Int32) (a2 : Int32) : Option (Int32) :=
  if a2 = (-1) then
    some a1
  else
    ba_grd (ba_inb a2 12) <|
    ba_lt (a1 + (s.1 (b + 4) (ba_ix a2))) fun x130 =>
    if x130 < 0 then
      some a1
    else
      if x130 < 9 then
        some x130
      else
        some a1
set_option maxHeartbeats 4000000 in
set_option maxRecDepth 100000 in
theorem yc_columnFrom {w : ba_W} (hj : ba_inj ba_tC w) (l : Launch) {s : ba_St} {b : Nat} {a1 : Int32} {a2 : Int32} (hb : ba_isCourse b) {o : Int32} (h : xc_columnFrom s b a1 a2 = some o) : ba_CI ba_tC w l yX1_columnFrom cX1_columnFrom 4 (some .int) rm_c_columnFrom [.ref (w.1 b), .int a1, .int a2] s (o, s) := by
  refine ba_metI (lv := [(0, .ref (w.1 b)), (1, .int a1), (2, .int a2)]) l hj (by decide +kernel) ⟨Nat.le_of_ble_eq_true rfl, rfl⟩ ?_
  intro X V RT
  replace RT := fun pc lv v D e => RT pc lv v s D (congrArg (fun q => (q, s)) e)
  unfold xc_columnFrom at h
  refine ba_iload_n V dX1_columnFrom_0 2 rfl ?_
  refine ba_iconst V dX1_columnFrom_1 ba_cm1 ?_
  refine ba_icmp_ne V dX1_columnFrom_2 rfl h (fun h => ?_) (fun h => ?_)
  · refine ba_iload_n V dX1_columnFrom_5 1 rfl ?_
    exact RT _ _ _ dX1_columnFrom_6 (Option.some.inj h)
  · refine ba_iload_n V dX1_columnFrom_7 1 rfl ?_
    refine ba_aload_n V dX1_columnFrom_8 0 rfl ?_
    refine ba_getR V dX1_columnFrom_9 kfX1_28 (ba_sCourse hb) rfl ?_
    refine ba_iload_n V dX1_columnFrom_12 2 rfl ?_
    refine ba_iald V dX1_columnFrom_13 (ba_sCourse_4 hb) h (fun h => ?_)
    refine ba_iadd V dX1_columnFrom_14 ?_
    refine ba_letI h (fun x130 h => ?_)
    refine ba_istore_n (lv' := [(3, .int x130), (0, .ref (w.1 b)), (1, .int a1), (2, .int a2)]) V dX1_columnFrom_15 (by decide) rfl ?_
    refine ba_iload_n V dX1_columnFrom_16 0 rfl ?_
    refine ba_if_lt V dX1_columnFrom_17 rfl h (fun h => ?_) (fun h => ?_)
    · refine ba_iload_n V dX1_columnFrom_26 2 rfl ?_
      refine ba_goto V dX1_columnFrom_27 rfl ?_
      exact RT _ _ _ dX1_columnFrom_31 (Option.some.inj h)
    · refine ba_iload_n V dX1_columnFrom_20 0 rfl ?_
      refine ba_bipush V dX1_columnFrom_21 ba_c9b ?_
      refine ba_icmp_lt V dX1_columnFrom_23 rfl h (fun h => ?_) (fun h => ?_)
      · refine ba_iload_n V dX1_columnFrom_30 0 rfl ?_
        exact RT _ _ _ dX1_columnFrom_31 (Option.some.inj h)
      · refine ba_iload_n V dX1_columnFrom_26 2 rfl ?_
        refine ba_goto V dX1_columnFrom_27 rfl ?_
        exact RT _ _ _ dX1_columnFrom_31 (Option.some.inj h)
def xc_pass (s : ba_St) (b : Nat) (a1 : Int32) (a2 : Int32) : Option (ba_St) :=
  if a1 = (-1) then
    some s
  else
    ba_grd (ba_inb a1 12) <|
    if (s.1 (b + 1) (ba_ix a1)) = 2 then
      ba_grd (ba_inb a1 12) <|
      ba_grd (ba_inb a1 12) <|
      ba_lt (ba_w s (b + 4) (ba_ix a1) (-(s.1 (b + 4) (ba_ix a1)))) fun s131 =>
      some s131
    else
      ba_grd (ba_inb a1 12) <|
      if (s.1 (b + 1) (ba_ix a1)) = 3 then
        ba_lt (ba_w s b 18 ((s.1 b 18) + 1)) fun s132 =>
        ba_grd (ba_inb a2 12) <|
        ba_grd (ba_inb a2 12) <|
        ba_lt (ba_w s132 (b + 11) (ba_ix a2) ((s132.1 (b + 11) (ba_ix a2)) + 2)) fun s133 =>
        some s133
      else
        some s
set_option maxHeartbeats 4000000 in
set_option maxRecDepth 100000 in
theorem yc_pass {w : ba_W} (hj : ba_inj ba_tC w) (l : Launch) {s : ba_St} {b : Nat} {a1 : Int32} {a2 : Int32} (hb : ba_isCourse b) {o : ba_St} (h : xc_pass s b a1 a2 = some o) : ba_CV ba_tC w l yX1_pass cX1_pass 3 none rm_c_pass [.ref (w.1 b), .int a1, .int a2] s o := by
  refine ba_metV (lv := [(0, .ref (w.1 b)), (1, .int a1), (2, .int a2)]) l hj (by decide +kernel) ⟨Nat.le_of_ble_eq_true rfl, rfl⟩ ?_
  intro X V RT
  unfold xc_pass at h
  refine ba_iload_n V dX1_pass_0 1 rfl ?_
  refine ba_iconst V dX1_pass_1 ba_cm1 ?_
  refine ba_icmp_ne V dX1_pass_2 rfl h (fun h => ?_) (fun h => ?_)
  · exact RT _ _ _ dX1_pass_5 (Option.some.inj h)
  · refine ba_aload_n V dX1_pass_6 0 rfl ?_
    refine ba_getR V dX1_pass_7 kfX1_9 (ba_sCourse hb) rfl ?_
    refine ba_iload_n V dX1_pass_10 1 rfl ?_
    refine ba_iald V dX1_pass_11 (ba_sCourse_1 hb) h (fun h => ?_)
    refine ba_iconst V dX1_pass_12 ba_c2 ?_
    refine ba_icmp_ne V dX1_pass_13 rfl h (fun h => ?_) (fun h => ?_)
    · refine ba_aload_n V dX1_pass_16 0 rfl ?_
      refine ba_getR V dX1_pass_17 kfX1_28 (ba_sCourse hb) rfl ?_
      refine ba_iload_n V dX1_pass_20 1 rfl ?_
      refine ba_aload_n V dX1_pass_21 0 rfl ?_
      refine ba_getR V dX1_pass_22 kfX1_28 (ba_sCourse hb) rfl ?_
      refine ba_iload_n V dX1_pass_25 1 rfl ?_
      refine ba_iald V dX1_pass_26 (ba_sCourse_4 hb) h (fun h => ?_)
      refine ba_ineg V dX1_pass_27 ?_
      refine ba_iast V dX1_pass_28 (ba_sCourse_4 hb) h (fun s131 h => ?_)
      refine ba_goto V dX1_pass_29 rfl ?_
      exact RT _ _ _ dX1_pass_62 (Option.some.inj h)
    · refine ba_aload_n V dX1_pass_32 0 rfl ?_
      refine ba_getR V dX1_pass_33 kfX1_9 (ba_sCourse hb) rfl ?_
      refine ba_iload_n V dX1_pass_36 1 rfl ?_
      refine ba_iald V dX1_pass_37 (ba_sCourse_1 hb) h (fun h => ?_)
      refine ba_iconst V dX1_pass_38 ba_c3 ?_
      refine ba_icmp_ne V dX1_pass_39 rfl h (fun h => ?_) (fun h => ?_)
      · refine ba_aload_n V dX1_pass_42 0 rfl ?_
        refine ba_dup V dX1_pass_43 rfl ?_
        refine ba_getI V dX1_pass_44 kfX1_64 (ba_sCourse hb) rfl ?_
        refine ba_iconst V dX1_pass_47 ba_c1 ?_
        refine ba_iadd V dX1_pass_48 ?_
        refine ba_putI V dX1_pass_49 kfX1_64 (ba_sCourse hb) rfl h (fun s132 h => ?_)
        refine ba_aload_n V dX1_pass_52 0 rfl ?_
        refine ba_getR V dX1_pass_53 kfX1_52 (ba_sCourse hb) rfl ?_
        refine ba_iload_n V dX1_pass_56 2 rfl ?_
        refine ba_dup2 V dX1_pass_57 rfl rfl ?_
        refine ba_iald V dX1_pass_58 (ba_sCourse_11 hb) h (fun h => ?_)
        refine ba_iconst V dX1_pass_59 ba_c2 ?_
        refine ba_iadd V dX1_pass_60 ?_
        refine ba_iast V dX1_pass_61 (ba_sCourse_11 hb) h (fun s133 h => ?_)
        exact RT _ _ _ dX1_pass_62 (Option.some.inj h)
      · exact RT _ _ _ dX1_pass_62 (Option.some.inj h)
def xc_settle (s : ba_St) (b : Nat) (a1 : Int32) (a2 : Int32) (a3 : Int32) : Option (ba_St) :=
  ba_grd (ba_inb a2 72) <|
  ba_lt (ba_w s (b + 5) (ba_ix a2) a1) fun s134 =>
  ba_grd (ba_inb a3 8) <|
  ba_grd (ba_inb a3 8) <|
  ba_lt (ba_w s134 (b + 6) (ba_ix a3) ((s134.1 (b + 6) (ba_ix a3)) ||| (ba_fishl 1 a1))) fun s135 =>
  ba_grd (ba_inb a1 12) <|
  ba_lt (ba_w s135 (b + 7) (ba_ix a1) a2) fun s136 =>
  some s136
set_option maxHeartbeats 4000000 in
set_option maxRecDepth 100000 in
theorem yc_settle {w : ba_W} (hj : ba_inj ba_tC w) (l : Launch) {s : ba_St} {b : Nat} {a1 : Int32} {a2 : Int32} {a3 : Int32} (hb : ba_isCourse b) {o : ba_St} (h : xc_settle s b a1 a2 a3 = some o) : ba_CV ba_tC w l yX1_settle cX1_settle 4 none rm_c_settle [.ref (w.1 b), .int a1, .int a2, .int a3] s o := by
  refine ba_metV (lv := [(0, .ref (w.1 b)), (1, .int a1), (2, .int a2), (3, .int a3)]) l hj (by decide +kernel) ⟨Nat.le_of_ble_eq_true rfl, rfl⟩ ?_
  intro X V RT
  unfold xc_settle at h
  refine ba_aload_n V dX1_settle_0 0 rfl ?_
  refine ba_getR V dX1_settle_1 kfX1_31 (ba_sCourse hb) rfl ?_
  refine ba_iload_n V dX1_settle_4 2 rfl ?_
  refine ba_iload_n V dX1_settle_5 1 rfl ?_
  refine ba_iast V dX1_settle_6 (ba_sCourse_5 hb) h (fun s134 h => ?_)
  refine ba_aload_n V dX1_settle_7 0 rfl ?_
  refine ba_getR V dX1_settle_8 kfX1_34 (ba_sCourse hb) rfl ?_
  refine ba_iload_n V dX1_settle_11 3 rfl ?_
  refine ba_dup2 V dX1_settle_12 rfl rfl ?_
  refine ba_iald V dX1_settle_13 (ba_sCourse_6 hb) h (fun h => ?_)
  refine ba_iconst V dX1_settle_14 ba_c1 ?_
  refine ba_iload_n V dX1_settle_15 1 rfl ?_
  refine ba_ishl V dX1_settle_16 ?_
  refine ba_ior V dX1_settle_17 ?_
  refine ba_iast V dX1_settle_18 (ba_sCourse_6 hb) h (fun s135 h => ?_)
  refine ba_aload_n V dX1_settle_19 0 rfl ?_
  refine ba_getR V dX1_settle_20 kfX1_37 (ba_sCourse hb) rfl ?_
  refine ba_iload_n V dX1_settle_23 1 rfl ?_
  refine ba_iload_n V dX1_settle_24 2 rfl ?_
  refine ba_iast V dX1_settle_25 (ba_sCourse_7 hb) h (fun s136 h => ?_)
  exact RT _ _ _ dX1_settle_26 (Option.some.inj h)
def xc_drop (s : ba_St) (b : Nat) (a1 : Int32) (a2 : Int32) (a3 : Int32) : Option (ba_St) :=
  ba_grd (ba_inb a1 12) <|
  ba_lt (ba_w s (b + 12) (ba_ix a1) a3) fun s137 =>
  ba_grd (ba_inb a2 9) <|
  if (s137.1 3 8) ≤ (s137.1 (b + 9) (ba_ix a2)) then
    ba_grd (ba_inb a1 12) <|
    ba_lt (ba_w s137 (b + 7) (ba_ix a1) (81 + a2)) fun s138 =>
    some s138
  else
    ba_grd (ba_inb a2 9) <|
    ba_grd (ba_inb a2 9) <|
    ba_lt (ba_w s137 (b + 9) (ba_ix a2) ((s137.1 (b + 9) (ba_ix a2)) + 1)) fun s139 =>
    ba_grd (ba_inb a2 9) <|
    ba_grd (ba_inb a2 9) <|
    ba_lt (ba_w s139 (b + 10) (ba_ix a2) ((s139.1 (b + 10) (ba_ix a2)) + 1)) fun s140 =>
    ba_grd (ba_inb a1 12) <|
    ba_grd (ba_inb a2 9) <|
    ba_grd (ba_inb a1 12) <|
    ba_lt (ba_w s140 (b + 11) (ba_ix a1) ((s140.1 (b + 11) (ba_ix a1)) + (s140.1 7 (ba_ix a2)))) fun s141 =>
    ba_grd (ba_inb a1 12) <|
    ba_lt (ba_w s141 (b + 7) (ba_ix a1) (72 + a2)) fun s142 =>
    some s142
set_option maxHeartbeats 4000000 in
set_option maxRecDepth 100000 in
theorem yc_drop {w : ba_W} (hj : ba_inj ba_tC w) (l : Launch) {s : ba_St} {b : Nat} {a1 : Int32} {a2 : Int32} {a3 : Int32} (hb : ba_isCourse b) {o : ba_St} (h : xc_drop s b a1 a2 a3 = some o) : ba_CV ba_tC w l yX1_drop cX1_drop 4 none rm_c_drop [.ref (w.1 b), .int a1, .int a2, .int a3] s o := by
  refine ba_metV (lv := [(0, .ref (w.1 b)), (1, .int a1), (2, .int a2), (3, .int a3)]) l hj (by decide +kernel) ⟨Nat.le_of_ble_eq_true rfl, rfl⟩ ?_
  intro X V RT
  unfold xc_drop at h
  refine ba_aload_n V dX1_drop_0 0 rfl ?_
  refine ba_getR V dX1_drop_1 kfX1_55 (ba_sCourse hb) rfl ?_
  refine ba_iload_n V dX1_drop_4 1 rfl ?_
  refine ba_iload_n V dX1_drop_5 3 rfl ?_
  refine ba_iast V dX1_drop_6 (ba_sCourse_12 hb) h (fun s137 h => ?_)
  refine ba_aload_n V dX1_drop_7 0 rfl ?_
  refine ba_getR V dX1_drop_8 kfX1_46 (ba_sCourse hb) rfl ?_
  refine ba_iload_n V dX1_drop_11 2 rfl ?_
  refine ba_iald V dX1_drop_12 (ba_sCourse_9 hb) h (fun h => ?_)
  refine ba_aload_n V dX1_drop_13 0 rfl ?_
  refine ba_getR V dX1_drop_14 kfX1_67 (ba_sCourse hb) rfl ?_
  refine ba_getI V dX1_drop_17 kfX1_149 ba_sBoard rfl ?_
  refine ba_icmp_ge V dX1_drop_20 rfl h (fun h => ?_) (fun h => ?_)
  · refine ba_aload_n V dX1_drop_74 0 rfl ?_
    refine ba_getR V dX1_drop_75 kfX1_37 (ba_sCourse hb) rfl ?_
    refine ba_iload_n V dX1_drop_78 1 rfl ?_
    refine ba_bipush V dX1_drop_79 ba_c81b ?_
    refine ba_iload_n V dX1_drop_81 2 rfl ?_
    refine ba_iadd V dX1_drop_82 ?_
    refine ba_iast V dX1_drop_83 (ba_sCourse_7 hb) h (fun s138 h => ?_)
    exact RT _ _ _ dX1_drop_84 (Option.some.inj h)
  · refine ba_aload_n V dX1_drop_23 0 rfl ?_
    refine ba_getR V dX1_drop_24 kfX1_46 (ba_sCourse hb) rfl ?_
    refine ba_iload_n V dX1_drop_27 2 rfl ?_
    refine ba_dup2 V dX1_drop_28 rfl rfl ?_
    refine ba_iald V dX1_drop_29 (ba_sCourse_9 hb) h (fun h => ?_)
    refine ba_iconst V dX1_drop_30 ba_c1 ?_
    refine ba_iadd V dX1_drop_31 ?_
    refine ba_iast V dX1_drop_32 (ba_sCourse_9 hb) h (fun s139 h => ?_)
    refine ba_aload_n V dX1_drop_33 0 rfl ?_
    refine ba_getR V dX1_drop_34 kfX1_49 (ba_sCourse hb) rfl ?_
    refine ba_iload_n V dX1_drop_37 2 rfl ?_
    refine ba_dup2 V dX1_drop_38 rfl rfl ?_
    refine ba_iald V dX1_drop_39 (ba_sCourse_10 hb) h (fun h => ?_)
    refine ba_iconst V dX1_drop_40 ba_c1 ?_
    refine ba_iadd V dX1_drop_41 ?_
    refine ba_iast V dX1_drop_42 (ba_sCourse_10 hb) h (fun s140 h => ?_)
    refine ba_aload_n V dX1_drop_43 0 rfl ?_
    refine ba_getR V dX1_drop_44 kfX1_52 (ba_sCourse hb) rfl ?_
    refine ba_iload_n V dX1_drop_47 1 rfl ?_
    refine ba_dup2 V dX1_drop_48 rfl rfl ?_
    refine ba_iald V dX1_drop_49 (ba_sCourse_11 hb) h (fun h => ?_)
    refine ba_aload_n V dX1_drop_50 0 rfl ?_
    refine ba_getR V dX1_drop_51 kfX1_67 (ba_sCourse hb) rfl ?_
    refine ba_getR V dX1_drop_54 kfX1_152 ba_sBoard rfl ?_
    refine ba_iload_n V dX1_drop_57 2 rfl ?_
    refine ba_iald V dX1_drop_58 ba_sC_7 h (fun h => ?_)
    refine ba_iadd V dX1_drop_59 ?_
    refine ba_iast V dX1_drop_60 (ba_sCourse_11 hb) h (fun s141 h => ?_)
    refine ba_aload_n V dX1_drop_61 0 rfl ?_
    refine ba_getR V dX1_drop_62 kfX1_37 (ba_sCourse hb) rfl ?_
    refine ba_iload_n V dX1_drop_65 1 rfl ?_
    refine ba_bipush V dX1_drop_66 ba_c72b ?_
    refine ba_iload_n V dX1_drop_68 2 rfl ?_
    refine ba_iadd V dX1_drop_69 ?_
    refine ba_iast V dX1_drop_70 (ba_sCourse_7 hb) h (fun s142 h => ?_)
    refine ba_goto V dX1_drop_71 rfl ?_
    exact RT _ _ _ dX1_drop_84 (Option.some.inj h)
def xc_fallFrom_j117_10 (b : Nat) (k : (ba_St × Int32) → Option (ba_St)) (s : ba_St) (z1 : Int32) (z2 : Int32) (z3 : Int32) (z4 : Int32) (z5 : Int32) (z6 : Int32) (z7 : Int32) (z8 : Int32) : Option (ba_St) :=
  ba_bnd (xc_pass s b z6 z4) fun s149 =>
  ba_grd (ba_inb z5 72) <|
  ba_lt (ba_w s149 (b + 5) (ba_ix z5) (-1)) fun s150 =>
  ba_grd (ba_inb z1 8) <|
  ba_grd (ba_inb z1 8) <|
  ba_lt (ba_w s150 (b + 6) (ba_ix z1) ((s150.1 (b + 6) (ba_ix z1)) &&& ((ba_fishl 1 z4) ^^^ (-1)))) fun s151 =>
  if 7 ≤ z1 then
    ba_bnd (xc_drop s151 b z4 z7 z2) fun s152 =>
    ba_lt (z4 + 1) fun x153 =>
    k (s152, x153)
  else
    ba_bnd (xc_settle s151 b z4 z8 (z1 + 1)) fun s154 =>
    ba_lt (z4 + 1) fun x155 =>
    k (s154, x155)
set_option maxHeartbeats 4000000 in
set_option maxRecDepth 100000 in
theorem yc_fallFrom_j117_10 {w : ba_W} {X : ba_X} (V : ba_V ba_tC w 9 X cX1_fallFrom RX1 rm_c_fallFrom) {b : Nat} (hb : ba_isCourse b) {s : ba_St} {z1 : Int32} {z2 : Int32} {z3 : Int32} {z4 : Int32} {z5 : Int32} {z6 : Int32} {z7 : Int32} {z8 : Int32} {o : ba_St} {k : (ba_St × Int32) → Option (ba_St)} (hk : ∀ (s : ba_St) (z4 : Int32), k (s, z4) = some o → ba_G ba_tC w 9 X s 10 [(0, .ref (w.1 b)), (1, .int z1), (2, .int z2), (3, .int z3), (4, .int z4)] []) (EX : ∀ (s : ba_St) , s = o → ba_G ba_tC w 9 X s 183 [] []) (h : xc_fallFrom_j117_10 b k s z1 z2 z3 z4 z5 z6 z7 z8 = some o) : ba_G ba_tC w 9 X s 117 [(0, .ref (w.1 b)), (1, .int z1), (2, .int z2), (3, .int z3), (4, .int z4), (5, .int z5), (6, .int z6), (7, .int z7), (8, .int z8)] [] := by
  unfold xc_fallFrom_j117_10 at h
  refine ba_aload_n V dX1_fallFrom_117 0 rfl ?_
  refine ba_iload V dX1_fallFrom_118 6 rfl ?_
  refine ba_iload V dX1_fallFrom_120 4 rfl ?_
  obtain ⟨s149, hc, h⟩ := ba_bnd_some h
  refine ba_callVV (As := [.int z6, .int z4]) (st := []) V dX1_fallFrom_122 kcX1_139 (ba_sCourse hb) (fun l => yc_pass V.inj l hb hc) ⟨rfl, rfl⟩ ⟨rfl, rfl, Nat.le_of_ble_eq_true rfl, Nat.le_of_ble_eq_true rfl⟩ (Nat.le_of_ble_eq_true rfl) ?_
  refine ba_aload_n V dX1_fallFrom_125 0 rfl ?_
  refine ba_getR V dX1_fallFrom_126 kfX1_31 (ba_sCourse hb) rfl ?_
  refine ba_iload V dX1_fallFrom_129 5 rfl ?_
  refine ba_iconst V dX1_fallFrom_131 ba_cm1 ?_
  refine ba_iast V dX1_fallFrom_132 (ba_sCourse_5 hb) h (fun s150 h => ?_)
  refine ba_aload_n V dX1_fallFrom_133 0 rfl ?_
  refine ba_getR V dX1_fallFrom_134 kfX1_34 (ba_sCourse hb) rfl ?_
  refine ba_iload_n V dX1_fallFrom_137 1 rfl ?_
  refine ba_dup2 V dX1_fallFrom_138 rfl rfl ?_
  refine ba_iald V dX1_fallFrom_139 (ba_sCourse_6 hb) h (fun h => ?_)
  refine ba_iconst V dX1_fallFrom_140 ba_c1 ?_
  refine ba_iload V dX1_fallFrom_141 4 rfl ?_
  refine ba_ishl V dX1_fallFrom_143 ?_
  refine ba_iconst V dX1_fallFrom_144 ba_cm1 ?_
  refine ba_ixor V dX1_fallFrom_145 ?_
  refine ba_iand V dX1_fallFrom_146 ?_
  refine ba_iast V dX1_fallFrom_147 (ba_sCourse_6 hb) h (fun s151 h => ?_)
  refine ba_iload_n V dX1_fallFrom_148 1 rfl ?_
  refine ba_bipush V dX1_fallFrom_149 ba_c7b ?_
  refine ba_icmp_ge V dX1_fallFrom_151 rfl h (fun h => ?_) (fun h => ?_)
  · refine ba_aload_n V dX1_fallFrom_168 0 rfl ?_
    refine ba_iload V dX1_fallFrom_169 4 rfl ?_
    refine ba_iload V dX1_fallFrom_171 7 rfl ?_
    refine ba_iload_n V dX1_fallFrom_173 2 rfl ?_
    obtain ⟨s152, hc, h⟩ := ba_bnd_some h
    refine ba_callVV (As := [.int z4, .int z7, .int z2]) (st := []) V dX1_fallFrom_174 kcX1_146 (ba_sCourse hb) (fun l => yc_drop V.inj l hb hc) ⟨rfl, rfl⟩ ⟨rfl, rfl, Nat.le_of_ble_eq_true rfl, Nat.le_of_ble_eq_true rfl⟩ (Nat.le_of_ble_eq_true rfl) ?_
    refine ba_iinc V dX1_fallFrom_177 4 rfl ba_c1 (by decide) h (fun x153 h => ⟨[(4, .int x153), (0, .ref (w.1 b)), (1, .int z1), (2, .int z2), (3, .int z3), (5, .int z5), (6, .int z6), (7, .int z7), (8, .int z8)], rfl, ?_⟩)
    refine ba_goto V dX1_fallFrom_180 rfl ?_
    exact ba_sub [1, 2, 3, 4, 0] rfl (hk _ _ h)
  · refine ba_aload_n V dX1_fallFrom_154 0 rfl ?_
    refine ba_iload V dX1_fallFrom_155 4 rfl ?_
    refine ba_iload V dX1_fallFrom_157 8 rfl ?_
    refine ba_iload_n V dX1_fallFrom_159 1 rfl ?_
    refine ba_iconst V dX1_fallFrom_160 ba_c1 ?_
    refine ba_iadd V dX1_fallFrom_161 ?_
    obtain ⟨s154, hc, h⟩ := ba_bnd_some h
    refine ba_callVV (As := [.int z4, .int z8, .int (z1 + 1)]) (st := []) V dX1_fallFrom_162 kcX1_142 (ba_sCourse hb) (fun l => yc_settle V.inj l hb hc) ⟨rfl, rfl⟩ ⟨rfl, rfl, Nat.le_of_ble_eq_true rfl, Nat.le_of_ble_eq_true rfl⟩ (Nat.le_of_ble_eq_true rfl) ?_
    refine ba_goto V dX1_fallFrom_165 rfl ?_
    refine ba_iinc V dX1_fallFrom_177 4 rfl ba_c1 (by decide) h (fun x155 h => ⟨[(4, .int x155), (0, .ref (w.1 b)), (1, .int z1), (2, .int z2), (3, .int z3), (5, .int z5), (6, .int z6), (7, .int z7), (8, .int z8)], rfl, ?_⟩)
    refine ba_goto V dX1_fallFrom_180 rfl ?_
    exact ba_sub [1, 2, 3, 4, 0] rfl (hk _ _ h)
def xc_fallFrom_l10 (b : Nat) (z1 : Int32) (z2 : Int32) (z3 : Int32) (k : (ba_St × Int32) → Option (ba_St)) (a : (ba_St × Int32)) : Option (ba_St) :=
  match a with
  | (s, z4) =>
    if (s.1 b 4) ≤ z4 then
      some s
    else
      if ((ba_fishr z3 z4) &&& 1) = 0 then
        ba_lt (z4 + 1) fun x144 =>
        k (s, x144)
      else
        ba_grd (ba_inb z4 12) <|
        ba_lt (s.1 (b + 7) (ba_ix z4)) fun x145 =>
        ba_grd (ba_inb x145 72) <|
        ba_lt (s.1 6 (ba_ix x145)) fun x146 =>
        ba_bnd (xc_columnFrom s b (ba_irm x145 9) x146) fun v147 =>
        ba_lt (((z1 + 1) * 9) + v147) fun x148 =>
        if 7 ≤ z1 then
          xc_fallFrom_j117_10 b k s z1 z2 z3 z4 x145 x146 v147 x148
        else
          ba_grd (ba_inb x148 72) <|
          if (s.1 (b + 5) (ba_ix x148)) = (-1) then
            xc_fallFrom_j117_10 b k s z1 z2 z3 z4 x145 x146 v147 x148
          else
            ba_grd (ba_inb z4 12) <|
            ba_grd (ba_inb z4 12) <|
            ba_lt (ba_w s (b + 13) (ba_ix z4) ((s.1 (b + 13) (ba_ix z4)) + 1)) fun s156 =>
            ba_grd (ba_inb z2 24) <|
            ba_grd (ba_inb z2 24) <|
            ba_lt (ba_w s156 (b + 14) (ba_ix z2) ((s156.1 (b + 14) (ba_ix z2)) + 1)) fun s157 =>
            ba_lt (z4 + 1) fun x158 =>
            k (s157, x158)
set_option maxHeartbeats 4000000 in
set_option maxRecDepth 100000 in
theorem yc_fallFrom_l10 {w : ba_W} {X : ba_X} (V : ba_V ba_tC w 9 X cX1_fallFrom RX1 rm_c_fallFrom) {b : Nat} (hb : ba_isCourse b) {z1 : Int32} {z2 : Int32} {z3 : Int32} {o : ba_St} (EX : ∀ (s : ba_St) , s = o → ba_G ba_tC w 9 X s 183 [] []) : ∀ (n : Nat) (s : ba_St) (z4 : Int32), ba_fix (xc_fallFrom_l10 b z1 z2 z3) n (s, z4) = some o → ba_G ba_tC w 9 X s 10 [(0, .ref (w.1 b)), (1, .int z1), (2, .int z2), (3, .int z3), (4, .int z4)] [] := by
  intro n s z4 h
  refine ba_loop (P := fun a => ba_G ba_tC w 9 X a.1 10 [(0, .ref (w.1 b)), (1, .int z1), (2, .int z2), (3, .int z3), (4, .int a.2)] []) ?_ n (s, z4) h
  intro k hk0 a h
  obtain ⟨s, z4⟩ := a
  have hk : ∀ (s : ba_St) (z4 : Int32), k (s, z4) = some o → ba_G ba_tC w 9 X s 10 [(0, .ref (w.1 b)), (1, .int z1), (2, .int z2), (3, .int z3), (4, .int z4)] [] := fun s z4 e => hk0 (s, z4) e
  unfold xc_fallFrom_l10 at h
  try dsimp only at h ⊢
  refine ba_iload V dX1_fallFrom_10 4 rfl ?_
  refine ba_aload_n V dX1_fallFrom_12 0 rfl ?_
  refine ba_getI V dX1_fallFrom_13 kfX1_21 (ba_sCourse hb) rfl ?_
  refine ba_icmp_ge V dX1_fallFrom_16 rfl h (fun h => ?_) (fun h => ?_)
  · exact ba_sub [] rfl (EX _ (Option.some.inj h))
  · refine ba_iload_n V dX1_fallFrom_19 3 rfl ?_
    refine ba_iload V dX1_fallFrom_20 4 rfl ?_
    refine ba_ishr V dX1_fallFrom_22 ?_
    refine ba_iconst V dX1_fallFrom_23 ba_c1 ?_
    refine ba_iand V dX1_fallFrom_24 ?_
    refine ba_if_ne V dX1_fallFrom_25 rfl h (fun h => ?_) (fun h => ?_)
    · refine ba_goto V dX1_fallFrom_28 rfl ?_
      refine ba_iinc V dX1_fallFrom_177 4 rfl ba_c1 (by decide) h (fun x144 h => ⟨[(4, .int x144), (0, .ref (w.1 b)), (1, .int z1), (2, .int z2), (3, .int z3)], rfl, ?_⟩)
      refine ba_goto V dX1_fallFrom_180 rfl ?_
      exact ba_sub [1, 2, 3, 4, 0] rfl (hk _ _ h)
    · refine ba_aload_n V dX1_fallFrom_31 0 rfl ?_
      refine ba_getR V dX1_fallFrom_32 kfX1_37 (ba_sCourse hb) rfl ?_
      refine ba_iload V dX1_fallFrom_35 4 rfl ?_
      refine ba_iald V dX1_fallFrom_37 (ba_sCourse_7 hb) h (fun h => ?_)
      refine ba_letI h (fun x145 h => ?_)
      refine ba_istore (lv' := [(5, .int x145), (0, .ref (w.1 b)), (1, .int z1), (2, .int z2), (3, .int z3), (4, .int z4)]) V dX1_fallFrom_38 (by decide) rfl ?_
      refine ba_aload_n V dX1_fallFrom_40 1 rfl ?_
      refine ba_getR V dX1_fallFrom_41 kfX1_67 (ba_sCourse hb) rfl ?_
      refine ba_getR V dX1_fallFrom_44 kfX1_133 ba_sBoard rfl ?_
      refine ba_iload V dX1_fallFrom_47 0 rfl ?_
      refine ba_iald V dX1_fallFrom_49 ba_sC_6 h (fun h => ?_)
      refine ba_letI h (fun x146 h => ?_)
      refine ba_istore (lv' := [(6, .int x146), (5, .int x145), (0, .ref (w.1 b)), (1, .int z1), (2, .int z2), (3, .int z3), (4, .int z4)]) V dX1_fallFrom_50 (by decide) rfl ?_
      refine ba_aload_n V dX1_fallFrom_52 2 rfl ?_
      refine ba_iload V dX1_fallFrom_53 1 rfl ?_
      refine ba_bipush V dX1_fallFrom_55 ba_c9b ?_
      refine ba_irem V dX1_fallFrom_57 (by decide) ?_
      refine ba_iload V dX1_fallFrom_58 0 rfl ?_
      obtain ⟨v147, hc, h⟩ := ba_bnd_some h
      refine ba_callVI (As := [.int (ba_irm x145 9), .int x146]) (st := []) V dX1_fallFrom_60 kcX1_136 (ba_sCourse hb) (fun l => yc_columnFrom V.inj l hb hc) ⟨rfl, rfl⟩ ⟨rfl, rfl, Nat.le_of_ble_eq_true rfl, Nat.le_of_ble_eq_true rfl⟩ (Nat.le_of_ble_eq_true rfl) ?_
      refine ba_istore (lv' := [(7, .int v147), (6, .int x146), (5, .int x145), (0, .ref (w.1 b)), (1, .int z1), (2, .int z2), (3, .int z3), (4, .int z4)]) V dX1_fallFrom_63 (by decide) rfl ?_
      refine ba_iload_n V dX1_fallFrom_65 4 rfl ?_
      refine ba_iconst V dX1_fallFrom_66 ba_c1 ?_
      refine ba_iadd V dX1_fallFrom_67 ?_
      refine ba_bipush V dX1_fallFrom_68 ba_c9b ?_
      refine ba_imul V dX1_fallFrom_70 ?_
      refine ba_iload V dX1_fallFrom_71 0 rfl ?_
      refine ba_iadd V dX1_fallFrom_73 ?_
      refine ba_letI h (fun x148 h => ?_)
      refine ba_istore (lv' := [(8, .int x148), (7, .int v147), (6, .int x146), (5, .int x145), (0, .ref (w.1 b)), (1, .int z1), (2, .int z2), (3, .int z3), (4, .int z4)]) V dX1_fallFrom_74 (by decide) rfl ?_
      refine ba_iload_n V dX1_fallFrom_76 5 rfl ?_
      refine ba_bipush V dX1_fallFrom_77 ba_c7b ?_
      refine ba_icmp_ge V dX1_fallFrom_79 rfl h (fun h => ?_) (fun h => ?_)
      · exact ba_sub [4, 5, 6, 7, 8, 3, 2, 1, 0] rfl (yc_fallFrom_j117_10 V hb hk EX h)
      · refine ba_aload_n V dX1_fallFrom_82 4 rfl ?_
        refine ba_getR V dX1_fallFrom_83 kfX1_31 (ba_sCourse hb) rfl ?_
        refine ba_iload V dX1_fallFrom_86 0 rfl ?_
        refine ba_iald V dX1_fallFrom_88 (ba_sCourse_5 hb) h (fun h => ?_)
        refine ba_iconst V dX1_fallFrom_89 ba_cm1 ?_
        refine ba_icmp_eq V dX1_fallFrom_90 rfl h (fun h => ?_) (fun h => ?_)
        · exact ba_sub [4, 5, 6, 7, 8, 3, 2, 1, 0] rfl (yc_fallFrom_j117_10 V hb hk EX h)
        · refine ba_aload_n V dX1_fallFrom_93 4 rfl ?_
          refine ba_getR V dX1_fallFrom_94 kfX1_58 (ba_sCourse hb) rfl ?_
          refine ba_iload V dX1_fallFrom_97 8 rfl ?_
          refine ba_dup2 V dX1_fallFrom_99 rfl rfl ?_
          refine ba_iald V dX1_fallFrom_100 (ba_sCourse_13 hb) h (fun h => ?_)
          refine ba_iconst V dX1_fallFrom_101 ba_c1 ?_
          refine ba_iadd V dX1_fallFrom_102 ?_
          refine ba_iast V dX1_fallFrom_103 (ba_sCourse_13 hb) h (fun s156 h => ?_)
          refine ba_aload_n V dX1_fallFrom_104 4 rfl ?_
          refine ba_getR V dX1_fallFrom_105 kfX1_61 (ba_sCourse hb) rfl ?_
          refine ba_iload_n V dX1_fallFrom_108 6 rfl ?_
          refine ba_dup2 V dX1_fallFrom_109 rfl rfl ?_
          refine ba_iald V dX1_fallFrom_110 (ba_sCourse_14 hb) h (fun h => ?_)
          refine ba_iconst V dX1_fallFrom_111 ba_c1 ?_
          refine ba_iadd V dX1_fallFrom_112 ?_
          refine ba_iast V dX1_fallFrom_113 (ba_sCourse_14 hb) h (fun s157 h => ?_)
          refine ba_goto V dX1_fallFrom_114 rfl ?_
          refine ba_iinc V dX1_fallFrom_177 8 rfl ba_c1 (by decide) h (fun x158 h => ⟨[(4, .int x158), (8, .int x148), (7, .int v147), (6, .int x146), (5, .int x145), (0, .ref (w.1 b)), (1, .int z1), (2, .int z2), (3, .int z3)], rfl, ?_⟩)
          refine ba_goto V dX1_fallFrom_180 rfl ?_
          exact ba_sub [5, 6, 7, 8, 0] rfl (hk _ _ h)
def xc_fallFrom (s : ba_St) (b : Nat) (a1 : Int32) (a2 : Int32) : Option (ba_St) :=
  ba_grd (ba_inb a1 8) <|
  ba_lt (s.1 (b + 6) (ba_ix a1)) fun x143 =>
  ba_bnd (ba_fix (xc_fallFrom_l10 b a1 a2 x143) 1000 (s, 0)) fun s159 =>
    some s159
set_option maxHeartbeats 4000000 in
set_option maxRecDepth 100000 in
theorem yc_fallFrom {w : ba_W} (hj : ba_inj ba_tC w) (l : Launch) {s : ba_St} {b : Nat} {a1 : Int32} {a2 : Int32} (hb : ba_isCourse b) {o : ba_St} (h : xc_fallFrom s b a1 a2 = some o) : ba_CV ba_tC w l yX1_fallFrom cX1_fallFrom 9 none rm_c_fallFrom [.ref (w.1 b), .int a1, .int a2] s o := by
  refine ba_metV (lv := [(0, .ref (w.1 b)), (1, .int a1), (2, .int a2)]) l hj (by decide +kernel) ⟨Nat.le_of_ble_eq_true rfl, rfl⟩ ?_
  intro X V RT
  unfold xc_fallFrom at h
  refine ba_aload_n V dX1_fallFrom_0 0 rfl ?_
  refine ba_getR V dX1_fallFrom_1 kfX1_34 (ba_sCourse hb) rfl ?_
  refine ba_iload_n V dX1_fallFrom_4 1 rfl ?_
  refine ba_iald V dX1_fallFrom_5 (ba_sCourse_6 hb) h (fun h => ?_)
  refine ba_letI h (fun x143 h => ?_)
  refine ba_istore_n (lv' := [(3, .int x143), (0, .ref (w.1 b)), (1, .int a1), (2, .int a2)]) V dX1_fallFrom_6 (by decide) rfl ?_
  refine ba_iconst V dX1_fallFrom_7 ba_c0 ?_
  refine ba_istore (lv' := [(4, .int 0), (3, .int x143), (0, .ref (w.1 b)), (1, .int a1), (2, .int a2)]) V dX1_fallFrom_8 (by decide) rfl ?_
  obtain ⟨o, ho, h⟩ := ba_bnd_some h
  refine ba_sub [2, 3, 4, 1, 0] rfl (yc_fallFrom_l10 V hb (o := o) (fun s159 e => ?_) 1000 s 0 ho)
  subst e
  try dsimp only at h
  exact RT _ _ _ dX1_fallFrom_183 (Option.some.inj h)
def xc_letIn_l2 (b : Nat) (z1 : Int32) (k : (ba_St × Int32) → Option (ba_St)) (a : (ba_St × Int32)) : Option (ba_St) :=
  match a with
  | (s, z2) =>
    if (s.1 b 4) ≤ z2 then
      some s
    else
      ba_grd (ba_inb z2 12) <|
      ba_lt ((s.1 (b + 3) (ba_ix z2)) - 1) fun x160 =>
      if ((ba_fishr (s.1 b 10) z2) &&& 1) = 0 then
        ba_lt (z2 + 1) fun x161 =>
        k (s, x161)
      else
        ba_grd (ba_inb z2 12) <|
        if z1 < (s.1 (b + 2) (ba_ix z2)) then
          ba_lt (z2 + 1) fun x162 =>
          k (s, x162)
        else
          ba_grd (ba_inb x160 72) <|
          if (s.1 (b + 5) (ba_ix x160)) = (-1) then
            ba_lt (ba_w s b 10 ((s.1 b 10) &&& ((ba_fishl 1 z2) ^^^ (-1)))) fun s163 =>
            ba_bnd (xc_settle s163 b z2 x160 0) fun s164 =>
            ba_lt (z2 + 1) fun x165 =>
            k (s164, x165)
          else
            ba_lt (z2 + 1) fun x166 =>
            k (s, x166)
set_option maxHeartbeats 4000000 in
set_option maxRecDepth 100000 in
theorem yc_letIn_l2 {w : ba_W} {X : ba_X} (V : ba_V ba_tC w 4 X cX1_letIn RX1 rm_c_letIn) {b : Nat} (hb : ba_isCourse b) {z1 : Int32} {o : ba_St} (EX : ∀ (s : ba_St) , s = o → ba_G ba_tC w 4 X s 77 [] []) : ∀ (n : Nat) (s : ba_St) (z2 : Int32), ba_fix (xc_letIn_l2 b z1) n (s, z2) = some o → ba_G ba_tC w 4 X s 2 [(0, .ref (w.1 b)), (1, .int z1), (2, .int z2)] [] := by
  intro n s z2 h
  refine ba_loop (P := fun a => ba_G ba_tC w 4 X a.1 2 [(0, .ref (w.1 b)), (1, .int z1), (2, .int a.2)] []) ?_ n (s, z2) h
  intro k hk0 a h
  obtain ⟨s, z2⟩ := a
  have hk : ∀ (s : ba_St) (z2 : Int32), k (s, z2) = some o → ba_G ba_tC w 4 X s 2 [(0, .ref (w.1 b)), (1, .int z1), (2, .int z2)] [] := fun s z2 e => hk0 (s, z2) e
  unfold xc_letIn_l2 at h
  try dsimp only at h ⊢
  refine ba_iload_n V dX1_letIn_2 2 rfl ?_
  refine ba_aload_n V dX1_letIn_3 0 rfl ?_
  refine ba_getI V dX1_letIn_4 kfX1_21 (ba_sCourse hb) rfl ?_
  refine ba_icmp_ge V dX1_letIn_7 rfl h (fun h => ?_) (fun h => ?_)
  · exact ba_sub [] rfl (EX _ (Option.some.inj h))
  · refine ba_aload_n V dX1_letIn_10 0 rfl ?_
    refine ba_getR V dX1_letIn_11 kfX1_18 (ba_sCourse hb) rfl ?_
    refine ba_iload_n V dX1_letIn_14 2 rfl ?_
    refine ba_iald V dX1_letIn_15 (ba_sCourse_3 hb) h (fun h => ?_)
    refine ba_iconst V dX1_letIn_16 ba_c1 ?_
    refine ba_isub V dX1_letIn_17 ?_
    refine ba_letI h (fun x160 h => ?_)
    refine ba_istore_n (lv' := [(3, .int x160), (0, .ref (w.1 b)), (1, .int z1), (2, .int z2)]) V dX1_letIn_18 (by decide) rfl ?_
    refine ba_aload_n V dX1_letIn_19 1 rfl ?_
    refine ba_getI V dX1_letIn_20 kfX1_40 (ba_sCourse hb) rfl ?_
    refine ba_iload_n V dX1_letIn_23 3 rfl ?_
    refine ba_ishr V dX1_letIn_24 ?_
    refine ba_iconst V dX1_letIn_25 ba_c1 ?_
    refine ba_iand V dX1_letIn_26 ?_
    refine ba_if_eq V dX1_letIn_27 rfl h (fun h => ?_) (fun h => ?_)
    · refine ba_iinc V dX1_letIn_71 3 rfl ba_c1 (by decide) h (fun x161 h => ⟨[(2, .int x161), (3, .int x160), (0, .ref (w.1 b)), (1, .int z1)], rfl, ?_⟩)
      refine ba_goto V dX1_letIn_74 rfl ?_
      exact ba_sub [2, 3, 0] rfl (hk _ _ h)
    · refine ba_aload_n V dX1_letIn_30 1 rfl ?_
      refine ba_getR V dX1_letIn_31 kfX1_15 (ba_sCourse hb) rfl ?_
      refine ba_iload_n V dX1_letIn_34 3 rfl ?_
      refine ba_iald V dX1_letIn_35 (ba_sCourse_2 hb) h (fun h => ?_)
      refine ba_iload_n V dX1_letIn_36 2 rfl ?_
      refine ba_icmp_gt V dX1_letIn_37 rfl h (fun h => ?_) (fun h => ?_)
      · refine ba_iinc V dX1_letIn_71 3 rfl ba_c1 (by decide) h (fun x162 h => ⟨[(2, .int x162), (3, .int x160), (0, .ref (w.1 b)), (1, .int z1)], rfl, ?_⟩)
        refine ba_goto V dX1_letIn_74 rfl ?_
        exact ba_sub [2, 3, 0] rfl (hk _ _ h)
      · refine ba_aload_n V dX1_letIn_40 1 rfl ?_
        refine ba_getR V dX1_letIn_41 kfX1_31 (ba_sCourse hb) rfl ?_
        refine ba_iload_n V dX1_letIn_44 0 rfl ?_
        refine ba_iald V dX1_letIn_45 (ba_sCourse_5 hb) h (fun h => ?_)
        refine ba_iconst V dX1_letIn_46 ba_cm1 ?_
        refine ba_icmp_ne V dX1_letIn_47 rfl h (fun h => ?_) (fun h => ?_)
        · refine ba_aload_n V dX1_letIn_50 1 rfl ?_
          refine ba_dup V dX1_letIn_51 rfl ?_
          refine ba_getI V dX1_letIn_52 kfX1_40 (ba_sCourse hb) rfl ?_
          refine ba_iconst V dX1_letIn_55 ba_c1 ?_
          refine ba_iload_n V dX1_letIn_56 3 rfl ?_
          refine ba_ishl V dX1_letIn_57 ?_
          refine ba_iconst V dX1_letIn_58 ba_cm1 ?_
          refine ba_ixor V dX1_letIn_59 ?_
          refine ba_iand V dX1_letIn_60 ?_
          refine ba_putI V dX1_letIn_61 kfX1_40 (ba_sCourse hb) rfl h (fun s163 h => ?_)
          refine ba_aload_n V dX1_letIn_64 1 rfl ?_
          refine ba_iload_n V dX1_letIn_65 3 rfl ?_
          refine ba_iload_n V dX1_letIn_66 0 rfl ?_
          refine ba_iconst V dX1_letIn_67 ba_c0 ?_
          obtain ⟨s164, hc, h⟩ := ba_bnd_some h
          refine ba_callVV (As := [.int z2, .int x160, .int 0]) (st := []) V dX1_letIn_68 kcX1_142 (ba_sCourse hb) (fun l => yc_settle V.inj l hb hc) ⟨rfl, rfl⟩ ⟨rfl, rfl, Nat.le_of_ble_eq_true rfl, Nat.le_of_ble_eq_true rfl⟩ (Nat.le_of_ble_eq_true rfl) ?_
          refine ba_iinc V dX1_letIn_71 3 rfl ba_c1 (by decide) h (fun x165 h => ⟨[(2, .int x165), (3, .int x160), (0, .ref (w.1 b)), (1, .int z1)], rfl, ?_⟩)
          refine ba_goto V dX1_letIn_74 rfl ?_
          exact ba_sub [2, 3, 0] rfl (hk _ _ h)
        · refine ba_iinc V dX1_letIn_71 3 rfl ba_c1 (by decide) h (fun x166 h => ⟨[(2, .int x166), (3, .int x160), (0, .ref (w.1 b)), (1, .int z1)], rfl, ?_⟩)
          refine ba_goto V dX1_letIn_74 rfl ?_
          exact ba_sub [2, 3, 0] rfl (hk _ _ h)
def xc_letIn (s : ba_St) (b : Nat) (a1 : Int32) : Option (ba_St) :=
  ba_bnd (ba_fix (xc_letIn_l2 b a1) 1000 (s, 0)) fun s167 =>
    some s167
set_option maxHeartbeats 4000000 in
set_option maxRecDepth 100000 in
theorem yc_letIn {w : ba_W} (hj : ba_inj ba_tC w) (l : Launch) {s : ba_St} {b : Nat} {a1 : Int32} (hb : ba_isCourse b) {o : ba_St} (h : xc_letIn s b a1 = some o) : ba_CV ba_tC w l yX1_letIn cX1_letIn 4 none rm_c_letIn [.ref (w.1 b), .int a1] s o := by
  refine ba_metV (lv := [(0, .ref (w.1 b)), (1, .int a1)]) l hj (by decide +kernel) ⟨Nat.le_of_ble_eq_true rfl, rfl⟩ ?_
  intro X V RT
  unfold xc_letIn at h
  refine ba_iconst V dX1_letIn_0 ba_c0 ?_
  refine ba_istore_n (lv' := [(2, .int 0), (0, .ref (w.1 b)), (1, .int a1)]) V dX1_letIn_1 (by decide) rfl ?_
  obtain ⟨o, ho, h⟩ := ba_bnd_some h
  refine ba_sub [1, 2, 0] rfl (yc_letIn_l2 V hb (o := o) (fun s167 e => ?_) 1000 s 0 ho)
  subst e
  try dsimp only at h
  exact RT _ _ _ dX1_letIn_77 (Option.some.inj h)
def xc_run_l27 (b : Nat) (z1 : Int32) (k : (ba_St × Int32) → Option (ba_St)) (a : (ba_St × Int32)) : Option (ba_St) :=
  match a with
  | (s, z2) =>
    if z2 < 0 then
      some s
    else
      ba_grd (ba_inb z2 8) <|
      if (s.1 (b + 6) (ba_ix z2)) = 0 then
        ba_lt (z2 + (-1)) fun x169 =>
        k (s, x169)
      else
        ba_bnd (xc_fallFrom s b z2 z1) fun s170 =>
        ba_lt (z2 + (-1)) fun x171 =>
        k (s170, x171)
set_option maxHeartbeats 4000000 in
set_option maxRecDepth 100000 in
theorem yc_run_l27 {w : ba_W} {X : ba_X} (V : ba_V ba_tC w 3 X cX1_run RX1 rm_c_run) {b : Nat} (hb : ba_isCourse b) {z1 : Int32} {o : ba_St} (EX : ∀ (s : ba_St) , s = o → ba_G ba_tC w 3 X s 52 [(0, .ref (w.1 b)), (1, .int z1)] []) : ∀ (n : Nat) (s : ba_St) (z2 : Int32), ba_fix (xc_run_l27 b z1) n (s, z2) = some o → ba_G ba_tC w 3 X s 27 [(0, .ref (w.1 b)), (1, .int z1), (2, .int z2)] [] := by
  intro n s z2 h
  refine ba_loop (P := fun a => ba_G ba_tC w 3 X a.1 27 [(0, .ref (w.1 b)), (1, .int z1), (2, .int a.2)] []) ?_ n (s, z2) h
  intro k hk0 a h
  obtain ⟨s, z2⟩ := a
  have hk : ∀ (s : ba_St) (z2 : Int32), k (s, z2) = some o → ba_G ba_tC w 3 X s 27 [(0, .ref (w.1 b)), (1, .int z1), (2, .int z2)] [] := fun s z2 e => hk0 (s, z2) e
  unfold xc_run_l27 at h
  try dsimp only at h ⊢
  refine ba_iload_n V dX1_run_27 2 rfl ?_
  refine ba_if_lt V dX1_run_28 rfl h (fun h => ?_) (fun h => ?_)
  · exact ba_sub [0, 1] rfl (EX _ (Option.some.inj h))
  · refine ba_aload_n V dX1_run_31 0 rfl ?_
    refine ba_getR V dX1_run_32 kfX1_34 (ba_sCourse hb) rfl ?_
    refine ba_iload_n V dX1_run_35 2 rfl ?_
    refine ba_iald V dX1_run_36 (ba_sCourse_6 hb) h (fun h => ?_)
    refine ba_if_eq V dX1_run_37 rfl h (fun h => ?_) (fun h => ?_)
    · refine ba_iinc V dX1_run_46 2 rfl ba_cm1 (by decide) h (fun x169 h => ⟨[(2, .int x169), (0, .ref (w.1 b)), (1, .int z1)], rfl, ?_⟩)
      refine ba_goto V dX1_run_49 rfl ?_
      exact ba_sub [1, 2, 0] rfl (hk _ _ h)
    · refine ba_aload_n V dX1_run_40 0 rfl ?_
      refine ba_iload_n V dX1_run_41 2 rfl ?_
      refine ba_iload_n V dX1_run_42 1 rfl ?_
      obtain ⟨s170, hc, h⟩ := ba_bnd_some h
      refine ba_callVV (As := [.int z2, .int z1]) (st := []) V dX1_run_43 kcX1_100 (ba_sCourse hb) (fun l => yc_fallFrom V.inj l hb hc) ⟨rfl, rfl⟩ ⟨rfl, rfl, Nat.le_of_ble_eq_true rfl, Nat.le_of_ble_eq_true rfl⟩ (Nat.le_of_ble_eq_true rfl) ?_
      refine ba_iinc V dX1_run_46 2 rfl ba_cm1 (by decide) h (fun x171 h => ⟨[(2, .int x171), (0, .ref (w.1 b)), (1, .int z1)], rfl, ?_⟩)
      refine ba_goto V dX1_run_49 rfl ?_
      exact ba_sub [1, 2, 0] rfl (hk _ _ h)
def xc_run_j64_6 (b : Nat) (k : (ba_St × Int32) → Option (ba_St)) (s : ba_St) (z1 : Int32) : Option (ba_St) :=
  ba_grd (ba_cok 0 (z1 * 12) 12 12 288) <|
  ba_lt (ba_cp s (b + 7) (b + 8) (ba_ix 0) (ba_ix (z1 * 12)) (ba_ix 12)) fun s173 =>
  ba_lt (z1 + 1) fun x174 =>
  k (s173, x174)
set_option maxHeartbeats 4000000 in
set_option maxRecDepth 100000 in
theorem yc_run_j64_6 {w : ba_W} {X : ba_X} (V : ba_V ba_tC w 3 X cX1_run RX1 rm_c_run) {b : Nat} (hb : ba_isCourse b) {s : ba_St} {z1 : Int32} {o : ba_St} {k : (ba_St × Int32) → Option (ba_St)} (hk : ∀ (s : ba_St) (z1 : Int32), k (s, z1) = some o → ba_G ba_tC w 3 X s 6 [(0, .ref (w.1 b)), (1, .int z1)] []) (EX : ∀ (s : ba_St) , s = o → ba_G ba_tC w 3 X s 88 [] []) (h : xc_run_j64_6 b k s z1 = some o) : ba_G ba_tC w 3 X s 64 [(0, .ref (w.1 b)), (1, .int z1)] [] := by
  unfold xc_run_j64_6 at h
  refine ba_aload_n V dX1_run_64 0 rfl ?_
  refine ba_getR V dX1_run_65 kfX1_37 (ba_sCourse hb) rfl ?_
  refine ba_iconst V dX1_run_68 ba_c0 ?_
  refine ba_aload_n V dX1_run_69 0 rfl ?_
  refine ba_getR V dX1_run_70 kfX1_43 (ba_sCourse hb) rfl ?_
  refine ba_iload_n V dX1_run_73 1 rfl ?_
  refine ba_bipush V dX1_run_74 ba_c12b ?_
  refine ba_imul V dX1_run_76 ?_
  refine ba_bipush V dX1_run_77 ba_c12b ?_
  refine ba_acopy V dX1_run_79 ⟨kjX1_76.1, kjX1_76.2.1, kjX1_76.2.2.1, kjX1_76.2.2.2, Nat.le_of_ble_eq_true rfl, by decide +kernel⟩ (ba_sCourse_7 hb) (ba_sCourse_8 hb) h (fun s173 h => ?_)
  refine ba_iinc V dX1_run_82 1 rfl ba_c1 (by decide) h (fun x174 h => ⟨[(1, .int x174), (0, .ref (w.1 b))], rfl, ?_⟩)
  refine ba_goto V dX1_run_85 rfl ?_
  exact ba_sub [1, 0] rfl (hk _ _ h)
def xc_run_j24_6 (b : Nat) (k : (ba_St × Int32) → Option (ba_St)) (s : ba_St) (z1 : Int32) : Option (ba_St) :=
  ba_bnd (ba_fix (xc_run_l27 b z1) 1000 (s, 7)) fun s172 =>
    if (s172.1 b 10) = 0 then
      xc_run_j64_6 b k s172 z1
    else
      ba_bnd (xc_letIn s172 b z1) fun s175 =>
      xc_run_j64_6 b k s175 z1
set_option maxHeartbeats 4000000 in
set_option maxRecDepth 100000 in
theorem yc_run_j24_6 {w : ba_W} {X : ba_X} (V : ba_V ba_tC w 3 X cX1_run RX1 rm_c_run) {b : Nat} (hb : ba_isCourse b) {s : ba_St} {z1 : Int32} {o : ba_St} {k : (ba_St × Int32) → Option (ba_St)} (hk : ∀ (s : ba_St) (z1 : Int32), k (s, z1) = some o → ba_G ba_tC w 3 X s 6 [(0, .ref (w.1 b)), (1, .int z1)] []) (EX : ∀ (s : ba_St) , s = o → ba_G ba_tC w 3 X s 88 [] []) (h : xc_run_j24_6 b k s z1 = some o) : ba_G ba_tC w 3 X s 24 [(0, .ref (w.1 b)), (1, .int z1)] [] := by
  unfold xc_run_j24_6 at h
  refine ba_bipush V dX1_run_24 ba_c7b ?_
  refine ba_istore_n (lv' := [(2, .int 7), (0, .ref (w.1 b)), (1, .int z1)]) V dX1_run_26 (by decide) rfl ?_
  obtain ⟨o, ho, h⟩ := ba_bnd_some h
  refine ba_sub [1, 2, 0] rfl (yc_run_l27 V hb (o := o) (fun s172 e => ?_) 1000 s 7 ho)
  subst e
  try dsimp only at h
  refine ba_aload_n V dX1_run_52 0 rfl ?_
  refine ba_getI V dX1_run_53 kfX1_40 (ba_sCourse hb) rfl ?_
  refine ba_if_eq V dX1_run_56 rfl h (fun h => ?_) (fun h => ?_)
  · exact ba_sub [0, 1] rfl (yc_run_j64_6 V hb hk EX h)
  · refine ba_aload_n V dX1_run_59 0 rfl ?_
    refine ba_iload_n V dX1_run_60 1 rfl ?_
    obtain ⟨s175, hc, h⟩ := ba_bnd_some h
    refine ba_callVV (As := [.int z1]) (st := []) V dX1_run_61 kcX1_104 (ba_sCourse hb) (fun l => yc_letIn V.inj l hb hc) ⟨rfl, rfl⟩ ⟨rfl, rfl, Nat.le_of_ble_eq_true rfl, Nat.le_of_ble_eq_true rfl⟩ (Nat.le_of_ble_eq_true rfl) ?_
    exact ba_sub [0, 1] rfl (yc_run_j64_6 V hb hk EX h)
def xc_run_l6 (b : Nat) (k : (ba_St × Int32) → Option (ba_St)) (a : (ba_St × Int32)) : Option (ba_St) :=
  match a with
  | (s, z1) =>
    if 24 ≤ z1 then
      some s
    else
      if (s.1 b 5) = 0 then
        xc_run_j24_6 b k s z1
      else
        ba_bnd (xc_doEvents s b z1) fun s176 =>
        xc_run_j24_6 b k s176 z1
set_option maxHeartbeats 4000000 in
set_option maxRecDepth 100000 in
theorem yc_run_l6 {w : ba_W} {X : ba_X} (V : ba_V ba_tC w 3 X cX1_run RX1 rm_c_run) {b : Nat} (hb : ba_isCourse b) {o : ba_St} (EX : ∀ (s : ba_St) , s = o → ba_G ba_tC w 3 X s 88 [] []) : ∀ (n : Nat) (s : ba_St) (z1 : Int32), ba_fix (xc_run_l6 b) n (s, z1) = some o → ba_G ba_tC w 3 X s 6 [(0, .ref (w.1 b)), (1, .int z1)] [] := by
  intro n s z1 h
  refine ba_loop (P := fun a => ba_G ba_tC w 3 X a.1 6 [(0, .ref (w.1 b)), (1, .int a.2)] []) ?_ n (s, z1) h
  intro k hk0 a h
  obtain ⟨s, z1⟩ := a
  have hk : ∀ (s : ba_St) (z1 : Int32), k (s, z1) = some o → ba_G ba_tC w 3 X s 6 [(0, .ref (w.1 b)), (1, .int z1)] [] := fun s z1 e => hk0 (s, z1) e
  unfold xc_run_l6 at h
  try dsimp only at h ⊢
  refine ba_iload_n V dX1_run_6 1 rfl ?_
  refine ba_bipush V dX1_run_7 ba_c24b ?_
  refine ba_icmp_ge V dX1_run_9 rfl h (fun h => ?_) (fun h => ?_)
  · exact ba_sub [] rfl (EX _ (Option.some.inj h))
  · refine ba_aload_n V dX1_run_12 0 rfl ?_
    refine ba_getI V dX1_run_13 kfX1_25 (ba_sCourse hb) rfl ?_
    refine ba_if_eq V dX1_run_16 rfl h (fun h => ?_) (fun h => ?_)
    · exact ba_sub [0, 1] rfl (yc_run_j24_6 V hb hk EX h)
    · refine ba_aload_n V dX1_run_19 0 rfl ?_
      refine ba_iload_n V dX1_run_20 1 rfl ?_
      obtain ⟨s176, hc, h⟩ := ba_bnd_some h
      refine ba_callVV (As := [.int z1]) (st := []) V dX1_run_21 kcX1_96 (ba_sCourse hb) (fun l => yc_doEvents V.inj l hb hc) ⟨rfl, rfl⟩ ⟨rfl, rfl, Nat.le_of_ble_eq_true rfl, Nat.le_of_ble_eq_true rfl⟩ (Nat.le_of_ble_eq_true rfl) ?_
      exact ba_sub [0, 1] rfl (yc_run_j24_6 V hb hk EX h)
def xc_run (s : ba_St) (b : Nat) : Option (ba_St) :=
  ba_bnd (xc_begin s b) fun s168 =>
  ba_bnd (ba_fix (xc_run_l6 b) 1000 (s168, 0)) fun s177 =>
    some s177
set_option maxHeartbeats 4000000 in
set_option maxRecDepth 100000 in
theorem yc_run {w : ba_W} (hj : ba_inj ba_tC w) (l : Launch) {s : ba_St} {b : Nat} (hb : ba_isCourse b) {o : ba_St} (h : xc_run s b = some o) : ba_CV ba_tC w l yX1_run cX1_run 3 none rm_c_run [.ref (w.1 b)] s o := by
  refine ba_metV (lv := [(0, .ref (w.1 b))]) l hj (by decide +kernel) ⟨Nat.le_of_ble_eq_true rfl, rfl⟩ ?_
  intro X V RT
  unfold xc_run at h
  refine ba_aload_n V dX1_run_0 0 rfl ?_
  obtain ⟨s168, hc, h⟩ := ba_bnd_some h
  refine ba_callVV (As := []) (st := []) V dX1_run_1 kcX1_93 (ba_sCourse hb) (fun l => yc_begin V.inj l hb hc) ⟨rfl, rfl⟩ ⟨rfl, rfl, Nat.le_of_ble_eq_true rfl, Nat.le_of_ble_eq_true rfl⟩ (Nat.le_of_ble_eq_true rfl) ?_
  refine ba_iconst V dX1_run_4 ba_c0 ?_
  refine ba_istore_n (lv' := [(1, .int 0), (0, .ref (w.1 b))]) V dX1_run_5 (by decide) rfl ?_
  obtain ⟨o, ho, h⟩ := ba_bnd_some h
  refine ba_sub [1, 0] rfl (yc_run_l6 V hb (o := o) (fun s177 e => ?_) 1000 s168 0 ho)
  subst e
  try dsimp only at h
  exact RT _ _ _ dX1_run_88 (Option.some.inj h)
