def xb_runTold (s : ba_St) : Option (ba_St) :=
  if (s.1 0 8) = 0 then
    ba_bnd (xc_takeTold s 31) fun s178 =>
    ba_bnd (xc_run s178 31) fun s179 =>
    ba_lt (ba_w s179 0 8 1) fun s180 =>
    some s180
  else
    some s
set_option maxHeartbeats 4000000 in
set_option maxRecDepth 100000 in
theorem yb_runTold {w : ba_W} (hj : ba_inj ba_tC w) (l : Launch) {s : ba_St} {o : ba_St} (h : xb_runTold s = some o) : ba_CV ba_tC w l yX5_runTold cX5_runTold 1 none rm_b_runTold [.ref (w.1 0)] s o := by
  refine ba_metV (lv := [(0, .ref (w.1 0))]) l hj (by decide +kernel) ⟨Nat.le_of_ble_eq_true rfl, rfl⟩ ?_
  intro X V RT
  unfold xb_runTold at h
  refine ba_aload_n V dX5_runTold_0 0 rfl ?_
  refine ba_getI V dX5_runTold_1 kfX5_55 ba_sBag rfl ?_
  refine ba_if_ne V dX5_runTold_4 rfl h (fun h => ?_) (fun h => ?_)
  · refine ba_aload_n V dX5_runTold_7 0 rfl ?_
    refine ba_getR V dX5_runTold_8 kfX5_31 ba_sBag rfl ?_
    obtain ⟨s178, hc, h⟩ := ba_bnd_some h
    refine ba_callVV (As := []) (st := []) V dX5_runTold_11 kcX5_215 (ba_sCourse ba_isCourse_31) (fun l => yc_takeTold V.inj l ba_isCourse_31 hc) ⟨rfl, rfl⟩ ⟨rfl, rfl, Nat.le_of_ble_eq_true rfl, Nat.le_of_ble_eq_true rfl⟩ (Nat.le_of_ble_eq_true rfl) ?_
    refine ba_aload_n V dX5_runTold_14 0 rfl ?_
    refine ba_getR V dX5_runTold_15 kfX5_31 ba_sBag rfl ?_
    obtain ⟨s179, hc, h⟩ := ba_bnd_some h
    refine ba_callVV (As := []) (st := []) V dX5_runTold_18 kcX5_221 (ba_sCourse ba_isCourse_31) (fun l => yc_run V.inj l ba_isCourse_31 hc) ⟨rfl, rfl⟩ ⟨rfl, rfl, Nat.le_of_ble_eq_true rfl, Nat.le_of_ble_eq_true rfl⟩ (Nat.le_of_ble_eq_true rfl) ?_
    refine ba_aload_n V dX5_runTold_21 0 rfl ?_
    refine ba_iconst V dX5_runTold_22 ba_c1 ?_
    refine ba_putZ V dX5_runTold_23 kfX5_55 ba_sBag rfl ba_y1 h (fun s180 h => ?_)
    exact RT _ _ _ dX5_runTold_26 (Option.some.inj h)
  · exact RT _ _ _ dX5_runTold_26 (Option.some.inj h)
def xb_cup (s : ba_St) (a1 : Int32) (a2 : Int32) : Option (Int32 × ba_St) :=
  ba_bnd (xb_within a1 9) fun v181 =>
  if v181 = 0 then
    some ((-2), s)
  else
    if a2 = 0 then
      ba_grd (ba_inb a1 9) <|
      some ((s.1 7 (ba_ix a1)), s)
    else if a2 = 1 then
      ba_bnd (xb_runTold s) fun s182 =>
      ba_grd (ba_inb a1 9) <|
      some ((s182.1 (31 + 9) (ba_ix a1)), s182)
    else if a2 = 2 then
      ba_bnd (xb_runTold s) fun s183 =>
      ba_grd (ba_inb a1 9) <|
      some ((s183.1 (31 + 10) (ba_ix a1)), s183)
    else
      some ((-2), s)
set_option maxHeartbeats 4000000 in
set_option maxRecDepth 100000 in
theorem yb_cup {w : ba_W} (hj : ba_inj ba_tC w) (l : Launch) {s : ba_St} {a1 : Int32} {a2 : Int32} {o : Int32 × ba_St} (h : xb_cup s a1 a2 = some o) : ba_CI ba_tC w l yX5_cup cX5_cup 3 (some .int) rm_b_cup [.ref (w.1 0), .int a1, .int a2] s o := by
  refine ba_metI (lv := [(0, .ref (w.1 0)), (1, .int a1), (2, .int a2)]) l hj (by decide +kernel) ⟨Nat.le_of_ble_eq_true rfl, rfl⟩ ?_
  intro X V RT
  unfold xb_cup at h
  refine ba_iload_n V dX5_cup_0 1 rfl ?_
  refine ba_bipush V dX5_cup_1 ba_c9b ?_
  obtain ⟨v181, hc, h⟩ := ba_bnd_some h
  refine ba_callSI (As := [.int a1, .int 9]) (st := []) V dX5_cup_3 kcX5_97 (fun l => yb_within V.inj l hc) ⟨rfl, rfl⟩ ⟨rfl, rfl, Nat.le_of_ble_eq_true rfl, Nat.le_of_ble_eq_true rfl⟩ (Nat.le_of_ble_eq_true rfl) ?_
  refine ba_if_ne V dX5_cup_6 rfl h (fun h => ?_) (fun h => ?_)
  · refine ba_bipush V dX5_cup_9 ba_cm2b ?_
    exact RT _ _ _ _ dX5_cup_11 (Option.some.inj h)
  · refine ba_iload_n V dX5_cup_12 2 rfl ?_
    refine ba_case h (fun e0 h => ?_) (fun e0 h => ?_)
    · refine ba_swT (off := 27) (tgt := 40) V dX5_cup_13 (Or.inl ⟨by rw [e0]; decide, by rw [e0]; decide, by rw [e0]; rfl⟩) rfl ?_
      refine ba_aload_n V dX5_cup_40 0 rfl ?_
      refine ba_getR V dX5_cup_41 kfX5_22 ba_sBag rfl ?_
      refine ba_getR V dX5_cup_44 kfX5_120 ba_sBoard rfl ?_
      refine ba_iload_n V dX5_cup_47 1 rfl ?_
      refine ba_iald V dX5_cup_48 ba_sC_7 h (fun h => ?_)
      exact RT _ _ _ _ dX5_cup_49 (Option.some.inj h)
    refine ba_case h (fun e1 h => ?_) (fun e1 h => ?_)
    · refine ba_swT (off := 37) (tgt := 50) V dX5_cup_13 (Or.inl ⟨by rw [e1]; decide, by rw [e1]; decide, by rw [e1]; rfl⟩) rfl ?_
      refine ba_aload_n V dX5_cup_50 0 rfl ?_
      obtain ⟨s182, hc, h⟩ := ba_bnd_some h
      refine ba_callVV (As := []) (st := []) V dX5_cup_51 kcX5_123 ba_sBag (fun l => yb_runTold V.inj l hc) ⟨rfl, rfl⟩ ⟨rfl, rfl, Nat.le_of_ble_eq_true rfl, Nat.le_of_ble_eq_true rfl⟩ (Nat.le_of_ble_eq_true rfl) ?_
      refine ba_aload_n V dX5_cup_54 0 rfl ?_
      refine ba_getR V dX5_cup_55 kfX5_31 ba_sBag rfl ?_
      refine ba_getR V dX5_cup_58 kfX5_126 (ba_sCourse ba_isCourse_31) rfl ?_
      refine ba_iload_n V dX5_cup_61 1 rfl ?_
      refine ba_iald V dX5_cup_62 (ba_sCourse_9 ba_isCourse_31) h (fun h => ?_)
      exact RT _ _ _ _ dX5_cup_63 (Option.some.inj h)
    refine ba_case h (fun e2 h => ?_) (fun e2 h => ?_)
    · refine ba_swT (off := 51) (tgt := 64) V dX5_cup_13 (Or.inl ⟨by rw [e2]; decide, by rw [e2]; decide, by rw [e2]; rfl⟩) rfl ?_
      refine ba_aload_n V dX5_cup_64 0 rfl ?_
      obtain ⟨s183, hc, h⟩ := ba_bnd_some h
      refine ba_callVV (As := []) (st := []) V dX5_cup_65 kcX5_123 ba_sBag (fun l => yb_runTold V.inj l hc) ⟨rfl, rfl⟩ ⟨rfl, rfl, Nat.le_of_ble_eq_true rfl, Nat.le_of_ble_eq_true rfl⟩ (Nat.le_of_ble_eq_true rfl) ?_
      refine ba_aload_n V dX5_cup_68 0 rfl ?_
      refine ba_getR V dX5_cup_69 kfX5_31 ba_sBag rfl ?_
      refine ba_getR V dX5_cup_72 kfX5_129 (ba_sCourse ba_isCourse_31) rfl ?_
      refine ba_iload_n V dX5_cup_75 1 rfl ?_
      refine ba_iald V dX5_cup_76 (ba_sCourse_10 ba_isCourse_31) h (fun h => ?_)
      exact RT _ _ _ _ dX5_cup_77 (Option.some.inj h)
    refine ba_swT (off := 65) (tgt := 78) V dX5_cup_13 (Or.inr ⟨by have g0 : ¬ Int32.toInt a2 = 0 := ba_ne e0; have g1 : ¬ Int32.toInt a2 = 1 := ba_ne e1; have g2 : ¬ Int32.toInt a2 = 2 := ba_ne e2; omega, rfl⟩) rfl ?_
    refine ba_bipush V dX5_cup_78 ba_cm2b ?_
    exact RT _ _ _ _ dX5_cup_80 (Option.some.inj h)
def xb_ball (s : ba_St) (a1 : Int32) (a2 : Int32) : Option (Int32) :=
  ba_bnd (xb_within a1 (s.1 3 7)) fun v184 =>
  if v184 = 0 then
    some (-2)
  else
    if a2 = 0 then
      ba_grd (ba_inb a1 12) <|
      some (s.1 8 (ba_ix a1))
    else if a2 = 1 then
      ba_grd (ba_inb a1 12) <|
      some (s.1 9 (ba_ix a1))
    else
      some (-2)
set_option maxHeartbeats 4000000 in
set_option maxRecDepth 100000 in
theorem yb_ball {w : ba_W} (hj : ba_inj ba_tC w) (l : Launch) {s : ba_St} {a1 : Int32} {a2 : Int32} {o : Int32} (h : xb_ball s a1 a2 = some o) : ba_CI ba_tC w l yX5_ball cX5_ball 3 (some .int) rm_b_ball [.ref (w.1 0), .int a1, .int a2] s (o, s) := by
  refine ba_metI (lv := [(0, .ref (w.1 0)), (1, .int a1), (2, .int a2)]) l hj (by decide +kernel) ⟨Nat.le_of_ble_eq_true rfl, rfl⟩ ?_
  intro X V RT
  replace RT := fun pc lv v D e => RT pc lv v s D (congrArg (fun q => (q, s)) e)
  unfold xb_ball at h
  refine ba_iload_n V dX5_ball_0 1 rfl ?_
  refine ba_aload_n V dX5_ball_1 0 rfl ?_
  refine ba_getR V dX5_ball_2 kfX5_22 ba_sBag rfl ?_
  refine ba_getI V dX5_ball_5 kfX5_132 ba_sBoard rfl ?_
  obtain ⟨v184, hc, h⟩ := ba_bnd_some h
  refine ba_callSI (As := [.int a1, .int (s.1 3 7)]) (st := []) V dX5_ball_8 kcX5_97 (fun l => yb_within V.inj l hc) ⟨rfl, rfl⟩ ⟨rfl, rfl, Nat.le_of_ble_eq_true rfl, Nat.le_of_ble_eq_true rfl⟩ (Nat.le_of_ble_eq_true rfl) ?_
  refine ba_if_ne V dX5_ball_11 rfl h (fun h => ?_) (fun h => ?_)
  · refine ba_bipush V dX5_ball_14 ba_cm2b ?_
    exact RT _ _ _ dX5_ball_16 (Option.some.inj h)
  · refine ba_iload_n V dX5_ball_17 2 rfl ?_
    refine ba_case h (fun e0 h => ?_) (fun e0 h => ?_)
    · refine ba_swL (off := 26) (tgt := 44) V dX5_ball_18 (by decide) (by rw [e0]; decide) rfl ?_
      refine ba_aload_n V dX5_ball_44 0 rfl ?_
      refine ba_getR V dX5_ball_45 kfX5_22 ba_sBag rfl ?_
      refine ba_getR V dX5_ball_48 kfX5_135 ba_sBoard rfl ?_
      refine ba_iload_n V dX5_ball_51 1 rfl ?_
      refine ba_iald V dX5_ball_52 ba_sC_8 h (fun h => ?_)
      exact RT _ _ _ dX5_ball_53 (Option.some.inj h)
    refine ba_case h (fun e1 h => ?_) (fun e1 h => ?_)
    · refine ba_swL (off := 36) (tgt := 54) V dX5_ball_18 (by decide) (by rw [e1]; decide) rfl ?_
      refine ba_aload_n V dX5_ball_54 0 rfl ?_
      refine ba_getR V dX5_ball_55 kfX5_22 ba_sBag rfl ?_
      refine ba_getR V dX5_ball_58 kfX5_138 ba_sBoard rfl ?_
      refine ba_iload_n V dX5_ball_61 1 rfl ?_
      refine ba_iald V dX5_ball_62 ba_sC_9 h (fun h => ?_)
      exact RT _ _ _ dX5_ball_63 (Option.some.inj h)
    refine ba_swL (off := 46) (tgt := 64) V dX5_ball_18 (by decide) (by show Op.lookupswitch.offset [(0, 26), (1, 36)] 46 _ = 46; rw [lv_osw (a := 0) e0 rfl, lv_osw (a := 1) e1 rfl]; rfl) rfl ?_
    refine ba_bipush V dX5_ball_64 ba_cm2b ?_
    exact RT _ _ _ dX5_ball_66 (Option.some.inj h)
def xb_room (s : ba_St) (a1 : Int32) : Option (Int32 × ba_St) :=
  if a1 < 1 then
    some ((-2), s)
  else
    if a1 ≤ 9 then
      ba_lt (s.1 3 8) fun x185 =>
      ba_lt (ba_w s 3 8 a1) fun s186 =>
      ba_bnd (xb_forgetResults s186) fun s187 =>
      some (x185, s187)
    else
      some ((-2), s)
set_option maxHeartbeats 4000000 in
set_option maxRecDepth 100000 in
theorem yb_room {w : ba_W} (hj : ba_inj ba_tC w) (l : Launch) {s : ba_St} {a1 : Int32} {o : Int32 × ba_St} (h : xb_room s a1 = some o) : ba_CI ba_tC w l yX5_room cX5_room 3 (some .int) rm_b_room [.ref (w.1 0), .int a1] s o := by
  refine ba_metI (lv := [(0, .ref (w.1 0)), (1, .int a1)]) l hj (by decide +kernel) ⟨Nat.le_of_ble_eq_true rfl, rfl⟩ ?_
  intro X V RT
  unfold xb_room at h
  refine ba_iload_n V dX5_room_0 1 rfl ?_
  refine ba_iconst V dX5_room_1 ba_c1 ?_
  refine ba_icmp_lt V dX5_room_2 rfl h (fun h => ?_) (fun h => ?_)
  · refine ba_bipush V dX5_room_11 ba_cm2b ?_
    exact RT _ _ _ _ dX5_room_13 (Option.some.inj h)
  · refine ba_iload_n V dX5_room_5 1 rfl ?_
    refine ba_bipush V dX5_room_6 ba_c9b ?_
    refine ba_icmp_le V dX5_room_8 rfl h (fun h => ?_) (fun h => ?_)
    · refine ba_aload_n V dX5_room_14 0 rfl ?_
      refine ba_getR V dX5_room_15 kfX5_22 ba_sBag rfl ?_
      refine ba_getI V dX5_room_18 kfX5_141 ba_sBoard rfl ?_
      refine ba_letI h (fun x185 h => ?_)
      refine ba_istore_n (lv' := [(2, .int x185), (0, .ref (w.1 0)), (1, .int a1)]) V dX5_room_21 (by decide) rfl ?_
      refine ba_aload_n V dX5_room_22 1 rfl ?_
      refine ba_getR V dX5_room_23 kfX5_22 ba_sBag rfl ?_
      refine ba_iload_n V dX5_room_26 2 rfl ?_
      refine ba_putI V dX5_room_27 kfX5_141 ba_sBoard rfl h (fun s186 h => ?_)
      refine ba_aload_n V dX5_room_30 1 rfl ?_
      obtain ⟨s187, hc, h⟩ := ba_bnd_some h
      refine ba_callVV (As := []) (st := []) V dX5_room_31 kcX5_144 ba_sBag (fun l => yb_forgetResults V.inj l hc) ⟨rfl, rfl⟩ ⟨rfl, rfl, Nat.le_of_ble_eq_true rfl, Nat.le_of_ble_eq_true rfl⟩ (Nat.le_of_ble_eq_true rfl) ?_
      refine ba_iload_n V dX5_room_34 0 rfl ?_
      exact RT _ _ _ _ dX5_room_35 (Option.some.inj h)
    · refine ba_bipush V dX5_room_11 ba_cm2b ?_
      exact RT _ _ _ _ dX5_room_13 (Option.some.inj h)
def xb_isEvent_j30 : Option (Int32) :=
  some 0
set_option maxHeartbeats 4000000 in
set_option maxRecDepth 100000 in
theorem yb_isEvent_j30 {w : ba_W} {X : ba_X} {σ : ba_St} (V : ba_V ba_tC w 3 X cX5_isEvent RX5 rm_b_isEvent) {o : Int32} (RT : ∀ (pc : Nat) (lv : List (Nat × Value)) (v : Int32) , decode cX5_isEvent pc = .ok (.ireturn, 1) → v = 0 ∨ v = 1 → v = o → ba_G ba_tC w 3 X σ pc lv [.int v]) (h : xb_isEvent_j30 = some o) : ba_G ba_tC w 3 X σ 30 [] [] := by
  unfold xb_isEvent_j30 at h
  refine ba_iconst V dX5_isEvent_30 ba_c0 ?_
  exact RT _ _ _ dX5_isEvent_31 ba_y0 (Option.some.inj h)
def xb_isEvent (a0 : Int32) (a1 : Int32) (a2 : Int32) : Option (Int32) :=
  ba_bnd (xb_within a0 3) fun v188 =>
  if v188 = 0 then
    xb_isEvent_j30
  else
    ba_bnd (xb_within a1 24) fun v189 =>
    if v189 = 0 then
      xb_isEvent_j30
    else
      ba_bnd (xb_within a2 12) fun v190 =>
      if v190 = 0 then
        xb_isEvent_j30
      else
        some 1
set_option maxHeartbeats 4000000 in
set_option maxRecDepth 100000 in
theorem yb_isEvent {w : ba_W} (hj : ba_inj ba_tC w) (l : Launch) {σ : ba_St} {a0 : Int32} {a1 : Int32} {a2 : Int32} {o : Int32} (h : xb_isEvent a0 a1 a2 = some o) : ba_CI ba_tC w l yX5_isEvent cX5_isEvent 3 (some .boolean) rm_b_isEvent [.int a0, .int a1, .int a2] σ (o, σ) := by
  refine ba_metZ (lv := [(0, .int a0), (1, .int a1), (2, .int a2)]) l hj (by decide +kernel) ⟨Nat.le_of_ble_eq_true rfl, rfl⟩ ?_
  intro X V RT
  replace RT := fun pc lv v D z e => RT pc lv v σ D z (congrArg (fun q => (q, σ)) e)
  unfold xb_isEvent at h
  refine ba_iload_n V dX5_isEvent_0 0 rfl ?_
  refine ba_iconst V dX5_isEvent_1 ba_c3 ?_
  obtain ⟨v188, hc, h⟩ := ba_bnd_some h
  refine ba_callSI (As := [.int a0, .int 3]) (st := []) V dX5_isEvent_2 kcX5_97 (fun l => yb_within V.inj l hc) ⟨rfl, rfl⟩ ⟨rfl, rfl, Nat.le_of_ble_eq_true rfl, Nat.le_of_ble_eq_true rfl⟩ (Nat.le_of_ble_eq_true rfl) ?_
  refine ba_if_eq V dX5_isEvent_5 rfl h (fun h => ?_) (fun h => ?_)
  · exact ba_sub [] rfl (yb_isEvent_j30 V RT h)
  · refine ba_iload_n V dX5_isEvent_8 1 rfl ?_
    refine ba_bipush V dX5_isEvent_9 ba_c24b ?_
    obtain ⟨v189, hc, h⟩ := ba_bnd_some h
    refine ba_callSI (As := [.int a1, .int 24]) (st := []) V dX5_isEvent_11 kcX5_97 (fun l => yb_within V.inj l hc) ⟨rfl, rfl⟩ ⟨rfl, rfl, Nat.le_of_ble_eq_true rfl, Nat.le_of_ble_eq_true rfl⟩ (Nat.le_of_ble_eq_true rfl) ?_
    refine ba_if_eq V dX5_isEvent_14 rfl h (fun h => ?_) (fun h => ?_)
    · exact ba_sub [] rfl (yb_isEvent_j30 V RT h)
    · refine ba_iload_n V dX5_isEvent_17 2 rfl ?_
      refine ba_bipush V dX5_isEvent_18 ba_c12b ?_
      obtain ⟨v190, hc, h⟩ := ba_bnd_some h
      refine ba_callSI (As := [.int a2, .int 12]) (st := []) V dX5_isEvent_20 kcX5_97 (fun l => yb_within V.inj l hc) ⟨rfl, rfl⟩ ⟨rfl, rfl, Nat.le_of_ble_eq_true rfl, Nat.le_of_ble_eq_true rfl⟩ (Nat.le_of_ble_eq_true rfl) ?_
      refine ba_if_eq V dX5_isEvent_23 rfl h (fun h => ?_) (fun h => ?_)
      · exact ba_sub [] rfl (yb_isEvent_j30 V RT h)
      · refine ba_iconst V dX5_isEvent_26 ba_c1 ?_
        refine ba_goto V dX5_isEvent_27 rfl ?_
        exact RT _ _ _ dX5_isEvent_31 ba_y1 (Option.some.inj h)
def xl_isFull (s : ba_St) (b : Nat) : Option (Int32) :=
  if (s.1 b 1) < 8 then
    some 0
  else
    some 1
set_option maxHeartbeats 4000000 in
set_option maxRecDepth 100000 in
theorem yl_isFull {w : ba_W} (hj : ba_inj ba_tC w) (l : Launch) {s : ba_St} {b : Nat} (hb : ba_isSlips b) {o : Int32} (h : xl_isFull s b = some o) : ba_CI ba_tC w l yX3_isFull cX3_isFull 1 (some .boolean) rm_l_isFull [.ref (w.1 b)] s (o, s) := by
  refine ba_metZ (lv := [(0, .ref (w.1 b))]) l hj (by decide +kernel) ⟨Nat.le_of_ble_eq_true rfl, rfl⟩ ?_
  intro X V RT
  replace RT := fun pc lv v D z e => RT pc lv v s D z (congrArg (fun q => (q, s)) e)
  unfold xl_isFull at h
  refine ba_aload_n V dX3_isFull_0 0 rfl ?_
  refine ba_getI V dX3_isFull_1 kfX3_15 (ba_sSlips hb) rfl ?_
  refine ba_bipush V dX3_isFull_4 ba_c8b ?_
  refine ba_icmp_lt V dX3_isFull_6 rfl h (fun h => ?_) (fun h => ?_)
  · refine ba_iconst V dX3_isFull_13 ba_c0 ?_
    exact RT _ _ _ dX3_isFull_14 ba_y0 (Option.some.inj h)
  · refine ba_iconst V dX3_isFull_9 ba_c1 ?_
    refine ba_goto V dX3_isFull_10 rfl ?_
    exact RT _ _ _ dX3_isFull_14 ba_y1 (Option.some.inj h)
def xl_append (s : ba_St) (b : Nat) (a1 : Int32) (a2 : Int32) (a3 : Int32) (a4 : Int32) : Option (ba_St) :=
  ba_bnd (xl_isFull s b) fun v191 =>
  if v191 = 0 then
    ba_lt ((s.1 b 1) * 4) fun x192 =>
    ba_grd (ba_inb x192 32) <|
    ba_lt (ba_w s (b + 1) (ba_ix x192) a1) fun s193 =>
    ba_grd (ba_inb (x192 + 1) 32) <|
    ba_lt (ba_w s193 (b + 1) (ba_ix (x192 + 1)) a2) fun s194 =>
    ba_grd (ba_inb (x192 + 2) 32) <|
    ba_lt (ba_w s194 (b + 1) (ba_ix (x192 + 2)) a3) fun s195 =>
    ba_grd (ba_inb (x192 + 3) 32) <|
    ba_lt (ba_w s195 (b + 1) (ba_ix (x192 + 3)) a4) fun s196 =>
    ba_lt (ba_w s196 b 1 ((s196.1 b 1) + 1)) fun s197 =>
    some s197
  else
    some s
set_option maxHeartbeats 4000000 in
set_option maxRecDepth 100000 in
theorem yl_append {w : ba_W} (hj : ba_inj ba_tC w) (l : Launch) {s : ba_St} {b : Nat} {a1 : Int32} {a2 : Int32} {a3 : Int32} {a4 : Int32} (hb : ba_isSlips b) {o : ba_St} (h : xl_append s b a1 a2 a3 a4 = some o) : ba_CV ba_tC w l yX3_append cX3_append 6 none rm_l_append [.ref (w.1 b), .int a1, .int a2, .int a3, .int a4] s o := by
  refine ba_metV (lv := [(0, .ref (w.1 b)), (1, .int a1), (2, .int a2), (3, .int a3), (4, .int a4)]) l hj (by decide +kernel) ⟨Nat.le_of_ble_eq_true rfl, rfl⟩ ?_
  intro X V RT
  unfold xl_append at h
  refine ba_aload_n V dX3_append_0 0 rfl ?_
  obtain ⟨v191, hc, h⟩ := ba_bnd_some h
  refine ba_callVI (As := []) (st := []) V dX3_append_1 kcX3_19 (ba_sSlips hb) (fun l => yl_isFull V.inj l hb hc) ⟨rfl, rfl⟩ ⟨rfl, rfl, Nat.le_of_ble_eq_true rfl, Nat.le_of_ble_eq_true rfl⟩ (Nat.le_of_ble_eq_true rfl) ?_
  refine ba_if_eq V dX3_append_4 rfl h (fun h => ?_) (fun h => ?_)
  · refine ba_aload_n V dX3_append_8 0 rfl ?_
    refine ba_getI V dX3_append_9 kfX3_15 (ba_sSlips hb) rfl ?_
    refine ba_iconst V dX3_append_12 ba_c4 ?_
    refine ba_imul V dX3_append_13 ?_
    refine ba_letI h (fun x192 h => ?_)
    refine ba_istore (lv' := [(5, .int x192), (0, .ref (w.1 b)), (1, .int a1), (2, .int a2), (3, .int a3), (4, .int a4)]) V dX3_append_14 (by decide) rfl ?_
    refine ba_aload_n V dX3_append_16 1 rfl ?_
    refine ba_getR V dX3_append_17 kfX3_11 (ba_sSlips hb) rfl ?_
    refine ba_iload V dX3_append_20 0 rfl ?_
    refine ba_iload_n V dX3_append_22 2 rfl ?_
    refine ba_iast V dX3_append_23 (ba_sSlips_1 hb) h (fun s193 h => ?_)
    refine ba_aload_n V dX3_append_24 1 rfl ?_
    refine ba_getR V dX3_append_25 kfX3_11 (ba_sSlips hb) rfl ?_
    refine ba_iload V dX3_append_28 0 rfl ?_
    refine ba_iconst V dX3_append_30 ba_c1 ?_
    refine ba_iadd V dX3_append_31 ?_
    refine ba_iload_n V dX3_append_32 3 rfl ?_
    refine ba_iast V dX3_append_33 (ba_sSlips_1 hb) h (fun s194 h => ?_)
    refine ba_aload_n V dX3_append_34 1 rfl ?_
    refine ba_getR V dX3_append_35 kfX3_11 (ba_sSlips hb) rfl ?_
    refine ba_iload V dX3_append_38 0 rfl ?_
    refine ba_iconst V dX3_append_40 ba_c2 ?_
    refine ba_iadd V dX3_append_41 ?_
    refine ba_iload_n V dX3_append_42 4 rfl ?_
    refine ba_iast V dX3_append_43 (ba_sSlips_1 hb) h (fun s195 h => ?_)
    refine ba_aload_n V dX3_append_44 1 rfl ?_
    refine ba_getR V dX3_append_45 kfX3_11 (ba_sSlips hb) rfl ?_
    refine ba_iload V dX3_append_48 0 rfl ?_
    refine ba_iconst V dX3_append_50 ba_c3 ?_
    refine ba_iadd V dX3_append_51 ?_
    refine ba_iload V dX3_append_52 5 rfl ?_
    refine ba_iast V dX3_append_54 (ba_sSlips_1 hb) h (fun s196 h => ?_)
    refine ba_aload_n V dX3_append_55 1 rfl ?_
    refine ba_dup V dX3_append_56 rfl ?_
    refine ba_getI V dX3_append_57 kfX3_15 (ba_sSlips hb) rfl ?_
    refine ba_iconst V dX3_append_60 ba_c1 ?_
    refine ba_iadd V dX3_append_61 ?_
    refine ba_putI V dX3_append_62 kfX3_15 (ba_sSlips hb) rfl h (fun s197 h => ?_)
    exact RT _ _ _ dX3_append_65 (Option.some.inj h)
  · exact RT _ _ _ dX3_append_7 (Option.some.inj h)
def xb_event (s : ba_St) (a1 : Int32) (a2 : Int32) (a3 : Int32) : Option (Int32 × ba_St) :=
  ba_bnd (xb_isEvent a1 a2 a3) fun v198 =>
  if v198 = 0 then
    some ((-2), s)
  else
    ba_bnd (xl_isFull s 10) fun v199 =>
    if v199 = 0 then
      ba_bnd (xl_append s 10 a1 a2 a3 0) fun s200 =>
      ba_bnd (xb_forgetResults s200) fun s201 =>
      some ((s201.1 10 1), s201)
    else
      some ((-4), s)
set_option maxHeartbeats 4000000 in
set_option maxRecDepth 100000 in
theorem yb_event {w : ba_W} (hj : ba_inj ba_tC w) (l : Launch) {s : ba_St} {a1 : Int32} {a2 : Int32} {a3 : Int32} {o : Int32 × ba_St} (h : xb_event s a1 a2 a3 = some o) : ba_CI ba_tC w l yX5_event cX5_event 4 (some .int) rm_b_event [.ref (w.1 0), .int a1, .int a2, .int a3] s o := by
  refine ba_metI (lv := [(0, .ref (w.1 0)), (1, .int a1), (2, .int a2), (3, .int a3)]) l hj (by decide +kernel) ⟨Nat.le_of_ble_eq_true rfl, rfl⟩ ?_
  intro X V RT
  unfold xb_event at h
  refine ba_iload_n V dX5_event_0 1 rfl ?_
  refine ba_iload_n V dX5_event_1 2 rfl ?_
  refine ba_iload_n V dX5_event_2 3 rfl ?_
  obtain ⟨v198, hc, h⟩ := ba_bnd_some h
  refine ba_callSI (As := [.int a1, .int a2, .int a3]) (st := []) V dX5_event_3 kcX5_147 (fun l => yb_isEvent V.inj l hc) ⟨rfl, rfl⟩ ⟨rfl, rfl, Nat.le_of_ble_eq_true rfl, Nat.le_of_ble_eq_true rfl⟩ (Nat.le_of_ble_eq_true rfl) ?_
  refine ba_if_ne V dX5_event_6 rfl h (fun h => ?_) (fun h => ?_)
  · refine ba_bipush V dX5_event_9 ba_cm2b ?_
    exact RT _ _ _ _ dX5_event_11 (Option.some.inj h)
  · refine ba_aload_n V dX5_event_12 0 rfl ?_
    refine ba_getR V dX5_event_13 kfX5_22 ba_sBag rfl ?_
    refine ba_getR V dX5_event_16 kfX5_151 ba_sBoard rfl ?_
    obtain ⟨v199, hc, h⟩ := ba_bnd_some h
    refine ba_callVI (As := []) (st := []) V dX5_event_19 kcX5_154 (ba_sSlips ba_isSlips_10) (fun l => yl_isFull V.inj l ba_isSlips_10 hc) ⟨rfl, rfl⟩ ⟨rfl, rfl, Nat.le_of_ble_eq_true rfl, Nat.le_of_ble_eq_true rfl⟩ (Nat.le_of_ble_eq_true rfl) ?_
    refine ba_if_eq V dX5_event_22 rfl h (fun h => ?_) (fun h => ?_)
    · refine ba_aload_n V dX5_event_28 0 rfl ?_
      refine ba_getR V dX5_event_29 kfX5_22 ba_sBag rfl ?_
      refine ba_getR V dX5_event_32 kfX5_151 ba_sBoard rfl ?_
      refine ba_iload_n V dX5_event_35 1 rfl ?_
      refine ba_iload_n V dX5_event_36 2 rfl ?_
      refine ba_iload_n V dX5_event_37 3 rfl ?_
      refine ba_iconst V dX5_event_38 ba_c0 ?_
      obtain ⟨s200, hc, h⟩ := ba_bnd_some h
      refine ba_callVV (As := [.int a1, .int a2, .int a3, .int 0]) (st := []) V dX5_event_39 kcX5_158 (ba_sSlips ba_isSlips_10) (fun l => yl_append V.inj l ba_isSlips_10 hc) ⟨rfl, rfl⟩ ⟨rfl, rfl, Nat.le_of_ble_eq_true rfl, Nat.le_of_ble_eq_true rfl⟩ (Nat.le_of_ble_eq_true rfl) ?_
      refine ba_aload_n V dX5_event_42 0 rfl ?_
      obtain ⟨s201, hc, h⟩ := ba_bnd_some h
      refine ba_callVV (As := []) (st := []) V dX5_event_43 kcX5_144 ba_sBag (fun l => yb_forgetResults V.inj l hc) ⟨rfl, rfl⟩ ⟨rfl, rfl, Nat.le_of_ble_eq_true rfl, Nat.le_of_ble_eq_true rfl⟩ (Nat.le_of_ble_eq_true rfl) ?_
      refine ba_aload_n V dX5_event_46 0 rfl ?_
      refine ba_getR V dX5_event_47 kfX5_22 ba_sBag rfl ?_
      refine ba_getR V dX5_event_50 kfX5_151 ba_sBoard rfl ?_
      refine ba_getI V dX5_event_53 kfX5_161 (ba_sSlips ba_isSlips_10) rfl ?_
      exact RT _ _ _ _ dX5_event_56 (Option.some.inj h)
    · refine ba_bipush V dX5_event_25 ba_cm4b ?_
      exact RT _ _ _ _ dX5_event_27 (Option.some.inj h)
def xb_back (s : ba_St) : Option (Int32 × ba_St) :=
  if (s.1 10 1) = 0 then
    some ((-3), s)
  else
    ba_lt (ba_w s 10 1 ((s.1 10 1) - 1)) fun s202 =>
    ba_bnd (xb_forgetResults s202) fun s203 =>
    some ((s203.1 10 1), s203)
set_option maxHeartbeats 4000000 in
set_option maxRecDepth 100000 in
theorem yb_back {w : ba_W} (hj : ba_inj ba_tC w) (l : Launch) {s : ba_St} {o : Int32 × ba_St} (h : xb_back s = some o) : ba_CI ba_tC w l yX5_back cX5_back 1 (some .int) rm_b_back [.ref (w.1 0)] s o := by
  refine ba_metI (lv := [(0, .ref (w.1 0))]) l hj (by decide +kernel) ⟨Nat.le_of_ble_eq_true rfl, rfl⟩ ?_
  intro X V RT
  unfold xb_back at h
  refine ba_aload_n V dX5_back_0 0 rfl ?_
  refine ba_getR V dX5_back_1 kfX5_22 ba_sBag rfl ?_
  refine ba_getR V dX5_back_4 kfX5_151 ba_sBoard rfl ?_
  refine ba_getI V dX5_back_7 kfX5_161 (ba_sSlips ba_isSlips_10) rfl ?_
  refine ba_if_ne V dX5_back_10 rfl h (fun h => ?_) (fun h => ?_)
  · refine ba_bipush V dX5_back_13 ba_cm3b ?_
    exact RT _ _ _ _ dX5_back_15 (Option.some.inj h)
  · refine ba_aload_n V dX5_back_16 0 rfl ?_
    refine ba_getR V dX5_back_17 kfX5_22 ba_sBag rfl ?_
    refine ba_getR V dX5_back_20 kfX5_151 ba_sBoard rfl ?_
    refine ba_dup V dX5_back_23 rfl ?_
    refine ba_getI V dX5_back_24 kfX5_161 (ba_sSlips ba_isSlips_10) rfl ?_
    refine ba_iconst V dX5_back_27 ba_c1 ?_
    refine ba_isub V dX5_back_28 ?_
    refine ba_putI V dX5_back_29 kfX5_161 (ba_sSlips ba_isSlips_10) rfl h (fun s202 h => ?_)
    refine ba_aload_n V dX5_back_32 0 rfl ?_
    obtain ⟨s203, hc, h⟩ := ba_bnd_some h
    refine ba_callVV (As := []) (st := []) V dX5_back_33 kcX5_144 ba_sBag (fun l => yb_forgetResults V.inj l hc) ⟨rfl, rfl⟩ ⟨rfl, rfl, Nat.le_of_ble_eq_true rfl, Nat.le_of_ble_eq_true rfl⟩ (Nat.le_of_ble_eq_true rfl) ?_
    refine ba_aload_n V dX5_back_36 0 rfl ?_
    refine ba_getR V dX5_back_37 kfX5_22 ba_sBag rfl ?_
    refine ba_getR V dX5_back_40 kfX5_151 ba_sBoard rfl ?_
    refine ba_getI V dX5_back_43 kfX5_161 (ba_sSlips ba_isSlips_10) rfl ?_
    exact RT _ _ _ _ dX5_back_46 (Option.some.inj h)
def xb_found (s : ba_St) (a1 : Int32) : Option (Int32 × ba_St) :=
  ba_lt (ba_w s 0 7 a1) fun s204 =>
  some (((-10) - a1), s204)
set_option maxHeartbeats 4000000 in
set_option maxRecDepth 100000 in
theorem yb_found {w : ba_W} (hj : ba_inj ba_tC w) (l : Launch) {s : ba_St} {a1 : Int32} {o : Int32 × ba_St} (h : xb_found s a1 = some o) : ba_CI ba_tC w l yX5_found cX5_found 2 (some .int) rm_b_found [.ref (w.1 0), .int a1] s o := by
  refine ba_metI (lv := [(0, .ref (w.1 0)), (1, .int a1)]) l hj (by decide +kernel) ⟨Nat.le_of_ble_eq_true rfl, rfl⟩ ?_
  intro X V RT
  unfold xb_found at h
  refine ba_aload_n V dX5_found_0 0 rfl ?_
  refine ba_iload_n V dX5_found_1 1 rfl ?_
  refine ba_putI V dX5_found_2 kfX5_51 ba_sBag rfl h (fun s204 h => ?_)
  refine ba_bipush V dX5_found_5 ba_cm10b ?_
  refine ba_iload_n V dX5_found_7 1 rfl ?_
  refine ba_isub V dX5_found_8 ?_
  exact RT _ _ _ _ dX5_found_9 (Option.some.inj h)
def xb_read_l57 (z2 : Nat) (z2n : Nat) (z3 : Int32) (k : (ba_St × Int32 × Int32) → Option (ba_St × Int32)) (a : (ba_St × Int32 × Int32)) : Option (ba_St × Int32) :=
  match a with
  | (s, z4, z5) =>
    if z3 ≤ z5 then
      some (s, z4)
    else
      ba_grd (ba_inb (3 * z5) z2n) <|
      ba_grd (ba_inb ((3 * z5) + 1) z2n) <|
      ba_grd (ba_inb ((3 * z5) + 2) z2n) <|
      ba_bn2 (xb_event s (s.1 z2 (ba_ix (3 * z5))) (s.1 z2 (ba_ix ((3 * z5) + 1))) (s.1 z2 (ba_ix ((3 * z5) + 2)))) fun v210 s211 =>
      if 0 ≤ v210 then
        ba_lt (z4 + 1) fun x212 =>
        ba_lt (z5 + 1) fun x213 =>
        k (s211, x212, x213)
      else
        some (s211, z4)
set_option maxHeartbeats 4000000 in
set_option maxRecDepth 100000 in
theorem yb_read_l57 {w : ba_W} {X : ba_X} (V : ba_V ba_tC w 6 X cX5_read RX5 rm_b_read) {z2 : Nat} {z2n : Nat} {z3 : Int32} (hz2 : ba_Sh ba_tC z2 (.inr (.inl z2n)) ∧ ba_ok ba_tC) {o : ba_St × Int32} (EX : ∀ (s : ba_St) (z4 : Int32), (s, z4) = o → ba_G ba_tC w 6 X s 104 [(4, .int z4)] []) : ∀ (n : Nat) (s : ba_St) (z4 : Int32) (z5 : Int32), ba_fix (xb_read_l57 z2 z2n z3) n (s, z4, z5) = some o → ba_G ba_tC w 6 X s 57 [(0, .ref (w.1 0)), (2, .ref (w.1 z2)), (3, .int z3), (4, .int z4), (5, .int z5)] [] := by
  intro n s z4 z5 h
  refine ba_loop (P := fun a => ba_G ba_tC w 6 X a.1 57 [(0, .ref (w.1 0)), (2, .ref (w.1 z2)), (3, .int z3), (4, .int a.2.1), (5, .int a.2.2)] []) ?_ n (s, z4, z5) h
  intro k hk0 a h
  obtain ⟨s, z4, z5⟩ := a
  have hk : ∀ (s : ba_St) (z4 : Int32) (z5 : Int32), k (s, z4, z5) = some o → ba_G ba_tC w 6 X s 57 [(0, .ref (w.1 0)), (2, .ref (w.1 z2)), (3, .int z3), (4, .int z4), (5, .int z5)] [] := fun s z4 z5 e => hk0 (s, z4, z5) e
  unfold xb_read_l57 at h
  try dsimp only at h ⊢
  refine ba_iload V dX5_read_57 4 rfl ?_
  refine ba_iload_n V dX5_read_59 2 rfl ?_
  refine ba_icmp_ge V dX5_read_60 rfl h (fun h => ?_) (fun h => ?_)
  · exact ba_sub [3] rfl (EX _ _ (Option.some.inj h))
  · refine ba_aload_n V dX5_read_63 0 rfl ?_
    refine ba_aload_n V dX5_read_64 1 rfl ?_
    refine ba_iconst V dX5_read_65 ba_c3 ?_
    refine ba_iload V dX5_read_66 4 rfl ?_
    refine ba_imul V dX5_read_68 ?_
    refine ba_iald V dX5_read_69 hz2 h (fun h => ?_)
    refine ba_aload_n V dX5_read_70 1 rfl ?_
    refine ba_iconst V dX5_read_71 ba_c3 ?_
    refine ba_iload V dX5_read_72 4 rfl ?_
    refine ba_imul V dX5_read_74 ?_
    refine ba_iconst V dX5_read_75 ba_c1 ?_
    refine ba_iadd V dX5_read_76 ?_
    refine ba_iald V dX5_read_77 hz2 h (fun h => ?_)
    refine ba_aload_n V dX5_read_78 1 rfl ?_
    refine ba_iconst V dX5_read_79 ba_c3 ?_
    refine ba_iload V dX5_read_80 4 rfl ?_
    refine ba_imul V dX5_read_82 ?_
    refine ba_iconst V dX5_read_83 ba_c2 ?_
    refine ba_iadd V dX5_read_84 ?_
    refine ba_iald V dX5_read_85 hz2 h (fun h => ?_)
    obtain ⟨v210, s211, hc, h⟩ := ba_bn2_some h
    refine ba_callVI (As := [.int (s.1 z2 (ba_ix (3 * z5))), .int (s.1 z2 (ba_ix ((3 * z5) + 1))), .int (s.1 z2 (ba_ix ((3 * z5) + 2)))]) (st := []) V dX5_read_86 kcX5_173 ba_sBag (fun l => yb_event V.inj l hc) ⟨rfl, rfl⟩ ⟨rfl, rfl, Nat.le_of_ble_eq_true rfl, Nat.le_of_ble_eq_true rfl⟩ (Nat.le_of_ble_eq_true rfl) ?_
    refine ba_if_ge V dX5_read_89 rfl h (fun h => ?_) (fun h => ?_)
    · refine ba_iinc V dX5_read_95 3 rfl ba_c1 (by decide) h (fun x212 h => ⟨[(4, .int x212), (0, .ref (w.1 0)), (2, .ref (w.1 z2)), (3, .int z3), (5, .int z5)], rfl, ?_⟩)
      refine ba_iinc V dX5_read_98 4 rfl ba_c1 (by decide) h (fun x213 h => ⟨[(5, .int x213), (4, .int x212), (0, .ref (w.1 0)), (2, .ref (w.1 z2)), (3, .int z3)], rfl, ?_⟩)
      refine ba_goto V dX5_read_101 rfl ?_
      exact ba_sub [2, 3, 4, 1, 0] rfl (hk _ _ _ h)
    · refine ba_goto V dX5_read_92 rfl ?_
      exact ba_sub [3] rfl (EX _ _ (Option.some.inj h))
def xb_read (s : ba_St) (a1 : Int32) : Option (Int32 × ba_St) :=
  ba_bnd (xb_within a1 4) fun v205 =>
  if v205 = 0 then
    some ((-2), s)
  else
    ba_grd (ba_inb a1 4) <|
    if (s.1 (23 + 2 * ba_ix a1) 3) = 0 then
      ba_grd (ba_inb a1 4) <|
      ba_grd (ba_inb a1 4) <|
      ba_lt ((s.1 (23 + 2 * ba_ix a1) 2) / 3) fun x209 =>
      ba_bnd (ba_fix (xb_read_l57 ((23 + 2 * ba_ix a1) + 1) 60 x209) 1000 (s, 0, 0)) fun o => match o with
      | (s214, x215) =>
        some (x215, s214)
    else
      ba_bn2 (xb_found s 1) fun v216 s217 =>
      some (v216, s217)
set_option maxHeartbeats 4000000 in
set_option maxRecDepth 100000 in
theorem yb_read {w : ba_W} (hj : ba_inj ba_tC w) (l : Launch) {s : ba_St} {a1 : Int32} {o : Int32 × ba_St} (h : xb_read s a1 = some o) : ba_CI ba_tC w l yX5_read cX5_read 6 (some .int) rm_b_read [.ref (w.1 0), .int a1] s o := by
  refine ba_metI (lv := [(0, .ref (w.1 0)), (1, .int a1)]) l hj (by decide +kernel) ⟨Nat.le_of_ble_eq_true rfl, rfl⟩ ?_
  intro X V RT
  unfold xb_read at h
  refine ba_iload_n V dX5_read_0 1 rfl ?_
  refine ba_iconst V dX5_read_1 ba_c4 ?_
  obtain ⟨v205, hc, h⟩ := ba_bnd_some h
  refine ba_callSI (As := [.int a1, .int 4]) (st := []) V dX5_read_2 kcX5_97 (fun l => yb_within V.inj l hc) ⟨rfl, rfl⟩ ⟨rfl, rfl, Nat.le_of_ble_eq_true rfl, Nat.le_of_ble_eq_true rfl⟩ (Nat.le_of_ble_eq_true rfl) ?_
  refine ba_if_ne V dX5_read_5 rfl h (fun h => ?_) (fun h => ?_)
  · refine ba_bipush V dX5_read_8 ba_cm2b ?_
    exact RT _ _ _ _ dX5_read_10 (Option.some.inj h)
  · refine ba_aload_n V dX5_read_11 0 rfl ?_
    refine ba_getR V dX5_read_12 kfX5_47 ba_sBag rfl ?_
    refine ba_iload_n V dX5_read_15 1 rfl ?_
    refine ba_aald V dX5_read_16 ba_sC_14 h (fun z h => ?_)
    have hz206 := ba_elSheet z
    refine ba_getI V dX5_read_17 kfX5_162 (ba_sSheet hz206) rfl ?_
    refine ba_if_eq V dX5_read_20 rfl h (fun h => ?_) (fun h => ?_)
    · refine ba_aload_n V dX5_read_29 0 rfl ?_
      refine ba_getR V dX5_read_30 kfX5_47 ba_sBag rfl ?_
      refine ba_iload_n V dX5_read_33 1 rfl ?_
      refine ba_aald V dX5_read_34 ba_sC_14 h (fun z h => ?_)
      have hz207 := ba_elSheet z
      refine ba_getR V dX5_read_35 kfX5_169 (ba_sSheet hz207) rfl ?_
      refine ba_astore_n (lv' := [(2, .ref (w.1 ((23 + 2 * ba_ix a1) + 1))), (0, .ref (w.1 0)), (1, .int a1)]) V dX5_read_38 (by decide) rfl ?_
      refine ba_aload_n V dX5_read_39 1 rfl ?_
      refine ba_getR V dX5_read_40 kfX5_47 ba_sBag rfl ?_
      refine ba_iload_n V dX5_read_43 2 rfl ?_
      refine ba_aald V dX5_read_44 ba_sC_14 h (fun z h => ?_)
      have hz208 := ba_elSheet z
      refine ba_getI V dX5_read_45 kfX5_172 (ba_sSheet hz208) rfl ?_
      refine ba_iconst V dX5_read_48 ba_c3 ?_
      refine ba_idiv V dX5_read_49 (by decide) ?_
      refine ba_letI h (fun x209 h => ?_)
      refine ba_istore_n (lv' := [(3, .int x209), (2, .ref (w.1 ((23 + 2 * ba_ix a1) + 1))), (0, .ref (w.1 0)), (1, .int a1)]) V dX5_read_50 (by decide) rfl ?_
      refine ba_iconst V dX5_read_51 ba_c0 ?_
      refine ba_istore (lv' := [(4, .int 0), (3, .int x209), (2, .ref (w.1 ((23 + 2 * ba_ix a1) + 1))), (0, .ref (w.1 0)), (1, .int a1)]) V dX5_read_52 (by decide) rfl ?_
      refine ba_iconst V dX5_read_54 ba_c0 ?_
      refine ba_istore (lv' := [(5, .int 0), (4, .int 0), (3, .int x209), (2, .ref (w.1 ((23 + 2 * ba_ix a1) + 1))), (0, .ref (w.1 0)), (1, .int a1)]) V dX5_read_55 (by decide) rfl ?_
      obtain ⟨o, ho, h⟩ := ba_bnd_some h
      refine ba_sub [4, 3, 2, 1, 0] rfl (yb_read_l57 V (ba_sSheet_1 hz207) (o := o) (fun s214 x215 e => ?_) 1000 s 0 0 ho)
      subst e
      try dsimp only at h
      refine ba_iload V dX5_read_104 0 rfl ?_
      exact RT _ _ _ _ dX5_read_106 (Option.some.inj h)
    · refine ba_aload_n V dX5_read_23 0 rfl ?_
      refine ba_iconst V dX5_read_24 ba_c1 ?_
      obtain ⟨v216, s217, hc, h⟩ := ba_bn2_some h
      refine ba_callVI (As := [.int 1]) (st := []) V dX5_read_25 kcX5_165 ba_sBag (fun l => yb_found V.inj l hc) ⟨rfl, rfl⟩ ⟨rfl, rfl, Nat.le_of_ble_eq_true rfl, Nat.le_of_ble_eq_true rfl⟩ (Nat.le_of_ble_eq_true rfl) ?_
      exact RT _ _ _ _ dX5_read_28 (Option.some.inj h)
def xc_rowOf (s : ba_St) (b : Nat) (a1 : Int32) (a2 : Int32) : Option (Int32) :=
  ba_grd (ba_inb ((a1 * 12) + a2) 288) <|
  ba_lt (s.1 (b + 8) (ba_ix ((a1 * 12) + a2))) fun x218 =>
  if x218 = (-1) then
    some (-1)
  else
    some (x218 / 9)
set_option maxHeartbeats 4000000 in
set_option maxRecDepth 100000 in
theorem yc_rowOf {w : ba_W} (hj : ba_inj ba_tC w) (l : Launch) {s : ba_St} {b : Nat} {a1 : Int32} {a2 : Int32} (hb : ba_isCourse b) {o : Int32} (h : xc_rowOf s b a1 a2 = some o) : ba_CI ba_tC w l yX1_rowOf cX1_rowOf 4 (some .int) rm_c_rowOf [.ref (w.1 b), .int a1, .int a2] s (o, s) := by
  refine ba_metI (lv := [(0, .ref (w.1 b)), (1, .int a1), (2, .int a2)]) l hj (by decide +kernel) ⟨Nat.le_of_ble_eq_true rfl, rfl⟩ ?_
  intro X V RT
  replace RT := fun pc lv v D e => RT pc lv v s D (congrArg (fun q => (q, s)) e)
  unfold xc_rowOf at h
  refine ba_aload_n V dX1_rowOf_0 0 rfl ?_
  refine ba_getR V dX1_rowOf_1 kfX1_43 (ba_sCourse hb) rfl ?_
  refine ba_iload_n V dX1_rowOf_4 1 rfl ?_
  refine ba_bipush V dX1_rowOf_5 ba_c12b ?_
  refine ba_imul V dX1_rowOf_7 ?_
  refine ba_iload_n V dX1_rowOf_8 2 rfl ?_
  refine ba_iadd V dX1_rowOf_9 ?_
  refine ba_iald V dX1_rowOf_10 (ba_sCourse_8 hb) h (fun h => ?_)
  refine ba_letI h (fun x218 h => ?_)
  refine ba_istore_n (lv' := [(3, .int x218), (0, .ref (w.1 b)), (1, .int a1), (2, .int a2)]) V dX1_rowOf_11 (by decide) rfl ?_
  refine ba_iload_n V dX1_rowOf_12 0 rfl ?_
  refine ba_iconst V dX1_rowOf_13 ba_cm1 ?_
  refine ba_icmp_ne V dX1_rowOf_14 rfl h (fun h => ?_) (fun h => ?_)
  · refine ba_iconst V dX1_rowOf_17 ba_cm1 ?_
    refine ba_goto V dX1_rowOf_18 rfl ?_
    exact RT _ _ _ dX1_rowOf_25 (Option.some.inj h)
  · refine ba_iload_n V dX1_rowOf_21 0 rfl ?_
    refine ba_bipush V dX1_rowOf_22 ba_c9b ?_
    refine ba_idiv V dX1_rowOf_24 (by decide) ?_
    exact RT _ _ _ dX1_rowOf_25 (Option.some.inj h)
def xc_columnOf (s : ba_St) (b : Nat) (a1 : Int32) (a2 : Int32) : Option (Int32) :=
  ba_grd (ba_inb ((a1 * 12) + a2) 288) <|
  ba_lt (s.1 (b + 8) (ba_ix ((a1 * 12) + a2))) fun x219 =>
  if x219 = (-1) then
    some (-1)
  else
    some (ba_irm x219 9)
set_option maxHeartbeats 4000000 in
set_option maxRecDepth 100000 in
theorem yc_columnOf {w : ba_W} (hj : ba_inj ba_tC w) (l : Launch) {s : ba_St} {b : Nat} {a1 : Int32} {a2 : Int32} (hb : ba_isCourse b) {o : Int32} (h : xc_columnOf s b a1 a2 = some o) : ba_CI ba_tC w l yX1_columnOf cX1_columnOf 4 (some .int) rm_c_columnOf [.ref (w.1 b), .int a1, .int a2] s (o, s) := by
  refine ba_metI (lv := [(0, .ref (w.1 b)), (1, .int a1), (2, .int a2)]) l hj (by decide +kernel) ⟨Nat.le_of_ble_eq_true rfl, rfl⟩ ?_
  intro X V RT
  replace RT := fun pc lv v D e => RT pc lv v s D (congrArg (fun q => (q, s)) e)
  unfold xc_columnOf at h
  refine ba_aload_n V dX1_columnOf_0 0 rfl ?_
  refine ba_getR V dX1_columnOf_1 kfX1_43 (ba_sCourse hb) rfl ?_
  refine ba_iload_n V dX1_columnOf_4 1 rfl ?_
  refine ba_bipush V dX1_columnOf_5 ba_c12b ?_
  refine ba_imul V dX1_columnOf_7 ?_
  refine ba_iload_n V dX1_columnOf_8 2 rfl ?_
  refine ba_iadd V dX1_columnOf_9 ?_
  refine ba_iald V dX1_columnOf_10 (ba_sCourse_8 hb) h (fun h => ?_)
  refine ba_letI h (fun x219 h => ?_)
  refine ba_istore_n (lv' := [(3, .int x219), (0, .ref (w.1 b)), (1, .int a1), (2, .int a2)]) V dX1_columnOf_11 (by decide) rfl ?_
  refine ba_iload_n V dX1_columnOf_12 0 rfl ?_
  refine ba_iconst V dX1_columnOf_13 ba_cm1 ?_
  refine ba_icmp_ne V dX1_columnOf_14 rfl h (fun h => ?_) (fun h => ?_)
  · refine ba_iconst V dX1_columnOf_17 ba_cm1 ?_
    refine ba_goto V dX1_columnOf_18 rfl ?_
    exact RT _ _ _ dX1_columnOf_25 (Option.some.inj h)
  · refine ba_iload_n V dX1_columnOf_21 0 rfl ?_
    refine ba_bipush V dX1_columnOf_22 ba_c9b ?_
    refine ba_irem V dX1_columnOf_24 (by decide) ?_
    exact RT _ _ _ dX1_columnOf_25 (Option.some.inj h)
def xb_at (s : ba_St) (a1 : Int32) (a2 : Int32) (a3 : Int32) : Option (Int32 × ba_St) :=
  ba_bnd (xb_within a1 24) fun v220 =>
  if v220 = 0 then
    some ((-2), s)
  else
    ba_bnd (xb_within a2 (s.1 3 7)) fun v221 =>
    if v221 = 0 then
      some ((-2), s)
    else
      ba_bnd (xb_within a3 2) fun v222 =>
      if v222 = 0 then
        some ((-2), s)
      else
        ba_bnd (xb_runTold s) fun s223 =>
        if a3 = 0 then
          ba_bnd (xc_rowOf s223 31 a1 a2) fun v224 =>
          some (v224, s223)
        else
          ba_bnd (xc_columnOf s223 31 a1 a2) fun v225 =>
          some (v225, s223)
set_option maxHeartbeats 4000000 in
set_option maxRecDepth 100000 in
theorem yb_at {w : ba_W} (hj : ba_inj ba_tC w) (l : Launch) {s : ba_St} {a1 : Int32} {a2 : Int32} {a3 : Int32} {o : Int32 × ba_St} (h : xb_at s a1 a2 a3 = some o) : ba_CI ba_tC w l yX5_at cX5_at 4 (some .int) rm_b_at [.ref (w.1 0), .int a1, .int a2, .int a3] s o := by
  refine ba_metI (lv := [(0, .ref (w.1 0)), (1, .int a1), (2, .int a2), (3, .int a3)]) l hj (by decide +kernel) ⟨Nat.le_of_ble_eq_true rfl, rfl⟩ ?_
  intro X V RT
  unfold xb_at at h
  refine ba_iload_n V dX5_at_0 1 rfl ?_
  refine ba_bipush V dX5_at_1 ba_c24b ?_
  obtain ⟨v220, hc, h⟩ := ba_bnd_some h
  refine ba_callSI (As := [.int a1, .int 24]) (st := []) V dX5_at_3 kcX5_97 (fun l => yb_within V.inj l hc) ⟨rfl, rfl⟩ ⟨rfl, rfl, Nat.le_of_ble_eq_true rfl, Nat.le_of_ble_eq_true rfl⟩ (Nat.le_of_ble_eq_true rfl) ?_
  refine ba_if_eq V dX5_at_6 rfl h (fun h => ?_) (fun h => ?_)
  · refine ba_bipush V dX5_at_31 ba_cm2b ?_
    exact RT _ _ _ _ dX5_at_33 (Option.some.inj h)
  · refine ba_iload_n V dX5_at_9 2 rfl ?_
    refine ba_aload_n V dX5_at_10 0 rfl ?_
    refine ba_getR V dX5_at_11 kfX5_22 ba_sBag rfl ?_
    refine ba_getI V dX5_at_14 kfX5_132 ba_sBoard rfl ?_
    obtain ⟨v221, hc, h⟩ := ba_bnd_some h
    refine ba_callSI (As := [.int a2, .int (s.1 3 7)]) (st := []) V dX5_at_17 kcX5_97 (fun l => yb_within V.inj l hc) ⟨rfl, rfl⟩ ⟨rfl, rfl, Nat.le_of_ble_eq_true rfl, Nat.le_of_ble_eq_true rfl⟩ (Nat.le_of_ble_eq_true rfl) ?_
    refine ba_if_eq V dX5_at_20 rfl h (fun h => ?_) (fun h => ?_)
    · refine ba_bipush V dX5_at_31 ba_cm2b ?_
      exact RT _ _ _ _ dX5_at_33 (Option.some.inj h)
    · refine ba_iload_n V dX5_at_23 3 rfl ?_
      refine ba_iconst V dX5_at_24 ba_c2 ?_
      obtain ⟨v222, hc, h⟩ := ba_bnd_some h
      refine ba_callSI (As := [.int a3, .int 2]) (st := []) V dX5_at_25 kcX5_97 (fun l => yb_within V.inj l hc) ⟨rfl, rfl⟩ ⟨rfl, rfl, Nat.le_of_ble_eq_true rfl, Nat.le_of_ble_eq_true rfl⟩ (Nat.le_of_ble_eq_true rfl) ?_
      refine ba_if_ne V dX5_at_28 rfl h (fun h => ?_) (fun h => ?_)
      · refine ba_bipush V dX5_at_31 ba_cm2b ?_
        exact RT _ _ _ _ dX5_at_33 (Option.some.inj h)
      · refine ba_aload_n V dX5_at_34 0 rfl ?_
        obtain ⟨s223, hc, h⟩ := ba_bnd_some h
        refine ba_callVV (As := []) (st := []) V dX5_at_35 kcX5_123 ba_sBag (fun l => yb_runTold V.inj l hc) ⟨rfl, rfl⟩ ⟨rfl, rfl, Nat.le_of_ble_eq_true rfl, Nat.le_of_ble_eq_true rfl⟩ (Nat.le_of_ble_eq_true rfl) ?_
        refine ba_iload_n V dX5_at_38 3 rfl ?_
        refine ba_if_ne V dX5_at_39 rfl h (fun h => ?_) (fun h => ?_)
        · refine ba_aload_n V dX5_at_42 0 rfl ?_
          refine ba_getR V dX5_at_43 kfX5_31 ba_sBag rfl ?_
          refine ba_iload_n V dX5_at_46 1 rfl ?_
          refine ba_iload_n V dX5_at_47 2 rfl ?_
          obtain ⟨v224, hc, h⟩ := ba_bnd_some h
          refine ba_callVI (As := [.int a1, .int a2]) (st := []) V dX5_at_48 kcX5_177 (ba_sCourse ba_isCourse_31) (fun l => yc_rowOf V.inj l ba_isCourse_31 hc) ⟨rfl, rfl⟩ ⟨rfl, rfl, Nat.le_of_ble_eq_true rfl, Nat.le_of_ble_eq_true rfl⟩ (Nat.le_of_ble_eq_true rfl) ?_
          refine ba_goto V dX5_at_51 rfl ?_
          exact RT _ _ _ _ dX5_at_63 (Option.some.inj h)
        · refine ba_aload_n V dX5_at_54 0 rfl ?_
          refine ba_getR V dX5_at_55 kfX5_31 ba_sBag rfl ?_
          refine ba_iload_n V dX5_at_58 1 rfl ?_
          refine ba_iload_n V dX5_at_59 2 rfl ?_
          obtain ⟨v225, hc, h⟩ := ba_bnd_some h
          refine ba_callVI (As := [.int a1, .int a2]) (st := []) V dX5_at_60 kcX5_181 (ba_sCourse ba_isCourse_31) (fun l => yc_columnOf V.inj l ba_isCourse_31 hc) ⟨rfl, rfl⟩ ⟨rfl, rfl, Nat.le_of_ble_eq_true rfl, Nat.le_of_ble_eq_true rfl⟩ (Nat.le_of_ble_eq_true rfl) ?_
          exact RT _ _ _ _ dX5_at_63 (Option.some.inj h)
def xc_ballIn_l2 (b : Nat) (s : ba_St) (z1 : Int32) (z2 : Int32) (k : Int32 → Option ((Unit) ⊕ (Int32))) (z3 : Int32) : Option ((Unit) ⊕ (Int32)) :=
  if (s.1 b 4) ≤ z3 then
    some (.inl ())
  else
    ba_grd (ba_inb ((z1 * 12) + z3) 288) <|
    if (s.1 (b + 8) (ba_ix ((z1 * 12) + z3))) = z2 then
      some (.inr z3)
    else
      ba_lt (z3 + 1) fun x226 =>
      k x226
set_option maxHeartbeats 4000000 in
set_option maxRecDepth 100000 in
theorem yc_ballIn_l2 {w : ba_W} {X : ba_X} (V : ba_V ba_tC w 4 X cX1_ballIn RX1 rm_c_ballIn) {b : Nat} (hb : ba_isCourse b) {s : ba_St} {z1 : Int32} {z2 : Int32} {o : (Unit) ⊕ (Int32)} (EX : .inl () = o → ba_G ba_tC w 4 X s 33 [] []) (RT : ∀ (pc : Nat) (lv : List (Nat × Value)) (v : Int32) , decode cX1_ballIn pc = .ok (.ireturn, 1) → .inr v = o → ba_G ba_tC w 4 X s pc lv [.int v]) : ∀ (n : Nat) (z3 : Int32), ba_fix (xc_ballIn_l2 b s z1 z2) n z3 = some o → ba_G ba_tC w 4 X s 2 [(0, .ref (w.1 b)), (1, .int z1), (2, .int z2), (3, .int z3)] [] := by
  intro n z3 h
  refine ba_loop (P := fun a => ba_G ba_tC w 4 X s 2 [(0, .ref (w.1 b)), (1, .int z1), (2, .int z2), (3, .int a)] []) ?_ n z3 h
  intro k hk0 a h
  obtain ⟨z3, ha⟩ : ∃ y, y = a := ⟨_, rfl⟩
  subst ha
  have hk : ∀ (z3 : Int32), k z3 = some o → ba_G ba_tC w 4 X s 2 [(0, .ref (w.1 b)), (1, .int z1), (2, .int z2), (3, .int z3)] [] := fun z3 e => hk0 z3 e
  unfold xc_ballIn_l2 at h
  try dsimp only at h ⊢
  refine ba_iload_n V dX1_ballIn_2 3 rfl ?_
  refine ba_aload_n V dX1_ballIn_3 0 rfl ?_
  refine ba_getI V dX1_ballIn_4 kfX1_21 (ba_sCourse hb) rfl ?_
  refine ba_icmp_ge V dX1_ballIn_7 rfl h (fun h => ?_) (fun h => ?_)
  · exact ba_sub [] rfl (EX (Option.some.inj h))
  · refine ba_aload_n V dX1_ballIn_10 0 rfl ?_
    refine ba_getR V dX1_ballIn_11 kfX1_43 (ba_sCourse hb) rfl ?_
    refine ba_iload_n V dX1_ballIn_14 1 rfl ?_
    refine ba_bipush V dX1_ballIn_15 ba_c12b ?_
    refine ba_imul V dX1_ballIn_17 ?_
    refine ba_iload_n V dX1_ballIn_18 3 rfl ?_
    refine ba_iadd V dX1_ballIn_19 ?_
    refine ba_iald V dX1_ballIn_20 (ba_sCourse_8 hb) h (fun h => ?_)
    refine ba_iload_n V dX1_ballIn_21 2 rfl ?_
    refine ba_icmp_ne V dX1_ballIn_22 rfl h (fun h => ?_) (fun h => ?_)
    · refine ba_iload_n V dX1_ballIn_25 3 rfl ?_
      exact RT _ _ _ dX1_ballIn_26 (Option.some.inj h)
    · refine ba_iinc V dX1_ballIn_27 3 rfl ba_c1 (by decide) h (fun x226 h => ⟨[(3, .int x226), (0, .ref (w.1 b)), (1, .int z1), (2, .int z2)], rfl, ?_⟩)
      refine ba_goto V dX1_ballIn_30 rfl ?_
      exact ba_sub [1, 2, 3, 0] rfl (hk _ h)
def xc_ballIn (s : ba_St) (b : Nat) (a1 : Int32) (a2 : Int32) : Option (Int32) :=
  ba_bnd (ba_fix (xc_ballIn_l2 b s a1 a2) 1000 0) fun o => match o with
  | .inr r227 => some r227
  | .inl _ =>
    some (-1)
set_option maxHeartbeats 4000000 in
set_option maxRecDepth 100000 in
theorem yc_ballIn {w : ba_W} (hj : ba_inj ba_tC w) (l : Launch) {s : ba_St} {b : Nat} {a1 : Int32} {a2 : Int32} (hb : ba_isCourse b) {o : Int32} (h : xc_ballIn s b a1 a2 = some o) : ba_CI ba_tC w l yX1_ballIn cX1_ballIn 4 (some .int) rm_c_ballIn [.ref (w.1 b), .int a1, .int a2] s (o, s) := by
  refine ba_metI (lv := [(0, .ref (w.1 b)), (1, .int a1), (2, .int a2)]) l hj (by decide +kernel) ⟨Nat.le_of_ble_eq_true rfl, rfl⟩ ?_
  intro X V RT
  replace RT := fun pc lv v D e => RT pc lv v s D (congrArg (fun q => (q, s)) e)
  unfold xc_ballIn at h
  refine ba_iconst V dX1_ballIn_0 ba_c0 ?_
  refine ba_istore_n (lv' := [(3, .int 0), (0, .ref (w.1 b)), (1, .int a1), (2, .int a2)]) V dX1_ballIn_1 (by decide) rfl ?_
  obtain ⟨o, ho, h⟩ := ba_bnd_some h
  refine ba_sub [1, 2, 3, 0] rfl (yc_ballIn_l2 V hb (o := o) (fun e => ?_) (fun pc lv v D  e => by subst e; exact RT pc lv v D  (Option.some.inj h)) 1000 0 ho)
  subst e
  try dsimp only at h
  refine ba_iconst V dX1_ballIn_33 ba_cm1 ?_
  exact RT _ _ _ dX1_ballIn_34 (Option.some.inj h)
def xb_sees (s : ba_St) (a1 : Int32) (a2 : Int32) (a3 : Int32) : Option (Int32 × ba_St) :=
  ba_bnd (xb_within a1 24) fun v228 =>
  if v228 = 0 then
    some ((-2), s)
  else
    ba_bnd (xb_within a2 8) fun v229 =>
    if v229 = 0 then
      some ((-2), s)
    else
      ba_bnd (xb_within a3 9) fun v230 =>
      if v230 = 0 then
        some ((-2), s)
      else
        ba_bnd (xb_runTold s) fun s231 =>
        ba_bnd (xc_ballIn s231 31 a1 ((a2 * 9) + a3)) fun v232 =>
        some (v232, s231)
set_option maxHeartbeats 4000000 in
set_option maxRecDepth 100000 in
theorem yb_sees {w : ba_W} (hj : ba_inj ba_tC w) (l : Launch) {s : ba_St} {a1 : Int32} {a2 : Int32} {a3 : Int32} {o : Int32 × ba_St} (h : xb_sees s a1 a2 a3 = some o) : ba_CI ba_tC w l yX5_sees cX5_sees 4 (some .int) rm_b_sees [.ref (w.1 0), .int a1, .int a2, .int a3] s o := by
  refine ba_metI (lv := [(0, .ref (w.1 0)), (1, .int a1), (2, .int a2), (3, .int a3)]) l hj (by decide +kernel) ⟨Nat.le_of_ble_eq_true rfl, rfl⟩ ?_
  intro X V RT
  unfold xb_sees at h
  refine ba_iload_n V dX5_sees_0 1 rfl ?_
  refine ba_bipush V dX5_sees_1 ba_c24b ?_
  obtain ⟨v228, hc, h⟩ := ba_bnd_some h
  refine ba_callSI (As := [.int a1, .int 24]) (st := []) V dX5_sees_3 kcX5_97 (fun l => yb_within V.inj l hc) ⟨rfl, rfl⟩ ⟨rfl, rfl, Nat.le_of_ble_eq_true rfl, Nat.le_of_ble_eq_true rfl⟩ (Nat.le_of_ble_eq_true rfl) ?_
  refine ba_if_eq V dX5_sees_6 rfl h (fun h => ?_) (fun h => ?_)
  · refine ba_bipush V dX5_sees_27 ba_cm2b ?_
    exact RT _ _ _ _ dX5_sees_29 (Option.some.inj h)
  · refine ba_iload_n V dX5_sees_9 2 rfl ?_
    refine ba_bipush V dX5_sees_10 ba_c8b ?_
    obtain ⟨v229, hc, h⟩ := ba_bnd_some h
    refine ba_callSI (As := [.int a2, .int 8]) (st := []) V dX5_sees_12 kcX5_97 (fun l => yb_within V.inj l hc) ⟨rfl, rfl⟩ ⟨rfl, rfl, Nat.le_of_ble_eq_true rfl, Nat.le_of_ble_eq_true rfl⟩ (Nat.le_of_ble_eq_true rfl) ?_
    refine ba_if_eq V dX5_sees_15 rfl h (fun h => ?_) (fun h => ?_)
    · refine ba_bipush V dX5_sees_27 ba_cm2b ?_
      exact RT _ _ _ _ dX5_sees_29 (Option.some.inj h)
    · refine ba_iload_n V dX5_sees_18 3 rfl ?_
      refine ba_bipush V dX5_sees_19 ba_c9b ?_
      obtain ⟨v230, hc, h⟩ := ba_bnd_some h
      refine ba_callSI (As := [.int a3, .int 9]) (st := []) V dX5_sees_21 kcX5_97 (fun l => yb_within V.inj l hc) ⟨rfl, rfl⟩ ⟨rfl, rfl, Nat.le_of_ble_eq_true rfl, Nat.le_of_ble_eq_true rfl⟩ (Nat.le_of_ble_eq_true rfl) ?_
      refine ba_if_ne V dX5_sees_24 rfl h (fun h => ?_) (fun h => ?_)
      · refine ba_bipush V dX5_sees_27 ba_cm2b ?_
        exact RT _ _ _ _ dX5_sees_29 (Option.some.inj h)
      · refine ba_aload_n V dX5_sees_30 0 rfl ?_
        obtain ⟨s231, hc, h⟩ := ba_bnd_some h
        refine ba_callVV (As := []) (st := []) V dX5_sees_31 kcX5_123 ba_sBag (fun l => yb_runTold V.inj l hc) ⟨rfl, rfl⟩ ⟨rfl, rfl, Nat.le_of_ble_eq_true rfl, Nat.le_of_ble_eq_true rfl⟩ (Nat.le_of_ble_eq_true rfl) ?_
        refine ba_aload_n V dX5_sees_34 0 rfl ?_
        refine ba_getR V dX5_sees_35 kfX5_31 ba_sBag rfl ?_
        refine ba_iload_n V dX5_sees_38 1 rfl ?_
        refine ba_iload_n V dX5_sees_39 2 rfl ?_
        refine ba_bipush V dX5_sees_40 ba_c9b ?_
        refine ba_imul V dX5_sees_42 ?_
        refine ba_iload_n V dX5_sees_43 3 rfl ?_
        refine ba_iadd V dX5_sees_44 ?_
        obtain ⟨v232, hc, h⟩ := ba_bnd_some h
        refine ba_callVI (As := [.int a1, .int ((a2 * 9) + a3)]) (st := []) V dX5_sees_45 kcX5_184 (ba_sCourse ba_isCourse_31) (fun l => yc_ballIn V.inj l ba_isCourse_31 hc) ⟨rfl, rfl⟩ ⟨rfl, rfl, Nat.le_of_ble_eq_true rfl, Nat.le_of_ble_eq_true rfl⟩ (Nat.le_of_ble_eq_true rfl) ?_
        exact RT _ _ _ _ dX5_sees_48 (Option.some.inj h)
def xb_ends (s : ba_St) (a1 : Int32) (a2 : Int32) : Option (Int32 × ba_St) :=
  ba_bnd (xb_within a1 (s.1 3 7)) fun v233 =>
  if v233 = 0 then
    some ((-2), s)
  else
    ba_bnd (xb_within a2 3) fun v234 =>
    if v234 = 0 then
      some ((-2), s)
    else
      ba_bnd (xb_runTold s) fun s235 =>
      if a2 = 0 then
        ba_grd (ba_inb a1 12) <|
        some ((s235.1 (31 + 11) (ba_ix a1)), s235)
      else if a2 = 1 then
        ba_grd (ba_inb a1 12) <|
        some ((s235.1 (31 + 12) (ba_ix a1)), s235)
      else
        ba_grd (ba_inb a1 12) <|
        some ((s235.1 (31 + 13) (ba_ix a1)), s235)
set_option maxHeartbeats 4000000 in
set_option maxRecDepth 100000 in
theorem yb_ends {w : ba_W} (hj : ba_inj ba_tC w) (l : Launch) {s : ba_St} {a1 : Int32} {a2 : Int32} {o : Int32 × ba_St} (h : xb_ends s a1 a2 = some o) : ba_CI ba_tC w l yX5_ends cX5_ends 3 (some .int) rm_b_ends [.ref (w.1 0), .int a1, .int a2] s o := by
  refine ba_metI (lv := [(0, .ref (w.1 0)), (1, .int a1), (2, .int a2)]) l hj (by decide +kernel) ⟨Nat.le_of_ble_eq_true rfl, rfl⟩ ?_
  intro X V RT
  unfold xb_ends at h
  refine ba_iload_n V dX5_ends_0 1 rfl ?_
  refine ba_aload_n V dX5_ends_1 0 rfl ?_
  refine ba_getR V dX5_ends_2 kfX5_22 ba_sBag rfl ?_
  refine ba_getI V dX5_ends_5 kfX5_132 ba_sBoard rfl ?_
  obtain ⟨v233, hc, h⟩ := ba_bnd_some h
  refine ba_callSI (As := [.int a1, .int (s.1 3 7)]) (st := []) V dX5_ends_8 kcX5_97 (fun l => yb_within V.inj l hc) ⟨rfl, rfl⟩ ⟨rfl, rfl, Nat.le_of_ble_eq_true rfl, Nat.le_of_ble_eq_true rfl⟩ (Nat.le_of_ble_eq_true rfl) ?_
  refine ba_if_eq V dX5_ends_11 rfl h (fun h => ?_) (fun h => ?_)
  · refine ba_bipush V dX5_ends_22 ba_cm2b ?_
    exact RT _ _ _ _ dX5_ends_24 (Option.some.inj h)
  · refine ba_iload_n V dX5_ends_14 2 rfl ?_
    refine ba_iconst V dX5_ends_15 ba_c3 ?_
    obtain ⟨v234, hc, h⟩ := ba_bnd_some h
    refine ba_callSI (As := [.int a2, .int 3]) (st := []) V dX5_ends_16 kcX5_97 (fun l => yb_within V.inj l hc) ⟨rfl, rfl⟩ ⟨rfl, rfl, Nat.le_of_ble_eq_true rfl, Nat.le_of_ble_eq_true rfl⟩ (Nat.le_of_ble_eq_true rfl) ?_
    refine ba_if_ne V dX5_ends_19 rfl h (fun h => ?_) (fun h => ?_)
    · refine ba_bipush V dX5_ends_22 ba_cm2b ?_
      exact RT _ _ _ _ dX5_ends_24 (Option.some.inj h)
    · refine ba_aload_n V dX5_ends_25 0 rfl ?_
      obtain ⟨s235, hc, h⟩ := ba_bnd_some h
      refine ba_callVV (As := []) (st := []) V dX5_ends_26 kcX5_123 ba_sBag (fun l => yb_runTold V.inj l hc) ⟨rfl, rfl⟩ ⟨rfl, rfl, Nat.le_of_ble_eq_true rfl, Nat.le_of_ble_eq_true rfl⟩ (Nat.le_of_ble_eq_true rfl) ?_
      refine ba_iload_n V dX5_ends_29 2 rfl ?_
      refine ba_case h (fun e0 h => ?_) (fun e0 h => ?_)
      · refine ba_swL (off := 26) (tgt := 56) V dX5_ends_30 (by decide) (by rw [e0]; decide) rfl ?_
        refine ba_aload_n V dX5_ends_56 0 rfl ?_
        refine ba_getR V dX5_ends_57 kfX5_31 ba_sBag rfl ?_
        refine ba_getR V dX5_ends_60 kfX5_187 (ba_sCourse ba_isCourse_31) rfl ?_
        refine ba_iload_n V dX5_ends_63 1 rfl ?_
        refine ba_iald V dX5_ends_64 (ba_sCourse_11 ba_isCourse_31) h (fun h => ?_)
        exact RT _ _ _ _ dX5_ends_65 (Option.some.inj h)
      refine ba_case h (fun e1 h => ?_) (fun e1 h => ?_)
      · refine ba_swL (off := 36) (tgt := 66) V dX5_ends_30 (by decide) (by rw [e1]; decide) rfl ?_
        refine ba_aload_n V dX5_ends_66 0 rfl ?_
        refine ba_getR V dX5_ends_67 kfX5_31 ba_sBag rfl ?_
        refine ba_getR V dX5_ends_70 kfX5_190 (ba_sCourse ba_isCourse_31) rfl ?_
        refine ba_iload_n V dX5_ends_73 1 rfl ?_
        refine ba_iald V dX5_ends_74 (ba_sCourse_12 ba_isCourse_31) h (fun h => ?_)
        exact RT _ _ _ _ dX5_ends_75 (Option.some.inj h)
      refine ba_swL (off := 46) (tgt := 76) V dX5_ends_30 (by decide) (by show Op.lookupswitch.offset [(0, 26), (1, 36)] 46 _ = 46; rw [lv_osw (a := 0) e0 rfl, lv_osw (a := 1) e1 rfl]; rfl) rfl ?_
      refine ba_aload_n V dX5_ends_76 0 rfl ?_
      refine ba_getR V dX5_ends_77 kfX5_31 ba_sBag rfl ?_
      refine ba_getR V dX5_ends_80 kfX5_193 (ba_sCourse ba_isCourse_31) rfl ?_
      refine ba_iload_n V dX5_ends_83 1 rfl ?_
      refine ba_iald V dX5_ends_84 (ba_sCourse_13 ba_isCourse_31) h (fun h => ?_)
      exact RT _ _ _ _ dX5_ends_85 (Option.some.inj h)
def xc_score_l4 (b : Nat) (s : ba_St) (k : (Int32 × Int32) → Option (Int32)) (a : (Int32 × Int32)) : Option (Int32) :=
  match a with
  | (z1, z2) =>
    if (s.1 b 4) ≤ z2 then
      some z1
    else
      ba_grd (ba_inb z2 12) <|
      ba_lt (z1 + (s.1 (b + 11) (ba_ix z2))) fun x236 =>
      ba_lt (z2 + 1) fun x237 =>
      k (x236, x237)
set_option maxHeartbeats 4000000 in
set_option maxRecDepth 100000 in
theorem yc_score_l4 {w : ba_W} {X : ba_X} (V : ba_V ba_tC w 3 X cX1_score RX1 rm_c_score) {b : Nat} (hb : ba_isCourse b) {s : ba_St} {o : Int32} (EX : ∀ (z1 : Int32), z1 = o → ba_G ba_tC w 3 X s 27 [(1, .int z1)] []) : ∀ (n : Nat) (z1 : Int32) (z2 : Int32), ba_fix (xc_score_l4 b s) n (z1, z2) = some o → ba_G ba_tC w 3 X s 4 [(0, .ref (w.1 b)), (1, .int z1), (2, .int z2)] [] := by
  intro n z1 z2 h
  refine ba_loop (P := fun a => ba_G ba_tC w 3 X s 4 [(0, .ref (w.1 b)), (1, .int a.1), (2, .int a.2)] []) ?_ n (z1, z2) h
  intro k hk0 a h
  obtain ⟨z1, z2⟩ := a
  have hk : ∀ (z1 : Int32) (z2 : Int32), k (z1, z2) = some o → ba_G ba_tC w 3 X s 4 [(0, .ref (w.1 b)), (1, .int z1), (2, .int z2)] [] := fun z1 z2 e => hk0 (z1, z2) e
  unfold xc_score_l4 at h
  try dsimp only at h ⊢
  refine ba_iload_n V dX1_score_4 2 rfl ?_
  refine ba_aload_n V dX1_score_5 0 rfl ?_
  refine ba_getI V dX1_score_6 kfX1_21 (ba_sCourse hb) rfl ?_
  refine ba_icmp_ge V dX1_score_9 rfl h (fun h => ?_) (fun h => ?_)
  · exact ba_sub [1] rfl (EX _ (Option.some.inj h))
  · refine ba_iload_n V dX1_score_12 1 rfl ?_
    refine ba_aload_n V dX1_score_13 0 rfl ?_
    refine ba_getR V dX1_score_14 kfX1_52 (ba_sCourse hb) rfl ?_
    refine ba_iload_n V dX1_score_17 2 rfl ?_
    refine ba_iald V dX1_score_18 (ba_sCourse_11 hb) h (fun h => ?_)
    refine ba_iadd V dX1_score_19 ?_
    refine ba_letI h (fun x236 h => ?_)
    refine ba_istore_n (lv' := [(1, .int x236), (0, .ref (w.1 b)), (2, .int z2)]) V dX1_score_20 (by decide) rfl ?_
    refine ba_iinc V dX1_score_21 2 rfl ba_c1 (by decide) h (fun x237 h => ⟨[(2, .int x237), (1, .int x236), (0, .ref (w.1 b))], rfl, ?_⟩)
    refine ba_goto V dX1_score_24 rfl ?_
    exact ba_sub [2, 1, 0] rfl (hk _ _ h)
def xc_score (s : ba_St) (b : Nat) : Option (Int32) :=
  ba_bnd (ba_fix (xc_score_l4 b s) 1000 (0, 0)) fun x238 =>
    some x238
set_option maxHeartbeats 4000000 in
set_option maxRecDepth 100000 in
theorem yc_score {w : ba_W} (hj : ba_inj ba_tC w) (l : Launch) {s : ba_St} {b : Nat} (hb : ba_isCourse b) {o : Int32} (h : xc_score s b = some o) : ba_CI ba_tC w l yX1_score cX1_score 3 (some .int) rm_c_score [.ref (w.1 b)] s (o, s) := by
  refine ba_metI (lv := [(0, .ref (w.1 b))]) l hj (by decide +kernel) ⟨Nat.le_of_ble_eq_true rfl, rfl⟩ ?_
  intro X V RT
  replace RT := fun pc lv v D e => RT pc lv v s D (congrArg (fun q => (q, s)) e)
  unfold xc_score at h
  refine ba_iconst V dX1_score_0 ba_c0 ?_
  refine ba_istore_n (lv' := [(1, .int 0), (0, .ref (w.1 b))]) V dX1_score_1 (by decide) rfl ?_
  refine ba_iconst V dX1_score_2 ba_c0 ?_
  refine ba_istore_n (lv' := [(2, .int 0), (1, .int 0), (0, .ref (w.1 b))]) V dX1_score_3 (by decide) rfl ?_
  obtain ⟨o, ho, h⟩ := ba_bnd_some h
  refine ba_sub [2, 1, 0] rfl (yc_score_l4 V hb (o := o) (fun x238 e => ?_) 1000 0 0 ho)
  subst e
  try dsimp only at h
  refine ba_iload_n V dX1_score_27 0 rfl ?_
  exact RT _ _ _ dX1_score_28 (Option.some.inj h)
def xc_lost_l4 (b : Nat) (s : ba_St) (k : (Int32 × Int32) → Option (Int32)) (a : (Int32 × Int32)) : Option (Int32) :=
  match a with
  | (z1, z2) =>
    if (s.1 b 4) ≤ z2 then
      some z1
    else
      ba_grd (ba_inb z2 12) <|
      if (s.1 (b + 7) (ba_ix z2)) < 81 then
        ba_lt (z2 + 1) fun x239 =>
        k (z1, x239)
      else
        ba_lt (z1 + 1) fun x240 =>
        ba_lt (z2 + 1) fun x241 =>
        k (x240, x241)
set_option maxHeartbeats 4000000 in
set_option maxRecDepth 100000 in
theorem yc_lost_l4 {w : ba_W} {X : ba_X} (V : ba_V ba_tC w 3 X cX1_lost RX1 rm_c_lost) {b : Nat} (hb : ba_isCourse b) {s : ba_St} {o : Int32} (EX : ∀ (z1 : Int32), z1 = o → ba_G ba_tC w 3 X s 32 [(1, .int z1)] []) : ∀ (n : Nat) (z1 : Int32) (z2 : Int32), ba_fix (xc_lost_l4 b s) n (z1, z2) = some o → ba_G ba_tC w 3 X s 4 [(0, .ref (w.1 b)), (1, .int z1), (2, .int z2)] [] := by
  intro n z1 z2 h
  refine ba_loop (P := fun a => ba_G ba_tC w 3 X s 4 [(0, .ref (w.1 b)), (1, .int a.1), (2, .int a.2)] []) ?_ n (z1, z2) h
  intro k hk0 a h
  obtain ⟨z1, z2⟩ := a
  have hk : ∀ (z1 : Int32) (z2 : Int32), k (z1, z2) = some o → ba_G ba_tC w 3 X s 4 [(0, .ref (w.1 b)), (1, .int z1), (2, .int z2)] [] := fun z1 z2 e => hk0 (z1, z2) e
  unfold xc_lost_l4 at h
  try dsimp only at h ⊢
  refine ba_iload_n V dX1_lost_4 2 rfl ?_
  refine ba_aload_n V dX1_lost_5 0 rfl ?_
  refine ba_getI V dX1_lost_6 kfX1_21 (ba_sCourse hb) rfl ?_
  refine ba_icmp_ge V dX1_lost_9 rfl h (fun h => ?_) (fun h => ?_)
  · exact ba_sub [1] rfl (EX _ (Option.some.inj h))
  · refine ba_aload_n V dX1_lost_12 0 rfl ?_
    refine ba_getR V dX1_lost_13 kfX1_37 (ba_sCourse hb) rfl ?_
    refine ba_iload_n V dX1_lost_16 2 rfl ?_
    refine ba_iald V dX1_lost_17 (ba_sCourse_7 hb) h (fun h => ?_)
    refine ba_bipush V dX1_lost_18 ba_c81b ?_
    refine ba_icmp_lt V dX1_lost_20 rfl h (fun h => ?_) (fun h => ?_)
    · refine ba_iinc V dX1_lost_26 2 rfl ba_c1 (by decide) h (fun x239 h => ⟨[(2, .int x239), (0, .ref (w.1 b)), (1, .int z1)], rfl, ?_⟩)
      refine ba_goto V dX1_lost_29 rfl ?_
      exact ba_sub [1, 2, 0] rfl (hk _ _ h)
    · refine ba_iinc V dX1_lost_23 1 rfl ba_c1 (by decide) h (fun x240 h => ⟨[(1, .int x240), (0, .ref (w.1 b)), (2, .int z2)], rfl, ?_⟩)
      refine ba_iinc V dX1_lost_26 2 rfl ba_c1 (by decide) h (fun x241 h => ⟨[(2, .int x241), (1, .int x240), (0, .ref (w.1 b))], rfl, ?_⟩)
      refine ba_goto V dX1_lost_29 rfl ?_
      exact ba_sub [2, 1, 0] rfl (hk _ _ h)
def xc_lost (s : ba_St) (b : Nat) : Option (Int32) :=
  ba_bnd (ba_fix (xc_lost_l4 b s) 1000 (0, 0)) fun x242 =>
    some x242
set_option maxHeartbeats 4000000 in
set_option maxRecDepth 100000 in
theorem yc_lost {w : ba_W} (hj : ba_inj ba_tC w) (l : Launch) {s : ba_St} {b : Nat} (hb : ba_isCourse b) {o : Int32} (h : xc_lost s b = some o) : ba_CI ba_tC w l yX1_lost cX1_lost 3 (some .int) rm_c_lost [.ref (w.1 b)] s (o, s) := by
  refine ba_metI (lv := [(0, .ref (w.1 b))]) l hj (by decide +kernel) ⟨Nat.le_of_ble_eq_true rfl, rfl⟩ ?_
  intro X V RT
  replace RT := fun pc lv v D e => RT pc lv v s D (congrArg (fun q => (q, s)) e)
  unfold xc_lost at h
  refine ba_iconst V dX1_lost_0 ba_c0 ?_
  refine ba_istore_n (lv' := [(1, .int 0), (0, .ref (w.1 b))]) V dX1_lost_1 (by decide) rfl ?_
  refine ba_iconst V dX1_lost_2 ba_c0 ?_
  refine ba_istore_n (lv' := [(2, .int 0), (1, .int 0), (0, .ref (w.1 b))]) V dX1_lost_3 (by decide) rfl ?_
  obtain ⟨o, ho, h⟩ := ba_bnd_some h
  refine ba_sub [2, 1, 0] rfl (yc_lost_l4 V hb (o := o) (fun x242 e => ?_) 1000 0 0 ho)
  subst e
  try dsimp only at h
  refine ba_iload_n V dX1_lost_32 0 rfl ?_
  exact RT _ _ _ dX1_lost_33 (Option.some.inj h)
def xb_sum (s : ba_St) (a1 : Int32) : Option (Int32 × ba_St) :=
  ba_bnd (xb_within a1 3) fun v243 =>
  if v243 = 0 then
    some ((-2), s)
  else
    ba_bnd (xb_runTold s) fun s244 =>
    if a1 = 0 then
      ba_bnd (xc_score s244 31) fun v245 =>
      some (v245, s244)
    else if a1 = 1 then
      some ((s244.1 31 18), s244)
    else
      ba_bnd (xc_lost s244 31) fun v246 =>
      some (v246, s244)
set_option maxHeartbeats 4000000 in
set_option maxRecDepth 100000 in
theorem yb_sum {w : ba_W} (hj : ba_inj ba_tC w) (l : Launch) {s : ba_St} {a1 : Int32} {o : Int32 × ba_St} (h : xb_sum s a1 = some o) : ba_CI ba_tC w l yX5_sum cX5_sum 2 (some .int) rm_b_sum [.ref (w.1 0), .int a1] s o := by
  refine ba_metI (lv := [(0, .ref (w.1 0)), (1, .int a1)]) l hj (by decide +kernel) ⟨Nat.le_of_ble_eq_true rfl, rfl⟩ ?_
  intro X V RT
  unfold xb_sum at h
  refine ba_iload_n V dX5_sum_0 1 rfl ?_
  refine ba_iconst V dX5_sum_1 ba_c3 ?_
  obtain ⟨v243, hc, h⟩ := ba_bnd_some h
  refine ba_callSI (As := [.int a1, .int 3]) (st := []) V dX5_sum_2 kcX5_97 (fun l => yb_within V.inj l hc) ⟨rfl, rfl⟩ ⟨rfl, rfl, Nat.le_of_ble_eq_true rfl, Nat.le_of_ble_eq_true rfl⟩ (Nat.le_of_ble_eq_true rfl) ?_
  refine ba_if_ne V dX5_sum_5 rfl h (fun h => ?_) (fun h => ?_)
  · refine ba_bipush V dX5_sum_8 ba_cm2b ?_
    exact RT _ _ _ _ dX5_sum_10 (Option.some.inj h)
  · refine ba_aload_n V dX5_sum_11 0 rfl ?_
    obtain ⟨s244, hc, h⟩ := ba_bnd_some h
    refine ba_callVV (As := []) (st := []) V dX5_sum_12 kcX5_123 ba_sBag (fun l => yb_runTold V.inj l hc) ⟨rfl, rfl⟩ ⟨rfl, rfl, Nat.le_of_ble_eq_true rfl, Nat.le_of_ble_eq_true rfl⟩ (Nat.le_of_ble_eq_true rfl) ?_
    refine ba_iload_n V dX5_sum_15 1 rfl ?_
    refine ba_case h (fun e0 h => ?_) (fun e0 h => ?_)
    · refine ba_swL (off := 28) (tgt := 44) V dX5_sum_16 (by decide) (by rw [e0]; decide) rfl ?_
      refine ba_aload_n V dX5_sum_44 0 rfl ?_
      refine ba_getR V dX5_sum_45 kfX5_31 ba_sBag rfl ?_
      obtain ⟨v245, hc, h⟩ := ba_bnd_some h
      refine ba_callVI (As := []) (st := []) V dX5_sum_48 kcX5_196 (ba_sCourse ba_isCourse_31) (fun l => yc_score V.inj l ba_isCourse_31 hc) ⟨rfl, rfl⟩ ⟨rfl, rfl, Nat.le_of_ble_eq_true rfl, Nat.le_of_ble_eq_true rfl⟩ (Nat.le_of_ble_eq_true rfl) ?_
      exact RT _ _ _ _ dX5_sum_51 (Option.some.inj h)
    refine ba_case h (fun e1 h => ?_) (fun e1 h => ?_)
    · refine ba_swL (off := 36) (tgt := 52) V dX5_sum_16 (by decide) (by rw [e1]; decide) rfl ?_
      refine ba_aload_n V dX5_sum_52 0 rfl ?_
      refine ba_getR V dX5_sum_53 kfX5_31 ba_sBag rfl ?_
      refine ba_getI V dX5_sum_56 kfX5_200 (ba_sCourse ba_isCourse_31) rfl ?_
      exact RT _ _ _ _ dX5_sum_59 (Option.some.inj h)
    refine ba_swL (off := 44) (tgt := 60) V dX5_sum_16 (by decide) (by show Op.lookupswitch.offset [(0, 28), (1, 36)] 44 _ = 44; rw [lv_osw (a := 0) e0 rfl, lv_osw (a := 1) e1 rfl]; rfl) rfl ?_
    refine ba_aload_n V dX5_sum_60 0 rfl ?_
    refine ba_getR V dX5_sum_61 kfX5_31 ba_sBag rfl ?_
    obtain ⟨v246, hc, h⟩ := ba_bnd_some h
    refine ba_callVI (As := []) (st := []) V dX5_sum_64 kcX5_203 (ba_sCourse ba_isCourse_31) (fun l => yc_lost V.inj l ba_isCourse_31 hc) ⟨rfl, rfl⟩ ⟨rfl, rfl, Nat.le_of_ble_eq_true rfl, Nat.le_of_ble_eq_true rfl⟩ (Nat.le_of_ble_eq_true rfl) ?_
    exact RT _ _ _ _ dX5_sum_67 (Option.some.inj h)
def xb_late_l8 (s : ba_St) (k : (Int32 × Int32) → Option (Int32)) (a : (Int32 × Int32)) : Option (Int32) :=
  match a with
  | (z1, z2) =>
    if (s.1 3 7) ≤ z2 then
      some z1
    else
      ba_grd (ba_inb z2 12) <|
      if (s.1 (31 + 12) (ba_ix z2)) = (-1) then
        ba_lt (z1 ||| (ba_fishl 1 z2)) fun x248 =>
        ba_lt (z2 + 1) fun x249 =>
        k (x248, x249)
      else
        ba_lt (z2 + 1) fun x250 =>
        k (z1, x250)
set_option maxHeartbeats 4000000 in
set_option maxRecDepth 100000 in
theorem yb_late_l8 {w : ba_W} {X : ba_X} (V : ba_V ba_tC w 3 X cX5_late RX5 rm_b_late) {s : ba_St} {o : Int32} (EX : ∀ (z1 : Int32), z1 = o → ba_G ba_tC w 3 X s 44 [(1, .int z1)] []) : ∀ (n : Nat) (z1 : Int32) (z2 : Int32), ba_fix (xb_late_l8 s) n (z1, z2) = some o → ba_G ba_tC w 3 X s 8 [(0, .ref (w.1 0)), (1, .int z1), (2, .int z2)] [] := by
  intro n z1 z2 h
  refine ba_loop (P := fun a => ba_G ba_tC w 3 X s 8 [(0, .ref (w.1 0)), (1, .int a.1), (2, .int a.2)] []) ?_ n (z1, z2) h
  intro k hk0 a h
  obtain ⟨z1, z2⟩ := a
  have hk : ∀ (z1 : Int32) (z2 : Int32), k (z1, z2) = some o → ba_G ba_tC w 3 X s 8 [(0, .ref (w.1 0)), (1, .int z1), (2, .int z2)] [] := fun z1 z2 e => hk0 (z1, z2) e
  unfold xb_late_l8 at h
  try dsimp only at h ⊢
  refine ba_iload_n V dX5_late_8 2 rfl ?_
  refine ba_aload_n V dX5_late_9 0 rfl ?_
  refine ba_getR V dX5_late_10 kfX5_22 ba_sBag rfl ?_
  refine ba_getI V dX5_late_13 kfX5_132 ba_sBoard rfl ?_
  refine ba_icmp_ge V dX5_late_16 rfl h (fun h => ?_) (fun h => ?_)
  · exact ba_sub [1] rfl (EX _ (Option.some.inj h))
  · refine ba_aload_n V dX5_late_19 0 rfl ?_
    refine ba_getR V dX5_late_20 kfX5_31 ba_sBag rfl ?_
    refine ba_getR V dX5_late_23 kfX5_190 (ba_sCourse ba_isCourse_31) rfl ?_
    refine ba_iload_n V dX5_late_26 2 rfl ?_
    refine ba_iald V dX5_late_27 (ba_sCourse_12 ba_isCourse_31) h (fun h => ?_)
    refine ba_iconst V dX5_late_28 ba_cm1 ?_
    refine ba_icmp_ne V dX5_late_29 rfl h (fun h => ?_) (fun h => ?_)
    · refine ba_iload_n V dX5_late_32 1 rfl ?_
      refine ba_iconst V dX5_late_33 ba_c1 ?_
      refine ba_iload_n V dX5_late_34 2 rfl ?_
      refine ba_ishl V dX5_late_35 ?_
      refine ba_ior V dX5_late_36 ?_
      refine ba_letI h (fun x248 h => ?_)
      refine ba_istore_n (lv' := [(1, .int x248), (0, .ref (w.1 0)), (2, .int z2)]) V dX5_late_37 (by decide) rfl ?_
      refine ba_iinc V dX5_late_38 2 rfl ba_c1 (by decide) h (fun x249 h => ⟨[(2, .int x249), (1, .int x248), (0, .ref (w.1 0))], rfl, ?_⟩)
      refine ba_goto V dX5_late_41 rfl ?_
      exact ba_sub [2, 1, 0] rfl (hk _ _ h)
    · refine ba_iinc V dX5_late_38 2 rfl ba_c1 (by decide) h (fun x250 h => ⟨[(2, .int x250), (0, .ref (w.1 0)), (1, .int z1)], rfl, ?_⟩)
      refine ba_goto V dX5_late_41 rfl ?_
      exact ba_sub [1, 2, 0] rfl (hk _ _ h)
def xb_late (s : ba_St) : Option (Int32 × ba_St) :=
  ba_bnd (xb_runTold s) fun s247 =>
  ba_bnd (ba_fix (xb_late_l8 s247) 1000 (0, 0)) fun x251 =>
    some (x251, s247)
set_option maxHeartbeats 4000000 in
set_option maxRecDepth 100000 in
theorem yb_late {w : ba_W} (hj : ba_inj ba_tC w) (l : Launch) {s : ba_St} {o : Int32 × ba_St} (h : xb_late s = some o) : ba_CI ba_tC w l yX5_late cX5_late 3 (some .int) rm_b_late [.ref (w.1 0)] s o := by
  refine ba_metI (lv := [(0, .ref (w.1 0))]) l hj (by decide +kernel) ⟨Nat.le_of_ble_eq_true rfl, rfl⟩ ?_
  intro X V RT
  unfold xb_late at h
  refine ba_aload_n V dX5_late_0 0 rfl ?_
  obtain ⟨s247, hc, h⟩ := ba_bnd_some h
  refine ba_callVV (As := []) (st := []) V dX5_late_1 kcX5_123 ba_sBag (fun l => yb_runTold V.inj l hc) ⟨rfl, rfl⟩ ⟨rfl, rfl, Nat.le_of_ble_eq_true rfl, Nat.le_of_ble_eq_true rfl⟩ (Nat.le_of_ble_eq_true rfl) ?_
  refine ba_iconst V dX5_late_4 ba_c0 ?_
  refine ba_istore_n (lv' := [(1, .int 0), (0, .ref (w.1 0))]) V dX5_late_5 (by decide) rfl ?_
  refine ba_iconst V dX5_late_6 ba_c0 ?_
  refine ba_istore_n (lv' := [(2, .int 0), (1, .int 0), (0, .ref (w.1 0))]) V dX5_late_7 (by decide) rfl ?_
  obtain ⟨o, ho, h⟩ := ba_bnd_some h
  refine ba_sub [2, 1, 0] rfl (yb_late_l8 V (o := o) (fun x251 e => ?_) 1000 0 0 ho)
  subst e
  try dsimp only at h
  refine ba_iload_n V dX5_late_44 0 rfl ?_
  exact RT _ _ _ _ dX5_late_45 (Option.some.inj h)
def xb_best_l10 (s : ba_St) (k : (Int32 × Int32 × Int32) → Option (Int32)) (a : (Int32 × Int32 × Int32)) : Option (Int32) :=
  match a with
  | (z1, z2, z3) =>
    if (s.1 3 7) ≤ z3 then
      some z1
    else
      ba_grd (ba_inb z3 12) <|
      if (s.1 (31 + 11) (ba_ix z3)) ≤ z2 then
        ba_lt (z3 + 1) fun x253 =>
        k (z1, z2, x253)
      else
        ba_grd (ba_inb z3 12) <|
        ba_lt (s.1 (31 + 11) (ba_ix z3)) fun x254 =>
        ba_lt (z3 + 1) fun x255 =>
        k (z3, x254, x255)
set_option maxHeartbeats 4000000 in
set_option maxRecDepth 100000 in
theorem yb_best_l10 {w : ba_W} {X : ba_X} (V : ba_V ba_tC w 4 X cX5_best RX5 rm_b_best) {s : ba_St} {o : Int32} (EX : ∀ (z1 : Int32), z1 = o → ba_G ba_tC w 4 X s 52 [(1, .int z1)] []) : ∀ (n : Nat) (z1 : Int32) (z2 : Int32) (z3 : Int32), ba_fix (xb_best_l10 s) n (z1, z2, z3) = some o → ba_G ba_tC w 4 X s 10 [(0, .ref (w.1 0)), (1, .int z1), (2, .int z2), (3, .int z3)] [] := by
  intro n z1 z2 z3 h
  refine ba_loop (P := fun a => ba_G ba_tC w 4 X s 10 [(0, .ref (w.1 0)), (1, .int a.1), (2, .int a.2.1), (3, .int a.2.2)] []) ?_ n (z1, z2, z3) h
  intro k hk0 a h
  obtain ⟨z1, z2, z3⟩ := a
  have hk : ∀ (z1 : Int32) (z2 : Int32) (z3 : Int32), k (z1, z2, z3) = some o → ba_G ba_tC w 4 X s 10 [(0, .ref (w.1 0)), (1, .int z1), (2, .int z2), (3, .int z3)] [] := fun z1 z2 z3 e => hk0 (z1, z2, z3) e
  unfold xb_best_l10 at h
  try dsimp only at h ⊢
  refine ba_iload_n V dX5_best_10 3 rfl ?_
  refine ba_aload_n V dX5_best_11 0 rfl ?_
  refine ba_getR V dX5_best_12 kfX5_22 ba_sBag rfl ?_
  refine ba_getI V dX5_best_15 kfX5_132 ba_sBoard rfl ?_
  refine ba_icmp_ge V dX5_best_18 rfl h (fun h => ?_) (fun h => ?_)
  · exact ba_sub [1] rfl (EX _ (Option.some.inj h))
  · refine ba_aload_n V dX5_best_21 0 rfl ?_
    refine ba_getR V dX5_best_22 kfX5_31 ba_sBag rfl ?_
    refine ba_getR V dX5_best_25 kfX5_187 (ba_sCourse ba_isCourse_31) rfl ?_
    refine ba_iload_n V dX5_best_28 3 rfl ?_
    refine ba_iald V dX5_best_29 (ba_sCourse_11 ba_isCourse_31) h (fun h => ?_)
    refine ba_iload_n V dX5_best_30 2 rfl ?_
    refine ba_icmp_le V dX5_best_31 rfl h (fun h => ?_) (fun h => ?_)
    · refine ba_iinc V dX5_best_46 3 rfl ba_c1 (by decide) h (fun x253 h => ⟨[(3, .int x253), (0, .ref (w.1 0)), (1, .int z1), (2, .int z2)], rfl, ?_⟩)
      refine ba_goto V dX5_best_49 rfl ?_
      exact ba_sub [1, 2, 3, 0] rfl (hk _ _ _ h)
    · refine ba_aload_n V dX5_best_34 0 rfl ?_
      refine ba_getR V dX5_best_35 kfX5_31 ba_sBag rfl ?_
      refine ba_getR V dX5_best_38 kfX5_187 (ba_sCourse ba_isCourse_31) rfl ?_
      refine ba_iload_n V dX5_best_41 3 rfl ?_
      refine ba_iald V dX5_best_42 (ba_sCourse_11 ba_isCourse_31) h (fun h => ?_)
      refine ba_letI h (fun x254 h => ?_)
      refine ba_istore_n (lv' := [(2, .int x254), (0, .ref (w.1 0)), (1, .int z1), (3, .int z3)]) V dX5_best_43 (by decide) rfl ?_
      refine ba_iload_n V dX5_best_44 3 rfl ?_
      refine ba_istore_n (lv' := [(1, .int z3), (2, .int x254), (0, .ref (w.1 0)), (3, .int z3)]) V dX5_best_45 (by decide) rfl ?_
      refine ba_iinc V dX5_best_46 3 rfl ba_c1 (by decide) h (fun x255 h => ⟨[(3, .int x255), (1, .int z3), (2, .int x254), (0, .ref (w.1 0))], rfl, ?_⟩)
      refine ba_goto V dX5_best_49 rfl ?_
      exact ba_sub [3, 1, 2, 0] rfl (hk _ _ _ h)
def xb_best (s : ba_St) : Option (Int32 × ba_St) :=
  ba_bnd (xb_runTold s) fun s252 =>
  ba_bnd (ba_fix (xb_best_l10 s252) 1000 ((-1), 0, 0)) fun x256 =>
    some (x256, s252)
set_option maxHeartbeats 4000000 in
set_option maxRecDepth 100000 in
theorem yb_best {w : ba_W} (hj : ba_inj ba_tC w) (l : Launch) {s : ba_St} {o : Int32 × ba_St} (h : xb_best s = some o) : ba_CI ba_tC w l yX5_best cX5_best 4 (some .int) rm_b_best [.ref (w.1 0)] s o := by
  refine ba_metI (lv := [(0, .ref (w.1 0))]) l hj (by decide +kernel) ⟨Nat.le_of_ble_eq_true rfl, rfl⟩ ?_
  intro X V RT
  unfold xb_best at h
  refine ba_aload_n V dX5_best_0 0 rfl ?_
  obtain ⟨s252, hc, h⟩ := ba_bnd_some h
  refine ba_callVV (As := []) (st := []) V dX5_best_1 kcX5_123 ba_sBag (fun l => yb_runTold V.inj l hc) ⟨rfl, rfl⟩ ⟨rfl, rfl, Nat.le_of_ble_eq_true rfl, Nat.le_of_ble_eq_true rfl⟩ (Nat.le_of_ble_eq_true rfl) ?_
  refine ba_iconst V dX5_best_4 ba_cm1 ?_
  refine ba_istore_n (lv' := [(1, .int (-1)), (0, .ref (w.1 0))]) V dX5_best_5 (by decide) rfl ?_
  refine ba_iconst V dX5_best_6 ba_c0 ?_
  refine ba_istore_n (lv' := [(2, .int 0), (1, .int (-1)), (0, .ref (w.1 0))]) V dX5_best_7 (by decide) rfl ?_
  refine ba_iconst V dX5_best_8 ba_c0 ?_
  refine ba_istore_n (lv' := [(3, .int 0), (2, .int 0), (1, .int (-1)), (0, .ref (w.1 0))]) V dX5_best_9 (by decide) rfl ?_
  obtain ⟨o, ho, h⟩ := ba_bnd_some h
  refine ba_sub [3, 2, 1, 0] rfl (yb_best_l10 V (o := o) (fun x256 e => ?_) 1000 (-1) 0 0 ho)
  subst e
  try dsimp only at h
  refine ba_iload_n V dX5_best_52 0 rfl ?_
  exact RT _ _ _ _ dX5_best_53 (Option.some.inj h)
def xb_jam_l19 (s : ba_St) (z1 : Int32) (k : (Int32 × Int32) → Option (Int32)) (a : (Int32 × Int32)) : Option (Int32) :=
  match a with
  | (z2, z3) =>
    if 24 ≤ z3 then
      some z2
    else
      ba_grd (ba_inb z3 24) <|
      ba_grd (ba_inb z2 24) <|
      if (s.1 (31 + 14) (ba_ix z3)) ≤ (s.1 (31 + 14) (ba_ix z2)) then
        ba_lt (z3 + 1) fun x259 =>
        k (z2, x259)
      else
        ba_lt (z3 + 1) fun x260 =>
        k (z3, x260)
set_option maxHeartbeats 4000000 in
set_option maxRecDepth 100000 in
theorem yb_jam_l19 {w : ba_W} {X : ba_X} (V : ba_V ba_tC w 4 X cX5_jam RX5 rm_b_jam) {s : ba_St} {z1 : Int32} {o : Int32} (EX : ∀ (z2 : Int32), z2 = o → ba_G ba_tC w 4 X s 54 [(0, .ref (w.1 0)), (1, .int z1), (2, .int z2)] []) : ∀ (n : Nat) (z2 : Int32) (z3 : Int32), ba_fix (xb_jam_l19 s z1) n (z2, z3) = some o → ba_G ba_tC w 4 X s 19 [(0, .ref (w.1 0)), (1, .int z1), (2, .int z2), (3, .int z3)] [] := by
  intro n z2 z3 h
  refine ba_loop (P := fun a => ba_G ba_tC w 4 X s 19 [(0, .ref (w.1 0)), (1, .int z1), (2, .int a.1), (3, .int a.2)] []) ?_ n (z2, z3) h
  intro k hk0 a h
  obtain ⟨z2, z3⟩ := a
  have hk : ∀ (z2 : Int32) (z3 : Int32), k (z2, z3) = some o → ba_G ba_tC w 4 X s 19 [(0, .ref (w.1 0)), (1, .int z1), (2, .int z2), (3, .int z3)] [] := fun z2 z3 e => hk0 (z2, z3) e
  unfold xb_jam_l19 at h
  try dsimp only at h ⊢
  refine ba_iload_n V dX5_jam_19 3 rfl ?_
  refine ba_bipush V dX5_jam_20 ba_c24b ?_
  refine ba_icmp_ge V dX5_jam_22 rfl h (fun h => ?_) (fun h => ?_)
  · exact ba_sub [0, 1, 2] rfl (EX _ (Option.some.inj h))
  · refine ba_aload_n V dX5_jam_25 0 rfl ?_
    refine ba_getR V dX5_jam_26 kfX5_31 ba_sBag rfl ?_
    refine ba_getR V dX5_jam_29 kfX5_206 (ba_sCourse ba_isCourse_31) rfl ?_
    refine ba_iload_n V dX5_jam_32 3 rfl ?_
    refine ba_iald V dX5_jam_33 (ba_sCourse_14 ba_isCourse_31) h (fun h => ?_)
    refine ba_aload_n V dX5_jam_34 0 rfl ?_
    refine ba_getR V dX5_jam_35 kfX5_31 ba_sBag rfl ?_
    refine ba_getR V dX5_jam_38 kfX5_206 (ba_sCourse ba_isCourse_31) rfl ?_
    refine ba_iload_n V dX5_jam_41 2 rfl ?_
    refine ba_iald V dX5_jam_42 (ba_sCourse_14 ba_isCourse_31) h (fun h => ?_)
    refine ba_icmp_le V dX5_jam_43 rfl h (fun h => ?_) (fun h => ?_)
    · refine ba_iinc V dX5_jam_48 3 rfl ba_c1 (by decide) h (fun x259 h => ⟨[(3, .int x259), (0, .ref (w.1 0)), (1, .int z1), (2, .int z2)], rfl, ?_⟩)
      refine ba_goto V dX5_jam_51 rfl ?_
      exact ba_sub [1, 2, 3, 0] rfl (hk _ _ h)
    · refine ba_iload_n V dX5_jam_46 3 rfl ?_
      refine ba_istore_n (lv' := [(2, .int z3), (0, .ref (w.1 0)), (1, .int z1), (3, .int z3)]) V dX5_jam_47 (by decide) rfl ?_
      refine ba_iinc V dX5_jam_48 3 rfl ba_c1 (by decide) h (fun x260 h => ⟨[(3, .int x260), (2, .int z3), (0, .ref (w.1 0)), (1, .int z1)], rfl, ?_⟩)
      refine ba_goto V dX5_jam_51 rfl ?_
      exact ba_sub [2, 3, 1, 0] rfl (hk _ _ h)
def xb_jam (s : ba_St) (a1 : Int32) : Option (Int32 × ba_St) :=
  ba_bnd (xb_within a1 2) fun v257 =>
  if v257 = 0 then
    some ((-2), s)
  else
    ba_bnd (xb_runTold s) fun s258 =>
    ba_bnd (ba_fix (xb_jam_l19 s258 a1) 1000 (0, 1)) fun x261 =>
      if a1 = 0 then
        some (x261, s258)
      else
        ba_grd (ba_inb x261 24) <|
        some ((s258.1 (31 + 14) (ba_ix x261)), s258)
set_option maxHeartbeats 4000000 in
set_option maxRecDepth 100000 in
theorem yb_jam {w : ba_W} (hj : ba_inj ba_tC w) (l : Launch) {s : ba_St} {a1 : Int32} {o : Int32 × ba_St} (h : xb_jam s a1 = some o) : ba_CI ba_tC w l yX5_jam cX5_jam 4 (some .int) rm_b_jam [.ref (w.1 0), .int a1] s o := by
  refine ba_metI (lv := [(0, .ref (w.1 0)), (1, .int a1)]) l hj (by decide +kernel) ⟨Nat.le_of_ble_eq_true rfl, rfl⟩ ?_
  intro X V RT
  unfold xb_jam at h
  refine ba_iload_n V dX5_jam_0 1 rfl ?_
  refine ba_iconst V dX5_jam_1 ba_c2 ?_
  obtain ⟨v257, hc, h⟩ := ba_bnd_some h
  refine ba_callSI (As := [.int a1, .int 2]) (st := []) V dX5_jam_2 kcX5_97 (fun l => yb_within V.inj l hc) ⟨rfl, rfl⟩ ⟨rfl, rfl, Nat.le_of_ble_eq_true rfl, Nat.le_of_ble_eq_true rfl⟩ (Nat.le_of_ble_eq_true rfl) ?_
  refine ba_if_ne V dX5_jam_5 rfl h (fun h => ?_) (fun h => ?_)
  · refine ba_bipush V dX5_jam_8 ba_cm2b ?_
    exact RT _ _ _ _ dX5_jam_10 (Option.some.inj h)
  · refine ba_aload_n V dX5_jam_11 0 rfl ?_
    obtain ⟨s258, hc, h⟩ := ba_bnd_some h
    refine ba_callVV (As := []) (st := []) V dX5_jam_12 kcX5_123 ba_sBag (fun l => yb_runTold V.inj l hc) ⟨rfl, rfl⟩ ⟨rfl, rfl, Nat.le_of_ble_eq_true rfl, Nat.le_of_ble_eq_true rfl⟩ (Nat.le_of_ble_eq_true rfl) ?_
    refine ba_iconst V dX5_jam_15 ba_c0 ?_
    refine ba_istore_n (lv' := [(2, .int 0), (0, .ref (w.1 0)), (1, .int a1)]) V dX5_jam_16 (by decide) rfl ?_
    refine ba_iconst V dX5_jam_17 ba_c1 ?_
    refine ba_istore_n (lv' := [(3, .int 1), (2, .int 0), (0, .ref (w.1 0)), (1, .int a1)]) V dX5_jam_18 (by decide) rfl ?_
    obtain ⟨o, ho, h⟩ := ba_bnd_some h
    refine ba_sub [2, 3, 1, 0] rfl (yb_jam_l19 V (o := o) (fun x261 e => ?_) 1000 0 1 ho)
    subst e
    try dsimp only at h
    refine ba_iload_n V dX5_jam_54 1 rfl ?_
    refine ba_if_ne V dX5_jam_55 rfl h (fun h => ?_) (fun h => ?_)
    · refine ba_iload_n V dX5_jam_58 2 rfl ?_
      refine ba_goto V dX5_jam_59 rfl ?_
      exact RT _ _ _ _ dX5_jam_71 (Option.some.inj h)
    · refine ba_aload_n V dX5_jam_62 0 rfl ?_
      refine ba_getR V dX5_jam_63 kfX5_31 ba_sBag rfl ?_
      refine ba_getR V dX5_jam_66 kfX5_206 (ba_sCourse ba_isCourse_31) rfl ?_
      refine ba_iload_n V dX5_jam_69 2 rfl ?_
      refine ba_iald V dX5_jam_70 (ba_sCourse_14 ba_isCourse_31) h (fun h => ?_)
      exact RT _ _ _ _ dX5_jam_71 (Option.some.inj h)
def xc_choose (s : ba_St) (b : Nat) (a1 : Int32) (a2 : Int32) (a3 : Int32) : Option (ba_St) :=
  if a1 = 0 then
    ba_grd (ba_inb a2 12) <|
    ba_lt (ba_w s (b + 3) (ba_ix a2) a3) fun s262 =>
    some s262
  else
    if a1 = 1 then
      ba_grd (ba_inb a2 12) <|
      ba_lt (ba_w s (b + 2) (ba_ix a2) a3) fun s263 =>
      some s263
    else
      ba_grd (ba_inb a2 12) <|
      ba_lt (ba_w s (b + 1) (ba_ix a2) a3) fun s264 =>
      some s264
set_option maxHeartbeats 4000000 in
set_option maxRecDepth 100000 in
theorem yc_choose {w : ba_W} (hj : ba_inj ba_tC w) (l : Launch) {s : ba_St} {b : Nat} {a1 : Int32} {a2 : Int32} {a3 : Int32} (hb : ba_isCourse b) {o : ba_St} (h : xc_choose s b a1 a2 a3 = some o) : ba_CV ba_tC w l yX1_choose cX1_choose 4 none rm_c_choose [.ref (w.1 b), .int a1, .int a2, .int a3] s o := by
  refine ba_metV (lv := [(0, .ref (w.1 b)), (1, .int a1), (2, .int a2), (3, .int a3)]) l hj (by decide +kernel) ⟨Nat.le_of_ble_eq_true rfl, rfl⟩ ?_
  intro X V RT
  unfold xc_choose at h
  refine ba_iload_n V dX1_choose_0 1 rfl ?_
  refine ba_if_ne V dX1_choose_1 rfl h (fun h => ?_) (fun h => ?_)
  · refine ba_aload_n V dX1_choose_4 0 rfl ?_
    refine ba_getR V dX1_choose_5 kfX1_18 (ba_sCourse hb) rfl ?_
    refine ba_iload_n V dX1_choose_8 2 rfl ?_
    refine ba_iload_n V dX1_choose_9 3 rfl ?_
    refine ba_iast V dX1_choose_10 (ba_sCourse_3 hb) h (fun s262 h => ?_)
    refine ba_goto V dX1_choose_11 rfl ?_
    exact RT _ _ _ dX1_choose_36 (Option.some.inj h)
  · refine ba_iload_n V dX1_choose_14 1 rfl ?_
    refine ba_iconst V dX1_choose_15 ba_c1 ?_
    refine ba_icmp_ne V dX1_choose_16 rfl h (fun h => ?_) (fun h => ?_)
    · refine ba_aload_n V dX1_choose_19 0 rfl ?_
      refine ba_getR V dX1_choose_20 kfX1_15 (ba_sCourse hb) rfl ?_
      refine ba_iload_n V dX1_choose_23 2 rfl ?_
      refine ba_iload_n V dX1_choose_24 3 rfl ?_
      refine ba_iast V dX1_choose_25 (ba_sCourse_2 hb) h (fun s263 h => ?_)
      refine ba_goto V dX1_choose_26 rfl ?_
      exact RT _ _ _ dX1_choose_36 (Option.some.inj h)
    · refine ba_aload_n V dX1_choose_29 0 rfl ?_
      refine ba_getR V dX1_choose_30 kfX1_9 (ba_sCourse hb) rfl ?_
      refine ba_iload_n V dX1_choose_33 2 rfl ?_
      refine ba_iload_n V dX1_choose_34 3 rfl ?_
      refine ba_iast V dX1_choose_35 (ba_sCourse_1 hb) h (fun s264 h => ?_)
      exact RT _ _ _ dX1_choose_36 (Option.some.inj h)
def xb_bestChoice_j106 (s : ba_St) (z3 : Int32) : Option (Int32 × ba_St) :=
  if z3 = 0 then
    some ((s.1 0 10), s)
  else
    some ((s.1 0 11), s)
set_option maxHeartbeats 4000000 in
set_option maxRecDepth 100000 in
theorem yb_bestChoice_j106 {w : ba_W} {X : ba_X} (V : ba_V ba_tC w 7 X cX5_bestChoice RX5 rm_b_bestChoice) {s : ba_St} {z3 : Int32} {o : Int32 × ba_St} (RT : ∀ (pc : Nat) (lv : List (Nat × Value)) (v : Int32) (s : ba_St), decode cX5_bestChoice pc = .ok (.ireturn, 1) → (v, s) = o → ba_G ba_tC w 7 X s pc lv [.int v]) (h : xb_bestChoice_j106 s z3 = some o) : ba_G ba_tC w 7 X s 106 [(0, .ref (w.1 0)), (3, .int z3)] [] := by
  unfold xb_bestChoice_j106 at h
  refine ba_iload_n V dX5_bestChoice_106 1 rfl ?_
  refine ba_if_ne V dX5_bestChoice_107 rfl h (fun h => ?_) (fun h => ?_)
  · refine ba_aload_n V dX5_bestChoice_110 0 rfl ?_
    refine ba_getI V dX5_bestChoice_111 kfX5_62 ba_sBag rfl ?_
    refine ba_goto V dX5_bestChoice_114 rfl ?_
    exact RT _ _ _ _ dX5_bestChoice_121 (Option.some.inj h)
  · refine ba_aload_n V dX5_bestChoice_117 0 rfl ?_
    refine ba_getI V dX5_bestChoice_118 kfX5_65 ba_sBag rfl ?_
    exact RT _ _ _ _ dX5_bestChoice_121 (Option.some.inj h)
def xb_bestChoice_l42 (z1 : Int32) (z2 : Int32) (z3 : Int32) (k : (ba_St × Int32) → Option (ba_St)) (a : (ba_St × Int32)) : Option (ba_St) :=
  match a with
  | (s, z5) =>
    ba_grd (ba_inb z1 3) <|
    if (ba_tv [9, 23, 3] z1) < z5 then
      some s
    else
      ba_bnd (xc_choose s 46 z1 z2 z5) fun s270 =>
      ba_bnd (xc_run s270 46) fun s271 =>
      ba_bnd (xc_score s271 46) fun v272 =>
      if v272 ≤ (s271.1 0 11) then
        ba_lt (z5 + 1) fun x273 =>
        k (s271, x273)
      else
        ba_lt (ba_w s271 0 10 z5) fun s274 =>
        ba_lt (ba_w s274 0 11 v272) fun s275 =>
        ba_lt (z5 + 1) fun x276 =>
        k (s275, x276)
set_option maxHeartbeats 4000000 in
set_option maxRecDepth 100000 in
theorem yb_bestChoice_l42 {w : ba_W} {X : ba_X} (V : ba_V ba_tC w 7 X cX5_bestChoice RX5 rm_b_bestChoice) {z1 : Int32} {z2 : Int32} {z3 : Int32} {o : ba_St} (EX : ∀ (s : ba_St) , s = o → ba_G ba_tC w 7 X s 106 [(0, .ref (w.1 0)), (3, .int z3)] []) : ∀ (n : Nat) (s : ba_St) (z5 : Int32), ba_fix (xb_bestChoice_l42 z1 z2 z3) n (s, z5) = some o → ba_G ba_tC w 7 X s 42 [(0, .ref (w.1 0)), (1, .int z1), (2, .int z2), (3, .int z3), (5, .int z5)] [] := by
  intro n s z5 h
  refine ba_loop (P := fun a => ba_G ba_tC w 7 X a.1 42 [(0, .ref (w.1 0)), (1, .int z1), (2, .int z2), (3, .int z3), (5, .int a.2)] []) ?_ n (s, z5) h
  intro k hk0 a h
  obtain ⟨s, z5⟩ := a
  have hk : ∀ (s : ba_St) (z5 : Int32), k (s, z5) = some o → ba_G ba_tC w 7 X s 42 [(0, .ref (w.1 0)), (1, .int z1), (2, .int z2), (3, .int z3), (5, .int z5)] [] := fun s z5 e => hk0 (s, z5) e
  unfold xb_bestChoice_l42 at h
  try dsimp only at h ⊢
  refine ba_iload V dX5_bestChoice_42 4 rfl ?_
  refine ba_gets (i := 2) (q := ("Bagatelle", "GREATEST_CHOICE", [9, 23, 3])) V dX5_bestChoice_44 ksX5_384 ba_sf2 ?_
  refine ba_iload_n V dX5_bestChoice_47 1 rfl ?_
  refine ba_sald V dX5_bestChoice_48 (ba_sf2) h (fun h => ?_)
  refine ba_icmp_gt V dX5_bestChoice_49 rfl h (fun h => ?_) (fun h => ?_)
  · exact ba_sub [0, 3] rfl (EX _ (Option.some.inj h))
  · refine ba_aload_n V dX5_bestChoice_52 0 rfl ?_
    refine ba_getR V dX5_bestChoice_53 kfX5_35 ba_sBag rfl ?_
    refine ba_iload_n V dX5_bestChoice_56 1 rfl ?_
    refine ba_iload_n V dX5_bestChoice_57 2 rfl ?_
    refine ba_iload V dX5_bestChoice_58 4 rfl ?_
    obtain ⟨s270, hc, h⟩ := ba_bnd_some h
    refine ba_callVV (As := [.int z1, .int z2, .int z5]) (st := []) V dX5_bestChoice_60 kcX5_387 (ba_sCourse ba_isCourse_46) (fun l => yc_choose V.inj l ba_isCourse_46 hc) ⟨rfl, rfl⟩ ⟨rfl, rfl, Nat.le_of_ble_eq_true rfl, Nat.le_of_ble_eq_true rfl⟩ (Nat.le_of_ble_eq_true rfl) ?_
    refine ba_aload_n V dX5_bestChoice_63 0 rfl ?_
    refine ba_getR V dX5_bestChoice_64 kfX5_35 ba_sBag rfl ?_
    obtain ⟨s271, hc, h⟩ := ba_bnd_some h
    refine ba_callVV (As := []) (st := []) V dX5_bestChoice_67 kcX5_221 (ba_sCourse ba_isCourse_46) (fun l => yc_run V.inj l ba_isCourse_46 hc) ⟨rfl, rfl⟩ ⟨rfl, rfl, Nat.le_of_ble_eq_true rfl, Nat.le_of_ble_eq_true rfl⟩ (Nat.le_of_ble_eq_true rfl) ?_
    refine ba_aload_n V dX5_bestChoice_70 0 rfl ?_
    refine ba_getR V dX5_bestChoice_71 kfX5_35 ba_sBag rfl ?_
    obtain ⟨v272, hc, h⟩ := ba_bnd_some h
    refine ba_callVI (As := []) (st := []) V dX5_bestChoice_74 kcX5_196 (ba_sCourse ba_isCourse_46) (fun l => yc_score V.inj l ba_isCourse_46 hc) ⟨rfl, rfl⟩ ⟨rfl, rfl, Nat.le_of_ble_eq_true rfl, Nat.le_of_ble_eq_true rfl⟩ (Nat.le_of_ble_eq_true rfl) ?_
    refine ba_istore (lv' := [(6, .int v272), (0, .ref (w.1 0)), (1, .int z1), (2, .int z2), (3, .int z3), (5, .int z5)]) V dX5_bestChoice_77 (by decide) rfl ?_
    refine ba_iload V dX5_bestChoice_79 0 rfl ?_
    refine ba_aload_n V dX5_bestChoice_81 1 rfl ?_
    refine ba_getI V dX5_bestChoice_82 kfX5_65 ba_sBag rfl ?_
    refine ba_icmp_le V dX5_bestChoice_85 rfl h (fun h => ?_) (fun h => ?_)
    · refine ba_iinc V dX5_bestChoice_100 5 rfl ba_c1 (by decide) h (fun x273 h => ⟨[(5, .int x273), (6, .int v272), (0, .ref (w.1 0)), (1, .int z1), (2, .int z2), (3, .int z3)], rfl, ?_⟩)
      refine ba_goto V dX5_bestChoice_103 rfl ?_
      exact ba_sub [2, 3, 4, 5, 0] rfl (hk _ _ h)
    · refine ba_aload_n V dX5_bestChoice_88 1 rfl ?_
      refine ba_iload V dX5_bestChoice_89 5 rfl ?_
      refine ba_putI V dX5_bestChoice_91 kfX5_62 ba_sBag rfl h (fun s274 h => ?_)
      refine ba_aload_n V dX5_bestChoice_94 1 rfl ?_
      refine ba_iload V dX5_bestChoice_95 0 rfl ?_
      refine ba_putI V dX5_bestChoice_97 kfX5_65 ba_sBag rfl h (fun s275 h => ?_)
      refine ba_iinc V dX5_bestChoice_100 5 rfl ba_c1 (by decide) h (fun x276 h => ⟨[(5, .int x276), (6, .int v272), (0, .ref (w.1 0)), (1, .int z1), (2, .int z2), (3, .int z3)], rfl, ?_⟩)
      refine ba_goto V dX5_bestChoice_103 rfl ?_
      exact ba_sub [2, 3, 4, 5, 0] rfl (hk _ _ h)
def xb_bestChoice (s : ba_St) (a1 : Int32) (a2 : Int32) (a3 : Int32) : Option (Int32 × ba_St) :=
  ba_lt ((a1 * 12) + a2) fun x265 =>
  if (s.1 0 9) = x265 then
    xb_bestChoice_j106 s a3
  else
    ba_lt (ba_w s 0 9 x265) fun s266 =>
    ba_lt (ba_w s266 0 11 (-1)) fun s267 =>
    ba_bnd (xc_takeTold s267 46) fun s268 =>
    ba_grd (ba_inb a1 3) <|
    ba_lt (ba_tv [1, 0, 0] a1) fun x269 =>
    ba_bnd (ba_fix (xb_bestChoice_l42 a1 a2 a3) 1000 (s268, x269)) fun s277 =>
      xb_bestChoice_j106 s277 a3
set_option maxHeartbeats 4000000 in
set_option maxRecDepth 100000 in
theorem yb_bestChoice {w : ba_W} (hj : ba_inj ba_tC w) (l : Launch) {s : ba_St} {a1 : Int32} {a2 : Int32} {a3 : Int32} {o : Int32 × ba_St} (h : xb_bestChoice s a1 a2 a3 = some o) : ba_CI ba_tC w l yX5_bestChoice cX5_bestChoice 7 (some .int) rm_b_bestChoice [.ref (w.1 0), .int a1, .int a2, .int a3] s o := by
  refine ba_metI (lv := [(0, .ref (w.1 0)), (1, .int a1), (2, .int a2), (3, .int a3)]) l hj (by decide +kernel) ⟨Nat.le_of_ble_eq_true rfl, rfl⟩ ?_
  intro X V RT
  unfold xb_bestChoice at h
  refine ba_iload_n V dX5_bestChoice_0 1 rfl ?_
  refine ba_bipush V dX5_bestChoice_1 ba_c12b ?_
  refine ba_imul V dX5_bestChoice_3 ?_
  refine ba_iload_n V dX5_bestChoice_4 2 rfl ?_
  refine ba_iadd V dX5_bestChoice_5 ?_
  refine ba_letI h (fun x265 h => ?_)
  refine ba_istore (lv' := [(4, .int x265), (0, .ref (w.1 0)), (1, .int a1), (2, .int a2), (3, .int a3)]) V dX5_bestChoice_6 (by decide) rfl ?_
  refine ba_aload_n V dX5_bestChoice_8 1 rfl ?_
  refine ba_getI V dX5_bestChoice_9 kfX5_59 ba_sBag rfl ?_
  refine ba_iload V dX5_bestChoice_12 0 rfl ?_
  refine ba_icmp_eq V dX5_bestChoice_14 rfl h (fun h => ?_) (fun h => ?_)
  · exact ba_sub [1, 4] rfl (yb_bestChoice_j106 V RT h)
  · refine ba_aload_n V dX5_bestChoice_17 1 rfl ?_
    refine ba_iload V dX5_bestChoice_18 0 rfl ?_
    refine ba_putI V dX5_bestChoice_20 kfX5_59 ba_sBag rfl h (fun s266 h => ?_)
    refine ba_aload_n V dX5_bestChoice_23 1 rfl ?_
    refine ba_iconst V dX5_bestChoice_24 ba_cm1 ?_
    refine ba_putI V dX5_bestChoice_25 kfX5_65 ba_sBag rfl h (fun s267 h => ?_)
    refine ba_aload_n V dX5_bestChoice_28 1 rfl ?_
    refine ba_getR V dX5_bestChoice_29 kfX5_35 ba_sBag rfl ?_
    obtain ⟨s268, hc, h⟩ := ba_bnd_some h
    refine ba_callVV (As := []) (st := []) V dX5_bestChoice_32 kcX5_215 (ba_sCourse ba_isCourse_46) (fun l => yc_takeTold V.inj l ba_isCourse_46 hc) ⟨rfl, rfl⟩ ⟨rfl, rfl, Nat.le_of_ble_eq_true rfl, Nat.le_of_ble_eq_true rfl⟩ (Nat.le_of_ble_eq_true rfl) ?_
    refine ba_gets (i := 1) (q := ("Bagatelle", "LEAST_CHOICE", [1, 0, 0])) V dX5_bestChoice_35 ksX5_381 ba_sf1 ?_
    refine ba_iload_n V dX5_bestChoice_38 2 rfl ?_
    refine ba_sald V dX5_bestChoice_39 (ba_sf1) h (fun h => ?_)
    refine ba_letI h (fun x269 h => ?_)
    refine ba_istore (lv' := [(5, .int x269), (4, .int x265), (0, .ref (w.1 0)), (1, .int a1), (2, .int a2), (3, .int a3)]) V dX5_bestChoice_40 (by decide) rfl ?_
    obtain ⟨o, ho, h⟩ := ba_bnd_some h
    refine ba_sub [2, 3, 4, 5, 0] rfl (yb_bestChoice_l42 V (o := o) (fun s277 e => ?_) 1000 s268 x269 ho)
    subst e
    try dsimp only at h
    exact ba_sub [0, 1] rfl (yb_bestChoice_j106 V RT h)
def xb_shoot (s : ba_St) (a1 : Int32) (a2 : Int32) : Option (Int32 × ba_St) :=
  ba_bnd (xb_within a1 (s.1 3 7)) fun v278 =>
  if v278 = 0 then
    some ((-2), s)
  else
    ba_bnd (xb_within a2 2) fun v279 =>
    if v279 = 0 then
      some ((-2), s)
    else
      ba_bn2 (xb_bestChoice s 0 a1 a2) fun v280 s281 =>
      some (v280, s281)
set_option maxHeartbeats 4000000 in
set_option maxRecDepth 100000 in
theorem yb_shoot {w : ba_W} (hj : ba_inj ba_tC w) (l : Launch) {s : ba_St} {a1 : Int32} {a2 : Int32} {o : Int32 × ba_St} (h : xb_shoot s a1 a2 = some o) : ba_CI ba_tC w l yX5_shoot cX5_shoot 3 (some .int) rm_b_shoot [.ref (w.1 0), .int a1, .int a2] s o := by
  refine ba_metI (lv := [(0, .ref (w.1 0)), (1, .int a1), (2, .int a2)]) l hj (by decide +kernel) ⟨Nat.le_of_ble_eq_true rfl, rfl⟩ ?_
  intro X V RT
  unfold xb_shoot at h
  refine ba_iload_n V dX5_shoot_0 1 rfl ?_
  refine ba_aload_n V dX5_shoot_1 0 rfl ?_
  refine ba_getR V dX5_shoot_2 kfX5_22 ba_sBag rfl ?_
  refine ba_getI V dX5_shoot_5 kfX5_132 ba_sBoard rfl ?_
  obtain ⟨v278, hc, h⟩ := ba_bnd_some h
  refine ba_callSI (As := [.int a1, .int (s.1 3 7)]) (st := []) V dX5_shoot_8 kcX5_97 (fun l => yb_within V.inj l hc) ⟨rfl, rfl⟩ ⟨rfl, rfl, Nat.le_of_ble_eq_true rfl, Nat.le_of_ble_eq_true rfl⟩ (Nat.le_of_ble_eq_true rfl) ?_
  refine ba_if_eq V dX5_shoot_11 rfl h (fun h => ?_) (fun h => ?_)
  · refine ba_bipush V dX5_shoot_22 ba_cm2b ?_
    exact RT _ _ _ _ dX5_shoot_24 (Option.some.inj h)
  · refine ba_iload_n V dX5_shoot_14 2 rfl ?_
    refine ba_iconst V dX5_shoot_15 ba_c2 ?_
    obtain ⟨v279, hc, h⟩ := ba_bnd_some h
    refine ba_callSI (As := [.int a2, .int 2]) (st := []) V dX5_shoot_16 kcX5_97 (fun l => yb_within V.inj l hc) ⟨rfl, rfl⟩ ⟨rfl, rfl, Nat.le_of_ble_eq_true rfl, Nat.le_of_ble_eq_true rfl⟩ (Nat.le_of_ble_eq_true rfl) ?_
    refine ba_if_ne V dX5_shoot_19 rfl h (fun h => ?_) (fun h => ?_)
    · refine ba_bipush V dX5_shoot_22 ba_cm2b ?_
      exact RT _ _ _ _ dX5_shoot_24 (Option.some.inj h)
    · refine ba_aload_n V dX5_shoot_25 0 rfl ?_
      refine ba_iconst V dX5_shoot_26 ba_c0 ?_
      refine ba_iload_n V dX5_shoot_27 1 rfl ?_
      refine ba_iload_n V dX5_shoot_28 2 rfl ?_
      obtain ⟨v280, s281, hc, h⟩ := ba_bn2_some h
      refine ba_callVI (As := [.int 0, .int a1, .int a2]) (st := []) V dX5_shoot_29 kcX5_209 ba_sBag (fun l => yb_bestChoice V.inj l hc) ⟨rfl, rfl⟩ ⟨rfl, rfl, Nat.le_of_ble_eq_true rfl, Nat.le_of_ble_eq_true rfl⟩ (Nat.le_of_ble_eq_true rfl) ?_
      exact RT _ _ _ _ dX5_shoot_32 (Option.some.inj h)
def xb_time (s : ba_St) (a1 : Int32) (a2 : Int32) : Option (Int32 × ba_St) :=
  ba_bnd (xb_within a1 (s.1 3 7)) fun v282 =>
  if v282 = 0 then
    some ((-2), s)
  else
    ba_bnd (xb_within a2 2) fun v283 =>
    if v283 = 0 then
      some ((-2), s)
    else
      ba_bn2 (xb_bestChoice s 1 a1 a2) fun v284 s285 =>
      some (v284, s285)
set_option maxHeartbeats 4000000 in
set_option maxRecDepth 100000 in
theorem yb_time {w : ba_W} (hj : ba_inj ba_tC w) (l : Launch) {s : ba_St} {a1 : Int32} {a2 : Int32} {o : Int32 × ba_St} (h : xb_time s a1 a2 = some o) : ba_CI ba_tC w l yX5_time cX5_time 3 (some .int) rm_b_time [.ref (w.1 0), .int a1, .int a2] s o := by
  refine ba_metI (lv := [(0, .ref (w.1 0)), (1, .int a1), (2, .int a2)]) l hj (by decide +kernel) ⟨Nat.le_of_ble_eq_true rfl, rfl⟩ ?_
  intro X V RT
  unfold xb_time at h
  refine ba_iload_n V dX5_time_0 1 rfl ?_
  refine ba_aload_n V dX5_time_1 0 rfl ?_
  refine ba_getR V dX5_time_2 kfX5_22 ba_sBag rfl ?_
  refine ba_getI V dX5_time_5 kfX5_132 ba_sBoard rfl ?_
  obtain ⟨v282, hc, h⟩ := ba_bnd_some h
  refine ba_callSI (As := [.int a1, .int (s.1 3 7)]) (st := []) V dX5_time_8 kcX5_97 (fun l => yb_within V.inj l hc) ⟨rfl, rfl⟩ ⟨rfl, rfl, Nat.le_of_ble_eq_true rfl, Nat.le_of_ble_eq_true rfl⟩ (Nat.le_of_ble_eq_true rfl) ?_
  refine ba_if_eq V dX5_time_11 rfl h (fun h => ?_) (fun h => ?_)
  · refine ba_bipush V dX5_time_22 ba_cm2b ?_
    exact RT _ _ _ _ dX5_time_24 (Option.some.inj h)
  · refine ba_iload_n V dX5_time_14 2 rfl ?_
    refine ba_iconst V dX5_time_15 ba_c2 ?_
    obtain ⟨v283, hc, h⟩ := ba_bnd_some h
    refine ba_callSI (As := [.int a2, .int 2]) (st := []) V dX5_time_16 kcX5_97 (fun l => yb_within V.inj l hc) ⟨rfl, rfl⟩ ⟨rfl, rfl, Nat.le_of_ble_eq_true rfl, Nat.le_of_ble_eq_true rfl⟩ (Nat.le_of_ble_eq_true rfl) ?_
    refine ba_if_ne V dX5_time_19 rfl h (fun h => ?_) (fun h => ?_)
    · refine ba_bipush V dX5_time_22 ba_cm2b ?_
      exact RT _ _ _ _ dX5_time_24 (Option.some.inj h)
    · refine ba_aload_n V dX5_time_25 0 rfl ?_
      refine ba_iconst V dX5_time_26 ba_c1 ?_
      refine ba_iload_n V dX5_time_27 1 rfl ?_
      refine ba_iload_n V dX5_time_28 2 rfl ?_
      obtain ⟨v284, s285, hc, h⟩ := ba_bn2_some h
      refine ba_callVI (As := [.int 1, .int a1, .int a2]) (st := []) V dX5_time_29 kcX5_209 ba_sBag (fun l => yb_bestChoice V.inj l hc) ⟨rfl, rfl⟩ ⟨rfl, rfl, Nat.le_of_ble_eq_true rfl, Nat.le_of_ble_eq_true rfl⟩ (Nat.le_of_ble_eq_true rfl) ?_
      exact RT _ _ _ _ dX5_time_32 (Option.some.inj h)
def xb_bend (s : ba_St) (a1 : Int32) (a2 : Int32) : Option (Int32 × ba_St) :=
  ba_bnd (xb_within a1 (s.1 3 3)) fun v286 =>
  if v286 = 0 then
    some ((-2), s)
  else
    ba_bnd (xb_within a2 2) fun v287 =>
    if v287 = 0 then
      some ((-2), s)
    else
      ba_bn2 (xb_bestChoice s 2 a1 a2) fun v288 s289 =>
      some (v288, s289)
set_option maxHeartbeats 4000000 in
set_option maxRecDepth 100000 in
theorem yb_bend {w : ba_W} (hj : ba_inj ba_tC w) (l : Launch) {s : ba_St} {a1 : Int32} {a2 : Int32} {o : Int32 × ba_St} (h : xb_bend s a1 a2 = some o) : ba_CI ba_tC w l yX5_bend cX5_bend 3 (some .int) rm_b_bend [.ref (w.1 0), .int a1, .int a2] s o := by
  refine ba_metI (lv := [(0, .ref (w.1 0)), (1, .int a1), (2, .int a2)]) l hj (by decide +kernel) ⟨Nat.le_of_ble_eq_true rfl, rfl⟩ ?_
  intro X V RT
  unfold xb_bend at h
  refine ba_iload_n V dX5_bend_0 1 rfl ?_
  refine ba_aload_n V dX5_bend_1 0 rfl ?_
  refine ba_getR V dX5_bend_2 kfX5_22 ba_sBag rfl ?_
  refine ba_getI V dX5_bend_5 kfX5_111 ba_sBoard rfl ?_
  obtain ⟨v286, hc, h⟩ := ba_bnd_some h
  refine ba_callSI (As := [.int a1, .int (s.1 3 3)]) (st := []) V dX5_bend_8 kcX5_97 (fun l => yb_within V.inj l hc) ⟨rfl, rfl⟩ ⟨rfl, rfl, Nat.le_of_ble_eq_true rfl, Nat.le_of_ble_eq_true rfl⟩ (Nat.le_of_ble_eq_true rfl) ?_
  refine ba_if_eq V dX5_bend_11 rfl h (fun h => ?_) (fun h => ?_)
  · refine ba_bipush V dX5_bend_22 ba_cm2b ?_
    exact RT _ _ _ _ dX5_bend_24 (Option.some.inj h)
  · refine ba_iload_n V dX5_bend_14 2 rfl ?_
    refine ba_iconst V dX5_bend_15 ba_c2 ?_
    obtain ⟨v287, hc, h⟩ := ba_bnd_some h
    refine ba_callSI (As := [.int a2, .int 2]) (st := []) V dX5_bend_16 kcX5_97 (fun l => yb_within V.inj l hc) ⟨rfl, rfl⟩ ⟨rfl, rfl, Nat.le_of_ble_eq_true rfl, Nat.le_of_ble_eq_true rfl⟩ (Nat.le_of_ble_eq_true rfl) ?_
    refine ba_if_ne V dX5_bend_19 rfl h (fun h => ?_) (fun h => ?_)
    · refine ba_bipush V dX5_bend_22 ba_cm2b ?_
      exact RT _ _ _ _ dX5_bend_24 (Option.some.inj h)
    · refine ba_aload_n V dX5_bend_25 0 rfl ?_
      refine ba_iconst V dX5_bend_26 ba_c2 ?_
      refine ba_iload_n V dX5_bend_27 1 rfl ?_
      refine ba_iload_n V dX5_bend_28 2 rfl ?_
      obtain ⟨v288, s289, hc, h⟩ := ba_bn2_some h
      refine ba_callVI (As := [.int 2, .int a1, .int a2]) (st := []) V dX5_bend_29 kcX5_209 ba_sBag (fun l => yb_bestChoice V.inj l hc) ⟨rfl, rfl⟩ ⟨rfl, rfl, Nat.le_of_ble_eq_true rfl, Nat.le_of_ble_eq_true rfl⟩ (Nat.le_of_ble_eq_true rfl) ?_
      exact RT _ _ _ _ dX5_bend_32 (Option.some.inj h)
def xb_losesNoneWithout (s : ba_St) (a1 : Int32) : Option (Int32 × ba_St) :=
  ba_bnd (xo_allEvents s) fun v290 =>
  ba_lt (ba_w s 46 5 (v290 &&& (a1 ^^^ (-1)))) fun s291 =>
  ba_bnd (xc_run s291 46) fun s292 =>
  ba_bnd (xc_lost s292 46) fun v293 =>
  if v293 = 0 then
    some (1, s292)
  else
    some (0, s292)
set_option maxHeartbeats 4000000 in
set_option maxRecDepth 100000 in
theorem yb_losesNoneWithout {w : ba_W} (hj : ba_inj ba_tC w) (l : Launch) {s : ba_St} {a1 : Int32} {o : Int32 × ba_St} (h : xb_losesNoneWithout s a1 = some o) : ba_CI ba_tC w l yX5_losesNoneWithout cX5_losesNoneWithout 2 (some .boolean) rm_b_losesNoneWithout [.ref (w.1 0), .int a1] s o := by
  refine ba_metZ (lv := [(0, .ref (w.1 0)), (1, .int a1)]) l hj (by decide +kernel) ⟨Nat.le_of_ble_eq_true rfl, rfl⟩ ?_
  intro X V RT
  unfold xb_losesNoneWithout at h
  refine ba_aload_n V dX5_losesNoneWithout_0 0 rfl ?_
  refine ba_getR V dX5_losesNoneWithout_1 kfX5_35 ba_sBag rfl ?_
  refine ba_aload_n V dX5_losesNoneWithout_4 0 rfl ?_
  refine ba_getR V dX5_losesNoneWithout_5 kfX5_22 ba_sBag rfl ?_
  obtain ⟨v290, hc, h⟩ := ba_bnd_some h
  refine ba_callVI (As := []) (st := [.ref (w.1 46)]) V dX5_losesNoneWithout_8 kcX5_394 ba_sBoard (fun l => yo_allEvents V.inj l hc) ⟨rfl, rfl⟩ ⟨rfl, rfl, Nat.le_of_ble_eq_true rfl, Nat.le_of_ble_eq_true rfl⟩ (Nat.le_of_ble_eq_true rfl) ?_
  refine ba_iload_n V dX5_losesNoneWithout_11 1 rfl ?_
  refine ba_iconst V dX5_losesNoneWithout_12 ba_cm1 ?_
  refine ba_ixor V dX5_losesNoneWithout_13 ?_
  refine ba_iand V dX5_losesNoneWithout_14 ?_
  refine ba_putI V dX5_losesNoneWithout_15 kfX5_218 (ba_sCourse ba_isCourse_46) rfl h (fun s291 h => ?_)
  refine ba_aload_n V dX5_losesNoneWithout_18 0 rfl ?_
  refine ba_getR V dX5_losesNoneWithout_19 kfX5_35 ba_sBag rfl ?_
  obtain ⟨s292, hc, h⟩ := ba_bnd_some h
  refine ba_callVV (As := []) (st := []) V dX5_losesNoneWithout_22 kcX5_221 (ba_sCourse ba_isCourse_46) (fun l => yc_run V.inj l ba_isCourse_46 hc) ⟨rfl, rfl⟩ ⟨rfl, rfl, Nat.le_of_ble_eq_true rfl, Nat.le_of_ble_eq_true rfl⟩ (Nat.le_of_ble_eq_true rfl) ?_
  refine ba_aload_n V dX5_losesNoneWithout_25 0 rfl ?_
  refine ba_getR V dX5_losesNoneWithout_26 kfX5_35 ba_sBag rfl ?_
  obtain ⟨v293, hc, h⟩ := ba_bnd_some h
  refine ba_callVI (As := []) (st := []) V dX5_losesNoneWithout_29 kcX5_203 (ba_sCourse ba_isCourse_46) (fun l => yc_lost V.inj l ba_isCourse_46 hc) ⟨rfl, rfl⟩ ⟨rfl, rfl, Nat.le_of_ble_eq_true rfl, Nat.le_of_ble_eq_true rfl⟩ (Nat.le_of_ble_eq_true rfl) ?_
  refine ba_if_ne V dX5_losesNoneWithout_32 rfl h (fun h => ?_) (fun h => ?_)
  · refine ba_iconst V dX5_losesNoneWithout_35 ba_c1 ?_
    refine ba_goto V dX5_losesNoneWithout_36 rfl ?_
    exact RT _ _ _ _ dX5_losesNoneWithout_40 ba_y1 (Option.some.inj h)
  · refine ba_iconst V dX5_losesNoneWithout_39 ba_c0 ?_
    exact RT _ _ _ _ dX5_losesNoneWithout_40 ba_y0 (Option.some.inj h)
def xb_findSpares_l49 (z1 : Int32) (k : (ba_St × Int32) → Option ((ba_St) ⊕ (ba_St))) (a : (ba_St × Int32)) : Option ((ba_St) ⊕ (ba_St)) :=
  match a with
  | (s, z2) =>
    if z1 ≤ z2 then
      some (.inl s)
    else
      ba_bn2 (xb_losesNoneWithout s (ba_fishl 1 z2)) fun v301 s302 =>
      if v301 = 0 then
        ba_lt (z2 + 1) fun x303 =>
        k (s302, x303)
      else
        ba_lt (ba_w s302 0 13 1) fun s304 =>
        ba_lt (ba_w s304 0 14 z2) fun s305 =>
        some (.inr s305)
set_option maxHeartbeats 4000000 in
set_option maxRecDepth 100000 in
theorem yb_findSpares_l49 {w : ba_W} {X : ba_X} (V : ba_V ba_tC w 4 X cX5_findSpares RX5 rm_b_findSpares) {z1 : Int32} {o : (ba_St) ⊕ (ba_St)} (EX : ∀ (s : ba_St) , .inl s = o → ba_G ba_tC w 4 X s 81 [(0, .ref (w.1 0)), (1, .int z1)] []) (RT : ∀ (pc : Nat) (lv : List (Nat × Value)) (s : ba_St), decode cX5_findSpares pc = .ok (.return_, 1) → .inr s = o → ba_G ba_tC w 4 X s pc lv []) : ∀ (n : Nat) (s : ba_St) (z2 : Int32), ba_fix (xb_findSpares_l49 z1) n (s, z2) = some o → ba_G ba_tC w 4 X s 49 [(0, .ref (w.1 0)), (1, .int z1), (2, .int z2)] [] := by
  intro n s z2 h
  refine ba_loop (P := fun a => ba_G ba_tC w 4 X a.1 49 [(0, .ref (w.1 0)), (1, .int z1), (2, .int a.2)] []) ?_ n (s, z2) h
  intro k hk0 a h
  obtain ⟨s, z2⟩ := a
  have hk : ∀ (s : ba_St) (z2 : Int32), k (s, z2) = some o → ba_G ba_tC w 4 X s 49 [(0, .ref (w.1 0)), (1, .int z1), (2, .int z2)] [] := fun s z2 e => hk0 (s, z2) e
  unfold xb_findSpares_l49 at h
  try dsimp only at h ⊢
  refine ba_iload_n V dX5_findSpares_49 2 rfl ?_
  refine ba_iload_n V dX5_findSpares_50 1 rfl ?_
  refine ba_icmp_ge V dX5_findSpares_51 rfl h (fun h => ?_) (fun h => ?_)
  · exact ba_sub [0, 1] rfl (EX _ (Option.some.inj h))
  · refine ba_aload_n V dX5_findSpares_54 0 rfl ?_
    refine ba_iconst V dX5_findSpares_55 ba_c1 ?_
    refine ba_iload_n V dX5_findSpares_56 2 rfl ?_
    refine ba_ishl V dX5_findSpares_57 ?_
    obtain ⟨v301, s302, hc, h⟩ := ba_bn2_some h
    refine ba_callVI (As := [.int (ba_fishl 1 z2)]) (st := []) V dX5_findSpares_58 kcX5_391 ba_sBag (fun l => yb_losesNoneWithout V.inj l hc) ⟨rfl, rfl⟩ ⟨rfl, rfl, Nat.le_of_ble_eq_true rfl, Nat.le_of_ble_eq_true rfl⟩ (Nat.le_of_ble_eq_true rfl) ?_
    refine ba_if_eq V dX5_findSpares_61 rfl h (fun h => ?_) (fun h => ?_)
    · refine ba_iinc V dX5_findSpares_75 2 rfl ba_c1 (by decide) h (fun x303 h => ⟨[(2, .int x303), (0, .ref (w.1 0)), (1, .int z1)], rfl, ?_⟩)
      refine ba_goto V dX5_findSpares_78 rfl ?_
      exact ba_sub [1, 2, 0] rfl (hk _ _ h)
    · refine ba_aload_n V dX5_findSpares_64 0 rfl ?_
      refine ba_iconst V dX5_findSpares_65 ba_c1 ?_
      refine ba_putI V dX5_findSpares_66 kfX5_71 ba_sBag rfl h (fun s304 h => ?_)
      refine ba_aload_n V dX5_findSpares_69 0 rfl ?_
      refine ba_iload_n V dX5_findSpares_70 2 rfl ?_
      refine ba_putI V dX5_findSpares_71 kfX5_74 ba_sBag rfl h (fun s305 h => ?_)
      exact RT _ _ _ dX5_findSpares_74 (Option.some.inj h)
def xb_findSpares_l92 (z1 : Int32) (z2 : Int32) (k : (ba_St × Int32) → Option ((ba_St) ⊕ (ba_St))) (a : (ba_St × Int32)) : Option ((ba_St) ⊕ (ba_St)) :=
  match a with
  | (s, z3) =>
    if z1 ≤ z3 then
      some (.inl s)
    else
      ba_bn2 (xb_losesNoneWithout s ((ba_fishl 1 z2) ||| (ba_fishl 1 z3))) fun v308 s309 =>
      if v308 = 0 then
        ba_lt (z3 + 1) fun x310 =>
        k (s309, x310)
      else
        ba_lt (ba_w s309 0 13 2) fun s311 =>
        ba_lt (ba_w s311 0 14 z2) fun s312 =>
        ba_lt (ba_w s312 0 15 z3) fun s313 =>
        some (.inr s313)
set_option maxHeartbeats 4000000 in
set_option maxRecDepth 100000 in
theorem yb_findSpares_l92 {w : ba_W} {X : ba_X} (V : ba_V ba_tC w 4 X cX5_findSpares RX5 rm_b_findSpares) {z1 : Int32} {z2 : Int32} {o : (ba_St) ⊕ (ba_St)} (EX : ∀ (s : ba_St) , .inl s = o → ba_G ba_tC w 4 X s 133 [(0, .ref (w.1 0)), (1, .int z1), (2, .int z2)] []) (RT : ∀ (pc : Nat) (lv : List (Nat × Value)) (s : ba_St), decode cX5_findSpares pc = .ok (.return_, 1) → .inr s = o → ba_G ba_tC w 4 X s pc lv []) : ∀ (n : Nat) (s : ba_St) (z3 : Int32), ba_fix (xb_findSpares_l92 z1 z2) n (s, z3) = some o → ba_G ba_tC w 4 X s 92 [(0, .ref (w.1 0)), (1, .int z1), (2, .int z2), (3, .int z3)] [] := by
  intro n s z3 h
  refine ba_loop (P := fun a => ba_G ba_tC w 4 X a.1 92 [(0, .ref (w.1 0)), (1, .int z1), (2, .int z2), (3, .int a.2)] []) ?_ n (s, z3) h
  intro k hk0 a h
  obtain ⟨s, z3⟩ := a
  have hk : ∀ (s : ba_St) (z3 : Int32), k (s, z3) = some o → ba_G ba_tC w 4 X s 92 [(0, .ref (w.1 0)), (1, .int z1), (2, .int z2), (3, .int z3)] [] := fun s z3 e => hk0 (s, z3) e
  unfold xb_findSpares_l92 at h
  try dsimp only at h ⊢
  refine ba_iload_n V dX5_findSpares_92 3 rfl ?_
  refine ba_iload_n V dX5_findSpares_93 1 rfl ?_
  refine ba_icmp_ge V dX5_findSpares_94 rfl h (fun h => ?_) (fun h => ?_)
  · exact ba_sub [0, 1, 2] rfl (EX _ (Option.some.inj h))
  · refine ba_aload_n V dX5_findSpares_97 0 rfl ?_
    refine ba_iconst V dX5_findSpares_98 ba_c1 ?_
    refine ba_iload_n V dX5_findSpares_99 2 rfl ?_
    refine ba_ishl V dX5_findSpares_100 ?_
    refine ba_iconst V dX5_findSpares_101 ba_c1 ?_
    refine ba_iload_n V dX5_findSpares_102 3 rfl ?_
    refine ba_ishl V dX5_findSpares_103 ?_
    refine ba_ior V dX5_findSpares_104 ?_
    obtain ⟨v308, s309, hc, h⟩ := ba_bn2_some h
    refine ba_callVI (As := [.int ((ba_fishl 1 z2) ||| (ba_fishl 1 z3))]) (st := []) V dX5_findSpares_105 kcX5_391 ba_sBag (fun l => yb_losesNoneWithout V.inj l hc) ⟨rfl, rfl⟩ ⟨rfl, rfl, Nat.le_of_ble_eq_true rfl, Nat.le_of_ble_eq_true rfl⟩ (Nat.le_of_ble_eq_true rfl) ?_
    refine ba_if_eq V dX5_findSpares_108 rfl h (fun h => ?_) (fun h => ?_)
    · refine ba_iinc V dX5_findSpares_127 3 rfl ba_c1 (by decide) h (fun x310 h => ⟨[(3, .int x310), (0, .ref (w.1 0)), (1, .int z1), (2, .int z2)], rfl, ?_⟩)
      refine ba_goto V dX5_findSpares_130 rfl ?_
      exact ba_sub [1, 2, 3, 0] rfl (hk _ _ h)
    · refine ba_aload_n V dX5_findSpares_111 0 rfl ?_
      refine ba_iconst V dX5_findSpares_112 ba_c2 ?_
      refine ba_putI V dX5_findSpares_113 kfX5_71 ba_sBag rfl h (fun s311 h => ?_)
      refine ba_aload_n V dX5_findSpares_116 0 rfl ?_
      refine ba_iload_n V dX5_findSpares_117 2 rfl ?_
      refine ba_putI V dX5_findSpares_118 kfX5_74 ba_sBag rfl h (fun s312 h => ?_)
      refine ba_aload_n V dX5_findSpares_121 0 rfl ?_
      refine ba_iload_n V dX5_findSpares_122 3 rfl ?_
      refine ba_putI V dX5_findSpares_123 kfX5_77 ba_sBag rfl h (fun s313 h => ?_)
      exact RT _ _ _ dX5_findSpares_126 (Option.some.inj h)
def xb_findSpares_l83 (z1 : Int32) (k : (ba_St × Int32) → Option ((ba_St) ⊕ (ba_St))) (a : (ba_St × Int32)) : Option ((ba_St) ⊕ (ba_St)) :=
  match a with
  | (s, z2) =>
    if z1 ≤ z2 then
      some (.inl s)
    else
      ba_lt (z2 + 1) fun x307 =>
      ba_bnd (ba_fix (xb_findSpares_l92 z1 z2) 1000 (s, x307)) fun o => match o with
      | .inr r316 => some (.inr r316)
      | .inl s314 =>
        ba_lt (z2 + 1) fun x315 =>
        k (s314, x315)
set_option maxHeartbeats 4000000 in
set_option maxRecDepth 100000 in
theorem yb_findSpares_l83 {w : ba_W} {X : ba_X} (V : ba_V ba_tC w 4 X cX5_findSpares RX5 rm_b_findSpares) {z1 : Int32} {o : (ba_St) ⊕ (ba_St)} (EX : ∀ (s : ba_St) , .inl s = o → ba_G ba_tC w 4 X s 139 [] []) (RT : ∀ (pc : Nat) (lv : List (Nat × Value)) (s : ba_St), decode cX5_findSpares pc = .ok (.return_, 1) → .inr s = o → ba_G ba_tC w 4 X s pc lv []) : ∀ (n : Nat) (s : ba_St) (z2 : Int32), ba_fix (xb_findSpares_l83 z1) n (s, z2) = some o → ba_G ba_tC w 4 X s 83 [(0, .ref (w.1 0)), (1, .int z1), (2, .int z2)] [] := by
  intro n s z2 h
  refine ba_loop (P := fun a => ba_G ba_tC w 4 X a.1 83 [(0, .ref (w.1 0)), (1, .int z1), (2, .int a.2)] []) ?_ n (s, z2) h
  intro k hk0 a h
  obtain ⟨s, z2⟩ := a
  have hk : ∀ (s : ba_St) (z2 : Int32), k (s, z2) = some o → ba_G ba_tC w 4 X s 83 [(0, .ref (w.1 0)), (1, .int z1), (2, .int z2)] [] := fun s z2 e => hk0 (s, z2) e
  unfold xb_findSpares_l83 at h
  try dsimp only at h ⊢
  refine ba_iload_n V dX5_findSpares_83 2 rfl ?_
  refine ba_iload_n V dX5_findSpares_84 1 rfl ?_
  refine ba_icmp_ge V dX5_findSpares_85 rfl h (fun h => ?_) (fun h => ?_)
  · exact ba_sub [] rfl (EX _ (Option.some.inj h))
  · refine ba_iload_n V dX5_findSpares_88 2 rfl ?_
    refine ba_iconst V dX5_findSpares_89 ba_c1 ?_
    refine ba_iadd V dX5_findSpares_90 ?_
    refine ba_letI h (fun x307 h => ?_)
    refine ba_istore_n (lv' := [(3, .int x307), (0, .ref (w.1 0)), (1, .int z1), (2, .int z2)]) V dX5_findSpares_91 (by decide) rfl ?_
    obtain ⟨o, ho, h⟩ := ba_bnd_some h
    refine ba_sub [1, 2, 3, 0] rfl (yb_findSpares_l92 V (o := o) (fun s314 e => ?_) (fun pc lv s D  e => by subst e; exact RT pc lv s D  (Option.some.inj h)) 1000 s x307 ho)
    subst e
    try dsimp only at h
    refine ba_iinc V dX5_findSpares_133 2 rfl ba_c1 (by decide) h (fun x315 h => ⟨[(2, .int x315), (0, .ref (w.1 0)), (1, .int z1)], rfl, ?_⟩)
    refine ba_goto V dX5_findSpares_136 rfl ?_
    exact ba_sub [1, 2, 0] rfl (hk _ _ h)
def xb_findSpares (s : ba_St) : Option (ba_St) :=
  ba_bnd (xc_takeTold s 46) fun s294 =>
  ba_lt (s294.1 10 1) fun x295 =>
  ba_lt (ba_w s294 0 13 (-1)) fun s296 =>
  ba_lt (ba_w s296 0 14 (-1)) fun s297 =>
  ba_lt (ba_w s297 0 15 (-1)) fun s298 =>
  ba_bn2 (xb_losesNoneWithout s298 0) fun v299 s300 =>
  if v299 = 0 then
    ba_bnd (ba_fix (xb_findSpares_l49 x295) 1000 (s300, 0)) fun o => match o with
    | .inr r319 => some r319
    | .inl s306 =>
      ba_bnd (ba_fix (xb_findSpares_l83 x295) 1000 (s306, 0)) fun o => match o with
      | .inr r318 => some r318
      | .inl s317 =>
        some s317
  else
    ba_lt (ba_w s300 0 13 0) fun s320 =>
    some s320
set_option maxHeartbeats 4000000 in
set_option maxRecDepth 100000 in
theorem yb_findSpares {w : ba_W} (hj : ba_inj ba_tC w) (l : Launch) {s : ba_St} {o : ba_St} (h : xb_findSpares s = some o) : ba_CV ba_tC w l yX5_findSpares cX5_findSpares 4 none rm_b_findSpares [.ref (w.1 0)] s o := by
  refine ba_metV (lv := [(0, .ref (w.1 0))]) l hj (by decide +kernel) ⟨Nat.le_of_ble_eq_true rfl, rfl⟩ ?_
  intro X V RT
  unfold xb_findSpares at h
  refine ba_aload_n V dX5_findSpares_0 0 rfl ?_
  refine ba_getR V dX5_findSpares_1 kfX5_35 ba_sBag rfl ?_
  obtain ⟨s294, hc, h⟩ := ba_bnd_some h
  refine ba_callVV (As := []) (st := []) V dX5_findSpares_4 kcX5_215 (ba_sCourse ba_isCourse_46) (fun l => yc_takeTold V.inj l ba_isCourse_46 hc) ⟨rfl, rfl⟩ ⟨rfl, rfl, Nat.le_of_ble_eq_true rfl, Nat.le_of_ble_eq_true rfl⟩ (Nat.le_of_ble_eq_true rfl) ?_
  refine ba_aload_n V dX5_findSpares_7 0 rfl ?_
  refine ba_getR V dX5_findSpares_8 kfX5_22 ba_sBag rfl ?_
  refine ba_getR V dX5_findSpares_11 kfX5_151 ba_sBoard rfl ?_
  refine ba_getI V dX5_findSpares_14 kfX5_161 (ba_sSlips ba_isSlips_10) rfl ?_
  refine ba_letI h (fun x295 h => ?_)
  refine ba_istore_n (lv' := [(1, .int x295), (0, .ref (w.1 0))]) V dX5_findSpares_17 (by decide) rfl ?_
  refine ba_aload_n V dX5_findSpares_18 1 rfl ?_
  refine ba_iconst V dX5_findSpares_19 ba_cm1 ?_
  refine ba_putI V dX5_findSpares_20 kfX5_71 ba_sBag rfl h (fun s296 h => ?_)
  refine ba_aload_n V dX5_findSpares_23 1 rfl ?_
  refine ba_iconst V dX5_findSpares_24 ba_cm1 ?_
  refine ba_putI V dX5_findSpares_25 kfX5_74 ba_sBag rfl h (fun s297 h => ?_)
  refine ba_aload_n V dX5_findSpares_28 1 rfl ?_
  refine ba_iconst V dX5_findSpares_29 ba_cm1 ?_
  refine ba_putI V dX5_findSpares_30 kfX5_77 ba_sBag rfl h (fun s298 h => ?_)
  refine ba_aload_n V dX5_findSpares_33 1 rfl ?_
  refine ba_iconst V dX5_findSpares_34 ba_c0 ?_
  obtain ⟨v299, s300, hc, h⟩ := ba_bn2_some h
  refine ba_callVI (As := [.int 0]) (st := []) V dX5_findSpares_35 kcX5_391 ba_sBag (fun l => yb_losesNoneWithout V.inj l hc) ⟨rfl, rfl⟩ ⟨rfl, rfl, Nat.le_of_ble_eq_true rfl, Nat.le_of_ble_eq_true rfl⟩ (Nat.le_of_ble_eq_true rfl) ?_
  refine ba_if_eq V dX5_findSpares_38 rfl h (fun h => ?_) (fun h => ?_)
  · refine ba_iconst V dX5_findSpares_47 ba_c0 ?_
    refine ba_istore_n (lv' := [(2, .int 0), (1, .int x295), (0, .ref (w.1 0))]) V dX5_findSpares_48 (by decide) rfl ?_
    obtain ⟨o, ho, h⟩ := ba_bnd_some h
    refine ba_sub [2, 1, 0] rfl (yb_findSpares_l49 V (o := o) (fun s306 e => ?_) (fun pc lv s D  e => by subst e; exact RT pc lv s D  (Option.some.inj h)) 1000 s300 0 ho)
    subst e
    try dsimp only at h
    refine ba_iconst V dX5_findSpares_81 ba_c0 ?_
    refine ba_istore_n (lv' := [(2, .int 0), (0, .ref (w.1 0)), (1, .int x295)]) V dX5_findSpares_82 (by decide) rfl ?_
    obtain ⟨o, ho, h⟩ := ba_bnd_some h
    refine ba_sub [1, 2, 0] rfl (yb_findSpares_l83 V (o := o) (fun s317 e => ?_) (fun pc lv s D  e => by subst e; exact RT pc lv s D  (Option.some.inj h)) 1000 s306 0 ho)
    subst e
    try dsimp only at h
    exact RT _ _ _ dX5_findSpares_139 (Option.some.inj h)
  · refine ba_aload_n V dX5_findSpares_41 1 rfl ?_
    refine ba_iconst V dX5_findSpares_42 ba_c0 ?_
    refine ba_putI V dX5_findSpares_43 kfX5_71 ba_sBag rfl h (fun s320 h => ?_)
    exact RT _ _ _ dX5_findSpares_46 (Option.some.inj h)
def xb_spare_j29 (s : ba_St) (z1 : Int32) : Option (Int32 × ba_St) :=
  if z1 = (-1) then
    some ((s.1 0 13), s)
  else
    if z1 = 0 then
      some ((s.1 0 14), s)
    else
      some ((s.1 0 15), s)
set_option maxHeartbeats 4000000 in
set_option maxRecDepth 100000 in
theorem yb_spare_j29 {w : ba_W} {X : ba_X} (V : ba_V ba_tC w 2 X cX5_spare RX5 rm_b_spare) {s : ba_St} {z1 : Int32} {o : Int32 × ba_St} (RT : ∀ (pc : Nat) (lv : List (Nat × Value)) (v : Int32) (s : ba_St), decode cX5_spare pc = .ok (.ireturn, 1) → (v, s) = o → ba_G ba_tC w 2 X s pc lv [.int v]) (h : xb_spare_j29 s z1 = some o) : ba_G ba_tC w 2 X s 29 [(0, .ref (w.1 0)), (1, .int z1)] [] := by
  unfold xb_spare_j29 at h
  refine ba_iload_n V dX5_spare_29 1 rfl ?_
  refine ba_iconst V dX5_spare_30 ba_cm1 ?_
  refine ba_icmp_ne V dX5_spare_31 rfl h (fun h => ?_) (fun h => ?_)
  · refine ba_aload_n V dX5_spare_34 0 rfl ?_
    refine ba_getI V dX5_spare_35 kfX5_71 ba_sBag rfl ?_
    exact RT _ _ _ _ dX5_spare_38 (Option.some.inj h)
  · refine ba_iload_n V dX5_spare_39 1 rfl ?_
    refine ba_if_ne V dX5_spare_40 rfl h (fun h => ?_) (fun h => ?_)
    · refine ba_aload_n V dX5_spare_43 0 rfl ?_
      refine ba_getI V dX5_spare_44 kfX5_74 ba_sBag rfl ?_
      refine ba_goto V dX5_spare_47 rfl ?_
      exact RT _ _ _ _ dX5_spare_54 (Option.some.inj h)
    · refine ba_aload_n V dX5_spare_50 0 rfl ?_
      refine ba_getI V dX5_spare_51 kfX5_77 ba_sBag rfl ?_
      exact RT _ _ _ _ dX5_spare_54 (Option.some.inj h)
def xb_spare (s : ba_St) (a1 : Int32) : Option (Int32 × ba_St) :=
  if a1 < (-1) then
    some ((-2), s)
  else
    if a1 ≤ 1 then
      if (s.1 0 12) = 0 then
        ba_bnd (xb_findSpares s) fun s321 =>
        ba_lt (ba_w s321 0 12 1) fun s322 =>
        xb_spare_j29 s322 a1
      else
        xb_spare_j29 s a1
    else
      some ((-2), s)
set_option maxHeartbeats 4000000 in
set_option maxRecDepth 100000 in
theorem yb_spare {w : ba_W} (hj : ba_inj ba_tC w) (l : Launch) {s : ba_St} {a1 : Int32} {o : Int32 × ba_St} (h : xb_spare s a1 = some o) : ba_CI ba_tC w l yX5_spare cX5_spare 2 (some .int) rm_b_spare [.ref (w.1 0), .int a1] s o := by
  refine ba_metI (lv := [(0, .ref (w.1 0)), (1, .int a1)]) l hj (by decide +kernel) ⟨Nat.le_of_ble_eq_true rfl, rfl⟩ ?_
  intro X V RT
  unfold xb_spare at h
  refine ba_iload_n V dX5_spare_0 1 rfl ?_
  refine ba_iconst V dX5_spare_1 ba_cm1 ?_
  refine ba_icmp_lt V dX5_spare_2 rfl h (fun h => ?_) (fun h => ?_)
  · refine ba_bipush V dX5_spare_10 ba_cm2b ?_
    exact RT _ _ _ _ dX5_spare_12 (Option.some.inj h)
  · refine ba_iload_n V dX5_spare_5 1 rfl ?_
    refine ba_iconst V dX5_spare_6 ba_c1 ?_
    refine ba_icmp_le V dX5_spare_7 rfl h (fun h => ?_) (fun h => ?_)
    · refine ba_aload_n V dX5_spare_13 0 rfl ?_
      refine ba_getI V dX5_spare_14 kfX5_68 ba_sBag rfl ?_
      refine ba_if_ne V dX5_spare_17 rfl h (fun h => ?_) (fun h => ?_)
      · refine ba_aload_n V dX5_spare_20 0 rfl ?_
        obtain ⟨s321, hc, h⟩ := ba_bnd_some h
        refine ba_callVV (As := []) (st := []) V dX5_spare_21 kcX5_212 ba_sBag (fun l => yb_findSpares V.inj l hc) ⟨rfl, rfl⟩ ⟨rfl, rfl, Nat.le_of_ble_eq_true rfl, Nat.le_of_ble_eq_true rfl⟩ (Nat.le_of_ble_eq_true rfl) ?_
        refine ba_aload_n V dX5_spare_24 0 rfl ?_
        refine ba_iconst V dX5_spare_25 ba_c1 ?_
        refine ba_putZ V dX5_spare_26 kfX5_68 ba_sBag rfl ba_y1 h (fun s322 h => ?_)
        exact ba_sub [0, 1] rfl (yb_spare_j29 V RT h)
      · exact ba_sub [0, 1] rfl (yb_spare_j29 V RT h)
    · refine ba_bipush V dX5_spare_10 ba_cm2b ?_
      exact RT _ _ _ _ dX5_spare_12 (Option.some.inj h)
def xb_seen (s : ba_St) (a1 : Int32) (a2 : Int32) (a3 : Int32) (a4 : Int32) : Option (Int32 × ba_St) :=
  ba_bnd (xb_within a1 24) fun v323 =>
  if v323 = 0 then
    some ((-2), s)
  else
    ba_bnd (xb_within a2 8) fun v324 =>
    if v324 = 0 then
      some ((-2), s)
    else
      ba_bnd (xb_within a3 9) fun v325 =>
      if v325 = 0 then
        some ((-2), s)
      else
        ba_bnd (xb_within a4 13) fun v326 =>
        if v326 = 0 then
          some ((-2), s)
        else
          ba_bnd (xl_isFull s 12) fun v327 =>
          if v327 = 0 then
            ba_bnd (xl_append s 12 a1 a2 a3 a4) fun s328 =>
            some ((s328.1 12 1), s328)
          else
            some ((-4), s)
set_option maxHeartbeats 4000000 in
set_option maxRecDepth 100000 in
theorem yb_seen {w : ba_W} (hj : ba_inj ba_tC w) (l : Launch) {s : ba_St} {a1 : Int32} {a2 : Int32} {a3 : Int32} {a4 : Int32} {o : Int32 × ba_St} (h : xb_seen s a1 a2 a3 a4 = some o) : ba_CI ba_tC w l yX5_seen cX5_seen 5 (some .int) rm_b_seen [.ref (w.1 0), .int a1, .int a2, .int a3, .int a4] s o := by
  refine ba_metI (lv := [(0, .ref (w.1 0)), (1, .int a1), (2, .int a2), (3, .int a3), (4, .int a4)]) l hj (by decide +kernel) ⟨Nat.le_of_ble_eq_true rfl, rfl⟩ ?_
  intro X V RT
  unfold xb_seen at h
  refine ba_iload_n V dX5_seen_0 1 rfl ?_
  refine ba_bipush V dX5_seen_1 ba_c24b ?_
  obtain ⟨v323, hc, h⟩ := ba_bnd_some h
  refine ba_callSI (As := [.int a1, .int 24]) (st := []) V dX5_seen_3 kcX5_97 (fun l => yb_within V.inj l hc) ⟨rfl, rfl⟩ ⟨rfl, rfl, Nat.le_of_ble_eq_true rfl, Nat.le_of_ble_eq_true rfl⟩ (Nat.le_of_ble_eq_true rfl) ?_
  refine ba_if_eq V dX5_seen_6 rfl h (fun h => ?_) (fun h => ?_)
  · refine ba_bipush V dX5_seen_37 ba_cm2b ?_
    exact RT _ _ _ _ dX5_seen_39 (Option.some.inj h)
  · refine ba_iload_n V dX5_seen_9 2 rfl ?_
    refine ba_bipush V dX5_seen_10 ba_c8b ?_
    obtain ⟨v324, hc, h⟩ := ba_bnd_some h
    refine ba_callSI (As := [.int a2, .int 8]) (st := []) V dX5_seen_12 kcX5_97 (fun l => yb_within V.inj l hc) ⟨rfl, rfl⟩ ⟨rfl, rfl, Nat.le_of_ble_eq_true rfl, Nat.le_of_ble_eq_true rfl⟩ (Nat.le_of_ble_eq_true rfl) ?_
    refine ba_if_eq V dX5_seen_15 rfl h (fun h => ?_) (fun h => ?_)
    · refine ba_bipush V dX5_seen_37 ba_cm2b ?_
      exact RT _ _ _ _ dX5_seen_39 (Option.some.inj h)
    · refine ba_iload_n V dX5_seen_18 3 rfl ?_
      refine ba_bipush V dX5_seen_19 ba_c9b ?_
      obtain ⟨v325, hc, h⟩ := ba_bnd_some h
      refine ba_callSI (As := [.int a3, .int 9]) (st := []) V dX5_seen_21 kcX5_97 (fun l => yb_within V.inj l hc) ⟨rfl, rfl⟩ ⟨rfl, rfl, Nat.le_of_ble_eq_true rfl, Nat.le_of_ble_eq_true rfl⟩ (Nat.le_of_ble_eq_true rfl) ?_
      refine ba_if_eq V dX5_seen_24 rfl h (fun h => ?_) (fun h => ?_)
      · refine ba_bipush V dX5_seen_37 ba_cm2b ?_
        exact RT _ _ _ _ dX5_seen_39 (Option.some.inj h)
      · refine ba_iload V dX5_seen_27 4 rfl ?_
        refine ba_bipush V dX5_seen_29 ba_c13b ?_
        obtain ⟨v326, hc, h⟩ := ba_bnd_some h
        refine ba_callSI (As := [.int a4, .int 13]) (st := []) V dX5_seen_31 kcX5_97 (fun l => yb_within V.inj l hc) ⟨rfl, rfl⟩ ⟨rfl, rfl, Nat.le_of_ble_eq_true rfl, Nat.le_of_ble_eq_true rfl⟩ (Nat.le_of_ble_eq_true rfl) ?_
        refine ba_if_ne V dX5_seen_34 rfl h (fun h => ?_) (fun h => ?_)
        · refine ba_bipush V dX5_seen_37 ba_cm2b ?_
          exact RT _ _ _ _ dX5_seen_39 (Option.some.inj h)
        · refine ba_aload_n V dX5_seen_40 0 rfl ?_
          refine ba_getR V dX5_seen_41 kfX5_41 ba_sBag rfl ?_
          obtain ⟨v327, hc, h⟩ := ba_bnd_some h
          refine ba_callVI (As := []) (st := []) V dX5_seen_44 kcX5_154 (ba_sSlips ba_isSlips_12) (fun l => yl_isFull V.inj l ba_isSlips_12 hc) ⟨rfl, rfl⟩ ⟨rfl, rfl, Nat.le_of_ble_eq_true rfl, Nat.le_of_ble_eq_true rfl⟩ (Nat.le_of_ble_eq_true rfl) ?_
          refine ba_if_eq V dX5_seen_47 rfl h (fun h => ?_) (fun h => ?_)
          · refine ba_aload_n V dX5_seen_53 0 rfl ?_
            refine ba_getR V dX5_seen_54 kfX5_41 ba_sBag rfl ?_
            refine ba_iload_n V dX5_seen_57 1 rfl ?_
            refine ba_iload_n V dX5_seen_58 2 rfl ?_
            refine ba_iload_n V dX5_seen_59 3 rfl ?_
            refine ba_iload V dX5_seen_60 4 rfl ?_
            obtain ⟨s328, hc, h⟩ := ba_bnd_some h
            refine ba_callVV (As := [.int a1, .int a2, .int a3, .int a4]) (st := []) V dX5_seen_62 kcX5_158 (ba_sSlips ba_isSlips_12) (fun l => yl_append V.inj l ba_isSlips_12 hc) ⟨rfl, rfl⟩ ⟨rfl, rfl, Nat.le_of_ble_eq_true rfl, Nat.le_of_ble_eq_true rfl⟩ (Nat.le_of_ble_eq_true rfl) ?_
            refine ba_aload_n V dX5_seen_65 0 rfl ?_
            refine ba_getR V dX5_seen_66 kfX5_41 ba_sBag rfl ?_
            refine ba_getI V dX5_seen_69 kfX5_161 (ba_sSlips ba_isSlips_12) rfl ?_
            exact RT _ _ _ _ dX5_seen_72 (Option.some.inj h)
          · refine ba_bipush V dX5_seen_50 ba_cm4b ?_
            exact RT _ _ _ _ dX5_seen_52 (Option.some.inj h)
def xb_forget (s : ba_St) : Option (Int32 × ba_St) :=
  ba_lt (s.1 12 1) fun x329 =>
  ba_lt (ba_w s 12 1 0) fun s330 =>
  some (x329, s330)
set_option maxHeartbeats 4000000 in
set_option maxRecDepth 100000 in
theorem yb_forget {w : ba_W} (hj : ba_inj ba_tC w) (l : Launch) {s : ba_St} {o : Int32 × ba_St} (h : xb_forget s = some o) : ba_CI ba_tC w l yX5_forget cX5_forget 2 (some .int) rm_b_forget [.ref (w.1 0)] s o := by
  refine ba_metI (lv := [(0, .ref (w.1 0))]) l hj (by decide +kernel) ⟨Nat.le_of_ble_eq_true rfl, rfl⟩ ?_
  intro X V RT
  unfold xb_forget at h
  refine ba_aload_n V dX5_forget_0 0 rfl ?_
  refine ba_getR V dX5_forget_1 kfX5_41 ba_sBag rfl ?_
  refine ba_getI V dX5_forget_4 kfX5_161 (ba_sSlips ba_isSlips_12) rfl ?_
  refine ba_letI h (fun x329 h => ?_)
  refine ba_istore_n (lv' := [(1, .int x329), (0, .ref (w.1 0))]) V dX5_forget_7 (by decide) rfl ?_
  refine ba_aload_n V dX5_forget_8 1 rfl ?_
  refine ba_getR V dX5_forget_9 kfX5_41 ba_sBag rfl ?_
  refine ba_iconst V dX5_forget_12 ba_c0 ?_
  refine ba_putI V dX5_forget_13 kfX5_161 (ba_sSlips ba_isSlips_12) rfl h (fun s330 h => ?_)
  refine ba_iload_n V dX5_forget_16 0 rfl ?_
  exact RT _ _ _ _ dX5_forget_17 (Option.some.inj h)
def xc_agrees_j53_2 (b : Nat) (a1 : Nat) (k : Int32 → Option ((Unit) ⊕ (Int32))) (s : ba_St) (z2 : Int32) (q0 : Int32) : Option ((Unit) ⊕ (Int32)) :=
  ba_bnd (xl_number s a1 z2 3) fun v336 =>
  if q0 = v336 then
    ba_lt (z2 + 1) fun x337 =>
    k x337
  else
    some (.inr 0)
set_option maxHeartbeats 4000000 in
set_option maxRecDepth 100000 in
theorem yc_agrees_j53_2 {w : ba_W} {X : ba_X} (V : ba_V ba_tC w 5 X cX1_agrees RX1 rm_c_agrees) {b : Nat} {a1 : Nat} (hb : ba_isCourse b) (h1 : ba_isSlips a1) {s : ba_St} {z2 : Int32} {q0 : Int32} {o : (Unit) ⊕ (Int32)} {k : Int32 → Option ((Unit) ⊕ (Int32))} (hk : ∀ (z2 : Int32), k z2 = some o → ba_G ba_tC w 5 X s 2 [(0, .ref (w.1 b)), (1, .ref (w.1 a1)), (2, .int z2)] []) (EX : .inl () = o → ba_G ba_tC w 5 X s 70 [] []) (RT : ∀ (pc : Nat) (lv : List (Nat × Value)) (v : Int32) , decode cX1_agrees pc = .ok (.ireturn, 1) → v = 0 ∨ v = 1 → .inr v = o → ba_G ba_tC w 5 X s pc lv [.int v]) (h : xc_agrees_j53_2 b a1 k s z2 q0 = some o) : ba_G ba_tC w 5 X s 53 [(0, .ref (w.1 b)), (1, .ref (w.1 a1)), (2, .int z2)] [.int q0] := by
  unfold xc_agrees_j53_2 at h
  refine ba_aload_n V dX1_agrees_53 1 rfl ?_
  refine ba_iload_n V dX1_agrees_54 2 rfl ?_
  refine ba_iconst V dX1_agrees_55 ba_c3 ?_
  obtain ⟨v336, hc, h⟩ := ba_bnd_some h
  refine ba_callVI (As := [.int z2, .int 3]) (st := [.int q0]) V dX1_agrees_56 kcX1_122 (ba_sSlips h1) (fun l => yl_number V.inj l h1 hc) ⟨rfl, rfl⟩ ⟨rfl, rfl, Nat.le_of_ble_eq_true rfl, Nat.le_of_ble_eq_true rfl⟩ (Nat.le_of_ble_eq_true rfl) ?_
  refine ba_icmp_eq V dX1_agrees_59 rfl h (fun h => ?_) (fun h => ?_)
  · refine ba_iinc V dX1_agrees_64 2 rfl ba_c1 (by decide) h (fun x337 h => ⟨[(2, .int x337), (0, .ref (w.1 b)), (1, .ref (w.1 a1))], rfl, ?_⟩)
    refine ba_goto V dX1_agrees_67 rfl ?_
    exact ba_sub [1, 2, 0] rfl (hk _ h)
  · refine ba_iconst V dX1_agrees_62 ba_c0 ?_
    exact RT _ _ _ dX1_agrees_63 ba_y0 (Option.some.inj h)
def xc_agrees_l2 (b : Nat) (a1 : Nat) (s : ba_St) (k : Int32 → Option ((Unit) ⊕ (Int32))) (z2 : Int32) : Option ((Unit) ⊕ (Int32)) :=
  if (s.1 a1 1) ≤ z2 then
    some (.inl ())
  else
    ba_bnd (xl_number s a1 z2 1) fun v331 =>
    ba_bnd (xl_number s a1 z2 2) fun v332 =>
    ba_lt ((v331 * 9) + v332) fun x333 =>
    ba_bnd (xl_number s a1 z2 0) fun v334 =>
    ba_bnd (xc_ballIn s b v334 x333) fun v335 =>
    if v335 = (-1) then
      xc_agrees_j53_2 b a1 k s z2 12
    else
      xc_agrees_j53_2 b a1 k s z2 v335
set_option maxHeartbeats 4000000 in
set_option maxRecDepth 100000 in
theorem yc_agrees_l2 {w : ba_W} {X : ba_X} (V : ba_V ba_tC w 5 X cX1_agrees RX1 rm_c_agrees) {b : Nat} {a1 : Nat} (hb : ba_isCourse b) (h1 : ba_isSlips a1) {s : ba_St} {o : (Unit) ⊕ (Int32)} (EX : .inl () = o → ba_G ba_tC w 5 X s 70 [] []) (RT : ∀ (pc : Nat) (lv : List (Nat × Value)) (v : Int32) , decode cX1_agrees pc = .ok (.ireturn, 1) → v = 0 ∨ v = 1 → .inr v = o → ba_G ba_tC w 5 X s pc lv [.int v]) : ∀ (n : Nat) (z2 : Int32), ba_fix (xc_agrees_l2 b a1 s) n z2 = some o → ba_G ba_tC w 5 X s 2 [(0, .ref (w.1 b)), (1, .ref (w.1 a1)), (2, .int z2)] [] := by
  intro n z2 h
  refine ba_loop (P := fun a => ba_G ba_tC w 5 X s 2 [(0, .ref (w.1 b)), (1, .ref (w.1 a1)), (2, .int a)] []) ?_ n z2 h
  intro k hk0 a h
  obtain ⟨z2, ha⟩ : ∃ y, y = a := ⟨_, rfl⟩
  subst ha
  have hk : ∀ (z2 : Int32), k z2 = some o → ba_G ba_tC w 5 X s 2 [(0, .ref (w.1 b)), (1, .ref (w.1 a1)), (2, .int z2)] [] := fun z2 e => hk0 z2 e
  unfold xc_agrees_l2 at h
  try dsimp only at h ⊢
  refine ba_iload_n V dX1_agrees_2 2 rfl ?_
  refine ba_aload_n V dX1_agrees_3 1 rfl ?_
  refine ba_getI V dX1_agrees_4 kfX1_117 (ba_sSlips h1) rfl ?_
  refine ba_icmp_ge V dX1_agrees_7 rfl h (fun h => ?_) (fun h => ?_)
  · exact ba_sub [] rfl (EX (Option.some.inj h))
  · refine ba_aload_n V dX1_agrees_10 1 rfl ?_
    refine ba_iload_n V dX1_agrees_11 2 rfl ?_
    refine ba_iconst V dX1_agrees_12 ba_c1 ?_
    obtain ⟨v331, hc, h⟩ := ba_bnd_some h
    refine ba_callVI (As := [.int z2, .int 1]) (st := []) V dX1_agrees_13 kcX1_122 (ba_sSlips h1) (fun l => yl_number V.inj l h1 hc) ⟨rfl, rfl⟩ ⟨rfl, rfl, Nat.le_of_ble_eq_true rfl, Nat.le_of_ble_eq_true rfl⟩ (Nat.le_of_ble_eq_true rfl) ?_
    refine ba_bipush V dX1_agrees_16 ba_c9b ?_
    refine ba_imul V dX1_agrees_18 ?_
    refine ba_aload_n V dX1_agrees_19 1 rfl ?_
    refine ba_iload_n V dX1_agrees_20 2 rfl ?_
    refine ba_iconst V dX1_agrees_21 ba_c2 ?_
    obtain ⟨v332, hc, h⟩ := ba_bnd_some h
    refine ba_callVI (As := [.int z2, .int 2]) (st := [.int (v331 * 9)]) V dX1_agrees_22 kcX1_122 (ba_sSlips h1) (fun l => yl_number V.inj l h1 hc) ⟨rfl, rfl⟩ ⟨rfl, rfl, Nat.le_of_ble_eq_true rfl, Nat.le_of_ble_eq_true rfl⟩ (Nat.le_of_ble_eq_true rfl) ?_
    refine ba_iadd V dX1_agrees_25 ?_
    refine ba_letI h (fun x333 h => ?_)
    refine ba_istore_n (lv' := [(3, .int x333), (0, .ref (w.1 b)), (1, .ref (w.1 a1)), (2, .int z2)]) V dX1_agrees_26 (by decide) rfl ?_
    refine ba_aload_n V dX1_agrees_27 1 rfl ?_
    refine ba_aload_n V dX1_agrees_28 2 rfl ?_
    refine ba_iload_n V dX1_agrees_29 3 rfl ?_
    refine ba_iconst V dX1_agrees_30 ba_c0 ?_
    obtain ⟨v334, hc, h⟩ := ba_bnd_some h
    refine ba_callVI (As := [.int z2, .int 0]) (st := [.ref (w.1 b)]) V dX1_agrees_31 kcX1_122 (ba_sSlips h1) (fun l => yl_number V.inj l h1 hc) ⟨rfl, rfl⟩ ⟨rfl, rfl, Nat.le_of_ble_eq_true rfl, Nat.le_of_ble_eq_true rfl⟩ (Nat.le_of_ble_eq_true rfl) ?_
    refine ba_iload_n V dX1_agrees_34 0 rfl ?_
    obtain ⟨v335, hc, h⟩ := ba_bnd_some h
    refine ba_callVI (As := [.int v334, .int x333]) (st := []) V dX1_agrees_35 kcX1_155 (ba_sCourse hb) (fun l => yc_ballIn V.inj l hb hc) ⟨rfl, rfl⟩ ⟨rfl, rfl, Nat.le_of_ble_eq_true rfl, Nat.le_of_ble_eq_true rfl⟩ (Nat.le_of_ble_eq_true rfl) ?_
    refine ba_istore (lv' := [(4, .int v335), (3, .int x333), (0, .ref (w.1 b)), (1, .ref (w.1 a1)), (2, .int z2)]) V dX1_agrees_38 (by decide) rfl ?_
    refine ba_iload V dX1_agrees_40 0 rfl ?_
    refine ba_iconst V dX1_agrees_42 ba_cm1 ?_
    refine ba_icmp_ne V dX1_agrees_43 rfl h (fun h => ?_) (fun h => ?_)
    · refine ba_bipush V dX1_agrees_46 ba_c12b ?_
      refine ba_goto V dX1_agrees_48 rfl ?_
      exact ba_sub [2, 3, 4] rfl (yc_agrees_j53_2 V hb h1 hk EX RT h)
    · refine ba_iload V dX1_agrees_51 0 rfl ?_
      exact ba_sub [2, 3, 4] rfl (yc_agrees_j53_2 V hb h1 hk EX RT h)
def xc_agrees (s : ba_St) (b : Nat) (a1 : Nat) : Option (Int32) :=
  ba_bnd (ba_fix (xc_agrees_l2 b a1 s) 1000 0) fun o => match o with
  | .inr r338 => some r338
  | .inl _ =>
    some 1
set_option maxHeartbeats 4000000 in
set_option maxRecDepth 100000 in
theorem yc_agrees {w : ba_W} (hj : ba_inj ba_tC w) (l : Launch) {s : ba_St} {b : Nat} {a1 : Nat} (hb : ba_isCourse b) (h1 : ba_isSlips a1) {o : Int32} (h : xc_agrees s b a1 = some o) : ba_CI ba_tC w l yX1_agrees cX1_agrees 5 (some .boolean) rm_c_agrees [.ref (w.1 b), .ref (w.1 a1)] s (o, s) := by
  refine ba_metZ (lv := [(0, .ref (w.1 b)), (1, .ref (w.1 a1))]) l hj (by decide +kernel) ⟨Nat.le_of_ble_eq_true rfl, rfl⟩ ?_
  intro X V RT
  replace RT := fun pc lv v D z e => RT pc lv v s D z (congrArg (fun q => (q, s)) e)
  unfold xc_agrees at h
  refine ba_iconst V dX1_agrees_0 ba_c0 ?_
  refine ba_istore_n (lv' := [(2, .int 0), (0, .ref (w.1 b)), (1, .ref (w.1 a1))]) V dX1_agrees_1 (by decide) rfl ?_
  obtain ⟨o, ho, h⟩ := ba_bnd_some h
  refine ba_sub [1, 2, 0] rfl (yc_agrees_l2 V hb h1 (o := o) (fun e => ?_) (fun pc lv v D z e => by subst e; exact RT pc lv v D z (Option.some.inj h)) 1000 0 ho)
  subst e
  try dsimp only at h
  refine ba_iconst V dX1_agrees_70 ba_c1 ?_
  exact RT _ _ _ dX1_agrees_71 ba_y1 (Option.some.inj h)
def xb_never_l19 (z1 : Int32) (k : (ba_St × Int32 × Int32) → Option (ba_St × Int32)) (a : (ba_St × Int32 × Int32)) : Option (ba_St × Int32) :=
  match a with
  | (s, z2, z3) =>
    if (s.1 10 1) ≤ z3 then
      some (s, z2)
    else
      ba_lt (ba_w s 46 5 (z1 &&& ((ba_fishl 1 z3) ^^^ (-1)))) fun s341 =>
      ba_bnd (xc_run s341 46) fun s342 =>
      ba_bnd (xc_agrees s342 46 12) fun v343 =>
      if v343 = 0 then
        ba_lt (z3 + 1) fun x344 =>
        k (s342, z2, x344)
      else
        ba_lt (z2 ||| (ba_fishl 1 z3)) fun x345 =>
        ba_lt (z3 + 1) fun x346 =>
        k (s342, x345, x346)
set_option maxHeartbeats 4000000 in
set_option maxRecDepth 100000 in
theorem yb_never_l19 {w : ba_W} {X : ba_X} (V : ba_V ba_tC w 4 X cX5_never RX5 rm_b_never) {z1 : Int32} {o : ba_St × Int32} (EX : ∀ (s : ba_St) (z2 : Int32), (s, z2) = o → ba_G ba_tC w 4 X s 80 [(2, .int z2)] []) : ∀ (n : Nat) (s : ba_St) (z2 : Int32) (z3 : Int32), ba_fix (xb_never_l19 z1) n (s, z2, z3) = some o → ba_G ba_tC w 4 X s 19 [(0, .ref (w.1 0)), (1, .int z1), (2, .int z2), (3, .int z3)] [] := by
  intro n s z2 z3 h
  refine ba_loop (P := fun a => ba_G ba_tC w 4 X a.1 19 [(0, .ref (w.1 0)), (1, .int z1), (2, .int a.2.1), (3, .int a.2.2)] []) ?_ n (s, z2, z3) h
  intro k hk0 a h
  obtain ⟨s, z2, z3⟩ := a
  have hk : ∀ (s : ba_St) (z2 : Int32) (z3 : Int32), k (s, z2, z3) = some o → ba_G ba_tC w 4 X s 19 [(0, .ref (w.1 0)), (1, .int z1), (2, .int z2), (3, .int z3)] [] := fun s z2 z3 e => hk0 (s, z2, z3) e
  unfold xb_never_l19 at h
  try dsimp only at h ⊢
  refine ba_iload_n V dX5_never_19 3 rfl ?_
  refine ba_aload_n V dX5_never_20 0 rfl ?_
  refine ba_getR V dX5_never_21 kfX5_22 ba_sBag rfl ?_
  refine ba_getR V dX5_never_24 kfX5_151 ba_sBoard rfl ?_
  refine ba_getI V dX5_never_27 kfX5_161 (ba_sSlips ba_isSlips_10) rfl ?_
  refine ba_icmp_ge V dX5_never_30 rfl h (fun h => ?_) (fun h => ?_)
  · exact ba_sub [2] rfl (EX _ _ (Option.some.inj h))
  · refine ba_aload_n V dX5_never_33 0 rfl ?_
    refine ba_getR V dX5_never_34 kfX5_35 ba_sBag rfl ?_
    refine ba_iload_n V dX5_never_37 1 rfl ?_
    refine ba_iconst V dX5_never_38 ba_c1 ?_
    refine ba_iload_n V dX5_never_39 3 rfl ?_
    refine ba_ishl V dX5_never_40 ?_
    refine ba_iconst V dX5_never_41 ba_cm1 ?_
    refine ba_ixor V dX5_never_42 ?_
    refine ba_iand V dX5_never_43 ?_
    refine ba_putI V dX5_never_44 kfX5_218 (ba_sCourse ba_isCourse_46) rfl h (fun s341 h => ?_)
    refine ba_aload_n V dX5_never_47 0 rfl ?_
    refine ba_getR V dX5_never_48 kfX5_35 ba_sBag rfl ?_
    obtain ⟨s342, hc, h⟩ := ba_bnd_some h
    refine ba_callVV (As := []) (st := []) V dX5_never_51 kcX5_221 (ba_sCourse ba_isCourse_46) (fun l => yc_run V.inj l ba_isCourse_46 hc) ⟨rfl, rfl⟩ ⟨rfl, rfl, Nat.le_of_ble_eq_true rfl, Nat.le_of_ble_eq_true rfl⟩ (Nat.le_of_ble_eq_true rfl) ?_
    refine ba_aload_n V dX5_never_54 0 rfl ?_
    refine ba_getR V dX5_never_55 kfX5_35 ba_sBag rfl ?_
    refine ba_aload_n V dX5_never_58 0 rfl ?_
    refine ba_getR V dX5_never_59 kfX5_41 ba_sBag rfl ?_
    obtain ⟨v343, hc, h⟩ := ba_bnd_some h
    refine ba_callVI (As := [.ref (w.1 12)]) (st := []) V dX5_never_62 kcX5_224 (ba_sCourse ba_isCourse_46) (fun l => yc_agrees V.inj l ba_isCourse_46 ba_isSlips_12 hc) ⟨rfl, rfl⟩ ⟨rfl, rfl, Nat.le_of_ble_eq_true rfl, Nat.le_of_ble_eq_true rfl⟩ (Nat.le_of_ble_eq_true rfl) ?_
    refine ba_if_eq V dX5_never_65 rfl h (fun h => ?_) (fun h => ?_)
    · refine ba_iinc V dX5_never_74 3 rfl ba_c1 (by decide) h (fun x344 h => ⟨[(3, .int x344), (0, .ref (w.1 0)), (1, .int z1), (2, .int z2)], rfl, ?_⟩)
      refine ba_goto V dX5_never_77 rfl ?_
      exact ba_sub [1, 2, 3, 0] rfl (hk _ _ _ h)
    · refine ba_iload_n V dX5_never_68 2 rfl ?_
      refine ba_iconst V dX5_never_69 ba_c1 ?_
      refine ba_iload_n V dX5_never_70 3 rfl ?_
      refine ba_ishl V dX5_never_71 ?_
      refine ba_ior V dX5_never_72 ?_
      refine ba_letI h (fun x345 h => ?_)
      refine ba_istore_n (lv' := [(2, .int x345), (0, .ref (w.1 0)), (1, .int z1), (3, .int z3)]) V dX5_never_73 (by decide) rfl ?_
      refine ba_iinc V dX5_never_74 3 rfl ba_c1 (by decide) h (fun x346 h => ⟨[(3, .int x346), (2, .int x345), (0, .ref (w.1 0)), (1, .int z1)], rfl, ?_⟩)
      refine ba_goto V dX5_never_77 rfl ?_
      exact ba_sub [2, 3, 1, 0] rfl (hk _ _ _ h)
def xb_never (s : ba_St) : Option (Int32 × ba_St) :=
  ba_bnd (xc_takeTold s 46) fun s339 =>
  ba_lt (s339.1 46 5) fun x340 =>
  ba_bnd (ba_fix (xb_never_l19 x340) 1000 (s339, 0, 0)) fun o => match o with
  | (s347, x348) =>
    some (x348, s347)
set_option maxHeartbeats 4000000 in
set_option maxRecDepth 100000 in
theorem yb_never {w : ba_W} (hj : ba_inj ba_tC w) (l : Launch) {s : ba_St} {o : Int32 × ba_St} (h : xb_never s = some o) : ba_CI ba_tC w l yX5_never cX5_never 4 (some .int) rm_b_never [.ref (w.1 0)] s o := by
  refine ba_metI (lv := [(0, .ref (w.1 0))]) l hj (by decide +kernel) ⟨Nat.le_of_ble_eq_true rfl, rfl⟩ ?_
  intro X V RT
  unfold xb_never at h
  refine ba_aload_n V dX5_never_0 0 rfl ?_
  refine ba_getR V dX5_never_1 kfX5_35 ba_sBag rfl ?_
  obtain ⟨s339, hc, h⟩ := ba_bnd_some h
  refine ba_callVV (As := []) (st := []) V dX5_never_4 kcX5_215 (ba_sCourse ba_isCourse_46) (fun l => yc_takeTold V.inj l ba_isCourse_46 hc) ⟨rfl, rfl⟩ ⟨rfl, rfl, Nat.le_of_ble_eq_true rfl, Nat.le_of_ble_eq_true rfl⟩ (Nat.le_of_ble_eq_true rfl) ?_
  refine ba_aload_n V dX5_never_7 0 rfl ?_
  refine ba_getR V dX5_never_8 kfX5_35 ba_sBag rfl ?_
  refine ba_getI V dX5_never_11 kfX5_218 (ba_sCourse ba_isCourse_46) rfl ?_
  refine ba_letI h (fun x340 h => ?_)
  refine ba_istore_n (lv' := [(1, .int x340), (0, .ref (w.1 0))]) V dX5_never_14 (by decide) rfl ?_
  refine ba_iconst V dX5_never_15 ba_c0 ?_
  refine ba_istore_n (lv' := [(2, .int 0), (1, .int x340), (0, .ref (w.1 0))]) V dX5_never_16 (by decide) rfl ?_
  refine ba_iconst V dX5_never_17 ba_c0 ?_
  refine ba_istore_n (lv' := [(3, .int 0), (2, .int 0), (1, .int x340), (0, .ref (w.1 0))]) V dX5_never_18 (by decide) rfl ?_
  obtain ⟨o, ho, h⟩ := ba_bnd_some h
  refine ba_sub [3, 2, 1, 0] rfl (yb_never_l19 V (o := o) (fun s347 x348 e => ?_) 1000 s339 0 0 ho)
  subst e
  try dsimp only at h
  refine ba_iload_n V dX5_never_80 0 rfl ?_
  exact RT _ _ _ _ dX5_never_81 (Option.some.inj h)
def xb_agreeing_l16 (z1 : Int32) (z2 : Int32) (k : (ba_St × Int32 × Int32) → Option (ba_St × Int32)) (a : (ba_St × Int32 × Int32)) : Option (ba_St × Int32) :=
  match a with
  | (s, z3, z4) =>
    ba_grd (ba_inb z1 3) <|
    if (ba_tv [9, 23, 3] z1) < z4 then
      some (s, z3)
    else
      ba_bnd (xc_choose s 46 z1 z2 z4) fun s351 =>
      ba_bnd (xc_run s351 46) fun s352 =>
      ba_bnd (xc_agrees s352 46 12) fun v353 =>
      if v353 = 0 then
        ba_lt (z4 + 1) fun x354 =>
        k (s352, z3, x354)
      else
        ba_lt (z3 ||| (ba_fishl 1 z4)) fun x355 =>
        ba_lt (z4 + 1) fun x356 =>
        k (s352, x355, x356)
set_option maxHeartbeats 4000000 in
set_option maxRecDepth 100000 in
theorem yb_agreeing_l16 {w : ba_W} {X : ba_X} (V : ba_V ba_tC w 5 X cX5_agreeing RX5 rm_b_agreeing) {z1 : Int32} {z2 : Int32} {o : ba_St × Int32} (EX : ∀ (s : ba_St) (z3 : Int32), (s, z3) = o → ba_G ba_tC w 5 X s 71 [(3, .int z3)] []) : ∀ (n : Nat) (s : ba_St) (z3 : Int32) (z4 : Int32), ba_fix (xb_agreeing_l16 z1 z2) n (s, z3, z4) = some o → ba_G ba_tC w 5 X s 16 [(0, .ref (w.1 0)), (1, .int z1), (2, .int z2), (3, .int z3), (4, .int z4)] [] := by
  intro n s z3 z4 h
  refine ba_loop (P := fun a => ba_G ba_tC w 5 X a.1 16 [(0, .ref (w.1 0)), (1, .int z1), (2, .int z2), (3, .int a.2.1), (4, .int a.2.2)] []) ?_ n (s, z3, z4) h
  intro k hk0 a h
  obtain ⟨s, z3, z4⟩ := a
  have hk : ∀ (s : ba_St) (z3 : Int32) (z4 : Int32), k (s, z3, z4) = some o → ba_G ba_tC w 5 X s 16 [(0, .ref (w.1 0)), (1, .int z1), (2, .int z2), (3, .int z3), (4, .int z4)] [] := fun s z3 z4 e => hk0 (s, z3, z4) e
  unfold xb_agreeing_l16 at h
  try dsimp only at h ⊢
  refine ba_iload V dX5_agreeing_16 4 rfl ?_
  refine ba_gets (i := 2) (q := ("Bagatelle", "GREATEST_CHOICE", [9, 23, 3])) V dX5_agreeing_18 ksX5_384 ba_sf2 ?_
  refine ba_iload_n V dX5_agreeing_21 1 rfl ?_
  refine ba_sald V dX5_agreeing_22 (ba_sf2) h (fun h => ?_)
  refine ba_icmp_gt V dX5_agreeing_23 rfl h (fun h => ?_) (fun h => ?_)
  · exact ba_sub [3] rfl (EX _ _ (Option.some.inj h))
  · refine ba_aload_n V dX5_agreeing_26 0 rfl ?_
    refine ba_getR V dX5_agreeing_27 kfX5_35 ba_sBag rfl ?_
    refine ba_iload_n V dX5_agreeing_30 1 rfl ?_
    refine ba_iload_n V dX5_agreeing_31 2 rfl ?_
    refine ba_iload V dX5_agreeing_32 4 rfl ?_
    obtain ⟨s351, hc, h⟩ := ba_bnd_some h
    refine ba_callVV (As := [.int z1, .int z2, .int z4]) (st := []) V dX5_agreeing_34 kcX5_387 (ba_sCourse ba_isCourse_46) (fun l => yc_choose V.inj l ba_isCourse_46 hc) ⟨rfl, rfl⟩ ⟨rfl, rfl, Nat.le_of_ble_eq_true rfl, Nat.le_of_ble_eq_true rfl⟩ (Nat.le_of_ble_eq_true rfl) ?_
    refine ba_aload_n V dX5_agreeing_37 0 rfl ?_
    refine ba_getR V dX5_agreeing_38 kfX5_35 ba_sBag rfl ?_
    obtain ⟨s352, hc, h⟩ := ba_bnd_some h
    refine ba_callVV (As := []) (st := []) V dX5_agreeing_41 kcX5_221 (ba_sCourse ba_isCourse_46) (fun l => yc_run V.inj l ba_isCourse_46 hc) ⟨rfl, rfl⟩ ⟨rfl, rfl, Nat.le_of_ble_eq_true rfl, Nat.le_of_ble_eq_true rfl⟩ (Nat.le_of_ble_eq_true rfl) ?_
    refine ba_aload_n V dX5_agreeing_44 0 rfl ?_
    refine ba_getR V dX5_agreeing_45 kfX5_35 ba_sBag rfl ?_
    refine ba_aload_n V dX5_agreeing_48 0 rfl ?_
    refine ba_getR V dX5_agreeing_49 kfX5_41 ba_sBag rfl ?_
    obtain ⟨v353, hc, h⟩ := ba_bnd_some h
    refine ba_callVI (As := [.ref (w.1 12)]) (st := []) V dX5_agreeing_52 kcX5_224 (ba_sCourse ba_isCourse_46) (fun l => yc_agrees V.inj l ba_isCourse_46 ba_isSlips_12 hc) ⟨rfl, rfl⟩ ⟨rfl, rfl, Nat.le_of_ble_eq_true rfl, Nat.le_of_ble_eq_true rfl⟩ (Nat.le_of_ble_eq_true rfl) ?_
    refine ba_if_eq V dX5_agreeing_55 rfl h (fun h => ?_) (fun h => ?_)
    · refine ba_iinc V dX5_agreeing_65 4 rfl ba_c1 (by decide) h (fun x354 h => ⟨[(4, .int x354), (0, .ref (w.1 0)), (1, .int z1), (2, .int z2), (3, .int z3)], rfl, ?_⟩)
      refine ba_goto V dX5_agreeing_68 rfl ?_
      exact ba_sub [1, 2, 3, 4, 0] rfl (hk _ _ _ h)
    · refine ba_iload_n V dX5_agreeing_58 3 rfl ?_
      refine ba_iconst V dX5_agreeing_59 ba_c1 ?_
      refine ba_iload V dX5_agreeing_60 4 rfl ?_
      refine ba_ishl V dX5_agreeing_62 ?_
      refine ba_ior V dX5_agreeing_63 ?_
      refine ba_letI h (fun x355 h => ?_)
      refine ba_istore_n (lv' := [(3, .int x355), (0, .ref (w.1 0)), (1, .int z1), (2, .int z2), (4, .int z4)]) V dX5_agreeing_64 (by decide) rfl ?_
      refine ba_iinc V dX5_agreeing_65 4 rfl ba_c1 (by decide) h (fun x356 h => ⟨[(4, .int x356), (3, .int x355), (0, .ref (w.1 0)), (1, .int z1), (2, .int z2)], rfl, ?_⟩)
      refine ba_goto V dX5_agreeing_68 rfl ?_
      exact ba_sub [2, 3, 4, 1, 0] rfl (hk _ _ _ h)
def xb_agreeing (s : ba_St) (a1 : Int32) (a2 : Int32) : Option (Int32 × ba_St) :=
  ba_bnd (xc_takeTold s 46) fun s349 =>
  ba_grd (ba_inb a1 3) <|
  ba_lt (ba_tv [1, 0, 0] a1) fun x350 =>
  ba_bnd (ba_fix (xb_agreeing_l16 a1 a2) 1000 (s349, 0, x350)) fun o => match o with
  | (s357, x358) =>
    some (x358, s357)
set_option maxHeartbeats 4000000 in
set_option maxRecDepth 100000 in
theorem yb_agreeing {w : ba_W} (hj : ba_inj ba_tC w) (l : Launch) {s : ba_St} {a1 : Int32} {a2 : Int32} {o : Int32 × ba_St} (h : xb_agreeing s a1 a2 = some o) : ba_CI ba_tC w l yX5_agreeing cX5_agreeing 5 (some .int) rm_b_agreeing [.ref (w.1 0), .int a1, .int a2] s o := by
  refine ba_metI (lv := [(0, .ref (w.1 0)), (1, .int a1), (2, .int a2)]) l hj (by decide +kernel) ⟨Nat.le_of_ble_eq_true rfl, rfl⟩ ?_
  intro X V RT
  unfold xb_agreeing at h
  refine ba_aload_n V dX5_agreeing_0 0 rfl ?_
  refine ba_getR V dX5_agreeing_1 kfX5_35 ba_sBag rfl ?_
  obtain ⟨s349, hc, h⟩ := ba_bnd_some h
  refine ba_callVV (As := []) (st := []) V dX5_agreeing_4 kcX5_215 (ba_sCourse ba_isCourse_46) (fun l => yc_takeTold V.inj l ba_isCourse_46 hc) ⟨rfl, rfl⟩ ⟨rfl, rfl, Nat.le_of_ble_eq_true rfl, Nat.le_of_ble_eq_true rfl⟩ (Nat.le_of_ble_eq_true rfl) ?_
  refine ba_iconst V dX5_agreeing_7 ba_c0 ?_
  refine ba_istore_n (lv' := [(3, .int 0), (0, .ref (w.1 0)), (1, .int a1), (2, .int a2)]) V dX5_agreeing_8 (by decide) rfl ?_
  refine ba_gets (i := 1) (q := ("Bagatelle", "LEAST_CHOICE", [1, 0, 0])) V dX5_agreeing_9 ksX5_381 ba_sf1 ?_
  refine ba_iload_n V dX5_agreeing_12 2 rfl ?_
  refine ba_sald V dX5_agreeing_13 (ba_sf1) h (fun h => ?_)
  refine ba_letI h (fun x350 h => ?_)
  refine ba_istore (lv' := [(4, .int x350), (3, .int 0), (0, .ref (w.1 0)), (1, .int a1), (2, .int a2)]) V dX5_agreeing_14 (by decide) rfl ?_
  obtain ⟨o, ho, h⟩ := ba_bnd_some h
  refine ba_sub [2, 3, 4, 1, 0] rfl (yb_agreeing_l16 V (o := o) (fun s357 x358 e => ?_) 1000 s349 0 x350 ho)
  subst e
  try dsimp only at h
  refine ba_iload_n V dX5_agreeing_71 0 rfl ?_
  exact RT _ _ _ _ dX5_agreeing_72 (Option.some.inj h)
def xb_forces (s : ba_St) (a1 : Int32) : Option (Int32 × ba_St) :=
  ba_bnd (xb_within a1 (s.1 3 7)) fun v359 =>
  if v359 = 0 then
    some ((-2), s)
  else
    ba_bn2 (xb_agreeing s 0 a1) fun v360 s361 =>
    some (v360, s361)
set_option maxHeartbeats 4000000 in
set_option maxRecDepth 100000 in
theorem yb_forces {w : ba_W} (hj : ba_inj ba_tC w) (l : Launch) {s : ba_St} {a1 : Int32} {o : Int32 × ba_St} (h : xb_forces s a1 = some o) : ba_CI ba_tC w l yX5_forces cX5_forces 2 (some .int) rm_b_forces [.ref (w.1 0), .int a1] s o := by
  refine ba_metI (lv := [(0, .ref (w.1 0)), (1, .int a1)]) l hj (by decide +kernel) ⟨Nat.le_of_ble_eq_true rfl, rfl⟩ ?_
  intro X V RT
  unfold xb_forces at h
  refine ba_iload_n V dX5_forces_0 1 rfl ?_
  refine ba_aload_n V dX5_forces_1 0 rfl ?_
  refine ba_getR V dX5_forces_2 kfX5_22 ba_sBag rfl ?_
  refine ba_getI V dX5_forces_5 kfX5_132 ba_sBoard rfl ?_
  obtain ⟨v359, hc, h⟩ := ba_bnd_some h
  refine ba_callSI (As := [.int a1, .int (s.1 3 7)]) (st := []) V dX5_forces_8 kcX5_97 (fun l => yb_within V.inj l hc) ⟨rfl, rfl⟩ ⟨rfl, rfl, Nat.le_of_ble_eq_true rfl, Nat.le_of_ble_eq_true rfl⟩ (Nat.le_of_ble_eq_true rfl) ?_
  refine ba_if_eq V dX5_forces_11 rfl h (fun h => ?_) (fun h => ?_)
  · refine ba_bipush V dX5_forces_23 ba_cm2b ?_
    exact RT _ _ _ _ dX5_forces_25 (Option.some.inj h)
  · refine ba_aload_n V dX5_forces_14 0 rfl ?_
    refine ba_iconst V dX5_forces_15 ba_c0 ?_
    refine ba_iload_n V dX5_forces_16 1 rfl ?_
    obtain ⟨v360, s361, hc, h⟩ := ba_bn2_some h
    refine ba_callVI (As := [.int 0, .int a1]) (st := []) V dX5_forces_17 kcX5_228 ba_sBag (fun l => yb_agreeing V.inj l hc) ⟨rfl, rfl⟩ ⟨rfl, rfl, Nat.le_of_ble_eq_true rfl, Nat.le_of_ble_eq_true rfl⟩ (Nat.le_of_ble_eq_true rfl) ?_
    refine ba_goto V dX5_forces_20 rfl ?_
    exact RT _ _ _ _ dX5_forces_25 (Option.some.inj h)
def xb_kind (s : ba_St) (a1 : Int32) : Option (Int32 × ba_St) :=
  ba_bnd (xb_within a1 (s.1 3 3)) fun v362 =>
  if v362 = 0 then
    some ((-2), s)
  else
    ba_bn2 (xb_agreeing s 2 a1) fun v363 s364 =>
    some (v363, s364)
set_option maxHeartbeats 4000000 in
set_option maxRecDepth 100000 in
theorem yb_kind {w : ba_W} (hj : ba_inj ba_tC w) (l : Launch) {s : ba_St} {a1 : Int32} {o : Int32 × ba_St} (h : xb_kind s a1 = some o) : ba_CI ba_tC w l yX5_kind cX5_kind 2 (some .int) rm_b_kind [.ref (w.1 0), .int a1] s o := by
  refine ba_metI (lv := [(0, .ref (w.1 0)), (1, .int a1)]) l hj (by decide +kernel) ⟨Nat.le_of_ble_eq_true rfl, rfl⟩ ?_
  intro X V RT
  unfold xb_kind at h
  refine ba_iload_n V dX5_kind_0 1 rfl ?_
  refine ba_aload_n V dX5_kind_1 0 rfl ?_
  refine ba_getR V dX5_kind_2 kfX5_22 ba_sBag rfl ?_
  refine ba_getI V dX5_kind_5 kfX5_111 ba_sBoard rfl ?_
  obtain ⟨v362, hc, h⟩ := ba_bnd_some h
  refine ba_callSI (As := [.int a1, .int (s.1 3 3)]) (st := []) V dX5_kind_8 kcX5_97 (fun l => yb_within V.inj l hc) ⟨rfl, rfl⟩ ⟨rfl, rfl, Nat.le_of_ble_eq_true rfl, Nat.le_of_ble_eq_true rfl⟩ (Nat.le_of_ble_eq_true rfl) ?_
  refine ba_if_eq V dX5_kind_11 rfl h (fun h => ?_) (fun h => ?_)
  · refine ba_bipush V dX5_kind_23 ba_cm2b ?_
    exact RT _ _ _ _ dX5_kind_25 (Option.some.inj h)
  · refine ba_aload_n V dX5_kind_14 0 rfl ?_
    refine ba_iconst V dX5_kind_15 ba_c2 ?_
    refine ba_iload_n V dX5_kind_16 1 rfl ?_
    obtain ⟨v363, s364, hc, h⟩ := ba_bn2_some h
    refine ba_callVI (As := [.int 2, .int a1]) (st := []) V dX5_kind_17 kcX5_228 ba_sBag (fun l => yb_agreeing V.inj l hc) ⟨rfl, rfl⟩ ⟨rfl, rfl, Nat.le_of_ble_eq_true rfl, Nat.le_of_ble_eq_true rfl⟩ (Nat.le_of_ble_eq_true rfl) ?_
    refine ba_goto V dX5_kind_20 rfl ?_
    exact RT _ _ _ _ dX5_kind_25 (Option.some.inj h)
def xc_mark_l5 (b : Nat) (s : ba_St) (z1 : Int32) (z2 : Int32) (k : (Int64 × Int32) → Option (Int64)) (a : (Int64 × Int32)) : Option (Int64) :=
  match a with
  | (z3, z5) =>
    if (z2 + 6) ≤ z5 then
      some z3
    else
      ba_grd (ba_inb ((z1 * 12) + z5) 288) <|
      ba_lt ((ba_flshl z3 8) ||| (Int32.toInt64 ((s.1 (b + 8) (ba_ix ((z1 * 12) + z5))) + 1))) fun x365 =>
      ba_lt (z5 + 1) fun x366 =>
      k (x365, x366)
set_option maxHeartbeats 4000000 in
set_option maxRecDepth 100000 in
theorem yc_mark_l5 {w : ba_W} {X : ba_X} (V : ba_V ba_tC w 6 X cX1_mark RX1 rm_c_mark) {b : Nat} (hb : ba_isCourse b) {s : ba_St} {z1 : Int32} {z2 : Int32} {o : Int64} (EX : ∀ (z3 : Int64), z3 = o → ba_G ba_tC w 6 X s 41 [(3, .long z3)] []) : ∀ (n : Nat) (z3 : Int64) (z5 : Int32), ba_fix (xc_mark_l5 b s z1 z2) n (z3, z5) = some o → ba_G ba_tC w 6 X s 5 [(0, .ref (w.1 b)), (1, .int z1), (2, .int z2), (3, .long z3), (5, .int z5)] [] := by
  intro n z3 z5 h
  refine ba_loop (P := fun a => ba_G ba_tC w 6 X s 5 [(0, .ref (w.1 b)), (1, .int z1), (2, .int z2), (3, .long a.1), (5, .int a.2)] []) ?_ n (z3, z5) h
  intro k hk0 a h
  obtain ⟨z3, z5⟩ := a
  have hk : ∀ (z3 : Int64) (z5 : Int32), k (z3, z5) = some o → ba_G ba_tC w 6 X s 5 [(0, .ref (w.1 b)), (1, .int z1), (2, .int z2), (3, .long z3), (5, .int z5)] [] := fun z3 z5 e => hk0 (z3, z5) e
  unfold xc_mark_l5 at h
  try dsimp only at h ⊢
  refine ba_iload V dX1_mark_5 4 rfl ?_
  refine ba_iload_n V dX1_mark_7 2 rfl ?_
  refine ba_bipush V dX1_mark_8 ba_c6b ?_
  refine ba_iadd V dX1_mark_10 ?_
  refine ba_icmp_ge V dX1_mark_11 rfl h (fun h => ?_) (fun h => ?_)
  · exact ba_sub [3] rfl (EX _ (Option.some.inj h))
  · refine ba_lload_n V dX1_mark_14 3 rfl ?_
    refine ba_bipush V dX1_mark_15 ba_c8b ?_
    refine ba_lshl V dX1_mark_17 ?_
    refine ba_aload_n V dX1_mark_18 0 rfl ?_
    refine ba_getR V dX1_mark_19 kfX1_43 (ba_sCourse hb) rfl ?_
    refine ba_iload_n V dX1_mark_22 1 rfl ?_
    refine ba_bipush V dX1_mark_23 ba_c12b ?_
    refine ba_imul V dX1_mark_25 ?_
    refine ba_iload V dX1_mark_26 4 rfl ?_
    refine ba_iadd V dX1_mark_28 ?_
    refine ba_iald V dX1_mark_29 (ba_sCourse_8 hb) h (fun h => ?_)
    refine ba_iconst V dX1_mark_30 ba_c1 ?_
    refine ba_iadd V dX1_mark_31 ?_
    refine ba_i2l V dX1_mark_32 ?_
    refine ba_lor V dX1_mark_33 ?_
    refine ba_letL h (fun x365 h => ?_)
    refine ba_lstore_n (lv' := [(3, .long x365), (0, .ref (w.1 b)), (1, .int z1), (2, .int z2), (5, .int z5)]) V dX1_mark_34 (by decide) rfl ?_
    refine ba_iinc V dX1_mark_35 4 rfl ba_c1 (by decide) h (fun x366 h => ⟨[(5, .int x366), (3, .long x365), (0, .ref (w.1 b)), (1, .int z1), (2, .int z2)], rfl, ?_⟩)
    refine ba_goto V dX1_mark_38 rfl ?_
    exact ba_sub [2, 3, 4, 1, 0] rfl (hk _ _ h)
def xc_mark (s : ba_St) (b : Nat) (a1 : Int32) (a2 : Int32) : Option (Int64) :=
  ba_bnd (ba_fix (xc_mark_l5 b s a1 a2) 1000 (0, a2)) fun x367 =>
    some x367
set_option maxHeartbeats 4000000 in
set_option maxRecDepth 100000 in
theorem yc_mark {w : ba_W} (hj : ba_inj ba_tC w) (l : Launch) {s : ba_St} {b : Nat} {a1 : Int32} {a2 : Int32} (hb : ba_isCourse b) {o : Int64} (h : xc_mark s b a1 a2 = some o) : ba_CL ba_tC w l yX1_mark cX1_mark 6 (some .long) rm_c_mark [.ref (w.1 b), .int a1, .int a2] s (o, s) := by
  refine ba_metL (lv := [(0, .ref (w.1 b)), (1, .int a1), (2, .int a2)]) l hj (by decide +kernel) ⟨Nat.le_of_ble_eq_true rfl, rfl⟩ ?_
  intro X V RT
  replace RT := fun pc lv v D e => RT pc lv v s D (congrArg (fun q => (q, s)) e)
  unfold xc_mark at h
  refine ba_lconst V dX1_mark_0 rfl ?_
  refine ba_lstore_n (lv' := [(3, .long 0), (0, .ref (w.1 b)), (1, .int a1), (2, .int a2)]) V dX1_mark_1 (by decide) rfl ?_
  refine ba_iload_n V dX1_mark_2 3 rfl ?_
  refine ba_istore (lv' := [(5, .int a2), (3, .long 0), (0, .ref (w.1 b)), (1, .int a1), (2, .int a2)]) V dX1_mark_3 (by decide) rfl ?_
  obtain ⟨o, ho, h⟩ := ba_bnd_some h
  refine ba_sub [2, 3, 4, 1, 0] rfl (yc_mark_l5 V hb (o := o) (fun x367 e => ?_) 1000 0 a2 ho)
  subst e
  try dsimp only at h
  refine ba_lload_n V dX1_mark_41 0 rfl ?_
  exact RT _ _ _ dX1_mark_42 (Option.some.inj h)
