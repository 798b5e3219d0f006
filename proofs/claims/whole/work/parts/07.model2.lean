def xm_shoot_j35 (s : ba_St) : Option (Int32 × ba_St) :=
  some ((-2), s)
set_option maxHeartbeats 4000000 in
set_option maxRecDepth 100000 in
theorem ym_shoot_j35 {w : ba_W} {X : ba_X} (V : ba_V ba_tM w 3 X cX6_shoot RX6 rm_m_shoot) {s : ba_St} {o : Int32 × ba_St} (RT : ∀ (pc : Nat) (lv : List (Nat × Value)) (v : Int32) (s : ba_St), decode cX6_shoot pc = .ok (.ireturn, 1) → (v, s) = o → ba_G ba_tM w 3 X s pc lv [.int v]) (h : xm_shoot_j35 s = some o) : ba_G ba_tM w 3 X s 35 [] [] := by
  unfold xm_shoot_j35 at h
  refine ba_bipush V dX6_shoot_35 ba_cm2b ?_
  exact RT _ _ _ _ dX6_shoot_37 (Option.some.inj h)
def xm_shoot (s : ba_St) (a1 : Int32) (a2 : Int32) : Option (Int32 × ba_St) :=
  ba_bnd (xm_find s) fun s939 =>
  ba_bnd (xm_isBall s939 a1) fun v940 =>
  if v940 = 0 then
    xm_shoot_j35 s939
  else
    ba_bnd (xm_isTwo a2) fun v941 =>
    if v941 = 0 then
      xm_shoot_j35 s939
    else
      ba_bn2 (xm_ballBetter s939 ((2 * a1) + 1) 1 10 a2) fun v942 s943 =>
      some (v942, s943)
set_option maxHeartbeats 4000000 in
set_option maxRecDepth 100000 in
theorem ym_shoot {w : ba_W} (hj : ba_inj ba_tM w) (l : Launch) {s : ba_St} {a1 : Int32} {a2 : Int32} {o : Int32 × ba_St} (h : xm_shoot s a1 a2 = some o) : ba_CI ba_tM w l yX6_shoot cX6_shoot 3 (some .int) rm_m_shoot [.ref (w.1 0), .int a1, .int a2] s o := by
  refine ba_metI (lv := [(0, .ref (w.1 0)), (1, .int a1), (2, .int a2)]) l hj (by decide +kernel) ⟨Nat.le_of_ble_eq_true rfl, rfl⟩ ?_
  intro X V RT
  unfold xm_shoot at h
  refine ba_aload_n V dX6_shoot_0 0 rfl ?_
  obtain ⟨s939, hc, h⟩ := ba_bnd_some h
  refine ba_callVV (As := []) (st := []) V dX6_shoot_1 kcX6_239 ba_sModel (fun l => ym_find V.inj l hc) ⟨rfl, rfl⟩ ⟨rfl, rfl, Nat.le_of_ble_eq_true rfl, Nat.le_of_ble_eq_true rfl⟩ (Nat.le_of_ble_eq_true rfl) ?_
  refine ba_aload_n V dX6_shoot_4 0 rfl ?_
  refine ba_iload_n V dX6_shoot_5 1 rfl ?_
  obtain ⟨v940, hc, h⟩ := ba_bnd_some h
  refine ba_callVI (As := [.int a1]) (st := []) V dX6_shoot_6 kcX6_169 ba_sModel (fun l => ym_isBall V.inj l hc) ⟨rfl, rfl⟩ ⟨rfl, rfl, Nat.le_of_ble_eq_true rfl, Nat.le_of_ble_eq_true rfl⟩ (Nat.le_of_ble_eq_true rfl) ?_
  refine ba_if_eq V dX6_shoot_9 rfl h (fun h => ?_) (fun h => ?_)
  · exact ba_sub [] rfl (ym_shoot_j35 V RT h)
  · refine ba_iload_n V dX6_shoot_12 2 rfl ?_
    obtain ⟨v941, hc, h⟩ := ba_bnd_some h
    refine ba_callSI (As := [.int a2]) (st := []) V dX6_shoot_13 kcX6_172 (fun l => ym_isTwo V.inj l hc) ⟨rfl, rfl⟩ ⟨rfl, rfl, Nat.le_of_ble_eq_true rfl, Nat.le_of_ble_eq_true rfl⟩ (Nat.le_of_ble_eq_true rfl) ?_
    refine ba_if_eq V dX6_shoot_16 rfl h (fun h => ?_) (fun h => ?_)
    · exact ba_sub [] rfl (ym_shoot_j35 V RT h)
    · refine ba_aload_n V dX6_shoot_19 0 rfl ?_
      refine ba_iconst V dX6_shoot_20 ba_c2 ?_
      refine ba_iload_n V dX6_shoot_21 1 rfl ?_
      refine ba_imul V dX6_shoot_22 ?_
      refine ba_iconst V dX6_shoot_23 ba_c1 ?_
      refine ba_iadd V dX6_shoot_24 ?_
      refine ba_iconst V dX6_shoot_25 ba_c1 ?_
      refine ba_bipush V dX6_shoot_26 ba_c10b ?_
      refine ba_iload_n V dX6_shoot_28 2 rfl ?_
      obtain ⟨v942, s943, hc, h⟩ := ba_bn2_some h
      refine ba_callVI (As := [.int ((2 * a1) + 1), .int 1, .int 10, .int a2]) (st := []) V dX6_shoot_29 kcX6_277 ba_sModel (fun l => ym_ballBetter V.inj l hc) ⟨rfl, rfl⟩ ⟨rfl, rfl, Nat.le_of_ble_eq_true rfl, Nat.le_of_ble_eq_true rfl⟩ (Nat.le_of_ble_eq_true rfl) ?_
      refine ba_goto V dX6_shoot_32 rfl ?_
      exact RT _ _ _ _ dX6_shoot_37 (Option.some.inj h)
def xm_time_j33 (s : ba_St) : Option (Int32 × ba_St) :=
  some ((-2), s)
set_option maxHeartbeats 4000000 in
set_option maxRecDepth 100000 in
theorem ym_time_j33 {w : ba_W} {X : ba_X} (V : ba_V ba_tM w 3 X cX6_time RX6 rm_m_time) {s : ba_St} {o : Int32 × ba_St} (RT : ∀ (pc : Nat) (lv : List (Nat × Value)) (v : Int32) (s : ba_St), decode cX6_time pc = .ok (.ireturn, 1) → (v, s) = o → ba_G ba_tM w 3 X s pc lv [.int v]) (h : xm_time_j33 s = some o) : ba_G ba_tM w 3 X s 33 [] [] := by
  unfold xm_time_j33 at h
  refine ba_bipush V dX6_time_33 ba_cm2b ?_
  exact RT _ _ _ _ dX6_time_35 (Option.some.inj h)
def xm_time (s : ba_St) (a1 : Int32) (a2 : Int32) : Option (Int32 × ba_St) :=
  ba_bnd (xm_find s) fun s944 =>
  ba_bnd (xm_isBall s944 a1) fun v945 =>
  if v945 = 0 then
    xm_time_j33 s944
  else
    ba_bnd (xm_isTwo a2) fun v946 =>
    if v946 = 0 then
      xm_time_j33 s944
    else
      ba_bn2 (xm_ballBetter s944 (2 * a1) 0 24 a2) fun v947 s948 =>
      some (v947, s948)
set_option maxHeartbeats 4000000 in
set_option maxRecDepth 100000 in
theorem ym_time {w : ba_W} (hj : ba_inj ba_tM w) (l : Launch) {s : ba_St} {a1 : Int32} {a2 : Int32} {o : Int32 × ba_St} (h : xm_time s a1 a2 = some o) : ba_CI ba_tM w l yX6_time cX6_time 3 (some .int) rm_m_time [.ref (w.1 0), .int a1, .int a2] s o := by
  refine ba_metI (lv := [(0, .ref (w.1 0)), (1, .int a1), (2, .int a2)]) l hj (by decide +kernel) ⟨Nat.le_of_ble_eq_true rfl, rfl⟩ ?_
  intro X V RT
  unfold xm_time at h
  refine ba_aload_n V dX6_time_0 0 rfl ?_
  obtain ⟨s944, hc, h⟩ := ba_bnd_some h
  refine ba_callVV (As := []) (st := []) V dX6_time_1 kcX6_239 ba_sModel (fun l => ym_find V.inj l hc) ⟨rfl, rfl⟩ ⟨rfl, rfl, Nat.le_of_ble_eq_true rfl, Nat.le_of_ble_eq_true rfl⟩ (Nat.le_of_ble_eq_true rfl) ?_
  refine ba_aload_n V dX6_time_4 0 rfl ?_
  refine ba_iload_n V dX6_time_5 1 rfl ?_
  obtain ⟨v945, hc, h⟩ := ba_bnd_some h
  refine ba_callVI (As := [.int a1]) (st := []) V dX6_time_6 kcX6_169 ba_sModel (fun l => ym_isBall V.inj l hc) ⟨rfl, rfl⟩ ⟨rfl, rfl, Nat.le_of_ble_eq_true rfl, Nat.le_of_ble_eq_true rfl⟩ (Nat.le_of_ble_eq_true rfl) ?_
  refine ba_if_eq V dX6_time_9 rfl h (fun h => ?_) (fun h => ?_)
  · exact ba_sub [] rfl (ym_time_j33 V RT h)
  · refine ba_iload_n V dX6_time_12 2 rfl ?_
    obtain ⟨v946, hc, h⟩ := ba_bnd_some h
    refine ba_callSI (As := [.int a2]) (st := []) V dX6_time_13 kcX6_172 (fun l => ym_isTwo V.inj l hc) ⟨rfl, rfl⟩ ⟨rfl, rfl, Nat.le_of_ble_eq_true rfl, Nat.le_of_ble_eq_true rfl⟩ (Nat.le_of_ble_eq_true rfl) ?_
    refine ba_if_eq V dX6_time_16 rfl h (fun h => ?_) (fun h => ?_)
    · exact ba_sub [] rfl (ym_time_j33 V RT h)
    · refine ba_aload_n V dX6_time_19 0 rfl ?_
      refine ba_iconst V dX6_time_20 ba_c2 ?_
      refine ba_iload_n V dX6_time_21 1 rfl ?_
      refine ba_imul V dX6_time_22 ?_
      refine ba_iconst V dX6_time_23 ba_c0 ?_
      refine ba_bipush V dX6_time_24 ba_c24b ?_
      refine ba_iload_n V dX6_time_26 2 rfl ?_
      obtain ⟨v947, s948, hc, h⟩ := ba_bn2_some h
      refine ba_callVI (As := [.int (2 * a1), .int 0, .int 24, .int a2]) (st := []) V dX6_time_27 kcX6_277 ba_sModel (fun l => ym_ballBetter V.inj l hc) ⟨rfl, rfl⟩ ⟨rfl, rfl, Nat.le_of_ble_eq_true rfl, Nat.le_of_ble_eq_true rfl⟩ (Nat.le_of_ble_eq_true rfl) ?_
      refine ba_goto V dX6_time_30 rfl ?_
      exact RT _ _ _ _ dX6_time_35 (Option.some.inj h)
def xm_bendOf_j62_20 (k : (ba_St × Int32 × Int32 × Int32) → Option (ba_St × Int32 × Int32)) (s : ba_St) (z1 : Int32) (z2 : Int32) (z3 : Int32) (z5 : Int32) (z6 : Int32) (z7 : Int32) (q0 : Int32) : Option (ba_St × Int32 × Int32) :=
  ba_bnd (xm_greater z7 z5) fun v953 =>
  ba_lt (z6 + 1) fun x954 =>
  k (s, q0, v953, x954)
set_option maxHeartbeats 4000000 in
set_option maxRecDepth 100000 in
theorem ym_bendOf_j62_20 {w : ba_W} {X : ba_X} (V : ba_V ba_tM w 8 X cX6_bendOf RX6 rm_m_bendOf) {s : ba_St} {z1 : Int32} {z2 : Int32} {z3 : Int32} {z5 : Int32} {z6 : Int32} {z7 : Int32} {q0 : Int32} {o : ba_St × Int32 × Int32} {k : (ba_St × Int32 × Int32 × Int32) → Option (ba_St × Int32 × Int32)} (hk : ∀ (s : ba_St) (z4 : Int32) (z5 : Int32) (z6 : Int32), k (s, z4, z5, z6) = some o → ba_G ba_tM w 8 X s 20 [(0, .ref (w.1 0)), (1, .int z1), (2, .int z2), (3, .int z3), (4, .int z4), (5, .int z5), (6, .int z6)] []) (EX : ∀ (s : ba_St) (z4 : Int32) (z5 : Int32), (s, z4, z5) = o → ba_G ba_tM w 8 X s 79 [(0, .ref (w.1 0)), (1, .int z1), (2, .int z2), (3, .int z3), (4, .int z4), (5, .int z5)] []) (h : xm_bendOf_j62_20 k s z1 z2 z3 z5 z6 z7 q0 = some o) : ba_G ba_tM w 8 X s 62 [(0, .ref (w.1 0)), (1, .int z1), (2, .int z2), (3, .int z3), (5, .int z5), (6, .int z6), (7, .int z7)] [.int q0] := by
  unfold xm_bendOf_j62_20 at h
  refine ba_istore (lv' := [(4, .int q0), (0, .ref (w.1 0)), (1, .int z1), (2, .int z2), (3, .int z3), (5, .int z5), (6, .int z6), (7, .int z7)]) V dX6_bendOf_62 (by decide) rfl ?_
  refine ba_iload V dX6_bendOf_64 7 rfl ?_
  refine ba_iload V dX6_bendOf_66 5 rfl ?_
  obtain ⟨v953, hc, h⟩ := ba_bnd_some h
  refine ba_callSI (As := [.int z7, .int z5]) (st := []) V dX6_bendOf_68 kcX6_268 (fun l => ym_greater V.inj l hc) ⟨rfl, rfl⟩ ⟨rfl, rfl, Nat.le_of_ble_eq_true rfl, Nat.le_of_ble_eq_true rfl⟩ (Nat.le_of_ble_eq_true rfl) ?_
  refine ba_istore (lv' := [(5, .int v953), (4, .int q0), (0, .ref (w.1 0)), (1, .int z1), (2, .int z2), (3, .int z3), (6, .int z6), (7, .int z7)]) V dX6_bendOf_71 (by decide) rfl ?_
  refine ba_iinc V dX6_bendOf_73 6 rfl ba_c1 (by decide) h (fun x954 h => ⟨[(6, .int x954), (5, .int v953), (4, .int q0), (0, .ref (w.1 0)), (1, .int z1), (2, .int z2), (3, .int z3), (7, .int z7)], rfl, ?_⟩)
  refine ba_goto V dX6_bendOf_76 rfl ?_
  exact ba_sub [3, 4, 5, 6, 2, 1, 0] rfl (hk _ _ _ _ h)
def xm_bendOf_l20 (z1 : Int32) (z2 : Int32) (z3 : Int32) (k : (ba_St × Int32 × Int32 × Int32) → Option (ba_St × Int32 × Int32)) (a : (ba_St × Int32 × Int32 × Int32)) : Option (ba_St × Int32 × Int32) :=
  match a with
  | (s, z4, z5, z6) =>
    if 4 ≤ z6 then
      some (s, z4, z5)
    else
      ba_grd (ba_inb ((3 * z1) + 2) 36) <|
      ba_lt (ba_w s 7 (ba_ix ((3 * z1) + 2)) z6) fun s950 =>
      ba_bnd (xm_lives s950) fun s951 =>
      ba_bnd (xm_score s951) fun v952 =>
      if v952 ≤ z5 then
        xm_bendOf_j62_20 k s951 z1 z2 z3 z5 z6 v952 z4
      else
        xm_bendOf_j62_20 k s951 z1 z2 z3 z5 z6 v952 z6
set_option maxHeartbeats 4000000 in
set_option maxRecDepth 100000 in
theorem ym_bendOf_l20 {w : ba_W} {X : ba_X} (V : ba_V ba_tM w 8 X cX6_bendOf RX6 rm_m_bendOf) {z1 : Int32} {z2 : Int32} {z3 : Int32} {o : ba_St × Int32 × Int32} (EX : ∀ (s : ba_St) (z4 : Int32) (z5 : Int32), (s, z4, z5) = o → ba_G ba_tM w 8 X s 79 [(0, .ref (w.1 0)), (1, .int z1), (2, .int z2), (3, .int z3), (4, .int z4), (5, .int z5)] []) : ∀ (n : Nat) (s : ba_St) (z4 : Int32) (z5 : Int32) (z6 : Int32), ba_fix (xm_bendOf_l20 z1 z2 z3) n (s, z4, z5, z6) = some o → ba_G ba_tM w 8 X s 20 [(0, .ref (w.1 0)), (1, .int z1), (2, .int z2), (3, .int z3), (4, .int z4), (5, .int z5), (6, .int z6)] [] := by
  intro n s z4 z5 z6 h
  refine ba_loop (P := fun a => ba_G ba_tM w 8 X a.1 20 [(0, .ref (w.1 0)), (1, .int z1), (2, .int z2), (3, .int z3), (4, .int a.2.1), (5, .int a.2.2.1), (6, .int a.2.2.2)] []) ?_ n (s, z4, z5, z6) h
  intro k hk0 a h
  obtain ⟨s, z4, z5, z6⟩ := a
  have hk : ∀ (s : ba_St) (z4 : Int32) (z5 : Int32) (z6 : Int32), k (s, z4, z5, z6) = some o → ba_G ba_tM w 8 X s 20 [(0, .ref (w.1 0)), (1, .int z1), (2, .int z2), (3, .int z3), (4, .int z4), (5, .int z5), (6, .int z6)] [] := fun s z4 z5 z6 e => hk0 (s, z4, z5, z6) e
  unfold xm_bendOf_l20 at h
  try dsimp only at h ⊢
  refine ba_iload V dX6_bendOf_20 6 rfl ?_
  refine ba_iconst V dX6_bendOf_22 ba_c4 ?_
  refine ba_icmp_ge V dX6_bendOf_23 rfl h (fun h => ?_) (fun h => ?_)
  · exact ba_sub [0, 1, 2, 3, 4, 5] rfl (EX _ _ _ (Option.some.inj h))
  · refine ba_aload_n V dX6_bendOf_26 0 rfl ?_
    refine ba_getR V dX6_bendOf_27 kfX6_28 ba_sModel rfl ?_
    refine ba_iconst V dX6_bendOf_30 ba_c3 ?_
    refine ba_iload_n V dX6_bendOf_31 1 rfl ?_
    refine ba_imul V dX6_bendOf_32 ?_
    refine ba_iconst V dX6_bendOf_33 ba_c2 ?_
    refine ba_iadd V dX6_bendOf_34 ?_
    refine ba_iload V dX6_bendOf_35 6 rfl ?_
    refine ba_iast V dX6_bendOf_37 ba_sM_7 h (fun s950 h => ?_)
    refine ba_aload_n V dX6_bendOf_38 0 rfl ?_
    obtain ⟨s951, hc, h⟩ := ba_bnd_some h
    refine ba_callVV (As := []) (st := []) V dX6_bendOf_39 kcX6_236 ba_sModel (fun l => ym_lives V.inj l hc) ⟨rfl, rfl⟩ ⟨rfl, rfl, Nat.le_of_ble_eq_true rfl, Nat.le_of_ble_eq_true rfl⟩ (Nat.le_of_ble_eq_true rfl) ?_
    refine ba_aload_n V dX6_bendOf_42 0 rfl ?_
    obtain ⟨v952, hc, h⟩ := ba_bnd_some h
    refine ba_callVI (As := []) (st := []) V dX6_bendOf_43 kcX6_256 ba_sModel (fun l => ym_score V.inj l hc) ⟨rfl, rfl⟩ ⟨rfl, rfl, Nat.le_of_ble_eq_true rfl, Nat.le_of_ble_eq_true rfl⟩ (Nat.le_of_ble_eq_true rfl) ?_
    refine ba_istore (lv' := [(7, .int v952), (0, .ref (w.1 0)), (1, .int z1), (2, .int z2), (3, .int z3), (4, .int z4), (5, .int z5), (6, .int z6)]) V dX6_bendOf_46 (by decide) rfl ?_
    refine ba_iload V dX6_bendOf_48 0 rfl ?_
    refine ba_iload V dX6_bendOf_50 6 rfl ?_
    refine ba_icmp_le V dX6_bendOf_52 rfl h (fun h => ?_) (fun h => ?_)
    · refine ba_iload V dX6_bendOf_60 5 rfl ?_
      exact ba_sub [1, 2, 3, 4, 6, 7, 0] rfl (ym_bendOf_j62_20 V hk EX h)
    · refine ba_iload V dX6_bendOf_55 7 rfl ?_
      refine ba_goto V dX6_bendOf_57 rfl ?_
      exact ba_sub [1, 2, 3, 4, 6, 7, 0] rfl (ym_bendOf_j62_20 V hk EX h)
def xm_bendOf (s : ba_St) (a1 : Int32) (a2 : Int32) : Option (Int32 × ba_St) :=
  ba_grd (ba_inb ((3 * a1) + 2) 36) <|
  ba_lt (s.1 7 (ba_ix ((3 * a1) + 2))) fun x949 =>
  ba_bnd (ba_fix (xm_bendOf_l20 a1 a2 x949) 1000 (s, (-1), (-1), 0)) fun o => match o with
  | (s955, x956, x957) =>
    ba_grd (ba_inb ((3 * a1) + 2) 36) <|
    ba_lt (ba_w s955 7 (ba_ix ((3 * a1) + 2)) x949) fun s958 =>
    if a2 = 0 then
      some (x956, s958)
    else
      some (x957, s958)
set_option maxHeartbeats 4000000 in
set_option maxRecDepth 100000 in
theorem ym_bendOf {w : ba_W} (hj : ba_inj ba_tM w) (l : Launch) {s : ba_St} {a1 : Int32} {a2 : Int32} {o : Int32 × ba_St} (h : xm_bendOf s a1 a2 = some o) : ba_CI ba_tM w l yX6_bendOf cX6_bendOf 8 (some .int) rm_m_bendOf [.ref (w.1 0), .int a1, .int a2] s o := by
  refine ba_metI (lv := [(0, .ref (w.1 0)), (1, .int a1), (2, .int a2)]) l hj (by decide +kernel) ⟨Nat.le_of_ble_eq_true rfl, rfl⟩ ?_
  intro X V RT
  unfold xm_bendOf at h
  refine ba_aload_n V dX6_bendOf_0 0 rfl ?_
  refine ba_getR V dX6_bendOf_1 kfX6_28 ba_sModel rfl ?_
  refine ba_iconst V dX6_bendOf_4 ba_c3 ?_
  refine ba_iload_n V dX6_bendOf_5 1 rfl ?_
  refine ba_imul V dX6_bendOf_6 ?_
  refine ba_iconst V dX6_bendOf_7 ba_c2 ?_
  refine ba_iadd V dX6_bendOf_8 ?_
  refine ba_iald V dX6_bendOf_9 ba_sM_7 h (fun h => ?_)
  refine ba_letI h (fun x949 h => ?_)
  refine ba_istore_n (lv' := [(3, .int x949), (0, .ref (w.1 0)), (1, .int a1), (2, .int a2)]) V dX6_bendOf_10 (by decide) rfl ?_
  refine ba_iconst V dX6_bendOf_11 ba_cm1 ?_
  refine ba_istore (lv' := [(4, .int (-1)), (3, .int x949), (0, .ref (w.1 0)), (1, .int a1), (2, .int a2)]) V dX6_bendOf_12 (by decide) rfl ?_
  refine ba_iconst V dX6_bendOf_14 ba_cm1 ?_
  refine ba_istore (lv' := [(5, .int (-1)), (4, .int (-1)), (3, .int x949), (0, .ref (w.1 0)), (1, .int a1), (2, .int a2)]) V dX6_bendOf_15 (by decide) rfl ?_
  refine ba_iconst V dX6_bendOf_17 ba_c0 ?_
  refine ba_istore (lv' := [(6, .int 0), (5, .int (-1)), (4, .int (-1)), (3, .int x949), (0, .ref (w.1 0)), (1, .int a1), (2, .int a2)]) V dX6_bendOf_18 (by decide) rfl ?_
  obtain ⟨o, ho, h⟩ := ba_bnd_some h
  refine ba_sub [4, 5, 6, 3, 2, 1, 0] rfl (ym_bendOf_l20 V (o := o) (fun s955 x956 x957 e => ?_) 1000 s (-1) (-1) 0 ho)
  subst e
  try dsimp only at h
  refine ba_aload_n V dX6_bendOf_79 0 rfl ?_
  refine ba_getR V dX6_bendOf_80 kfX6_28 ba_sModel rfl ?_
  refine ba_iconst V dX6_bendOf_83 ba_c3 ?_
  refine ba_iload_n V dX6_bendOf_84 1 rfl ?_
  refine ba_imul V dX6_bendOf_85 ?_
  refine ba_iconst V dX6_bendOf_86 ba_c2 ?_
  refine ba_iadd V dX6_bendOf_87 ?_
  refine ba_iload_n V dX6_bendOf_88 3 rfl ?_
  refine ba_iast V dX6_bendOf_89 ba_sM_7 h (fun s958 h => ?_)
  refine ba_iload_n V dX6_bendOf_90 2 rfl ?_
  refine ba_if_ne V dX6_bendOf_91 rfl h (fun h => ?_) (fun h => ?_)
  · refine ba_iload V dX6_bendOf_94 4 rfl ?_
    refine ba_goto V dX6_bendOf_96 rfl ?_
    exact RT _ _ _ _ dX6_bendOf_101 (Option.some.inj h)
  · refine ba_iload V dX6_bendOf_99 5 rfl ?_
    exact RT _ _ _ _ dX6_bendOf_101 (Option.some.inj h)
def xm_bend_j28 (s : ba_St) : Option (Int32 × ba_St) :=
  some ((-2), s)
set_option maxHeartbeats 4000000 in
set_option maxRecDepth 100000 in
theorem ym_bend_j28 {w : ba_W} {X : ba_X} (V : ba_V ba_tM w 3 X cX6_bend RX6 rm_m_bend) {s : ba_St} {o : Int32 × ba_St} (RT : ∀ (pc : Nat) (lv : List (Nat × Value)) (v : Int32) (s : ba_St), decode cX6_bend pc = .ok (.ireturn, 1) → (v, s) = o → ba_G ba_tM w 3 X s pc lv [.int v]) (h : xm_bend_j28 s = some o) : ba_G ba_tM w 3 X s 28 [] [] := by
  unfold xm_bend_j28 at h
  refine ba_bipush V dX6_bend_28 ba_cm2b ?_
  exact RT _ _ _ _ dX6_bend_30 (Option.some.inj h)
def xm_bend (s : ba_St) (a1 : Int32) (a2 : Int32) : Option (Int32 × ba_St) :=
  ba_bnd (xm_find s) fun s959 =>
  ba_bnd (xm_isPin s959 a1) fun v960 =>
  if v960 = 0 then
    xm_bend_j28 s959
  else
    ba_bnd (xm_isTwo a2) fun v961 =>
    if v961 = 0 then
      xm_bend_j28 s959
    else
      ba_bn2 (xm_bendOf s959 a1 a2) fun v962 s963 =>
      some (v962, s963)
set_option maxHeartbeats 4000000 in
set_option maxRecDepth 100000 in
theorem ym_bend {w : ba_W} (hj : ba_inj ba_tM w) (l : Launch) {s : ba_St} {a1 : Int32} {a2 : Int32} {o : Int32 × ba_St} (h : xm_bend s a1 a2 = some o) : ba_CI ba_tM w l yX6_bend cX6_bend 3 (some .int) rm_m_bend [.ref (w.1 0), .int a1, .int a2] s o := by
  refine ba_metI (lv := [(0, .ref (w.1 0)), (1, .int a1), (2, .int a2)]) l hj (by decide +kernel) ⟨Nat.le_of_ble_eq_true rfl, rfl⟩ ?_
  intro X V RT
  unfold xm_bend at h
  refine ba_aload_n V dX6_bend_0 0 rfl ?_
  obtain ⟨s959, hc, h⟩ := ba_bnd_some h
  refine ba_callVV (As := []) (st := []) V dX6_bend_1 kcX6_239 ba_sModel (fun l => ym_find V.inj l hc) ⟨rfl, rfl⟩ ⟨rfl, rfl, Nat.le_of_ble_eq_true rfl, Nat.le_of_ble_eq_true rfl⟩ (Nat.le_of_ble_eq_true rfl) ?_
  refine ba_aload_n V dX6_bend_4 0 rfl ?_
  refine ba_iload_n V dX6_bend_5 1 rfl ?_
  obtain ⟨v960, hc, h⟩ := ba_bnd_some h
  refine ba_callVI (As := [.int a1]) (st := []) V dX6_bend_6 kcX6_166 ba_sModel (fun l => ym_isPin V.inj l hc) ⟨rfl, rfl⟩ ⟨rfl, rfl, Nat.le_of_ble_eq_true rfl, Nat.le_of_ble_eq_true rfl⟩ (Nat.le_of_ble_eq_true rfl) ?_
  refine ba_if_eq V dX6_bend_9 rfl h (fun h => ?_) (fun h => ?_)
  · exact ba_sub [] rfl (ym_bend_j28 V RT h)
  · refine ba_iload_n V dX6_bend_12 2 rfl ?_
    obtain ⟨v961, hc, h⟩ := ba_bnd_some h
    refine ba_callSI (As := [.int a2]) (st := []) V dX6_bend_13 kcX6_172 (fun l => ym_isTwo V.inj l hc) ⟨rfl, rfl⟩ ⟨rfl, rfl, Nat.le_of_ble_eq_true rfl, Nat.le_of_ble_eq_true rfl⟩ (Nat.le_of_ble_eq_true rfl) ?_
    refine ba_if_eq V dX6_bend_16 rfl h (fun h => ?_) (fun h => ?_)
    · exact ba_sub [] rfl (ym_bend_j28 V RT h)
    · refine ba_aload_n V dX6_bend_19 0 rfl ?_
      refine ba_iload_n V dX6_bend_20 1 rfl ?_
      refine ba_iload_n V dX6_bend_21 2 rfl ?_
      obtain ⟨v962, s963, hc, h⟩ := ba_bn2_some h
      refine ba_callVI (As := [.int a1, .int a2]) (st := []) V dX6_bend_22 kcX6_281 ba_sModel (fun l => ym_bendOf V.inj l hc) ⟨rfl, rfl⟩ ⟨rfl, rfl, Nat.le_of_ble_eq_true rfl, Nat.le_of_ble_eq_true rfl⟩ (Nat.le_of_ble_eq_true rfl) ?_
      refine ba_goto V dX6_bend_25 rfl ?_
      exact RT _ _ _ _ dX6_bend_30 (Option.some.inj h)
def xm_isSpared (s : ba_St) (a1 : Int32) : Option (Int32 × ba_St) :=
  ba_lt (ba_w s 0 15 a1) fun s964 =>
  ba_bnd (xm_lives s964) fun s965 =>
  ba_lt (ba_w s965 0 15 0) fun s966 =>
  ba_bnd (xm_manyIn s966 9) fun v967 =>
  if v967 = 0 then
    some (1, s966)
  else
    some (0, s966)
set_option maxHeartbeats 4000000 in
set_option maxRecDepth 100000 in
theorem ym_isSpared {w : ba_W} (hj : ba_inj ba_tM w) (l : Launch) {s : ba_St} {a1 : Int32} {o : Int32 × ba_St} (h : xm_isSpared s a1 = some o) : ba_CI ba_tM w l yX6_isSpared cX6_isSpared 2 (some .boolean) rm_m_isSpared [.ref (w.1 0), .int a1] s o := by
  refine ba_metZ (lv := [(0, .ref (w.1 0)), (1, .int a1)]) l hj (by decide +kernel) ⟨Nat.le_of_ble_eq_true rfl, rfl⟩ ?_
  intro X V RT
  unfold xm_isSpared at h
  refine ba_aload_n V dX6_isSpared_0 0 rfl ?_
  refine ba_iload_n V dX6_isSpared_1 1 rfl ?_
  refine ba_putI V dX6_isSpared_2 kfX6_193 ba_sModel rfl h (fun s964 h => ?_)
  refine ba_aload_n V dX6_isSpared_5 0 rfl ?_
  obtain ⟨s965, hc, h⟩ := ba_bnd_some h
  refine ba_callVV (As := []) (st := []) V dX6_isSpared_6 kcX6_236 ba_sModel (fun l => ym_lives V.inj l hc) ⟨rfl, rfl⟩ ⟨rfl, rfl, Nat.le_of_ble_eq_true rfl, Nat.le_of_ble_eq_true rfl⟩ (Nat.le_of_ble_eq_true rfl) ?_
  refine ba_aload_n V dX6_isSpared_9 0 rfl ?_
  refine ba_iconst V dX6_isSpared_10 ba_c0 ?_
  refine ba_putI V dX6_isSpared_11 kfX6_193 ba_sModel rfl h (fun s966 h => ?_)
  refine ba_aload_n V dX6_isSpared_14 0 rfl ?_
  refine ba_bipush V dX6_isSpared_15 ba_c9b ?_
  obtain ⟨v967, hc, h⟩ := ba_bnd_some h
  refine ba_callVI (As := [.int 9]) (st := []) V dX6_isSpared_17 kcX6_259 ba_sModel (fun l => ym_manyIn V.inj l hc) ⟨rfl, rfl⟩ ⟨rfl, rfl, Nat.le_of_ble_eq_true rfl, Nat.le_of_ble_eq_true rfl⟩ (Nat.le_of_ble_eq_true rfl) ?_
  refine ba_if_ne V dX6_isSpared_20 rfl h (fun h => ?_) (fun h => ?_)
  · refine ba_iconst V dX6_isSpared_23 ba_c1 ?_
    refine ba_goto V dX6_isSpared_24 rfl ?_
    exact RT _ _ _ _ dX6_isSpared_28 ba_y1 (Option.some.inj h)
  · refine ba_iconst V dX6_isSpared_27 ba_c0 ?_
    exact RT _ _ _ _ dX6_isSpared_28 ba_y0 (Option.some.inj h)
def xm_spareBy_l21 (z1 : Int32) (k : (ba_St × Int32) → Option ((ba_St) ⊕ (Int32 × ba_St))) (a : (ba_St × Int32)) : Option ((ba_St) ⊕ (Int32 × ba_St)) :=
  match a with
  | (s, z2) =>
    if (s.1 0 13) ≤ z2 then
      some (.inl s)
    else
      ba_bn2 (xm_isSpared s (ba_fishl 1 z2)) fun v970 s971 =>
      if v970 = 0 then
        ba_lt (z2 + 1) fun x972 =>
        k (s971, x972)
      else
        if z1 = (-1) then
          some (.inr (1, s971))
        else
          if z1 = 0 then
            some (.inr (z2, s971))
          else
            some (.inr ((-1), s971))
set_option maxHeartbeats 4000000 in
set_option maxRecDepth 100000 in
theorem ym_spareBy_l21 {w : ba_W} {X : ba_X} (V : ba_V ba_tM w 4 X cX6_spareBy RX6 rm_m_spareBy) {z1 : Int32} {o : (ba_St) ⊕ (Int32 × ba_St)} (EX : ∀ (s : ba_St) , .inl s = o → ba_G ba_tM w 4 X s 64 [(0, .ref (w.1 0)), (1, .int z1)] []) (RT : ∀ (pc : Nat) (lv : List (Nat × Value)) (v : Int32) (s : ba_St), decode cX6_spareBy pc = .ok (.ireturn, 1) → .inr (v, s) = o → ba_G ba_tM w 4 X s pc lv [.int v]) : ∀ (n : Nat) (s : ba_St) (z2 : Int32), ba_fix (xm_spareBy_l21 z1) n (s, z2) = some o → ba_G ba_tM w 4 X s 21 [(0, .ref (w.1 0)), (1, .int z1), (2, .int z2)] [] := by
  intro n s z2 h
  refine ba_loop (P := fun a => ba_G ba_tM w 4 X a.1 21 [(0, .ref (w.1 0)), (1, .int z1), (2, .int a.2)] []) ?_ n (s, z2) h
  intro k hk0 a h
  obtain ⟨s, z2⟩ := a
  have hk : ∀ (s : ba_St) (z2 : Int32), k (s, z2) = some o → ba_G ba_tM w 4 X s 21 [(0, .ref (w.1 0)), (1, .int z1), (2, .int z2)] [] := fun s z2 e => hk0 (s, z2) e
  unfold xm_spareBy_l21 at h
  try dsimp only at h ⊢
  refine ba_iload_n V dX6_spareBy_21 2 rfl ?_
  refine ba_aload_n V dX6_spareBy_22 0 rfl ?_
  refine ba_getI V dX6_spareBy_23 kfX6_182 ba_sModel rfl ?_
  refine ba_icmp_ge V dX6_spareBy_26 rfl h (fun h => ?_) (fun h => ?_)
  · exact ba_sub [0, 1] rfl (EX _ (Option.some.inj h))
  · refine ba_aload_n V dX6_spareBy_29 0 rfl ?_
    refine ba_iconst V dX6_spareBy_30 ba_c1 ?_
    refine ba_iload_n V dX6_spareBy_31 2 rfl ?_
    refine ba_ishl V dX6_spareBy_32 ?_
    obtain ⟨v970, s971, hc, h⟩ := ba_bn2_some h
    refine ba_callVI (As := [.int (ba_fishl 1 z2)]) (st := []) V dX6_spareBy_33 kcX6_284 ba_sModel (fun l => ym_isSpared V.inj l hc) ⟨rfl, rfl⟩ ⟨rfl, rfl, Nat.le_of_ble_eq_true rfl, Nat.le_of_ble_eq_true rfl⟩ (Nat.le_of_ble_eq_true rfl) ?_
    refine ba_if_eq V dX6_spareBy_36 rfl h (fun h => ?_) (fun h => ?_)
    · refine ba_iinc V dX6_spareBy_58 2 rfl ba_c1 (by decide) h (fun x972 h => ⟨[(2, .int x972), (0, .ref (w.1 0)), (1, .int z1)], rfl, ?_⟩)
      refine ba_goto V dX6_spareBy_61 rfl ?_
      exact ba_sub [1, 2, 0] rfl (hk _ _ h)
    · refine ba_iload_n V dX6_spareBy_39 1 rfl ?_
      refine ba_iconst V dX6_spareBy_40 ba_cm1 ?_
      refine ba_icmp_ne V dX6_spareBy_41 rfl h (fun h => ?_) (fun h => ?_)
      · refine ba_iconst V dX6_spareBy_44 ba_c1 ?_
        refine ba_goto V dX6_spareBy_45 rfl ?_
        exact RT _ _ _ _ dX6_spareBy_57 (Option.some.inj h)
      · refine ba_iload_n V dX6_spareBy_48 1 rfl ?_
        refine ba_if_ne V dX6_spareBy_49 rfl h (fun h => ?_) (fun h => ?_)
        · refine ba_iload_n V dX6_spareBy_52 2 rfl ?_
          refine ba_goto V dX6_spareBy_53 rfl ?_
          exact RT _ _ _ _ dX6_spareBy_57 (Option.some.inj h)
        · refine ba_iconst V dX6_spareBy_56 ba_cm1 ?_
          exact RT _ _ _ _ dX6_spareBy_57 (Option.some.inj h)
def xm_spareBy_l78 (z1 : Int32) (z2 : Int32) (k : (ba_St × Int32) → Option ((ba_St) ⊕ (Int32 × ba_St))) (a : (ba_St × Int32)) : Option ((ba_St) ⊕ (Int32 × ba_St)) :=
  match a with
  | (s, z3) =>
    if (s.1 0 13) ≤ z3 then
      some (.inl s)
    else
      ba_bn2 (xm_isSpared s ((ba_fishl 1 z2) ||| (ba_fishl 1 z3))) fun v975 s976 =>
      if v975 = 0 then
        ba_lt (z3 + 1) fun x977 =>
        k (s976, x977)
      else
        if z1 = (-1) then
          some (.inr (2, s976))
        else
          if z1 = 0 then
            some (.inr (z2, s976))
          else
            some (.inr (z3, s976))
set_option maxHeartbeats 4000000 in
set_option maxRecDepth 100000 in
theorem ym_spareBy_l78 {w : ba_W} {X : ba_X} (V : ba_V ba_tM w 4 X cX6_spareBy RX6 rm_m_spareBy) {z1 : Int32} {z2 : Int32} {o : (ba_St) ⊕ (Int32 × ba_St)} (EX : ∀ (s : ba_St) , .inl s = o → ba_G ba_tM w 4 X s 125 [(0, .ref (w.1 0)), (1, .int z1), (2, .int z2)] []) (RT : ∀ (pc : Nat) (lv : List (Nat × Value)) (v : Int32) (s : ba_St), decode cX6_spareBy pc = .ok (.ireturn, 1) → .inr (v, s) = o → ba_G ba_tM w 4 X s pc lv [.int v]) : ∀ (n : Nat) (s : ba_St) (z3 : Int32), ba_fix (xm_spareBy_l78 z1 z2) n (s, z3) = some o → ba_G ba_tM w 4 X s 78 [(0, .ref (w.1 0)), (1, .int z1), (2, .int z2), (3, .int z3)] [] := by
  intro n s z3 h
  refine ba_loop (P := fun a => ba_G ba_tM w 4 X a.1 78 [(0, .ref (w.1 0)), (1, .int z1), (2, .int z2), (3, .int a.2)] []) ?_ n (s, z3) h
  intro k hk0 a h
  obtain ⟨s, z3⟩ := a
  have hk : ∀ (s : ba_St) (z3 : Int32), k (s, z3) = some o → ba_G ba_tM w 4 X s 78 [(0, .ref (w.1 0)), (1, .int z1), (2, .int z2), (3, .int z3)] [] := fun s z3 e => hk0 (s, z3) e
  unfold xm_spareBy_l78 at h
  try dsimp only at h ⊢
  refine ba_iload_n V dX6_spareBy_78 3 rfl ?_
  refine ba_aload_n V dX6_spareBy_79 0 rfl ?_
  refine ba_getI V dX6_spareBy_80 kfX6_182 ba_sModel rfl ?_
  refine ba_icmp_ge V dX6_spareBy_83 rfl h (fun h => ?_) (fun h => ?_)
  · exact ba_sub [0, 1, 2] rfl (EX _ (Option.some.inj h))
  · refine ba_aload_n V dX6_spareBy_86 0 rfl ?_
    refine ba_iconst V dX6_spareBy_87 ba_c1 ?_
    refine ba_iload_n V dX6_spareBy_88 2 rfl ?_
    refine ba_ishl V dX6_spareBy_89 ?_
    refine ba_iconst V dX6_spareBy_90 ba_c1 ?_
    refine ba_iload_n V dX6_spareBy_91 3 rfl ?_
    refine ba_ishl V dX6_spareBy_92 ?_
    refine ba_ior V dX6_spareBy_93 ?_
    obtain ⟨v975, s976, hc, h⟩ := ba_bn2_some h
    refine ba_callVI (As := [.int ((ba_fishl 1 z2) ||| (ba_fishl 1 z3))]) (st := []) V dX6_spareBy_94 kcX6_284 ba_sModel (fun l => ym_isSpared V.inj l hc) ⟨rfl, rfl⟩ ⟨rfl, rfl, Nat.le_of_ble_eq_true rfl, Nat.le_of_ble_eq_true rfl⟩ (Nat.le_of_ble_eq_true rfl) ?_
    refine ba_if_eq V dX6_spareBy_97 rfl h (fun h => ?_) (fun h => ?_)
    · refine ba_iinc V dX6_spareBy_119 3 rfl ba_c1 (by decide) h (fun x977 h => ⟨[(3, .int x977), (0, .ref (w.1 0)), (1, .int z1), (2, .int z2)], rfl, ?_⟩)
      refine ba_goto V dX6_spareBy_122 rfl ?_
      exact ba_sub [1, 2, 3, 0] rfl (hk _ _ h)
    · refine ba_iload_n V dX6_spareBy_100 1 rfl ?_
      refine ba_iconst V dX6_spareBy_101 ba_cm1 ?_
      refine ba_icmp_ne V dX6_spareBy_102 rfl h (fun h => ?_) (fun h => ?_)
      · refine ba_iconst V dX6_spareBy_105 ba_c2 ?_
        refine ba_goto V dX6_spareBy_106 rfl ?_
        exact RT _ _ _ _ dX6_spareBy_118 (Option.some.inj h)
      · refine ba_iload_n V dX6_spareBy_109 1 rfl ?_
        refine ba_if_ne V dX6_spareBy_110 rfl h (fun h => ?_) (fun h => ?_)
        · refine ba_iload_n V dX6_spareBy_113 2 rfl ?_
          refine ba_goto V dX6_spareBy_114 rfl ?_
          exact RT _ _ _ _ dX6_spareBy_118 (Option.some.inj h)
        · refine ba_iload_n V dX6_spareBy_117 3 rfl ?_
          exact RT _ _ _ _ dX6_spareBy_118 (Option.some.inj h)
def xm_spareBy_l66 (z1 : Int32) (k : (ba_St × Int32) → Option ((ba_St) ⊕ (Int32 × ba_St))) (a : (ba_St × Int32)) : Option ((ba_St) ⊕ (Int32 × ba_St)) :=
  match a with
  | (s, z2) =>
    if (s.1 0 13) ≤ z2 then
      some (.inl s)
    else
      ba_lt (z2 + 1) fun x974 =>
      ba_bnd (ba_fix (xm_spareBy_l78 z1 z2) 1000 (s, x974)) fun o => match o with
      | .inr r980 => some (.inr r980)
      | .inl s978 =>
        ba_lt (z2 + 1) fun x979 =>
        k (s978, x979)
set_option maxHeartbeats 4000000 in
set_option maxRecDepth 100000 in
theorem ym_spareBy_l66 {w : ba_W} {X : ba_X} (V : ba_V ba_tM w 4 X cX6_spareBy RX6 rm_m_spareBy) {z1 : Int32} {o : (ba_St) ⊕ (Int32 × ba_St)} (EX : ∀ (s : ba_St) , .inl s = o → ba_G ba_tM w 4 X s 131 [] []) (RT : ∀ (pc : Nat) (lv : List (Nat × Value)) (v : Int32) (s : ba_St), decode cX6_spareBy pc = .ok (.ireturn, 1) → .inr (v, s) = o → ba_G ba_tM w 4 X s pc lv [.int v]) : ∀ (n : Nat) (s : ba_St) (z2 : Int32), ba_fix (xm_spareBy_l66 z1) n (s, z2) = some o → ba_G ba_tM w 4 X s 66 [(0, .ref (w.1 0)), (1, .int z1), (2, .int z2)] [] := by
  intro n s z2 h
  refine ba_loop (P := fun a => ba_G ba_tM w 4 X a.1 66 [(0, .ref (w.1 0)), (1, .int z1), (2, .int a.2)] []) ?_ n (s, z2) h
  intro k hk0 a h
  obtain ⟨s, z2⟩ := a
  have hk : ∀ (s : ba_St) (z2 : Int32), k (s, z2) = some o → ba_G ba_tM w 4 X s 66 [(0, .ref (w.1 0)), (1, .int z1), (2, .int z2)] [] := fun s z2 e => hk0 (s, z2) e
  unfold xm_spareBy_l66 at h
  try dsimp only at h ⊢
  refine ba_iload_n V dX6_spareBy_66 2 rfl ?_
  refine ba_aload_n V dX6_spareBy_67 0 rfl ?_
  refine ba_getI V dX6_spareBy_68 kfX6_182 ba_sModel rfl ?_
  refine ba_icmp_ge V dX6_spareBy_71 rfl h (fun h => ?_) (fun h => ?_)
  · exact ba_sub [] rfl (EX _ (Option.some.inj h))
  · refine ba_iload_n V dX6_spareBy_74 2 rfl ?_
    refine ba_iconst V dX6_spareBy_75 ba_c1 ?_
    refine ba_iadd V dX6_spareBy_76 ?_
    refine ba_letI h (fun x974 h => ?_)
    refine ba_istore_n (lv' := [(3, .int x974), (0, .ref (w.1 0)), (1, .int z1), (2, .int z2)]) V dX6_spareBy_77 (by decide) rfl ?_
    obtain ⟨o, ho, h⟩ := ba_bnd_some h
    refine ba_sub [1, 2, 3, 0] rfl (ym_spareBy_l78 V (o := o) (fun s978 e => ?_) (fun pc lv v s D  e => by subst e; exact RT pc lv v s D  (Option.some.inj h)) 1000 s x974 ho)
    subst e
    try dsimp only at h
    refine ba_iinc V dX6_spareBy_125 2 rfl ba_c1 (by decide) h (fun x979 h => ⟨[(2, .int x979), (0, .ref (w.1 0)), (1, .int z1)], rfl, ?_⟩)
    refine ba_goto V dX6_spareBy_128 rfl ?_
    exact ba_sub [1, 2, 0] rfl (hk _ _ h)
def xm_spareBy (s : ba_St) (a1 : Int32) : Option (Int32 × ba_St) :=
  ba_bn2 (xm_isSpared s 0) fun v968 s969 =>
  if v968 = 0 then
    ba_bnd (ba_fix (xm_spareBy_l21 a1) 1000 (s969, 0)) fun o => match o with
    | .inr r983 => some r983
    | .inl s973 =>
      ba_bnd (ba_fix (xm_spareBy_l66 a1) 1000 (s973, 0)) fun o => match o with
      | .inr r982 => some r982
      | .inl s981 =>
        some ((-1), s981)
  else
    if a1 = (-1) then
      some (0, s969)
    else
      some ((-1), s969)
set_option maxHeartbeats 4000000 in
set_option maxRecDepth 100000 in
theorem ym_spareBy {w : ba_W} (hj : ba_inj ba_tM w) (l : Launch) {s : ba_St} {a1 : Int32} {o : Int32 × ba_St} (h : xm_spareBy s a1 = some o) : ba_CI ba_tM w l yX6_spareBy cX6_spareBy 4 (some .int) rm_m_spareBy [.ref (w.1 0), .int a1] s o := by
  refine ba_metI (lv := [(0, .ref (w.1 0)), (1, .int a1)]) l hj (by decide +kernel) ⟨Nat.le_of_ble_eq_true rfl, rfl⟩ ?_
  intro X V RT
  unfold xm_spareBy at h
  refine ba_aload_n V dX6_spareBy_0 0 rfl ?_
  refine ba_iconst V dX6_spareBy_1 ba_c0 ?_
  obtain ⟨v968, s969, hc, h⟩ := ba_bn2_some h
  refine ba_callVI (As := [.int 0]) (st := []) V dX6_spareBy_2 kcX6_284 ba_sModel (fun l => ym_isSpared V.inj l hc) ⟨rfl, rfl⟩ ⟨rfl, rfl, Nat.le_of_ble_eq_true rfl, Nat.le_of_ble_eq_true rfl⟩ (Nat.le_of_ble_eq_true rfl) ?_
  refine ba_if_eq V dX6_spareBy_5 rfl h (fun h => ?_) (fun h => ?_)
  · refine ba_iconst V dX6_spareBy_19 ba_c0 ?_
    refine ba_istore_n (lv' := [(2, .int 0), (0, .ref (w.1 0)), (1, .int a1)]) V dX6_spareBy_20 (by decide) rfl ?_
    obtain ⟨o, ho, h⟩ := ba_bnd_some h
    refine ba_sub [1, 2, 0] rfl (ym_spareBy_l21 V (o := o) (fun s973 e => ?_) (fun pc lv v s D  e => by subst e; exact RT pc lv v s D  (Option.some.inj h)) 1000 s969 0 ho)
    subst e
    try dsimp only at h
    refine ba_iconst V dX6_spareBy_64 ba_c0 ?_
    refine ba_istore_n (lv' := [(2, .int 0), (0, .ref (w.1 0)), (1, .int a1)]) V dX6_spareBy_65 (by decide) rfl ?_
    obtain ⟨o, ho, h⟩ := ba_bnd_some h
    refine ba_sub [1, 2, 0] rfl (ym_spareBy_l66 V (o := o) (fun s981 e => ?_) (fun pc lv v s D  e => by subst e; exact RT pc lv v s D  (Option.some.inj h)) 1000 s973 0 ho)
    subst e
    try dsimp only at h
    refine ba_iconst V dX6_spareBy_131 ba_cm1 ?_
    exact RT _ _ _ _ dX6_spareBy_132 (Option.some.inj h)
  · refine ba_iload_n V dX6_spareBy_8 1 rfl ?_
    refine ba_iconst V dX6_spareBy_9 ba_cm1 ?_
    refine ba_icmp_ne V dX6_spareBy_10 rfl h (fun h => ?_) (fun h => ?_)
    · refine ba_iconst V dX6_spareBy_13 ba_c0 ?_
      refine ba_goto V dX6_spareBy_14 rfl ?_
      exact RT _ _ _ _ dX6_spareBy_18 (Option.some.inj h)
    · refine ba_iconst V dX6_spareBy_17 ba_cm1 ?_
      exact RT _ _ _ _ dX6_spareBy_18 (Option.some.inj h)
def xm_spare (s : ba_St) (a1 : Int32) : Option (Int32 × ba_St) :=
  ba_bnd (xm_find s) fun s984 =>
  ba_bnd (xm_in (Int32.toInt64 a1) (-1) 1) fun v985 =>
  if v985 = 0 then
    some ((-2), s984)
  else
    ba_bn2 (xm_spareBy s984 a1) fun v986 s987 =>
    some (v986, s987)
set_option maxHeartbeats 4000000 in
set_option maxRecDepth 100000 in
theorem ym_spare {w : ba_W} (hj : ba_inj ba_tM w) (l : Launch) {s : ba_St} {a1 : Int32} {o : Int32 × ba_St} (h : xm_spare s a1 = some o) : ba_CI ba_tM w l yX6_spare cX6_spare 2 (some .int) rm_m_spare [.ref (w.1 0), .int a1] s o := by
  refine ba_metI (lv := [(0, .ref (w.1 0)), (1, .int a1)]) l hj (by decide +kernel) ⟨Nat.le_of_ble_eq_true rfl, rfl⟩ ?_
  intro X V RT
  unfold xm_spare at h
  refine ba_aload_n V dX6_spare_0 0 rfl ?_
  obtain ⟨s984, hc, h⟩ := ba_bnd_some h
  refine ba_callVV (As := []) (st := []) V dX6_spare_1 kcX6_239 ba_sModel (fun l => ym_find V.inj l hc) ⟨rfl, rfl⟩ ⟨rfl, rfl, Nat.le_of_ble_eq_true rfl, Nat.le_of_ble_eq_true rfl⟩ (Nat.le_of_ble_eq_true rfl) ?_
  refine ba_iload_n V dX6_spare_4 1 rfl ?_
  refine ba_i2l V dX6_spare_5 ?_
  refine ba_ldc2 V dX6_spare_6 kkX6_287 ?_
  refine ba_lconst V dX6_spare_9 rfl ?_
  obtain ⟨v985, hc, h⟩ := ba_bnd_some h
  refine ba_callSI (As := [.long (Int32.toInt64 a1), .long (-1), .long 1]) (st := []) V dX6_spare_10 kcX6_88 (fun l => ym_in V.inj l hc) ⟨rfl, rfl⟩ ⟨rfl, rfl, Nat.le_of_ble_eq_true rfl, Nat.le_of_ble_eq_true rfl⟩ (Nat.le_of_ble_eq_true rfl) ?_
  refine ba_if_eq V dX6_spare_13 rfl h (fun h => ?_) (fun h => ?_)
  · refine ba_bipush V dX6_spare_24 ba_cm2b ?_
    exact RT _ _ _ _ dX6_spare_26 (Option.some.inj h)
  · refine ba_aload_n V dX6_spare_16 0 rfl ?_
    refine ba_iload_n V dX6_spare_17 1 rfl ?_
    obtain ⟨v986, s987, hc, h⟩ := ba_bn2_some h
    refine ba_callVI (As := [.int a1]) (st := []) V dX6_spare_18 kcX6_289 ba_sModel (fun l => ym_spareBy V.inj l hc) ⟨rfl, rfl⟩ ⟨rfl, rfl, Nat.le_of_ble_eq_true rfl, Nat.le_of_ble_eq_true rfl⟩ (Nat.le_of_ble_eq_true rfl) ?_
    refine ba_goto V dX6_spare_21 rfl ?_
    exact RT _ _ _ _ dX6_spare_26 (Option.some.inj h)
def xm_seen (s : ba_St) (a1 : Int32) (a2 : Int32) (a3 : Int32) (a4 : Int32) : Option (Int32 × ba_St) :=
  ba_bnd (xm_isTick a1) fun v988 =>
  if v988 = 0 then
    some ((-2), s)
  else
    ba_bnd (xm_in (Int32.toInt64 a2) 0 7) fun v989 =>
    if v989 = 0 then
      some ((-2), s)
    else
      ba_bnd (xm_isColumn a3) fun v990 =>
      if v990 = 0 then
        some ((-2), s)
      else
        ba_bnd (xm_in (Int32.toInt64 a4) 0 12) fun v991 =>
        if v991 = 0 then
          some ((-2), s)
        else
          if (s.1 0 29) = 8 then
            some ((-4), s)
          else
            ba_grd (ba_inb (4 * (s.1 0 29)) 32) <|
            ba_lt (ba_w s 23 (ba_ix (4 * (s.1 0 29))) a1) fun s992 =>
            ba_grd (ba_inb ((4 * (s992.1 0 29)) + 1) 32) <|
            ba_lt (ba_w s992 23 (ba_ix ((4 * (s992.1 0 29)) + 1)) a2) fun s993 =>
            ba_grd (ba_inb ((4 * (s993.1 0 29)) + 2) 32) <|
            ba_lt (ba_w s993 23 (ba_ix ((4 * (s993.1 0 29)) + 2)) a3) fun s994 =>
            ba_grd (ba_inb ((4 * (s994.1 0 29)) + 3) 32) <|
            ba_lt (ba_w s994 23 (ba_ix ((4 * (s994.1 0 29)) + 3)) a4) fun s995 =>
            ba_lt (ba_w s995 0 29 ((s995.1 0 29) + 1)) fun s996 =>
            some ((s996.1 0 29), s996)
set_option maxHeartbeats 4000000 in
set_option maxRecDepth 100000 in
theorem ym_seen {w : ba_W} (hj : ba_inj ba_tM w) (l : Launch) {s : ba_St} {a1 : Int32} {a2 : Int32} {a3 : Int32} {a4 : Int32} {o : Int32 × ba_St} (h : xm_seen s a1 a2 a3 a4 = some o) : ba_CI ba_tM w l yX6_seen cX6_seen 5 (some .int) rm_m_seen [.ref (w.1 0), .int a1, .int a2, .int a3, .int a4] s o := by
  refine ba_metI (lv := [(0, .ref (w.1 0)), (1, .int a1), (2, .int a2), (3, .int a3), (4, .int a4)]) l hj (by decide +kernel) ⟨Nat.le_of_ble_eq_true rfl, rfl⟩ ?_
  intro X V RT
  unfold xm_seen at h
  refine ba_iload_n V dX6_seen_0 1 rfl ?_
  obtain ⟨v988, hc, h⟩ := ba_bnd_some h
  refine ba_callSI (As := [.int a1]) (st := []) V dX6_seen_1 kcX6_177 (fun l => ym_isTick V.inj l hc) ⟨rfl, rfl⟩ ⟨rfl, rfl, Nat.le_of_ble_eq_true rfl, Nat.le_of_ble_eq_true rfl⟩ (Nat.le_of_ble_eq_true rfl) ?_
  refine ba_if_eq V dX6_seen_4 rfl h (fun h => ?_) (fun h => ?_)
  · refine ba_bipush V dX6_seen_39 ba_cm2b ?_
    exact RT _ _ _ _ dX6_seen_41 (Option.some.inj h)
  · refine ba_iload_n V dX6_seen_7 2 rfl ?_
    refine ba_i2l V dX6_seen_8 ?_
    refine ba_lconst V dX6_seen_9 rfl ?_
    refine ba_ldc2 V dX6_seen_10 kkX6_248 ?_
    obtain ⟨v989, hc, h⟩ := ba_bnd_some h
    refine ba_callSI (As := [.long (Int32.toInt64 a2), .long 0, .long 7]) (st := []) V dX6_seen_13 kcX6_88 (fun l => ym_in V.inj l hc) ⟨rfl, rfl⟩ ⟨rfl, rfl, Nat.le_of_ble_eq_true rfl, Nat.le_of_ble_eq_true rfl⟩ (Nat.le_of_ble_eq_true rfl) ?_
    refine ba_if_eq V dX6_seen_16 rfl h (fun h => ?_) (fun h => ?_)
    · refine ba_bipush V dX6_seen_39 ba_cm2b ?_
      exact RT _ _ _ _ dX6_seen_41 (Option.some.inj h)
    · refine ba_iload_n V dX6_seen_19 3 rfl ?_
      obtain ⟨v990, hc, h⟩ := ba_bnd_some h
      refine ba_callSI (As := [.int a3]) (st := []) V dX6_seen_20 kcX6_190 (fun l => ym_isColumn V.inj l hc) ⟨rfl, rfl⟩ ⟨rfl, rfl, Nat.le_of_ble_eq_true rfl, Nat.le_of_ble_eq_true rfl⟩ (Nat.le_of_ble_eq_true rfl) ?_
      refine ba_if_eq V dX6_seen_23 rfl h (fun h => ?_) (fun h => ?_)
      · refine ba_bipush V dX6_seen_39 ba_cm2b ?_
        exact RT _ _ _ _ dX6_seen_41 (Option.some.inj h)
      · refine ba_iload V dX6_seen_26 4 rfl ?_
        refine ba_i2l V dX6_seen_28 ?_
        refine ba_lconst V dX6_seen_29 rfl ?_
        refine ba_ldc2 V dX6_seen_30 kkX6_292 ?_
        obtain ⟨v991, hc, h⟩ := ba_bnd_some h
        refine ba_callSI (As := [.long (Int32.toInt64 a4), .long 0, .long 12]) (st := []) V dX6_seen_33 kcX6_88 (fun l => ym_in V.inj l hc) ⟨rfl, rfl⟩ ⟨rfl, rfl, Nat.le_of_ble_eq_true rfl, Nat.le_of_ble_eq_true rfl⟩ (Nat.le_of_ble_eq_true rfl) ?_
        refine ba_if_ne V dX6_seen_36 rfl h (fun h => ?_) (fun h => ?_)
        · refine ba_bipush V dX6_seen_39 ba_cm2b ?_
          exact RT _ _ _ _ dX6_seen_41 (Option.some.inj h)
        · refine ba_aload_n V dX6_seen_42 0 rfl ?_
          refine ba_getI V dX6_seen_43 kfX6_294 ba_sModel rfl ?_
          refine ba_bipush V dX6_seen_46 ba_c8b ?_
          refine ba_icmp_ne V dX6_seen_48 rfl h (fun h => ?_) (fun h => ?_)
          · refine ba_bipush V dX6_seen_51 ba_cm4b ?_
            exact RT _ _ _ _ dX6_seen_53 (Option.some.inj h)
          · refine ba_aload_n V dX6_seen_54 0 rfl ?_
            refine ba_getR V dX6_seen_55 kfX6_76 ba_sModel rfl ?_
            refine ba_iconst V dX6_seen_58 ba_c4 ?_
            refine ba_aload_n V dX6_seen_59 0 rfl ?_
            refine ba_getI V dX6_seen_60 kfX6_294 ba_sModel rfl ?_
            refine ba_imul V dX6_seen_63 ?_
            refine ba_iload_n V dX6_seen_64 1 rfl ?_
            refine ba_iast V dX6_seen_65 ba_sM_23 h (fun s992 h => ?_)
            refine ba_aload_n V dX6_seen_66 0 rfl ?_
            refine ba_getR V dX6_seen_67 kfX6_76 ba_sModel rfl ?_
            refine ba_iconst V dX6_seen_70 ba_c4 ?_
            refine ba_aload_n V dX6_seen_71 0 rfl ?_
            refine ba_getI V dX6_seen_72 kfX6_294 ba_sModel rfl ?_
            refine ba_imul V dX6_seen_75 ?_
            refine ba_iconst V dX6_seen_76 ba_c1 ?_
            refine ba_iadd V dX6_seen_77 ?_
            refine ba_iload_n V dX6_seen_78 2 rfl ?_
            refine ba_iast V dX6_seen_79 ba_sM_23 h (fun s993 h => ?_)
            refine ba_aload_n V dX6_seen_80 0 rfl ?_
            refine ba_getR V dX6_seen_81 kfX6_76 ba_sModel rfl ?_
            refine ba_iconst V dX6_seen_84 ba_c4 ?_
            refine ba_aload_n V dX6_seen_85 0 rfl ?_
            refine ba_getI V dX6_seen_86 kfX6_294 ba_sModel rfl ?_
            refine ba_imul V dX6_seen_89 ?_
            refine ba_iconst V dX6_seen_90 ba_c2 ?_
            refine ba_iadd V dX6_seen_91 ?_
            refine ba_iload_n V dX6_seen_92 3 rfl ?_
            refine ba_iast V dX6_seen_93 ba_sM_23 h (fun s994 h => ?_)
            refine ba_aload_n V dX6_seen_94 0 rfl ?_
            refine ba_getR V dX6_seen_95 kfX6_76 ba_sModel rfl ?_
            refine ba_iconst V dX6_seen_98 ba_c4 ?_
            refine ba_aload_n V dX6_seen_99 0 rfl ?_
            refine ba_getI V dX6_seen_100 kfX6_294 ba_sModel rfl ?_
            refine ba_imul V dX6_seen_103 ?_
            refine ba_iconst V dX6_seen_104 ba_c3 ?_
            refine ba_iadd V dX6_seen_105 ?_
            refine ba_iload V dX6_seen_106 4 rfl ?_
            refine ba_iast V dX6_seen_108 ba_sM_23 h (fun s995 h => ?_)
            refine ba_aload_n V dX6_seen_109 0 rfl ?_
            refine ba_dup V dX6_seen_110 rfl ?_
            refine ba_getI V dX6_seen_111 kfX6_294 ba_sModel rfl ?_
            refine ba_iconst V dX6_seen_114 ba_c1 ?_
            refine ba_iadd V dX6_seen_115 ?_
            refine ba_putI V dX6_seen_116 kfX6_294 ba_sModel rfl h (fun s996 h => ?_)
            refine ba_aload_n V dX6_seen_119 0 rfl ?_
            refine ba_getI V dX6_seen_120 kfX6_294 ba_sModel rfl ?_
            exact RT _ _ _ _ dX6_seen_123 (Option.some.inj h)
def xm_forget (s : ba_St) : Option (Int32 × ba_St) :=
  ba_lt (s.1 0 29) fun x997 =>
  ba_lt (ba_w s 0 29 0) fun s998 =>
  some (x997, s998)
set_option maxHeartbeats 4000000 in
set_option maxRecDepth 100000 in
theorem ym_forget {w : ba_W} (hj : ba_inj ba_tM w) (l : Launch) {s : ba_St} {o : Int32 × ba_St} (h : xm_forget s = some o) : ba_CI ba_tM w l yX6_forget cX6_forget 2 (some .int) rm_m_forget [.ref (w.1 0)] s o := by
  refine ba_metI (lv := [(0, .ref (w.1 0))]) l hj (by decide +kernel) ⟨Nat.le_of_ble_eq_true rfl, rfl⟩ ?_
  intro X V RT
  unfold xm_forget at h
  refine ba_aload_n V dX6_forget_0 0 rfl ?_
  refine ba_getI V dX6_forget_1 kfX6_294 ba_sModel rfl ?_
  refine ba_letI h (fun x997 h => ?_)
  refine ba_istore_n (lv' := [(1, .int x997), (0, .ref (w.1 0))]) V dX6_forget_4 (by decide) rfl ?_
  refine ba_aload_n V dX6_forget_5 1 rfl ?_
  refine ba_iconst V dX6_forget_6 ba_c0 ?_
  refine ba_putI V dX6_forget_7 kfX6_294 ba_sModel rfl h (fun s998 h => ?_)
  refine ba_iload_n V dX6_forget_10 0 rfl ?_
  exact RT _ _ _ _ dX6_forget_11 (Option.some.inj h)
def xm_isSeen_j81_8 (k : (Int32 × Int32) → Option (Int32)) (s : ba_St) (z2 : Int32) : Option (Int32) :=
  ba_lt (z2 + 1) fun x1001 =>
  k (0, x1001)
set_option maxHeartbeats 4000000 in
set_option maxRecDepth 100000 in
theorem ym_isSeen_j81_8 {w : ba_W} {X : ba_X} (V : ba_V ba_tM w 4 X cX6_isSeen RX6 rm_m_isSeen) {s : ba_St} {z2 : Int32} {o : Int32} {k : (Int32 × Int32) → Option (Int32)} (hk : ∀ (z1 : Int32) (z2 : Int32), k (z1, z2) = some o → ba_G ba_tM w 4 X s 8 [(0, .ref (w.1 0)), (1, .int z1), (2, .int z2)] []) (EX : ∀ (z1 : Int32), z1 = o → ba_G ba_tM w 4 X s 89 [(1, .int z1)] []) (h : xm_isSeen_j81_8 k s z2 = some o) : ba_G ba_tM w 4 X s 81 [(0, .ref (w.1 0)), (2, .int z2)] [] := by
  unfold xm_isSeen_j81_8 at h
  refine ba_iconst V dX6_isSeen_81 ba_c0 ?_
  refine ba_istore_n (lv' := [(1, .int 0), (0, .ref (w.1 0)), (2, .int z2)]) V dX6_isSeen_82 (by decide) rfl ?_
  refine ba_iinc V dX6_isSeen_83 2 rfl ba_c1 (by decide) h (fun x1001 h => ⟨[(2, .int x1001), (1, .int 0), (0, .ref (w.1 0))], rfl, ?_⟩)
  refine ba_goto V dX6_isSeen_86 rfl ?_
  exact ba_sub [2, 1, 0] rfl (hk _ _ h)
def xm_isSeen_j74_8 (k : (Int32 × Int32) → Option (Int32)) (s : ba_St) (z2 : Int32) (q0 : Int32) (q1 : Int32) : Option (Int32) :=
  if q1 = q0 then
    ba_lt (z2 + 1) fun x1003 =>
    k (1, x1003)
  else
    xm_isSeen_j81_8 k s z2
set_option maxHeartbeats 4000000 in
set_option maxRecDepth 100000 in
theorem ym_isSeen_j74_8 {w : ba_W} {X : ba_X} (V : ba_V ba_tM w 4 X cX6_isSeen RX6 rm_m_isSeen) {s : ba_St} {z2 : Int32} {q0 : Int32} {q1 : Int32} {o : Int32} {k : (Int32 × Int32) → Option (Int32)} (hk : ∀ (z1 : Int32) (z2 : Int32), k (z1, z2) = some o → ba_G ba_tM w 4 X s 8 [(0, .ref (w.1 0)), (1, .int z1), (2, .int z2)] []) (EX : ∀ (z1 : Int32), z1 = o → ba_G ba_tM w 4 X s 89 [(1, .int z1)] []) (h : xm_isSeen_j74_8 k s z2 q0 q1 = some o) : ba_G ba_tM w 4 X s 74 [(0, .ref (w.1 0)), (2, .int z2)] [.int q0, .int q1] := by
  unfold xm_isSeen_j74_8 at h
  refine ba_icmp_ne V dX6_isSeen_74 rfl h (fun h => ?_) (fun h => ?_)
  · refine ba_iconst V dX6_isSeen_77 ba_c1 ?_
    refine ba_goto V dX6_isSeen_78 rfl ?_
    refine ba_istore_n (lv' := [(1, .int 1), (0, .ref (w.1 0)), (2, .int z2)]) V dX6_isSeen_82 (by decide) rfl ?_
    refine ba_iinc V dX6_isSeen_83 2 rfl ba_c1 (by decide) h (fun x1003 h => ⟨[(2, .int x1003), (1, .int 1), (0, .ref (w.1 0))], rfl, ?_⟩)
    refine ba_goto V dX6_isSeen_86 rfl ?_
    exact ba_sub [2, 1, 0] rfl (hk _ _ h)
  · exact ba_sub [0, 1] rfl (ym_isSeen_j81_8 V hk EX h)
def xm_isSeen_l8 (s : ba_St) (k : (Int32 × Int32) → Option (Int32)) (a : (Int32 × Int32)) : Option (Int32) :=
  match a with
  | (z1, z2) =>
    if (s.1 0 29) ≤ z2 then
      some z1
    else
      ba_grd (ba_inb ((4 * z2) + 3) 32) <|
      ba_lt (s.1 23 (ba_ix ((4 * z2) + 3))) fun x1000 =>
      if z1 = 0 then
        xm_isSeen_j81_8 k s z2
      else
        ba_grd (ba_inb (4 * z2) 32) <|
        ba_grd (ba_inb ((4 * z2) + 1) 32) <|
        ba_grd (ba_inb ((4 * z2) + 2) 32) <|
        ba_bnd (xm_seesBy s (s.1 23 (ba_ix (4 * z2))) (s.1 23 (ba_ix ((4 * z2) + 1))) (s.1 23 (ba_ix ((4 * z2) + 2)))) fun v1002 =>
        if x1000 = 12 then
          xm_isSeen_j74_8 k s z2 (-1) v1002
        else
          xm_isSeen_j74_8 k s z2 x1000 v1002
set_option maxHeartbeats 4000000 in
set_option maxRecDepth 100000 in
theorem ym_isSeen_l8 {w : ba_W} {X : ba_X} (V : ba_V ba_tM w 4 X cX6_isSeen RX6 rm_m_isSeen) {s : ba_St} {o : Int32} (EX : ∀ (z1 : Int32), z1 = o → ba_G ba_tM w 4 X s 89 [(1, .int z1)] []) : ∀ (n : Nat) (z1 : Int32) (z2 : Int32), ba_fix (xm_isSeen_l8 s) n (z1, z2) = some o → ba_G ba_tM w 4 X s 8 [(0, .ref (w.1 0)), (1, .int z1), (2, .int z2)] [] := by
  intro n z1 z2 h
  refine ba_loop (P := fun a => ba_G ba_tM w 4 X s 8 [(0, .ref (w.1 0)), (1, .int a.1), (2, .int a.2)] []) ?_ n (z1, z2) h
  intro k hk0 a h
  obtain ⟨z1, z2⟩ := a
  have hk : ∀ (z1 : Int32) (z2 : Int32), k (z1, z2) = some o → ba_G ba_tM w 4 X s 8 [(0, .ref (w.1 0)), (1, .int z1), (2, .int z2)] [] := fun z1 z2 e => hk0 (z1, z2) e
  unfold xm_isSeen_l8 at h
  try dsimp only at h ⊢
  refine ba_iload_n V dX6_isSeen_8 2 rfl ?_
  refine ba_aload_n V dX6_isSeen_9 0 rfl ?_
  refine ba_getI V dX6_isSeen_10 kfX6_294 ba_sModel rfl ?_
  refine ba_icmp_ge V dX6_isSeen_13 rfl h (fun h => ?_) (fun h => ?_)
  · exact ba_sub [1] rfl (EX _ (Option.some.inj h))
  · refine ba_aload_n V dX6_isSeen_16 0 rfl ?_
    refine ba_getR V dX6_isSeen_17 kfX6_76 ba_sModel rfl ?_
    refine ba_iconst V dX6_isSeen_20 ba_c4 ?_
    refine ba_iload_n V dX6_isSeen_21 2 rfl ?_
    refine ba_imul V dX6_isSeen_22 ?_
    refine ba_iconst V dX6_isSeen_23 ba_c3 ?_
    refine ba_iadd V dX6_isSeen_24 ?_
    refine ba_iald V dX6_isSeen_25 ba_sM_23 h (fun h => ?_)
    refine ba_letI h (fun x1000 h => ?_)
    refine ba_istore_n (lv' := [(3, .int x1000), (0, .ref (w.1 0)), (1, .int z1), (2, .int z2)]) V dX6_isSeen_26 (by decide) rfl ?_
    refine ba_iload_n V dX6_isSeen_27 2 rfl ?_
    refine ba_if_eq V dX6_isSeen_28 rfl h (fun h => ?_) (fun h => ?_)
    · exact ba_sub [1, 3] rfl (ym_isSeen_j81_8 V hk EX h)
    · refine ba_aload_n V dX6_isSeen_31 1 rfl ?_
      refine ba_aload_n V dX6_isSeen_32 1 rfl ?_
      refine ba_getR V dX6_isSeen_33 kfX6_76 ba_sModel rfl ?_
      refine ba_iconst V dX6_isSeen_36 ba_c4 ?_
      refine ba_iload_n V dX6_isSeen_37 3 rfl ?_
      refine ba_imul V dX6_isSeen_38 ?_
      refine ba_iald V dX6_isSeen_39 ba_sM_23 h (fun h => ?_)
      refine ba_aload_n V dX6_isSeen_40 1 rfl ?_
      refine ba_getR V dX6_isSeen_41 kfX6_76 ba_sModel rfl ?_
      refine ba_iconst V dX6_isSeen_44 ba_c4 ?_
      refine ba_iload_n V dX6_isSeen_45 3 rfl ?_
      refine ba_imul V dX6_isSeen_46 ?_
      refine ba_iconst V dX6_isSeen_47 ba_c1 ?_
      refine ba_iadd V dX6_isSeen_48 ?_
      refine ba_iald V dX6_isSeen_49 ba_sM_23 h (fun h => ?_)
      refine ba_aload_n V dX6_isSeen_50 1 rfl ?_
      refine ba_getR V dX6_isSeen_51 kfX6_76 ba_sModel rfl ?_
      refine ba_iconst V dX6_isSeen_54 ba_c4 ?_
      refine ba_iload_n V dX6_isSeen_55 3 rfl ?_
      refine ba_imul V dX6_isSeen_56 ?_
      refine ba_iconst V dX6_isSeen_57 ba_c2 ?_
      refine ba_iadd V dX6_isSeen_58 ?_
      refine ba_iald V dX6_isSeen_59 ba_sM_23 h (fun h => ?_)
      obtain ⟨v1002, hc, h⟩ := ba_bnd_some h
      refine ba_callVI (As := [.int (s.1 23 (ba_ix (4 * z2))), .int (s.1 23 (ba_ix ((4 * z2) + 1))), .int (s.1 23 (ba_ix ((4 * z2) + 2)))]) (st := []) V dX6_isSeen_60 kcX6_250 ba_sModel (fun l => ym_seesBy V.inj l hc) ⟨rfl, rfl⟩ ⟨rfl, rfl, Nat.le_of_ble_eq_true rfl, Nat.le_of_ble_eq_true rfl⟩ (Nat.le_of_ble_eq_true rfl) ?_
      refine ba_iload_n V dX6_isSeen_63 0 rfl ?_
      refine ba_bipush V dX6_isSeen_64 ba_c12b ?_
      refine ba_icmp_ne V dX6_isSeen_66 rfl h (fun h => ?_) (fun h => ?_)
      · refine ba_iconst V dX6_isSeen_69 ba_cm1 ?_
        refine ba_goto V dX6_isSeen_70 rfl ?_
        exact ba_sub [1, 3] rfl (ym_isSeen_j74_8 V hk EX h)
      · refine ba_iload_n V dX6_isSeen_73 0 rfl ?_
        exact ba_sub [1, 3] rfl (ym_isSeen_j74_8 V hk EX h)
def xm_isSeen (s : ba_St) : Option (Int32 × ba_St) :=
  ba_bnd (xm_lives s) fun s999 =>
  ba_bnd (ba_fix (xm_isSeen_l8 s999) 1000 (1, 0)) fun x1004 =>
    ba_grd (ba_bool x1004) <|
    some (x1004, s999)
set_option maxHeartbeats 4000000 in
set_option maxRecDepth 100000 in
theorem ym_isSeen {w : ba_W} (hj : ba_inj ba_tM w) (l : Launch) {s : ba_St} {o : Int32 × ba_St} (h : xm_isSeen s = some o) : ba_CI ba_tM w l yX6_isSeen cX6_isSeen 4 (some .boolean) rm_m_isSeen [.ref (w.1 0)] s o := by
  refine ba_metZ (lv := [(0, .ref (w.1 0))]) l hj (by decide +kernel) ⟨Nat.le_of_ble_eq_true rfl, rfl⟩ ?_
  intro X V RT
  unfold xm_isSeen at h
  refine ba_aload_n V dX6_isSeen_0 0 rfl ?_
  obtain ⟨s999, hc, h⟩ := ba_bnd_some h
  refine ba_callVV (As := []) (st := []) V dX6_isSeen_1 kcX6_236 ba_sModel (fun l => ym_lives V.inj l hc) ⟨rfl, rfl⟩ ⟨rfl, rfl, Nat.le_of_ble_eq_true rfl, Nat.le_of_ble_eq_true rfl⟩ (Nat.le_of_ble_eq_true rfl) ?_
  refine ba_iconst V dX6_isSeen_4 ba_c1 ?_
  refine ba_istore_n (lv' := [(1, .int 1), (0, .ref (w.1 0))]) V dX6_isSeen_5 (by decide) rfl ?_
  refine ba_iconst V dX6_isSeen_6 ba_c0 ?_
  refine ba_istore_n (lv' := [(2, .int 0), (1, .int 1), (0, .ref (w.1 0))]) V dX6_isSeen_7 (by decide) rfl ?_
  obtain ⟨o, ho, h⟩ := ba_bnd_some h
  refine ba_sub [2, 1, 0] rfl (ym_isSeen_l8 V (o := o) (fun x1004 e => ?_) 1000 1 0 ho)
  subst e
  try dsimp only at h
  refine ba_iload_n V dX6_isSeen_89 0 rfl ?_
  refine ba_guard h (fun z h => ?_)
  exact RT _ _ _ _ dX6_isSeen_90 (ba_boolY z) (Option.some.inj h)
def xm_neverNow_j34_4 (k : (ba_St × Int32 × Int32) → Option (ba_St × Int32)) (s : ba_St) (z2 : Int32) (q0 : Int32) (q1 : Int32) : Option (ba_St × Int32) :=
  ba_lt (q1 ||| q0) fun x1008 =>
  ba_lt (z2 + 1) fun x1009 =>
  k (s, x1008, x1009)
set_option maxHeartbeats 4000000 in
set_option maxRecDepth 100000 in
theorem ym_neverNow_j34_4 {w : ba_W} {X : ba_X} (V : ba_V ba_tM w 3 X cX6_neverNow RX6 rm_m_neverNow) {s : ba_St} {z2 : Int32} {q0 : Int32} {q1 : Int32} {o : ba_St × Int32} {k : (ba_St × Int32 × Int32) → Option (ba_St × Int32)} (hk : ∀ (s : ba_St) (z1 : Int32) (z2 : Int32), k (s, z1, z2) = some o → ba_G ba_tM w 3 X s 4 [(0, .ref (w.1 0)), (1, .int z1), (2, .int z2)] []) (EX : ∀ (s : ba_St) (z1 : Int32), (s, z1) = o → ba_G ba_tM w 3 X s 42 [(0, .ref (w.1 0)), (1, .int z1)] []) (h : xm_neverNow_j34_4 k s z2 q0 q1 = some o) : ba_G ba_tM w 3 X s 34 [(0, .ref (w.1 0)), (2, .int z2)] [.int q0, .int q1] := by
  unfold xm_neverNow_j34_4 at h
  refine ba_ior V dX6_neverNow_34 ?_
  refine ba_letI h (fun x1008 h => ?_)
  refine ba_istore_n (lv' := [(1, .int x1008), (0, .ref (w.1 0)), (2, .int z2)]) V dX6_neverNow_35 (by decide) rfl ?_
  refine ba_iinc V dX6_neverNow_36 2 rfl ba_c1 (by decide) h (fun x1009 h => ⟨[(2, .int x1009), (1, .int x1008), (0, .ref (w.1 0))], rfl, ?_⟩)
  refine ba_goto V dX6_neverNow_39 rfl ?_
  exact ba_sub [2, 1, 0] rfl (hk _ _ _ h)
def xm_neverNow_l4 (k : (ba_St × Int32 × Int32) → Option (ba_St × Int32)) (a : (ba_St × Int32 × Int32)) : Option (ba_St × Int32) :=
  match a with
  | (s, z1, z2) =>
    if (s.1 0 13) ≤ z2 then
      some (s, z1)
    else
      ba_lt (ba_w s 0 15 (ba_fishl 1 z2)) fun s1005 =>
      ba_bn2 (xm_isSeen s1005) fun v1006 s1007 =>
      if v1006 = 0 then
        xm_neverNow_j34_4 k s1007 z2 0 z1
      else
        xm_neverNow_j34_4 k s1007 z2 (ba_fishl 1 z2) z1
set_option maxHeartbeats 4000000 in
set_option maxRecDepth 100000 in
theorem ym_neverNow_l4 {w : ba_W} {X : ba_X} (V : ba_V ba_tM w 3 X cX6_neverNow RX6 rm_m_neverNow) {o : ba_St × Int32} (EX : ∀ (s : ba_St) (z1 : Int32), (s, z1) = o → ba_G ba_tM w 3 X s 42 [(0, .ref (w.1 0)), (1, .int z1)] []) : ∀ (n : Nat) (s : ba_St) (z1 : Int32) (z2 : Int32), ba_fix (xm_neverNow_l4) n (s, z1, z2) = some o → ba_G ba_tM w 3 X s 4 [(0, .ref (w.1 0)), (1, .int z1), (2, .int z2)] [] := by
  intro n s z1 z2 h
  refine ba_loop (P := fun a => ba_G ba_tM w 3 X a.1 4 [(0, .ref (w.1 0)), (1, .int a.2.1), (2, .int a.2.2)] []) ?_ n (s, z1, z2) h
  intro k hk0 a h
  obtain ⟨s, z1, z2⟩ := a
  have hk : ∀ (s : ba_St) (z1 : Int32) (z2 : Int32), k (s, z1, z2) = some o → ba_G ba_tM w 3 X s 4 [(0, .ref (w.1 0)), (1, .int z1), (2, .int z2)] [] := fun s z1 z2 e => hk0 (s, z1, z2) e
  unfold xm_neverNow_l4 at h
  try dsimp only at h ⊢
  refine ba_iload_n V dX6_neverNow_4 2 rfl ?_
  refine ba_aload_n V dX6_neverNow_5 0 rfl ?_
  refine ba_getI V dX6_neverNow_6 kfX6_182 ba_sModel rfl ?_
  refine ba_icmp_ge V dX6_neverNow_9 rfl h (fun h => ?_) (fun h => ?_)
  · exact ba_sub [0, 1] rfl (EX _ _ (Option.some.inj h))
  · refine ba_aload_n V dX6_neverNow_12 0 rfl ?_
    refine ba_iconst V dX6_neverNow_13 ba_c1 ?_
    refine ba_iload_n V dX6_neverNow_14 2 rfl ?_
    refine ba_ishl V dX6_neverNow_15 ?_
    refine ba_putI V dX6_neverNow_16 kfX6_193 ba_sModel rfl h (fun s1005 h => ?_)
    refine ba_iload_n V dX6_neverNow_19 1 rfl ?_
    refine ba_aload_n V dX6_neverNow_20 0 rfl ?_
    obtain ⟨v1006, s1007, hc, h⟩ := ba_bn2_some h
    refine ba_callVI (As := []) (st := [.int z1]) V dX6_neverNow_21 kcX6_297 ba_sModel (fun l => ym_isSeen V.inj l hc) ⟨rfl, rfl⟩ ⟨rfl, rfl, Nat.le_of_ble_eq_true rfl, Nat.le_of_ble_eq_true rfl⟩ (Nat.le_of_ble_eq_true rfl) ?_
    refine ba_if_eq V dX6_neverNow_24 rfl h (fun h => ?_) (fun h => ?_)
    · refine ba_iconst V dX6_neverNow_33 ba_c0 ?_
      exact ba_sub [0, 2] rfl (ym_neverNow_j34_4 V hk EX h)
    · refine ba_iconst V dX6_neverNow_27 ba_c1 ?_
      refine ba_iload_n V dX6_neverNow_28 2 rfl ?_
      refine ba_ishl V dX6_neverNow_29 ?_
      refine ba_goto V dX6_neverNow_30 rfl ?_
      exact ba_sub [0, 2] rfl (ym_neverNow_j34_4 V hk EX h)
def xm_neverNow (s : ba_St) : Option (Int32 × ba_St) :=
  ba_bnd (ba_fix (xm_neverNow_l4) 1000 (s, 0, 0)) fun o => match o with
  | (s1010, x1011) =>
    ba_lt (ba_w s1010 0 15 0) fun s1012 =>
    some (x1011, s1012)
set_option maxHeartbeats 4000000 in
set_option maxRecDepth 100000 in
theorem ym_neverNow {w : ba_W} (hj : ba_inj ba_tM w) (l : Launch) {s : ba_St} {o : Int32 × ba_St} (h : xm_neverNow s = some o) : ba_CI ba_tM w l yX6_neverNow cX6_neverNow 3 (some .int) rm_m_neverNow [.ref (w.1 0)] s o := by
  refine ba_metI (lv := [(0, .ref (w.1 0))]) l hj (by decide +kernel) ⟨Nat.le_of_ble_eq_true rfl, rfl⟩ ?_
  intro X V RT
  unfold xm_neverNow at h
  refine ba_iconst V dX6_neverNow_0 ba_c0 ?_
  refine ba_istore_n (lv' := [(1, .int 0), (0, .ref (w.1 0))]) V dX6_neverNow_1 (by decide) rfl ?_
  refine ba_iconst V dX6_neverNow_2 ba_c0 ?_
  refine ba_istore_n (lv' := [(2, .int 0), (1, .int 0), (0, .ref (w.1 0))]) V dX6_neverNow_3 (by decide) rfl ?_
  obtain ⟨o, ho, h⟩ := ba_bnd_some h
  refine ba_sub [2, 1, 0] rfl (ym_neverNow_l4 V (o := o) (fun s1010 x1011 e => ?_) 1000 s 0 0 ho)
  subst e
  try dsimp only at h
  refine ba_aload_n V dX6_neverNow_42 0 rfl ?_
  refine ba_iconst V dX6_neverNow_43 ba_c0 ?_
  refine ba_putI V dX6_neverNow_44 kfX6_193 ba_sModel rfl h (fun s1012 h => ?_)
  refine ba_iload_n V dX6_neverNow_47 1 rfl ?_
  exact RT _ _ _ _ dX6_neverNow_48 (Option.some.inj h)
def xm_never (s : ba_St) : Option (Int32 × ba_St) :=
  ba_bnd (xm_find s) fun s1013 =>
  ba_bn2 (xm_neverNow s1013) fun v1014 s1015 =>
  some (v1014, s1015)
set_option maxHeartbeats 4000000 in
set_option maxRecDepth 100000 in
theorem ym_never {w : ba_W} (hj : ba_inj ba_tM w) (l : Launch) {s : ba_St} {o : Int32 × ba_St} (h : xm_never s = some o) : ba_CI ba_tM w l yX6_never cX6_never 1 (some .int) rm_m_never [.ref (w.1 0)] s o := by
  refine ba_metI (lv := [(0, .ref (w.1 0))]) l hj (by decide +kernel) ⟨Nat.le_of_ble_eq_true rfl, rfl⟩ ?_
  intro X V RT
  unfold xm_never at h
  refine ba_aload_n V dX6_never_0 0 rfl ?_
  obtain ⟨s1013, hc, h⟩ := ba_bnd_some h
  refine ba_callVV (As := []) (st := []) V dX6_never_1 kcX6_239 ba_sModel (fun l => ym_find V.inj l hc) ⟨rfl, rfl⟩ ⟨rfl, rfl, Nat.le_of_ble_eq_true rfl, Nat.le_of_ble_eq_true rfl⟩ (Nat.le_of_ble_eq_true rfl) ?_
  refine ba_aload_n V dX6_never_4 0 rfl ?_
  obtain ⟨v1014, s1015, hc, h⟩ := ba_bn2_some h
  refine ba_callVI (As := []) (st := []) V dX6_never_5 kcX6_301 ba_sModel (fun l => ym_neverNow V.inj l hc) ⟨rfl, rfl⟩ ⟨rfl, rfl, Nat.le_of_ble_eq_true rfl, Nat.le_of_ble_eq_true rfl⟩ (Nat.le_of_ble_eq_true rfl) ?_
  exact RT _ _ _ _ dX6_never_8 (Option.some.inj h)
def xm_forcesOf_j111_56 (k : (ba_St × Int32) → Option (ba_St)) (s : ba_St) (z1 : Int32) (z2 : Int32) (z3 : Int32) (z4 : Int32) (z5 : Int32) (q0 : Int32) (q1 : Int32) : Option (ba_St) :=
  ba_grd (ba_inb q1 2880) <|
  ba_lt (ba_w s 24 (ba_ix q1) q0) fun s1021 =>
  ba_lt (z5 + 1) fun x1022 =>
  k (s1021, x1022)
set_option maxHeartbeats 4000000 in
set_option maxRecDepth 100000 in
theorem ym_forcesOf_j111_56 {w : ba_W} {X : ba_X} (V : ba_V ba_tM w 6 X cX6_forcesOf RX6 rm_m_forcesOf) {s : ba_St} {z1 : Int32} {z2 : Int32} {z3 : Int32} {z4 : Int32} {z5 : Int32} {q0 : Int32} {q1 : Int32} {o : ba_St} {k : (ba_St × Int32) → Option (ba_St)} (hk : ∀ (s : ba_St) (z5 : Int32), k (s, z5) = some o → ba_G ba_tM w 6 X s 56 [(0, .ref (w.1 0)), (1, .int z1), (2, .int z2), (3, .int z3), (4, .int z4), (5, .int z5)] []) (EX : ∀ (s : ba_St) , s = o → ba_G ba_tM w 6 X s 118 [(0, .ref (w.1 0)), (1, .int z1), (2, .int z2), (3, .int z3), (4, .int z4)] []) (h : xm_forcesOf_j111_56 k s z1 z2 z3 z4 z5 q0 q1 = some o) : ba_G ba_tM w 6 X s 111 [(0, .ref (w.1 0)), (1, .int z1), (2, .int z2), (3, .int z3), (4, .int z4), (5, .int z5)] [.int q0, .int q1, .ref (w.1 24)] := by
  unfold xm_forcesOf_j111_56 at h
  refine ba_iast V dX6_forcesOf_111 ba_sM_24 h (fun s1021 h => ?_)
  refine ba_iinc V dX6_forcesOf_112 5 rfl ba_c1 (by decide) h (fun x1022 h => ⟨[(5, .int x1022), (0, .ref (w.1 0)), (1, .int z1), (2, .int z2), (3, .int z3), (4, .int z4)], rfl, ?_⟩)
  refine ba_goto V dX6_forcesOf_115 rfl ?_
  exact ba_sub [1, 2, 3, 4, 5, 0] rfl (hk _ _ h)
def xm_forcesOf_l56 (z1 : Int32) (z2 : Int32) (z3 : Int32) (z4 : Int32) (k : (ba_St × Int32) → Option (ba_St)) (a : (ba_St × Int32)) : Option (ba_St) :=
  match a with
  | (s, z5) =>
    if 288 ≤ z5 then
      some s
    else
      if (s.1 0 10) ≤ (ba_irm z5 12) then
        xm_forcesOf_j111_56 k s z1 z2 z3 z4 z5 0 ((288 * z4) + z5)
      else
        ba_grd (ba_inb z5 288) <|
        ba_grd (ba_inb z5 288) <|
        xm_forcesOf_j111_56 k s z1 z2 z3 z4 z5 ((10 * (s.1 21 (ba_ix z5))) + (s.1 22 (ba_ix z5))) ((288 * z4) + z5)
set_option maxHeartbeats 4000000 in
set_option maxRecDepth 100000 in
theorem ym_forcesOf_l56 {w : ba_W} {X : ba_X} (V : ba_V ba_tM w 6 X cX6_forcesOf RX6 rm_m_forcesOf) {z1 : Int32} {z2 : Int32} {z3 : Int32} {z4 : Int32} {o : ba_St} (EX : ∀ (s : ba_St) , s = o → ba_G ba_tM w 6 X s 118 [(0, .ref (w.1 0)), (1, .int z1), (2, .int z2), (3, .int z3), (4, .int z4)] []) : ∀ (n : Nat) (s : ba_St) (z5 : Int32), ba_fix (xm_forcesOf_l56 z1 z2 z3 z4) n (s, z5) = some o → ba_G ba_tM w 6 X s 56 [(0, .ref (w.1 0)), (1, .int z1), (2, .int z2), (3, .int z3), (4, .int z4), (5, .int z5)] [] := by
  intro n s z5 h
  refine ba_loop (P := fun a => ba_G ba_tM w 6 X a.1 56 [(0, .ref (w.1 0)), (1, .int z1), (2, .int z2), (3, .int z3), (4, .int z4), (5, .int a.2)] []) ?_ n (s, z5) h
  intro k hk0 a h
  obtain ⟨s, z5⟩ := a
  have hk : ∀ (s : ba_St) (z5 : Int32), k (s, z5) = some o → ba_G ba_tM w 6 X s 56 [(0, .ref (w.1 0)), (1, .int z1), (2, .int z2), (3, .int z3), (4, .int z4), (5, .int z5)] [] := fun s z5 e => hk0 (s, z5) e
  unfold xm_forcesOf_l56 at h
  try dsimp only at h ⊢
  refine ba_iload V dX6_forcesOf_56 5 rfl ?_
  refine ba_sipush V dX6_forcesOf_58 ba_c288s ?_
  refine ba_icmp_ge V dX6_forcesOf_61 rfl h (fun h => ?_) (fun h => ?_)
  · exact ba_sub [0, 1, 2, 3, 4] rfl (EX _ (Option.some.inj h))
  · refine ba_aload_n V dX6_forcesOf_64 0 rfl ?_
    refine ba_getR V dX6_forcesOf_65 kfX6_79 ba_sModel rfl ?_
    refine ba_sipush V dX6_forcesOf_68 ba_c288s ?_
    refine ba_iload V dX6_forcesOf_71 4 rfl ?_
    refine ba_imul V dX6_forcesOf_73 ?_
    refine ba_iload V dX6_forcesOf_74 5 rfl ?_
    refine ba_iadd V dX6_forcesOf_76 ?_
    refine ba_iload V dX6_forcesOf_77 5 rfl ?_
    refine ba_bipush V dX6_forcesOf_79 ba_c12b ?_
    refine ba_irem V dX6_forcesOf_81 (by decide) ?_
    refine ba_aload_n V dX6_forcesOf_82 0 rfl ?_
    refine ba_getI V dX6_forcesOf_83 kfX6_143 ba_sModel rfl ?_
    refine ba_icmp_ge V dX6_forcesOf_86 rfl h (fun h => ?_) (fun h => ?_)
    · refine ba_iconst V dX6_forcesOf_110 ba_c0 ?_
      exact ba_sub [0, 1, 2, 3, 4, 5] rfl (ym_forcesOf_j111_56 V hk EX h)
    · refine ba_bipush V dX6_forcesOf_89 ba_c10b ?_
      refine ba_aload_n V dX6_forcesOf_91 0 rfl ?_
      refine ba_getR V dX6_forcesOf_92 kfX6_70 ba_sModel rfl ?_
      refine ba_iload V dX6_forcesOf_95 5 rfl ?_
      refine ba_iald V dX6_forcesOf_97 ba_sM_21 h (fun h => ?_)
      refine ba_imul V dX6_forcesOf_98 ?_
      refine ba_aload_n V dX6_forcesOf_99 0 rfl ?_
      refine ba_getR V dX6_forcesOf_100 kfX6_73 ba_sModel rfl ?_
      refine ba_iload V dX6_forcesOf_103 5 rfl ?_
      refine ba_iald V dX6_forcesOf_105 ba_sM_22 h (fun h => ?_)
      refine ba_iadd V dX6_forcesOf_106 ?_
      refine ba_goto V dX6_forcesOf_107 rfl ?_
      exact ba_sub [0, 1, 2, 3, 4, 5] rfl (ym_forcesOf_j111_56 V hk EX h)
def xm_forcesOf_j51_16 (k : (ba_St × Int32 × Int32) → Option (ba_St × Int32)) (s : ba_St) (z1 : Int32) (z2 : Int32) (z4 : Int32) (q0 : Int32) (q1 : Int32) : Option (ba_St × Int32) :=
  ba_lt (q1 ||| q0) fun x1020 =>
  ba_bnd (ba_fix (xm_forcesOf_l56 z1 z2 x1020 z4) 1000 (s, 0)) fun s1023 =>
    ba_lt (z4 + 1) fun x1024 =>
    k (s1023, x1020, x1024)
set_option maxHeartbeats 4000000 in
set_option maxRecDepth 100000 in
theorem ym_forcesOf_j51_16 {w : ba_W} {X : ba_X} (V : ba_V ba_tM w 6 X cX6_forcesOf RX6 rm_m_forcesOf) {s : ba_St} {z1 : Int32} {z2 : Int32} {z4 : Int32} {q0 : Int32} {q1 : Int32} {o : ba_St × Int32} {k : (ba_St × Int32 × Int32) → Option (ba_St × Int32)} (hk : ∀ (s : ba_St) (z3 : Int32) (z4 : Int32), k (s, z3, z4) = some o → ba_G ba_tM w 6 X s 16 [(0, .ref (w.1 0)), (1, .int z1), (2, .int z2), (3, .int z3), (4, .int z4)] []) (EX : ∀ (s : ba_St) (z3 : Int32), (s, z3) = o → ba_G ba_tM w 6 X s 124 [(0, .ref (w.1 0)), (1, .int z1), (2, .int z2), (3, .int z3)] []) (h : xm_forcesOf_j51_16 k s z1 z2 z4 q0 q1 = some o) : ba_G ba_tM w 6 X s 51 [(0, .ref (w.1 0)), (1, .int z1), (2, .int z2), (4, .int z4)] [.int q0, .int q1] := by
  unfold xm_forcesOf_j51_16 at h
  refine ba_ior V dX6_forcesOf_51 ?_
  refine ba_letI h (fun x1020 h => ?_)
  refine ba_istore_n (lv' := [(3, .int x1020), (0, .ref (w.1 0)), (1, .int z1), (2, .int z2), (4, .int z4)]) V dX6_forcesOf_52 (by decide) rfl ?_
  refine ba_iconst V dX6_forcesOf_53 ba_c0 ?_
  refine ba_istore (lv' := [(5, .int 0), (3, .int x1020), (0, .ref (w.1 0)), (1, .int z1), (2, .int z2), (4, .int z4)]) V dX6_forcesOf_54 (by decide) rfl ?_
  obtain ⟨o, ho, h⟩ := ba_bnd_some h
  refine ba_sub [2, 3, 4, 1, 5, 0] rfl (ym_forcesOf_l56 V (o := o) (fun s1023 e => ?_) 1000 s 0 ho)
  subst e
  try dsimp only at h
  refine ba_iinc V dX6_forcesOf_118 4 rfl ba_c1 (by decide) h (fun x1024 h => ⟨[(4, .int x1024), (0, .ref (w.1 0)), (1, .int z1), (2, .int z2), (3, .int x1020)], rfl, ?_⟩)
  refine ba_goto V dX6_forcesOf_121 rfl ?_
  exact ba_sub [1, 2, 3, 4, 0] rfl (hk _ _ _ h)
def xm_forcesOf_l16 (z1 : Int32) (z2 : Int32) (k : (ba_St × Int32 × Int32) → Option (ba_St × Int32)) (a : (ba_St × Int32 × Int32)) : Option (ba_St × Int32) :=
  match a with
  | (s, z3, z4) =>
    if 10 ≤ z4 then
      some (s, z3)
    else
      ba_grd (ba_inb ((2 * z1) + 1) 24) <|
      ba_lt (ba_w s 9 (ba_ix ((2 * z1) + 1)) z4) fun s1017 =>
      ba_bn2 (xm_isSeen s1017) fun v1018 s1019 =>
      if v1018 = 0 then
        xm_forcesOf_j51_16 k s1019 z1 z2 z4 0 z3
      else
        xm_forcesOf_j51_16 k s1019 z1 z2 z4 (ba_fishl 1 z4) z3
set_option maxHeartbeats 4000000 in
set_option maxRecDepth 100000 in
theorem ym_forcesOf_l16 {w : ba_W} {X : ba_X} (V : ba_V ba_tM w 6 X cX6_forcesOf RX6 rm_m_forcesOf) {z1 : Int32} {z2 : Int32} {o : ba_St × Int32} (EX : ∀ (s : ba_St) (z3 : Int32), (s, z3) = o → ba_G ba_tM w 6 X s 124 [(0, .ref (w.1 0)), (1, .int z1), (2, .int z2), (3, .int z3)] []) : ∀ (n : Nat) (s : ba_St) (z3 : Int32) (z4 : Int32), ba_fix (xm_forcesOf_l16 z1 z2) n (s, z3, z4) = some o → ba_G ba_tM w 6 X s 16 [(0, .ref (w.1 0)), (1, .int z1), (2, .int z2), (3, .int z3), (4, .int z4)] [] := by
  intro n s z3 z4 h
  refine ba_loop (P := fun a => ba_G ba_tM w 6 X a.1 16 [(0, .ref (w.1 0)), (1, .int z1), (2, .int z2), (3, .int a.2.1), (4, .int a.2.2)] []) ?_ n (s, z3, z4) h
  intro k hk0 a h
  obtain ⟨s, z3, z4⟩ := a
  have hk : ∀ (s : ba_St) (z3 : Int32) (z4 : Int32), k (s, z3, z4) = some o → ba_G ba_tM w 6 X s 16 [(0, .ref (w.1 0)), (1, .int z1), (2, .int z2), (3, .int z3), (4, .int z4)] [] := fun s z3 z4 e => hk0 (s, z3, z4) e
  unfold xm_forcesOf_l16 at h
  try dsimp only at h ⊢
  refine ba_iload V dX6_forcesOf_16 4 rfl ?_
  refine ba_bipush V dX6_forcesOf_18 ba_c10b ?_
  refine ba_icmp_ge V dX6_forcesOf_20 rfl h (fun h => ?_) (fun h => ?_)
  · exact ba_sub [0, 1, 2, 3] rfl (EX _ _ (Option.some.inj h))
  · refine ba_aload_n V dX6_forcesOf_23 0 rfl ?_
    refine ba_getR V dX6_forcesOf_24 kfX6_34 ba_sModel rfl ?_
    refine ba_iconst V dX6_forcesOf_27 ba_c2 ?_
    refine ba_iload_n V dX6_forcesOf_28 1 rfl ?_
    refine ba_imul V dX6_forcesOf_29 ?_
    refine ba_iconst V dX6_forcesOf_30 ba_c1 ?_
    refine ba_iadd V dX6_forcesOf_31 ?_
    refine ba_iload V dX6_forcesOf_32 4 rfl ?_
    refine ba_iast V dX6_forcesOf_34 ba_sM_9 h (fun s1017 h => ?_)
    refine ba_iload_n V dX6_forcesOf_35 3 rfl ?_
    refine ba_aload_n V dX6_forcesOf_36 0 rfl ?_
    obtain ⟨v1018, s1019, hc, h⟩ := ba_bn2_some h
    refine ba_callVI (As := []) (st := [.int z3]) V dX6_forcesOf_37 kcX6_297 ba_sModel (fun l => ym_isSeen V.inj l hc) ⟨rfl, rfl⟩ ⟨rfl, rfl, Nat.le_of_ble_eq_true rfl, Nat.le_of_ble_eq_true rfl⟩ (Nat.le_of_ble_eq_true rfl) ?_
    refine ba_if_eq V dX6_forcesOf_40 rfl h (fun h => ?_) (fun h => ?_)
    · refine ba_iconst V dX6_forcesOf_50 ba_c0 ?_
      exact ba_sub [0, 1, 2, 4] rfl (ym_forcesOf_j51_16 V hk EX h)
    · refine ba_iconst V dX6_forcesOf_43 ba_c1 ?_
      refine ba_iload V dX6_forcesOf_44 4 rfl ?_
      refine ba_ishl V dX6_forcesOf_46 ?_
      refine ba_goto V dX6_forcesOf_47 rfl ?_
      exact ba_sub [0, 1, 2, 4] rfl (ym_forcesOf_j51_16 V hk EX h)
def xm_forcesOf (s : ba_St) (a1 : Int32) : Option (Int32 × ba_St) :=
  ba_grd (ba_inb ((2 * a1) + 1) 24) <|
  ba_lt (s.1 9 (ba_ix ((2 * a1) + 1))) fun x1016 =>
  ba_bnd (ba_fix (xm_forcesOf_l16 a1 x1016) 1000 (s, 0, 1)) fun o => match o with
  | (s1025, x1026) =>
    ba_grd (ba_inb ((2 * a1) + 1) 24) <|
    ba_lt (ba_w s1025 9 (ba_ix ((2 * a1) + 1)) x1016) fun s1027 =>
    some (x1026, s1027)
set_option maxHeartbeats 4000000 in
set_option maxRecDepth 100000 in
theorem ym_forcesOf {w : ba_W} (hj : ba_inj ba_tM w) (l : Launch) {s : ba_St} {a1 : Int32} {o : Int32 × ba_St} (h : xm_forcesOf s a1 = some o) : ba_CI ba_tM w l yX6_forcesOf cX6_forcesOf 6 (some .int) rm_m_forcesOf [.ref (w.1 0), .int a1] s o := by
  refine ba_metI (lv := [(0, .ref (w.1 0)), (1, .int a1)]) l hj (by decide +kernel) ⟨Nat.le_of_ble_eq_true rfl, rfl⟩ ?_
  intro X V RT
  unfold xm_forcesOf at h
  refine ba_aload_n V dX6_forcesOf_0 0 rfl ?_
  refine ba_getR V dX6_forcesOf_1 kfX6_34 ba_sModel rfl ?_
  refine ba_iconst V dX6_forcesOf_4 ba_c2 ?_
  refine ba_iload_n V dX6_forcesOf_5 1 rfl ?_
  refine ba_imul V dX6_forcesOf_6 ?_
  refine ba_iconst V dX6_forcesOf_7 ba_c1 ?_
  refine ba_iadd V dX6_forcesOf_8 ?_
  refine ba_iald V dX6_forcesOf_9 ba_sM_9 h (fun h => ?_)
  refine ba_letI h (fun x1016 h => ?_)
  refine ba_istore_n (lv' := [(2, .int x1016), (0, .ref (w.1 0)), (1, .int a1)]) V dX6_forcesOf_10 (by decide) rfl ?_
  refine ba_iconst V dX6_forcesOf_11 ba_c0 ?_
  refine ba_istore_n (lv' := [(3, .int 0), (2, .int x1016), (0, .ref (w.1 0)), (1, .int a1)]) V dX6_forcesOf_12 (by decide) rfl ?_
  refine ba_iconst V dX6_forcesOf_13 ba_c1 ?_
  refine ba_istore (lv' := [(4, .int 1), (3, .int 0), (2, .int x1016), (0, .ref (w.1 0)), (1, .int a1)]) V dX6_forcesOf_14 (by decide) rfl ?_
  obtain ⟨o, ho, h⟩ := ba_bnd_some h
  refine ba_sub [3, 4, 2, 1, 0] rfl (ym_forcesOf_l16 V (o := o) (fun s1025 x1026 e => ?_) 1000 s 0 1 ho)
  subst e
  try dsimp only at h
  refine ba_aload_n V dX6_forcesOf_124 0 rfl ?_
  refine ba_getR V dX6_forcesOf_125 kfX6_34 ba_sModel rfl ?_
  refine ba_iconst V dX6_forcesOf_128 ba_c2 ?_
  refine ba_iload_n V dX6_forcesOf_129 1 rfl ?_
  refine ba_imul V dX6_forcesOf_130 ?_
  refine ba_iconst V dX6_forcesOf_131 ba_c1 ?_
  refine ba_iadd V dX6_forcesOf_132 ?_
  refine ba_iload_n V dX6_forcesOf_133 2 rfl ?_
  refine ba_iast V dX6_forcesOf_134 ba_sM_9 h (fun s1027 h => ?_)
  refine ba_iload_n V dX6_forcesOf_135 3 rfl ?_
  exact RT _ _ _ _ dX6_forcesOf_136 (Option.some.inj h)
def xm_forces (s : ba_St) (a1 : Int32) : Option (Int32 × ba_St) :=
  ba_bnd (xm_find s) fun s1028 =>
  ba_bnd (xm_isBall s1028 a1) fun v1029 =>
  if v1029 = 0 then
    some ((-2), s1028)
  else
    ba_bn2 (xm_forcesOf s1028 a1) fun v1030 s1031 =>
    some (v1030, s1031)
set_option maxHeartbeats 4000000 in
set_option maxRecDepth 100000 in
theorem ym_forces {w : ba_W} (hj : ba_inj ba_tM w) (l : Launch) {s : ba_St} {a1 : Int32} {o : Int32 × ba_St} (h : xm_forces s a1 = some o) : ba_CI ba_tM w l yX6_forces cX6_forces 2 (some .int) rm_m_forces [.ref (w.1 0), .int a1] s o := by
  refine ba_metI (lv := [(0, .ref (w.1 0)), (1, .int a1)]) l hj (by decide +kernel) ⟨Nat.le_of_ble_eq_true rfl, rfl⟩ ?_
  intro X V RT
  unfold xm_forces at h
  refine ba_aload_n V dX6_forces_0 0 rfl ?_
  obtain ⟨s1028, hc, h⟩ := ba_bnd_some h
  refine ba_callVV (As := []) (st := []) V dX6_forces_1 kcX6_239 ba_sModel (fun l => ym_find V.inj l hc) ⟨rfl, rfl⟩ ⟨rfl, rfl, Nat.le_of_ble_eq_true rfl, Nat.le_of_ble_eq_true rfl⟩ (Nat.le_of_ble_eq_true rfl) ?_
  refine ba_aload_n V dX6_forces_4 0 rfl ?_
  refine ba_iload_n V dX6_forces_5 1 rfl ?_
  obtain ⟨v1029, hc, h⟩ := ba_bnd_some h
  refine ba_callVI (As := [.int a1]) (st := []) V dX6_forces_6 kcX6_169 ba_sModel (fun l => ym_isBall V.inj l hc) ⟨rfl, rfl⟩ ⟨rfl, rfl, Nat.le_of_ble_eq_true rfl, Nat.le_of_ble_eq_true rfl⟩ (Nat.le_of_ble_eq_true rfl) ?_
  refine ba_if_eq V dX6_forces_9 rfl h (fun h => ?_) (fun h => ?_)
  · refine ba_bipush V dX6_forces_20 ba_cm2b ?_
    exact RT _ _ _ _ dX6_forces_22 (Option.some.inj h)
  · refine ba_aload_n V dX6_forces_12 0 rfl ?_
    refine ba_iload_n V dX6_forces_13 1 rfl ?_
    obtain ⟨v1030, s1031, hc, h⟩ := ba_bn2_some h
    refine ba_callVI (As := [.int a1]) (st := []) V dX6_forces_14 kcX6_304 ba_sModel (fun l => ym_forcesOf V.inj l hc) ⟨rfl, rfl⟩ ⟨rfl, rfl, Nat.le_of_ble_eq_true rfl, Nat.le_of_ble_eq_true rfl⟩ (Nat.le_of_ble_eq_true rfl) ?_
    refine ba_goto V dX6_forces_17 rfl ?_
    exact RT _ _ _ _ dX6_forces_22 (Option.some.inj h)
def xm_kindOf_j50_16 (k : (ba_St × Int32 × Int32) → Option (ba_St × Int32)) (s : ba_St) (z1 : Int32) (z2 : Int32) (z4 : Int32) (q0 : Int32) (q1 : Int32) : Option (ba_St × Int32) :=
  ba_lt (q1 ||| q0) fun x1036 =>
  ba_lt (z4 + 1) fun x1037 =>
  k (s, x1036, x1037)
set_option maxHeartbeats 4000000 in
set_option maxRecDepth 100000 in
theorem ym_kindOf_j50_16 {w : ba_W} {X : ba_X} (V : ba_V ba_tM w 5 X cX6_kindOf RX6 rm_m_kindOf) {s : ba_St} {z1 : Int32} {z2 : Int32} {z4 : Int32} {q0 : Int32} {q1 : Int32} {o : ba_St × Int32} {k : (ba_St × Int32 × Int32) → Option (ba_St × Int32)} (hk : ∀ (s : ba_St) (z3 : Int32) (z4 : Int32), k (s, z3, z4) = some o → ba_G ba_tM w 5 X s 16 [(0, .ref (w.1 0)), (1, .int z1), (2, .int z2), (3, .int z3), (4, .int z4)] []) (EX : ∀ (s : ba_St) (z3 : Int32), (s, z3) = o → ba_G ba_tM w 5 X s 58 [(0, .ref (w.1 0)), (1, .int z1), (2, .int z2), (3, .int z3)] []) (h : xm_kindOf_j50_16 k s z1 z2 z4 q0 q1 = some o) : ba_G ba_tM w 5 X s 50 [(0, .ref (w.1 0)), (1, .int z1), (2, .int z2), (4, .int z4)] [.int q0, .int q1] := by
  unfold xm_kindOf_j50_16 at h
  refine ba_ior V dX6_kindOf_50 ?_
  refine ba_letI h (fun x1036 h => ?_)
  refine ba_istore_n (lv' := [(3, .int x1036), (0, .ref (w.1 0)), (1, .int z1), (2, .int z2), (4, .int z4)]) V dX6_kindOf_51 (by decide) rfl ?_
  refine ba_iinc V dX6_kindOf_52 4 rfl ba_c1 (by decide) h (fun x1037 h => ⟨[(4, .int x1037), (3, .int x1036), (0, .ref (w.1 0)), (1, .int z1), (2, .int z2)], rfl, ?_⟩)
  refine ba_goto V dX6_kindOf_55 rfl ?_
  exact ba_sub [2, 3, 4, 1, 0] rfl (hk _ _ _ h)
def xm_kindOf_l16 (z1 : Int32) (z2 : Int32) (k : (ba_St × Int32 × Int32) → Option (ba_St × Int32)) (a : (ba_St × Int32 × Int32)) : Option (ba_St × Int32) :=
  match a with
  | (s, z3, z4) =>
    if 4 ≤ z4 then
      some (s, z3)
    else
      ba_grd (ba_inb ((3 * z1) + 2) 36) <|
      ba_lt (ba_w s 7 (ba_ix ((3 * z1) + 2)) z4) fun s1033 =>
      ba_bn2 (xm_isSeen s1033) fun v1034 s1035 =>
      if v1034 = 0 then
        xm_kindOf_j50_16 k s1035 z1 z2 z4 0 z3
      else
        xm_kindOf_j50_16 k s1035 z1 z2 z4 (ba_fishl 1 z4) z3
set_option maxHeartbeats 4000000 in
set_option maxRecDepth 100000 in
theorem ym_kindOf_l16 {w : ba_W} {X : ba_X} (V : ba_V ba_tM w 5 X cX6_kindOf RX6 rm_m_kindOf) {z1 : Int32} {z2 : Int32} {o : ba_St × Int32} (EX : ∀ (s : ba_St) (z3 : Int32), (s, z3) = o → ba_G ba_tM w 5 X s 58 [(0, .ref (w.1 0)), (1, .int z1), (2, .int z2), (3, .int z3)] []) : ∀ (n : Nat) (s : ba_St) (z3 : Int32) (z4 : Int32), ba_fix (xm_kindOf_l16 z1 z2) n (s, z3, z4) = some o → ba_G ba_tM w 5 X s 16 [(0, .ref (w.1 0)), (1, .int z1), (2, .int z2), (3, .int z3), (4, .int z4)] [] := by
  intro n s z3 z4 h
  refine ba_loop (P := fun a => ba_G ba_tM w 5 X a.1 16 [(0, .ref (w.1 0)), (1, .int z1), (2, .int z2), (3, .int a.2.1), (4, .int a.2.2)] []) ?_ n (s, z3, z4) h
  intro k hk0 a h
  obtain ⟨s, z3, z4⟩ := a
  have hk : ∀ (s : ba_St) (z3 : Int32) (z4 : Int32), k (s, z3, z4) = some o → ba_G ba_tM w 5 X s 16 [(0, .ref (w.1 0)), (1, .int z1), (2, .int z2), (3, .int z3), (4, .int z4)] [] := fun s z3 z4 e => hk0 (s, z3, z4) e
  unfold xm_kindOf_l16 at h
  try dsimp only at h ⊢
  refine ba_iload V dX6_kindOf_16 4 rfl ?_
  refine ba_iconst V dX6_kindOf_18 ba_c4 ?_
  refine ba_icmp_ge V dX6_kindOf_19 rfl h (fun h => ?_) (fun h => ?_)
  · exact ba_sub [0, 1, 2, 3] rfl (EX _ _ (Option.some.inj h))
  · refine ba_aload_n V dX6_kindOf_22 0 rfl ?_
    refine ba_getR V dX6_kindOf_23 kfX6_28 ba_sModel rfl ?_
    refine ba_iconst V dX6_kindOf_26 ba_c3 ?_
    refine ba_iload_n V dX6_kindOf_27 1 rfl ?_
    refine ba_imul V dX6_kindOf_28 ?_
    refine ba_iconst V dX6_kindOf_29 ba_c2 ?_
    refine ba_iadd V dX6_kindOf_30 ?_
    refine ba_iload V dX6_kindOf_31 4 rfl ?_
    refine ba_iast V dX6_kindOf_33 ba_sM_7 h (fun s1033 h => ?_)
    refine ba_iload_n V dX6_kindOf_34 3 rfl ?_
    refine ba_aload_n V dX6_kindOf_35 0 rfl ?_
    obtain ⟨v1034, s1035, hc, h⟩ := ba_bn2_some h
    refine ba_callVI (As := []) (st := [.int z3]) V dX6_kindOf_36 kcX6_297 ba_sModel (fun l => ym_isSeen V.inj l hc) ⟨rfl, rfl⟩ ⟨rfl, rfl, Nat.le_of_ble_eq_true rfl, Nat.le_of_ble_eq_true rfl⟩ (Nat.le_of_ble_eq_true rfl) ?_
    refine ba_if_eq V dX6_kindOf_39 rfl h (fun h => ?_) (fun h => ?_)
    · refine ba_iconst V dX6_kindOf_49 ba_c0 ?_
      exact ba_sub [0, 1, 2, 4] rfl (ym_kindOf_j50_16 V hk EX h)
    · refine ba_iconst V dX6_kindOf_42 ba_c1 ?_
      refine ba_iload V dX6_kindOf_43 4 rfl ?_
      refine ba_ishl V dX6_kindOf_45 ?_
      refine ba_goto V dX6_kindOf_46 rfl ?_
      exact ba_sub [0, 1, 2, 4] rfl (ym_kindOf_j50_16 V hk EX h)
def xm_kindOf (s : ba_St) (a1 : Int32) : Option (Int32 × ba_St) :=
  ba_grd (ba_inb ((3 * a1) + 2) 36) <|
  ba_lt (s.1 7 (ba_ix ((3 * a1) + 2))) fun x1032 =>
  ba_bnd (ba_fix (xm_kindOf_l16 a1 x1032) 1000 (s, 0, 0)) fun o => match o with
  | (s1038, x1039) =>
    ba_grd (ba_inb ((3 * a1) + 2) 36) <|
    ba_lt (ba_w s1038 7 (ba_ix ((3 * a1) + 2)) x1032) fun s1040 =>
    some (x1039, s1040)
set_option maxHeartbeats 4000000 in
set_option maxRecDepth 100000 in
theorem ym_kindOf {w : ba_W} (hj : ba_inj ba_tM w) (l : Launch) {s : ba_St} {a1 : Int32} {o : Int32 × ba_St} (h : xm_kindOf s a1 = some o) : ba_CI ba_tM w l yX6_kindOf cX6_kindOf 5 (some .int) rm_m_kindOf [.ref (w.1 0), .int a1] s o := by
  refine ba_metI (lv := [(0, .ref (w.1 0)), (1, .int a1)]) l hj (by decide +kernel) ⟨Nat.le_of_ble_eq_true rfl, rfl⟩ ?_
  intro X V RT
  unfold xm_kindOf at h
  refine ba_aload_n V dX6_kindOf_0 0 rfl ?_
  refine ba_getR V dX6_kindOf_1 kfX6_28 ba_sModel rfl ?_
  refine ba_iconst V dX6_kindOf_4 ba_c3 ?_
  refine ba_iload_n V dX6_kindOf_5 1 rfl ?_
  refine ba_imul V dX6_kindOf_6 ?_
  refine ba_iconst V dX6_kindOf_7 ba_c2 ?_
  refine ba_iadd V dX6_kindOf_8 ?_
  refine ba_iald V dX6_kindOf_9 ba_sM_7 h (fun h => ?_)
  refine ba_letI h (fun x1032 h => ?_)
  refine ba_istore_n (lv' := [(2, .int x1032), (0, .ref (w.1 0)), (1, .int a1)]) V dX6_kindOf_10 (by decide) rfl ?_
  refine ba_iconst V dX6_kindOf_11 ba_c0 ?_
  refine ba_istore_n (lv' := [(3, .int 0), (2, .int x1032), (0, .ref (w.1 0)), (1, .int a1)]) V dX6_kindOf_12 (by decide) rfl ?_
  refine ba_iconst V dX6_kindOf_13 ba_c0 ?_
  refine ba_istore (lv' := [(4, .int 0), (3, .int 0), (2, .int x1032), (0, .ref (w.1 0)), (1, .int a1)]) V dX6_kindOf_14 (by decide) rfl ?_
  obtain ⟨o, ho, h⟩ := ba_bnd_some h
  refine ba_sub [3, 4, 2, 1, 0] rfl (ym_kindOf_l16 V (o := o) (fun s1038 x1039 e => ?_) 1000 s 0 0 ho)
  subst e
  try dsimp only at h
  refine ba_aload_n V dX6_kindOf_58 0 rfl ?_
  refine ba_getR V dX6_kindOf_59 kfX6_28 ba_sModel rfl ?_
  refine ba_iconst V dX6_kindOf_62 ba_c3 ?_
  refine ba_iload_n V dX6_kindOf_63 1 rfl ?_
  refine ba_imul V dX6_kindOf_64 ?_
  refine ba_iconst V dX6_kindOf_65 ba_c2 ?_
  refine ba_iadd V dX6_kindOf_66 ?_
  refine ba_iload_n V dX6_kindOf_67 2 rfl ?_
  refine ba_iast V dX6_kindOf_68 ba_sM_7 h (fun s1040 h => ?_)
  refine ba_iload_n V dX6_kindOf_69 3 rfl ?_
  exact RT _ _ _ _ dX6_kindOf_70 (Option.some.inj h)
def xm_kind (s : ba_St) (a1 : Int32) : Option (Int32 × ba_St) :=
  ba_bnd (xm_find s) fun s1041 =>
  ba_bnd (xm_isPin s1041 a1) fun v1042 =>
  if v1042 = 0 then
    some ((-2), s1041)
  else
    ba_bn2 (xm_kindOf s1041 a1) fun v1043 s1044 =>
    some (v1043, s1044)
set_option maxHeartbeats 4000000 in
set_option maxRecDepth 100000 in
theorem ym_kind {w : ba_W} (hj : ba_inj ba_tM w) (l : Launch) {s : ba_St} {a1 : Int32} {o : Int32 × ba_St} (h : xm_kind s a1 = some o) : ba_CI ba_tM w l yX6_kind cX6_kind 2 (some .int) rm_m_kind [.ref (w.1 0), .int a1] s o := by
  refine ba_metI (lv := [(0, .ref (w.1 0)), (1, .int a1)]) l hj (by decide +kernel) ⟨Nat.le_of_ble_eq_true rfl, rfl⟩ ?_
  intro X V RT
  unfold xm_kind at h
  refine ba_aload_n V dX6_kind_0 0 rfl ?_
  obtain ⟨s1041, hc, h⟩ := ba_bnd_some h
  refine ba_callVV (As := []) (st := []) V dX6_kind_1 kcX6_239 ba_sModel (fun l => ym_find V.inj l hc) ⟨rfl, rfl⟩ ⟨rfl, rfl, Nat.le_of_ble_eq_true rfl, Nat.le_of_ble_eq_true rfl⟩ (Nat.le_of_ble_eq_true rfl) ?_
  refine ba_aload_n V dX6_kind_4 0 rfl ?_
  refine ba_iload_n V dX6_kind_5 1 rfl ?_
  obtain ⟨v1042, hc, h⟩ := ba_bnd_some h
  refine ba_callVI (As := [.int a1]) (st := []) V dX6_kind_6 kcX6_166 ba_sModel (fun l => ym_isPin V.inj l hc) ⟨rfl, rfl⟩ ⟨rfl, rfl, Nat.le_of_ble_eq_true rfl, Nat.le_of_ble_eq_true rfl⟩ (Nat.le_of_ble_eq_true rfl) ?_
  refine ba_if_eq V dX6_kind_9 rfl h (fun h => ?_) (fun h => ?_)
  · refine ba_bipush V dX6_kind_20 ba_cm2b ?_
    exact RT _ _ _ _ dX6_kind_22 (Option.some.inj h)
  · refine ba_aload_n V dX6_kind_12 0 rfl ?_
    refine ba_iload_n V dX6_kind_13 1 rfl ?_
    obtain ⟨v1043, s1044, hc, h⟩ := ba_bn2_some h
    refine ba_callVI (As := [.int a1]) (st := []) V dX6_kind_14 kcX6_307 ba_sModel (fun l => ym_kindOf V.inj l hc) ⟨rfl, rfl⟩ ⟨rfl, rfl, Nat.le_of_ble_eq_true rfl, Nat.le_of_ble_eq_true rfl⟩ (Nat.le_of_ble_eq_true rfl) ?_
    refine ba_goto V dX6_kind_17 rfl ?_
    exact RT _ _ _ _ dX6_kind_22 (Option.some.inj h)
def xm_same_j59_9 (k : (Int32 × Int32) → Option (Int32)) (s : ba_St) (z1 : Int32) (z2 : Int32) (z3 : Int32) (z5 : Int32) : Option (Int32) :=
  ba_lt (z5 + 1) fun x1046 =>
  k (0, x1046)
set_option maxHeartbeats 4000000 in
set_option maxRecDepth 100000 in
theorem ym_same_j59_9 {w : ba_W} {X : ba_X} (V : ba_V ba_tM w 6 X cX6_same RX6 rm_m_same) {s : ba_St} {z1 : Int32} {z2 : Int32} {z3 : Int32} {z5 : Int32} {o : Int32} {k : (Int32 × Int32) → Option (Int32)} (hk : ∀ (z4 : Int32) (z5 : Int32), k (z4, z5) = some o → ba_G ba_tM w 6 X s 9 [(0, .ref (w.1 0)), (1, .int z1), (2, .int z2), (3, .int z3), (4, .int z4), (5, .int z5)] []) (EX : ∀ (z4 : Int32), z4 = o → ba_G ba_tM w 6 X s 68 [(4, .int z4)] []) (h : xm_same_j59_9 k s z1 z2 z3 z5 = some o) : ba_G ba_tM w 6 X s 59 [(0, .ref (w.1 0)), (1, .int z1), (2, .int z2), (3, .int z3), (5, .int z5)] [] := by
  unfold xm_same_j59_9 at h
  refine ba_iconst V dX6_same_59 ba_c0 ?_
  refine ba_istore (lv' := [(4, .int 0), (0, .ref (w.1 0)), (1, .int z1), (2, .int z2), (3, .int z3), (5, .int z5)]) V dX6_same_60 (by decide) rfl ?_
  refine ba_iinc V dX6_same_62 5 rfl ba_c1 (by decide) h (fun x1046 h => ⟨[(5, .int x1046), (4, .int 0), (0, .ref (w.1 0)), (1, .int z1), (2, .int z2), (3, .int z3)], rfl, ?_⟩)
  refine ba_goto V dX6_same_65 rfl ?_
  exact ba_sub [2, 3, 4, 5, 1, 0] rfl (hk _ _ h)
def xm_same_l9 (s : ba_St) (z1 : Int32) (z2 : Int32) (z3 : Int32) (k : (Int32 × Int32) → Option (Int32)) (a : (Int32 × Int32)) : Option (Int32) :=
  match a with
  | (z4, z5) =>
    if ((12 * z3) + 12) ≤ z5 then
      some z4
    else
      if z4 = 0 then
        xm_same_j59_9 k s z1 z2 z3 z5
      else
        ba_grd (ba_inb ((288 * z1) + z5) 2880) <|
        ba_grd (ba_inb ((288 * z2) + z5) 2880) <|
        if (s.1 24 (ba_ix ((288 * z1) + z5))) = (s.1 24 (ba_ix ((288 * z2) + z5))) then
          ba_lt (z5 + 1) fun x1047 =>
          k (1, x1047)
        else
          xm_same_j59_9 k s z1 z2 z3 z5
set_option maxHeartbeats 4000000 in
set_option maxRecDepth 100000 in
theorem ym_same_l9 {w : ba_W} {X : ba_X} (V : ba_V ba_tM w 6 X cX6_same RX6 rm_m_same) {s : ba_St} {z1 : Int32} {z2 : Int32} {z3 : Int32} {o : Int32} (EX : ∀ (z4 : Int32), z4 = o → ba_G ba_tM w 6 X s 68 [(4, .int z4)] []) : ∀ (n : Nat) (z4 : Int32) (z5 : Int32), ba_fix (xm_same_l9 s z1 z2 z3) n (z4, z5) = some o → ba_G ba_tM w 6 X s 9 [(0, .ref (w.1 0)), (1, .int z1), (2, .int z2), (3, .int z3), (4, .int z4), (5, .int z5)] [] := by
  intro n z4 z5 h
  refine ba_loop (P := fun a => ba_G ba_tM w 6 X s 9 [(0, .ref (w.1 0)), (1, .int z1), (2, .int z2), (3, .int z3), (4, .int a.1), (5, .int a.2)] []) ?_ n (z4, z5) h
  intro k hk0 a h
  obtain ⟨z4, z5⟩ := a
  have hk : ∀ (z4 : Int32) (z5 : Int32), k (z4, z5) = some o → ba_G ba_tM w 6 X s 9 [(0, .ref (w.1 0)), (1, .int z1), (2, .int z2), (3, .int z3), (4, .int z4), (5, .int z5)] [] := fun z4 z5 e => hk0 (z4, z5) e
  unfold xm_same_l9 at h
  try dsimp only at h ⊢
  refine ba_iload V dX6_same_9 5 rfl ?_
  refine ba_bipush V dX6_same_11 ba_c12b ?_
  refine ba_iload_n V dX6_same_13 3 rfl ?_
  refine ba_imul V dX6_same_14 ?_
  refine ba_bipush V dX6_same_15 ba_c12b ?_
  refine ba_iadd V dX6_same_17 ?_
  refine ba_icmp_ge V dX6_same_18 rfl h (fun h => ?_) (fun h => ?_)
  · exact ba_sub [4] rfl (EX _ (Option.some.inj h))
  · refine ba_iload V dX6_same_21 4 rfl ?_
    refine ba_if_eq V dX6_same_23 rfl h (fun h => ?_) (fun h => ?_)
    · exact ba_sub [0, 1, 2, 3, 5] rfl (ym_same_j59_9 V hk EX h)
    · refine ba_aload_n V dX6_same_26 0 rfl ?_
      refine ba_getR V dX6_same_27 kfX6_79 ba_sModel rfl ?_
      refine ba_sipush V dX6_same_30 ba_c288s ?_
      refine ba_iload_n V dX6_same_33 1 rfl ?_
      refine ba_imul V dX6_same_34 ?_
      refine ba_iload V dX6_same_35 5 rfl ?_
      refine ba_iadd V dX6_same_37 ?_
      refine ba_iald V dX6_same_38 ba_sM_24 h (fun h => ?_)
      refine ba_aload_n V dX6_same_39 0 rfl ?_
      refine ba_getR V dX6_same_40 kfX6_79 ba_sModel rfl ?_
      refine ba_sipush V dX6_same_43 ba_c288s ?_
      refine ba_iload_n V dX6_same_46 2 rfl ?_
      refine ba_imul V dX6_same_47 ?_
      refine ba_iload V dX6_same_48 5 rfl ?_
      refine ba_iadd V dX6_same_50 ?_
      refine ba_iald V dX6_same_51 ba_sM_24 h (fun h => ?_)
      refine ba_icmp_ne V dX6_same_52 rfl h (fun h => ?_) (fun h => ?_)
      · refine ba_iconst V dX6_same_55 ba_c1 ?_
        refine ba_goto V dX6_same_56 rfl ?_
        refine ba_istore (lv' := [(4, .int 1), (0, .ref (w.1 0)), (1, .int z1), (2, .int z2), (3, .int z3), (5, .int z5)]) V dX6_same_60 (by decide) rfl ?_
        refine ba_iinc V dX6_same_62 5 rfl ba_c1 (by decide) h (fun x1047 h => ⟨[(5, .int x1047), (4, .int 1), (0, .ref (w.1 0)), (1, .int z1), (2, .int z2), (3, .int z3)], rfl, ?_⟩)
        refine ba_goto V dX6_same_65 rfl ?_
        exact ba_sub [2, 3, 4, 5, 1, 0] rfl (hk _ _ h)
      · exact ba_sub [0, 1, 2, 3, 5] rfl (ym_same_j59_9 V hk EX h)
def xm_same (s : ba_St) (a1 : Int32) (a2 : Int32) (a3 : Int32) : Option (Int32) :=
  ba_lt (12 * a3) fun x1045 =>
  ba_bnd (ba_fix (xm_same_l9 s a1 a2 a3) 1000 (1, x1045)) fun x1048 =>
    ba_grd (ba_bool x1048) <|
    some x1048
set_option maxHeartbeats 4000000 in
set_option maxRecDepth 100000 in
theorem ym_same {w : ba_W} (hj : ba_inj ba_tM w) (l : Launch) {s : ba_St} {a1 : Int32} {a2 : Int32} {a3 : Int32} {o : Int32} (h : xm_same s a1 a2 a3 = some o) : ba_CI ba_tM w l yX6_same cX6_same 6 (some .boolean) rm_m_same [.ref (w.1 0), .int a1, .int a2, .int a3] s (o, s) := by
  refine ba_metZ (lv := [(0, .ref (w.1 0)), (1, .int a1), (2, .int a2), (3, .int a3)]) l hj (by decide +kernel) ⟨Nat.le_of_ble_eq_true rfl, rfl⟩ ?_
  intro X V RT
  replace RT := fun pc lv v D z e => RT pc lv v s D z (congrArg (fun q => (q, s)) e)
  unfold xm_same at h
  refine ba_iconst V dX6_same_0 ba_c1 ?_
  refine ba_istore (lv' := [(4, .int 1), (0, .ref (w.1 0)), (1, .int a1), (2, .int a2), (3, .int a3)]) V dX6_same_1 (by decide) rfl ?_
  refine ba_bipush V dX6_same_3 ba_c12b ?_
  refine ba_iload_n V dX6_same_5 4 rfl ?_
  refine ba_imul V dX6_same_6 ?_
  refine ba_letI h (fun x1045 h => ?_)
  refine ba_istore (lv' := [(5, .int x1045), (4, .int 1), (0, .ref (w.1 0)), (1, .int a1), (2, .int a2), (3, .int a3)]) V dX6_same_7 (by decide) rfl ?_
  obtain ⟨o, ho, h⟩ := ba_bnd_some h
  refine ba_sub [2, 3, 4, 5, 1, 0] rfl (ym_same_l9 V (o := o) (fun x1048 e => ?_) 1000 1 x1045 ho)
  subst e
  try dsimp only at h
  refine ba_iload V dX6_same_68 0 rfl ?_
  refine ba_guard h (fun z h => ?_)
  exact RT _ _ _ dX6_same_70 (ba_boolY z) (Option.some.inj h)
def xm_alike_j62_18 (k : (Int32 × Int32) → Option (Int32)) (s : ba_St) (z1 : Int32) (z2 : Int32) (z3 : Int32) (z4 : Int32) (z6 : Int32) (q0 : Int32) (q1 : Int32) : Option (Int32) :=
  ba_lt (q1 + q0) fun x1050 =>
  ba_lt (z6 + 1) fun x1051 =>
  k (x1050, x1051)
set_option maxHeartbeats 4000000 in
set_option maxRecDepth 100000 in
theorem ym_alike_j62_18 {w : ba_W} {X : ba_X} (V : ba_V ba_tM w 7 X cX6_alike RX6 rm_m_alike) {s : ba_St} {z1 : Int32} {z2 : Int32} {z3 : Int32} {z4 : Int32} {z6 : Int32} {q0 : Int32} {q1 : Int32} {o : Int32} {k : (Int32 × Int32) → Option (Int32)} (hk : ∀ (z5 : Int32) (z6 : Int32), k (z5, z6) = some o → ba_G ba_tM w 7 X s 18 [(0, .ref (w.1 0)), (1, .int z1), (2, .int z2), (3, .int z3), (4, .int z4), (5, .int z5), (6, .int z6)] []) (EX : ∀ (z5 : Int32), z5 = o → ba_G ba_tM w 7 X s 71 [(0, .ref (w.1 0)), (1, .int z1), (2, .int z2), (3, .int z3), (4, .int z4), (5, .int z5)] []) (h : xm_alike_j62_18 k s z1 z2 z3 z4 z6 q0 q1 = some o) : ba_G ba_tM w 7 X s 62 [(0, .ref (w.1 0)), (1, .int z1), (2, .int z2), (3, .int z3), (4, .int z4), (6, .int z6)] [.int q0, .int q1] := by
  unfold xm_alike_j62_18 at h
  refine ba_iadd V dX6_alike_62 ?_
  refine ba_letI h (fun x1050 h => ?_)
  refine ba_istore (lv' := [(5, .int x1050), (0, .ref (w.1 0)), (1, .int z1), (2, .int z2), (3, .int z3), (4, .int z4), (6, .int z6)]) V dX6_alike_63 (by decide) rfl ?_
  refine ba_iinc V dX6_alike_65 6 rfl ba_c1 (by decide) h (fun x1051 h => ⟨[(6, .int x1051), (5, .int x1050), (0, .ref (w.1 0)), (1, .int z1), (2, .int z2), (3, .int z3), (4, .int z4)], rfl, ?_⟩)
  refine ba_goto V dX6_alike_68 rfl ?_
  exact ba_sub [2, 3, 4, 5, 6, 1, 0] rfl (hk _ _ h)
def xm_alike_j61_18 (k : (Int32 × Int32) → Option (Int32)) (s : ba_St) (z1 : Int32) (z2 : Int32) (z3 : Int32) (z4 : Int32) (z6 : Int32) (q0 : Int32) : Option (Int32) :=
  xm_alike_j62_18 k s z1 z2 z3 z4 z6 0 q0
set_option maxHeartbeats 4000000 in
set_option maxRecDepth 100000 in
theorem ym_alike_j61_18 {w : ba_W} {X : ba_X} (V : ba_V ba_tM w 7 X cX6_alike RX6 rm_m_alike) {s : ba_St} {z1 : Int32} {z2 : Int32} {z3 : Int32} {z4 : Int32} {z6 : Int32} {q0 : Int32} {o : Int32} {k : (Int32 × Int32) → Option (Int32)} (hk : ∀ (z5 : Int32) (z6 : Int32), k (z5, z6) = some o → ba_G ba_tM w 7 X s 18 [(0, .ref (w.1 0)), (1, .int z1), (2, .int z2), (3, .int z3), (4, .int z4), (5, .int z5), (6, .int z6)] []) (EX : ∀ (z5 : Int32), z5 = o → ba_G ba_tM w 7 X s 71 [(0, .ref (w.1 0)), (1, .int z1), (2, .int z2), (3, .int z3), (4, .int z4), (5, .int z5)] []) (h : xm_alike_j61_18 k s z1 z2 z3 z4 z6 q0 = some o) : ba_G ba_tM w 7 X s 61 [(0, .ref (w.1 0)), (1, .int z1), (2, .int z2), (3, .int z3), (4, .int z4), (6, .int z6)] [.int q0] := by
  unfold xm_alike_j61_18 at h
  refine ba_iconst V dX6_alike_61 ba_c0 ?_
  exact ba_sub [0, 1, 2, 3, 4, 5] rfl (ym_alike_j62_18 V hk EX h)
def xm_alike_l18 (s : ba_St) (z1 : Int32) (z2 : Int32) (z3 : Int32) (z4 : Int32) (k : (Int32 × Int32) → Option (Int32)) (a : (Int32 × Int32)) : Option (Int32) :=
  match a with
  | (z5, z6) =>
    if 10 ≤ z6 then
      some z5
    else
      ba_bnd (xm_isIn z1 z4) fun v1049 =>
      if v1049 = 0 then
        xm_alike_j61_18 k s z1 z2 z3 z4 z6 z5
      else
        ba_bnd (xm_isIn z1 z6) fun v1052 =>
        if v1052 = 0 then
          xm_alike_j61_18 k s z1 z2 z3 z4 z6 z5
        else
          ba_bnd (xm_same s z4 z6 z2) fun v1053 =>
          if v1053 = 0 then
            xm_alike_j61_18 k s z1 z2 z3 z4 z6 z5
          else
            xm_alike_j62_18 k s z1 z2 z3 z4 z6 1 z5
set_option maxHeartbeats 4000000 in
set_option maxRecDepth 100000 in
theorem ym_alike_l18 {w : ba_W} {X : ba_X} (V : ba_V ba_tM w 7 X cX6_alike RX6 rm_m_alike) {s : ba_St} {z1 : Int32} {z2 : Int32} {z3 : Int32} {z4 : Int32} {o : Int32} (EX : ∀ (z5 : Int32), z5 = o → ba_G ba_tM w 7 X s 71 [(0, .ref (w.1 0)), (1, .int z1), (2, .int z2), (3, .int z3), (4, .int z4), (5, .int z5)] []) : ∀ (n : Nat) (z5 : Int32) (z6 : Int32), ba_fix (xm_alike_l18 s z1 z2 z3 z4) n (z5, z6) = some o → ba_G ba_tM w 7 X s 18 [(0, .ref (w.1 0)), (1, .int z1), (2, .int z2), (3, .int z3), (4, .int z4), (5, .int z5), (6, .int z6)] [] := by
  intro n z5 z6 h
  refine ba_loop (P := fun a => ba_G ba_tM w 7 X s 18 [(0, .ref (w.1 0)), (1, .int z1), (2, .int z2), (3, .int z3), (4, .int z4), (5, .int a.1), (6, .int a.2)] []) ?_ n (z5, z6) h
  intro k hk0 a h
  obtain ⟨z5, z6⟩ := a
  have hk : ∀ (z5 : Int32) (z6 : Int32), k (z5, z6) = some o → ba_G ba_tM w 7 X s 18 [(0, .ref (w.1 0)), (1, .int z1), (2, .int z2), (3, .int z3), (4, .int z4), (5, .int z5), (6, .int z6)] [] := fun z5 z6 e => hk0 (z5, z6) e
  unfold xm_alike_l18 at h
  try dsimp only at h ⊢
  refine ba_iload V dX6_alike_18 6 rfl ?_
  refine ba_bipush V dX6_alike_20 ba_c10b ?_
  refine ba_icmp_ge V dX6_alike_22 rfl h (fun h => ?_) (fun h => ?_)
  · exact ba_sub [0, 1, 2, 3, 4, 5] rfl (EX _ (Option.some.inj h))
  · refine ba_iload V dX6_alike_25 5 rfl ?_
    refine ba_iload_n V dX6_alike_27 1 rfl ?_
    refine ba_iload V dX6_alike_28 4 rfl ?_
    obtain ⟨v1049, hc, h⟩ := ba_bnd_some h
    refine ba_callSI (As := [.int z1, .int z4]) (st := [.int z5]) V dX6_alike_30 kcX6_196 (fun l => ym_isIn V.inj l hc) ⟨rfl, rfl⟩ ⟨rfl, rfl, Nat.le_of_ble_eq_true rfl, Nat.le_of_ble_eq_true rfl⟩ (Nat.le_of_ble_eq_true rfl) ?_
    refine ba_if_eq V dX6_alike_33 rfl h (fun h => ?_) (fun h => ?_)
    · exact ba_sub [0, 1, 2, 3, 4, 6] rfl (ym_alike_j61_18 V hk EX h)
    · refine ba_iload_n V dX6_alike_36 1 rfl ?_
      refine ba_iload V dX6_alike_37 6 rfl ?_
      obtain ⟨v1052, hc, h⟩ := ba_bnd_some h
      refine ba_callSI (As := [.int z1, .int z6]) (st := [.int z5]) V dX6_alike_39 kcX6_196 (fun l => ym_isIn V.inj l hc) ⟨rfl, rfl⟩ ⟨rfl, rfl, Nat.le_of_ble_eq_true rfl, Nat.le_of_ble_eq_true rfl⟩ (Nat.le_of_ble_eq_true rfl) ?_
      refine ba_if_eq V dX6_alike_42 rfl h (fun h => ?_) (fun h => ?_)
      · exact ba_sub [0, 1, 2, 3, 4, 6] rfl (ym_alike_j61_18 V hk EX h)
      · refine ba_aload_n V dX6_alike_45 0 rfl ?_
        refine ba_iload V dX6_alike_46 4 rfl ?_
        refine ba_iload V dX6_alike_48 6 rfl ?_
        refine ba_iload_n V dX6_alike_50 2 rfl ?_
        obtain ⟨v1053, hc, h⟩ := ba_bnd_some h
        refine ba_callVI (As := [.int z4, .int z6, .int z2]) (st := [.int z5]) V dX6_alike_51 kcX6_310 ba_sModel (fun l => ym_same V.inj l hc) ⟨rfl, rfl⟩ ⟨rfl, rfl, Nat.le_of_ble_eq_true rfl, Nat.le_of_ble_eq_true rfl⟩ (Nat.le_of_ble_eq_true rfl) ?_
        refine ba_if_eq V dX6_alike_54 rfl h (fun h => ?_) (fun h => ?_)
        · exact ba_sub [0, 1, 2, 3, 4, 6] rfl (ym_alike_j61_18 V hk EX h)
        · refine ba_iconst V dX6_alike_57 ba_c1 ?_
          refine ba_goto V dX6_alike_58 rfl ?_
          exact ba_sub [0, 1, 2, 3, 4, 6] rfl (ym_alike_j62_18 V hk EX h)
def xm_alike_l5 (s : ba_St) (z1 : Int32) (z2 : Int32) (k : (Int32 × Int32) → Option (Int32)) (a : (Int32 × Int32)) : Option (Int32) :=
  match a with
  | (z3, z4) =>
    if 10 ≤ z4 then
      some z3
    else
      ba_bnd (ba_fix (xm_alike_l18 s z1 z2 z3 z4) 1000 (0, 1)) fun x1054 =>
        ba_bnd (xm_greater x1054 z3) fun v1055 =>
        ba_lt (z4 + 1) fun x1056 =>
        k (v1055, x1056)
set_option maxHeartbeats 4000000 in
set_option maxRecDepth 100000 in
theorem ym_alike_l5 {w : ba_W} {X : ba_X} (V : ba_V ba_tM w 7 X cX6_alike RX6 rm_m_alike) {s : ba_St} {z1 : Int32} {z2 : Int32} {o : Int32} (EX : ∀ (z3 : Int32), z3 = o → ba_G ba_tM w 7 X s 84 [(3, .int z3)] []) : ∀ (n : Nat) (z3 : Int32) (z4 : Int32), ba_fix (xm_alike_l5 s z1 z2) n (z3, z4) = some o → ba_G ba_tM w 7 X s 5 [(0, .ref (w.1 0)), (1, .int z1), (2, .int z2), (3, .int z3), (4, .int z4)] [] := by
  intro n z3 z4 h
  refine ba_loop (P := fun a => ba_G ba_tM w 7 X s 5 [(0, .ref (w.1 0)), (1, .int z1), (2, .int z2), (3, .int a.1), (4, .int a.2)] []) ?_ n (z3, z4) h
  intro k hk0 a h
  obtain ⟨z3, z4⟩ := a
  have hk : ∀ (z3 : Int32) (z4 : Int32), k (z3, z4) = some o → ba_G ba_tM w 7 X s 5 [(0, .ref (w.1 0)), (1, .int z1), (2, .int z2), (3, .int z3), (4, .int z4)] [] := fun z3 z4 e => hk0 (z3, z4) e
  unfold xm_alike_l5 at h
  try dsimp only at h ⊢
  refine ba_iload V dX6_alike_5 4 rfl ?_
  refine ba_bipush V dX6_alike_7 ba_c10b ?_
  refine ba_icmp_ge V dX6_alike_9 rfl h (fun h => ?_) (fun h => ?_)
  · exact ba_sub [3] rfl (EX _ (Option.some.inj h))
  · refine ba_iconst V dX6_alike_12 ba_c0 ?_
    refine ba_istore (lv' := [(5, .int 0), (0, .ref (w.1 0)), (1, .int z1), (2, .int z2), (3, .int z3), (4, .int z4)]) V dX6_alike_13 (by decide) rfl ?_
    refine ba_iconst V dX6_alike_15 ba_c1 ?_
    refine ba_istore (lv' := [(6, .int 1), (5, .int 0), (0, .ref (w.1 0)), (1, .int z1), (2, .int z2), (3, .int z3), (4, .int z4)]) V dX6_alike_16 (by decide) rfl ?_
    obtain ⟨o, ho, h⟩ := ba_bnd_some h
    refine ba_sub [2, 3, 4, 5, 6, 1, 0] rfl (ym_alike_l18 V (o := o) (fun x1054 e => ?_) 1000 0 1 ho)
    subst e
    try dsimp only at h
    refine ba_iload V dX6_alike_71 5 rfl ?_
    refine ba_iload_n V dX6_alike_73 3 rfl ?_
    obtain ⟨v1055, hc, h⟩ := ba_bnd_some h
    refine ba_callSI (As := [.int x1054, .int z3]) (st := []) V dX6_alike_74 kcX6_268 (fun l => ym_greater V.inj l hc) ⟨rfl, rfl⟩ ⟨rfl, rfl, Nat.le_of_ble_eq_true rfl, Nat.le_of_ble_eq_true rfl⟩ (Nat.le_of_ble_eq_true rfl) ?_
    refine ba_istore_n (lv' := [(3, .int v1055), (0, .ref (w.1 0)), (1, .int z1), (2, .int z2), (4, .int z4), (5, .int x1054)]) V dX6_alike_77 (by decide) rfl ?_
    refine ba_iinc V dX6_alike_78 4 rfl ba_c1 (by decide) h (fun x1056 h => ⟨[(4, .int x1056), (3, .int v1055), (0, .ref (w.1 0)), (1, .int z1), (2, .int z2), (5, .int x1054)], rfl, ?_⟩)
    refine ba_goto V dX6_alike_81 rfl ?_
    exact ba_sub [2, 3, 4, 1, 0] rfl (hk _ _ h)
def xm_alike (s : ba_St) (a1 : Int32) (a2 : Int32) : Option (Int32) :=
  ba_bnd (ba_fix (xm_alike_l5 s a1 a2) 1000 (0, 1)) fun x1057 =>
    some x1057
set_option maxHeartbeats 4000000 in
set_option maxRecDepth 100000 in
theorem ym_alike {w : ba_W} (hj : ba_inj ba_tM w) (l : Launch) {s : ba_St} {a1 : Int32} {a2 : Int32} {o : Int32} (h : xm_alike s a1 a2 = some o) : ba_CI ba_tM w l yX6_alike cX6_alike 7 (some .int) rm_m_alike [.ref (w.1 0), .int a1, .int a2] s (o, s) := by
  refine ba_metI (lv := [(0, .ref (w.1 0)), (1, .int a1), (2, .int a2)]) l hj (by decide +kernel) ⟨Nat.le_of_ble_eq_true rfl, rfl⟩ ?_
  intro X V RT
  replace RT := fun pc lv v D e => RT pc lv v s D (congrArg (fun q => (q, s)) e)
  unfold xm_alike at h
  refine ba_iconst V dX6_alike_0 ba_c0 ?_
  refine ba_istore_n (lv' := [(3, .int 0), (0, .ref (w.1 0)), (1, .int a1), (2, .int a2)]) V dX6_alike_1 (by decide) rfl ?_
  refine ba_iconst V dX6_alike_2 ba_c1 ?_
  refine ba_istore (lv' := [(4, .int 1), (3, .int 0), (0, .ref (w.1 0)), (1, .int a1), (2, .int a2)]) V dX6_alike_3 (by decide) rfl ?_
  obtain ⟨o, ho, h⟩ := ba_bnd_some h
  refine ba_sub [2, 3, 4, 1, 0] rfl (ym_alike_l5 V (o := o) (fun x1057 e => ?_) 1000 0 1 ho)
  subst e
  try dsimp only at h
  refine ba_iload_n V dX6_alike_84 0 rfl ?_
  exact RT _ _ _ dX6_alike_85 (Option.some.inj h)
def xm_askOf_j48_19 (k : (Int32 × Int32 × Int32) → Option (Int32)) (s : ba_St) (z2 : Int32) (z4 : Int32) (z5 : Int32) (z6 : Int32) (q0 : Int32) : Option (Int32) :=
  ba_bnd (xm_lesser z6 z4) fun v1062 =>
  ba_lt (z5 + 1) fun x1063 =>
  k (q0, v1062, x1063)
set_option maxHeartbeats 4000000 in
set_option maxRecDepth 100000 in
theorem ym_askOf_j48_19 {w : ba_W} {X : ba_X} (V : ba_V ba_tM w 7 X cX6_askOf RX6 rm_m_askOf) {s : ba_St} {z2 : Int32} {z4 : Int32} {z5 : Int32} {z6 : Int32} {q0 : Int32} {o : Int32} {k : (Int32 × Int32 × Int32) → Option (Int32)} (hk : ∀ (z3 : Int32) (z4 : Int32) (z5 : Int32), k (z3, z4, z5) = some o → ba_G ba_tM w 7 X s 19 [(0, .ref (w.1 0)), (2, .int z2), (3, .int z3), (4, .int z4), (5, .int z5)] []) (EX : ∀ (z3 : Int32), z3 = o → ba_G ba_tM w 7 X s 64 [(3, .int z3)] []) (h : xm_askOf_j48_19 k s z2 z4 z5 z6 q0 = some o) : ba_G ba_tM w 7 X s 48 [(0, .ref (w.1 0)), (2, .int z2), (4, .int z4), (5, .int z5), (6, .int z6)] [.int q0] := by
  unfold xm_askOf_j48_19 at h
  refine ba_istore_n (lv' := [(3, .int q0), (0, .ref (w.1 0)), (2, .int z2), (4, .int z4), (5, .int z5), (6, .int z6)]) V dX6_askOf_48 (by decide) rfl ?_
  refine ba_iload V dX6_askOf_49 5 rfl ?_
  refine ba_iload V dX6_askOf_51 3 rfl ?_
  obtain ⟨v1062, hc, h⟩ := ba_bnd_some h
  refine ba_callSI (As := [.int z6, .int z4]) (st := []) V dX6_askOf_53 kcX6_317 (fun l => ym_lesser V.inj l hc) ⟨rfl, rfl⟩ ⟨rfl, rfl, Nat.le_of_ble_eq_true rfl, Nat.le_of_ble_eq_true rfl⟩ (Nat.le_of_ble_eq_true rfl) ?_
  refine ba_istore (lv' := [(4, .int v1062), (3, .int q0), (0, .ref (w.1 0)), (2, .int z2), (5, .int z5), (6, .int z6)]) V dX6_askOf_56 (by decide) rfl ?_
  refine ba_iinc V dX6_askOf_58 4 rfl ba_c1 (by decide) h (fun x1063 h => ⟨[(5, .int x1063), (4, .int v1062), (3, .int q0), (0, .ref (w.1 0)), (2, .int z2), (6, .int z6)], rfl, ?_⟩)
  refine ba_goto V dX6_askOf_61 rfl ?_
  exact ba_sub [3, 4, 2, 1, 0] rfl (hk _ _ _ h)
def xm_askOf_l19 (s : ba_St) (z2 : Int32) (k : (Int32 × Int32 × Int32) → Option (Int32)) (a : (Int32 × Int32 × Int32)) : Option (Int32) :=
  match a with
  | (z3, z4, z5) =>
    if 24 ≤ z5 then
      some z3
    else
      ba_bnd (xm_alike s z2 z5) fun v1061 =>
      if z4 ≤ v1061 then
        xm_askOf_j48_19 k s z2 z4 z5 v1061 z3
      else
        xm_askOf_j48_19 k s z2 z4 z5 v1061 z5
set_option maxHeartbeats 4000000 in
set_option maxRecDepth 100000 in
theorem ym_askOf_l19 {w : ba_W} {X : ba_X} (V : ba_V ba_tM w 7 X cX6_askOf RX6 rm_m_askOf) {s : ba_St} {z2 : Int32} {o : Int32} (EX : ∀ (z3 : Int32), z3 = o → ba_G ba_tM w 7 X s 64 [(3, .int z3)] []) : ∀ (n : Nat) (z3 : Int32) (z4 : Int32) (z5 : Int32), ba_fix (xm_askOf_l19 s z2) n (z3, z4, z5) = some o → ba_G ba_tM w 7 X s 19 [(0, .ref (w.1 0)), (2, .int z2), (3, .int z3), (4, .int z4), (5, .int z5)] [] := by
  intro n z3 z4 z5 h
  refine ba_loop (P := fun a => ba_G ba_tM w 7 X s 19 [(0, .ref (w.1 0)), (2, .int z2), (3, .int a.1), (4, .int a.2.1), (5, .int a.2.2)] []) ?_ n (z3, z4, z5) h
  intro k hk0 a h
  obtain ⟨z3, z4, z5⟩ := a
  have hk : ∀ (z3 : Int32) (z4 : Int32) (z5 : Int32), k (z3, z4, z5) = some o → ba_G ba_tM w 7 X s 19 [(0, .ref (w.1 0)), (2, .int z2), (3, .int z3), (4, .int z4), (5, .int z5)] [] := fun z3 z4 z5 e => hk0 (z3, z4, z5) e
  unfold xm_askOf_l19 at h
  try dsimp only at h ⊢
  refine ba_iload V dX6_askOf_19 4 rfl ?_
  refine ba_bipush V dX6_askOf_21 ba_c24b ?_
  refine ba_icmp_ge V dX6_askOf_23 rfl h (fun h => ?_) (fun h => ?_)
  · exact ba_sub [2] rfl (EX _ (Option.some.inj h))
  · refine ba_aload_n V dX6_askOf_26 0 rfl ?_
    refine ba_iload_n V dX6_askOf_27 1 rfl ?_
    refine ba_iload V dX6_askOf_28 4 rfl ?_
    obtain ⟨v1061, hc, h⟩ := ba_bnd_some h
    refine ba_callVI (As := [.int z2, .int z5]) (st := []) V dX6_askOf_30 kcX6_314 ba_sModel (fun l => ym_alike V.inj l hc) ⟨rfl, rfl⟩ ⟨rfl, rfl, Nat.le_of_ble_eq_true rfl, Nat.le_of_ble_eq_true rfl⟩ (Nat.le_of_ble_eq_true rfl) ?_
    refine ba_istore (lv' := [(6, .int v1061), (0, .ref (w.1 0)), (2, .int z2), (3, .int z3), (4, .int z4), (5, .int z5)]) V dX6_askOf_33 (by decide) rfl ?_
    refine ba_iload V dX6_askOf_35 0 rfl ?_
    refine ba_iload V dX6_askOf_37 4 rfl ?_
    refine ba_icmp_ge V dX6_askOf_39 rfl h (fun h => ?_) (fun h => ?_)
    · refine ba_iload_n V dX6_askOf_47 3 rfl ?_
      exact ba_sub [1, 2, 4, 5, 0] rfl (ym_askOf_j48_19 V hk EX h)
    · refine ba_iload V dX6_askOf_42 5 rfl ?_
      refine ba_goto V dX6_askOf_44 rfl ?_
      exact ba_sub [1, 2, 4, 5, 0] rfl (ym_askOf_j48_19 V hk EX h)
def xm_askOf (s : ba_St) (a1 : Int32) : Option (Int32 × ba_St) :=
  ba_bn2 (xm_forcesOf s a1) fun v1058 s1059 =>
  ba_bnd (xm_alike s1059 v1058 0) fun v1060 =>
  ba_bnd (ba_fix (xm_askOf_l19 s1059 v1058) 1000 (0, v1060, 1)) fun x1064 =>
    some (x1064, s1059)
set_option maxHeartbeats 4000000 in
set_option maxRecDepth 100000 in
theorem ym_askOf {w : ba_W} (hj : ba_inj ba_tM w) (l : Launch) {s : ba_St} {a1 : Int32} {o : Int32 × ba_St} (h : xm_askOf s a1 = some o) : ba_CI ba_tM w l yX6_askOf cX6_askOf 7 (some .int) rm_m_askOf [.ref (w.1 0), .int a1] s o := by
  refine ba_metI (lv := [(0, .ref (w.1 0)), (1, .int a1)]) l hj (by decide +kernel) ⟨Nat.le_of_ble_eq_true rfl, rfl⟩ ?_
  intro X V RT
  unfold xm_askOf at h
  refine ba_aload_n V dX6_askOf_0 0 rfl ?_
  refine ba_iload_n V dX6_askOf_1 1 rfl ?_
  obtain ⟨v1058, s1059, hc, h⟩ := ba_bn2_some h
  refine ba_callVI (As := [.int a1]) (st := []) V dX6_askOf_2 kcX6_304 ba_sModel (fun l => ym_forcesOf V.inj l hc) ⟨rfl, rfl⟩ ⟨rfl, rfl, Nat.le_of_ble_eq_true rfl, Nat.le_of_ble_eq_true rfl⟩ (Nat.le_of_ble_eq_true rfl) ?_
  refine ba_istore_n (lv' := [(2, .int v1058), (0, .ref (w.1 0)), (1, .int a1)]) V dX6_askOf_5 (by decide) rfl ?_
  refine ba_iconst V dX6_askOf_6 ba_c0 ?_
  refine ba_istore_n (lv' := [(3, .int 0), (2, .int v1058), (0, .ref (w.1 0)), (1, .int a1)]) V dX6_askOf_7 (by decide) rfl ?_
  refine ba_aload_n V dX6_askOf_8 2 rfl ?_
  refine ba_iload_n V dX6_askOf_9 1 rfl ?_
  refine ba_iconst V dX6_askOf_10 ba_c0 ?_
  obtain ⟨v1060, hc, h⟩ := ba_bnd_some h
  refine ba_callVI (As := [.int v1058, .int 0]) (st := []) V dX6_askOf_11 kcX6_314 ba_sModel (fun l => ym_alike V.inj l hc) ⟨rfl, rfl⟩ ⟨rfl, rfl, Nat.le_of_ble_eq_true rfl, Nat.le_of_ble_eq_true rfl⟩ (Nat.le_of_ble_eq_true rfl) ?_
  refine ba_istore (lv' := [(4, .int v1060), (3, .int 0), (2, .int v1058), (0, .ref (w.1 0)), (1, .int a1)]) V dX6_askOf_14 (by decide) rfl ?_
  refine ba_iconst V dX6_askOf_16 ba_c1 ?_
  refine ba_istore (lv' := [(5, .int 1), (4, .int v1060), (3, .int 0), (2, .int v1058), (0, .ref (w.1 0)), (1, .int a1)]) V dX6_askOf_17 (by decide) rfl ?_
  obtain ⟨o, ho, h⟩ := ba_bnd_some h
  refine ba_sub [4, 3, 2, 1, 0] rfl (ym_askOf_l19 V (o := o) (fun x1064 e => ?_) 1000 0 v1060 1 ho)
  subst e
  try dsimp only at h
  refine ba_iload_n V dX6_askOf_64 0 rfl ?_
  exact RT _ _ _ _ dX6_askOf_65 (Option.some.inj h)
def xm_ask (s : ba_St) (a1 : Int32) : Option (Int32 × ba_St) :=
  ba_bnd (xm_find s) fun s1065 =>
  ba_bnd (xm_isBall s1065 a1) fun v1066 =>
  if v1066 = 0 then
    some ((-2), s1065)
  else
    ba_bn2 (xm_askOf s1065 a1) fun v1067 s1068 =>
    some (v1067, s1068)
set_option maxHeartbeats 4000000 in
set_option maxRecDepth 100000 in
theorem ym_ask {w : ba_W} (hj : ba_inj ba_tM w) (l : Launch) {s : ba_St} {a1 : Int32} {o : Int32 × ba_St} (h : xm_ask s a1 = some o) : ba_CI ba_tM w l yX6_ask cX6_ask 2 (some .int) rm_m_ask [.ref (w.1 0), .int a1] s o := by
  refine ba_metI (lv := [(0, .ref (w.1 0)), (1, .int a1)]) l hj (by decide +kernel) ⟨Nat.le_of_ble_eq_true rfl, rfl⟩ ?_
  intro X V RT
  unfold xm_ask at h
  refine ba_aload_n V dX6_ask_0 0 rfl ?_
  obtain ⟨s1065, hc, h⟩ := ba_bnd_some h
  refine ba_callVV (As := []) (st := []) V dX6_ask_1 kcX6_239 ba_sModel (fun l => ym_find V.inj l hc) ⟨rfl, rfl⟩ ⟨rfl, rfl, Nat.le_of_ble_eq_true rfl, Nat.le_of_ble_eq_true rfl⟩ (Nat.le_of_ble_eq_true rfl) ?_
  refine ba_aload_n V dX6_ask_4 0 rfl ?_
  refine ba_iload_n V dX6_ask_5 1 rfl ?_
  obtain ⟨v1066, hc, h⟩ := ba_bnd_some h
  refine ba_callVI (As := [.int a1]) (st := []) V dX6_ask_6 kcX6_169 ba_sModel (fun l => ym_isBall V.inj l hc) ⟨rfl, rfl⟩ ⟨rfl, rfl, Nat.le_of_ble_eq_true rfl, Nat.le_of_ble_eq_true rfl⟩ (Nat.le_of_ble_eq_true rfl) ?_
  refine ba_if_eq V dX6_ask_9 rfl h (fun h => ?_) (fun h => ?_)
  · refine ba_bipush V dX6_ask_20 ba_cm2b ?_
    exact RT _ _ _ _ dX6_ask_22 (Option.some.inj h)
  · refine ba_aload_n V dX6_ask_12 0 rfl ?_
    refine ba_iload_n V dX6_ask_13 1 rfl ?_
    obtain ⟨v1067, s1068, hc, h⟩ := ba_bn2_some h
    refine ba_callVI (As := [.int a1]) (st := []) V dX6_ask_14 kcX6_320 ba_sModel (fun l => ym_askOf V.inj l hc) ⟨rfl, rfl⟩ ⟨rfl, rfl, Nat.le_of_ble_eq_true rfl, Nat.le_of_ble_eq_true rfl⟩ (Nat.le_of_ble_eq_true rfl) ?_
    refine ba_goto V dX6_ask_17 rfl ?_
    exact RT _ _ _ _ dX6_ask_22 (Option.some.inj h)
def xm_chanceOf_j77_46 (k : (Int64 × Int32) → Option (Int64)) (s : ba_St) (z1 : Int32) (z2 : Int32) (z3 : Int32) (z4 : Int64) (z6 : Int32) (z9 : Int32) (q0 : Int64) (q1 : Int64) : Option (Int64) :=
  ba_lt (q1 * q0) fun x1072 =>
  ba_lt (z9 + 1) fun x1073 =>
  k (x1072, x1073)
set_option maxHeartbeats 4000000 in
set_option maxRecDepth 100000 in
theorem ym_chanceOf_j77_46 {w : ba_W} {X : ba_X} (V : ba_V ba_tM w 10 X cX6_chanceOf RX6 rm_m_chanceOf) {s : ba_St} {z1 : Int32} {z2 : Int32} {z3 : Int32} {z4 : Int64} {z6 : Int32} {z9 : Int32} {q0 : Int64} {q1 : Int64} {o : Int64} {k : (Int64 × Int32) → Option (Int64)} (hk : ∀ (z7 : Int64) (z9 : Int32), k (z7, z9) = some o → ba_G ba_tM w 10 X s 46 [(0, .ref (w.1 0)), (1, .int z1), (2, .int z2), (3, .int z3), (4, .long z4), (6, .int z6), (7, .long z7), (9, .int z9)] []) (EX : ∀ (z7 : Int64), z7 = o → ba_G ba_tM w 10 X s 86 [(0, .ref (w.1 0)), (1, .int z1), (2, .int z2), (3, .int z3), (4, .long z4), (6, .int z6), (7, .long z7)] []) (h : xm_chanceOf_j77_46 k s z1 z2 z3 z4 z6 z9 q0 q1 = some o) : ba_G ba_tM w 10 X s 77 [(0, .ref (w.1 0)), (1, .int z1), (2, .int z2), (3, .int z3), (4, .long z4), (6, .int z6), (9, .int z9)] [.long q0, .long q1] := by
  unfold xm_chanceOf_j77_46 at h
  refine ba_lmul V dX6_chanceOf_77 ?_
  refine ba_letL h (fun x1072 h => ?_)
  refine ba_lstore (lv' := [(7, .long x1072), (0, .ref (w.1 0)), (1, .int z1), (2, .int z2), (3, .int z3), (4, .long z4), (6, .int z6), (9, .int z9)]) V dX6_chanceOf_78 (by decide) rfl ?_
  refine ba_iinc V dX6_chanceOf_80 7 rfl ba_c1 (by decide) h (fun x1073 h => ⟨[(9, .int x1073), (7, .long x1072), (0, .ref (w.1 0)), (1, .int z1), (2, .int z2), (3, .int z3), (4, .long z4), (6, .int z6)], rfl, ?_⟩)
  refine ba_goto V dX6_chanceOf_83 rfl ?_
  exact ba_sub [2, 3, 4, 5, 6, 7, 1, 0] rfl (hk _ _ h)
def xm_chanceOf_l46 (s : ba_St) (z1 : Int32) (z2 : Int32) (z3 : Int32) (z4 : Int64) (z6 : Int32) (k : (Int64 × Int32) → Option (Int64)) (a : (Int64 × Int32)) : Option (Int64) :=
  match a with
  | (z7, z9) =>
    if (s.1 0 13) ≤ z9 then
      some z7
    else
      ba_bnd (xm_isIn z6 z9) fun v1071 =>
      if v1071 = 0 then
        xm_chanceOf_j77_46 k s z1 z2 z3 z4 z6 z9 (Int32.toInt64 z1) z7
      else
        xm_chanceOf_j77_46 k s z1 z2 z3 z4 z6 z9 (Int32.toInt64 (16 - z1)) z7
set_option maxHeartbeats 4000000 in
set_option maxRecDepth 100000 in
theorem ym_chanceOf_l46 {w : ba_W} {X : ba_X} (V : ba_V ba_tM w 10 X cX6_chanceOf RX6 rm_m_chanceOf) {s : ba_St} {z1 : Int32} {z2 : Int32} {z3 : Int32} {z4 : Int64} {z6 : Int32} {o : Int64} (EX : ∀ (z7 : Int64), z7 = o → ba_G ba_tM w 10 X s 86 [(0, .ref (w.1 0)), (1, .int z1), (2, .int z2), (3, .int z3), (4, .long z4), (6, .int z6), (7, .long z7)] []) : ∀ (n : Nat) (z7 : Int64) (z9 : Int32), ba_fix (xm_chanceOf_l46 s z1 z2 z3 z4 z6) n (z7, z9) = some o → ba_G ba_tM w 10 X s 46 [(0, .ref (w.1 0)), (1, .int z1), (2, .int z2), (3, .int z3), (4, .long z4), (6, .int z6), (7, .long z7), (9, .int z9)] [] := by
  intro n z7 z9 h
  refine ba_loop (P := fun a => ba_G ba_tM w 10 X s 46 [(0, .ref (w.1 0)), (1, .int z1), (2, .int z2), (3, .int z3), (4, .long z4), (6, .int z6), (7, .long a.1), (9, .int a.2)] []) ?_ n (z7, z9) h
  intro k hk0 a h
  obtain ⟨z7, z9⟩ := a
  have hk : ∀ (z7 : Int64) (z9 : Int32), k (z7, z9) = some o → ba_G ba_tM w 10 X s 46 [(0, .ref (w.1 0)), (1, .int z1), (2, .int z2), (3, .int z3), (4, .long z4), (6, .int z6), (7, .long z7), (9, .int z9)] [] := fun z7 z9 e => hk0 (z7, z9) e
  unfold xm_chanceOf_l46 at h
  try dsimp only at h ⊢
  refine ba_iload V dX6_chanceOf_46 7 rfl ?_
  refine ba_aload_n V dX6_chanceOf_48 0 rfl ?_
  refine ba_getI V dX6_chanceOf_49 kfX6_182 ba_sModel rfl ?_
  refine ba_icmp_ge V dX6_chanceOf_52 rfl h (fun h => ?_) (fun h => ?_)
  · exact ba_sub [0, 1, 2, 3, 4, 5, 6] rfl (EX _ (Option.some.inj h))
  · refine ba_lload V dX6_chanceOf_55 6 rfl ?_
    refine ba_iload V dX6_chanceOf_57 5 rfl ?_
    refine ba_iload V dX6_chanceOf_59 7 rfl ?_
    obtain ⟨v1071, hc, h⟩ := ba_bnd_some h
    refine ba_callSI (As := [.int z6, .int z9]) (st := [.long z7]) V dX6_chanceOf_61 kcX6_196 (fun l => ym_isIn V.inj l hc) ⟨rfl, rfl⟩ ⟨rfl, rfl, Nat.le_of_ble_eq_true rfl, Nat.le_of_ble_eq_true rfl⟩ (Nat.le_of_ble_eq_true rfl) ?_
    refine ba_if_eq V dX6_chanceOf_64 rfl h (fun h => ?_) (fun h => ?_)
    · refine ba_iload_n V dX6_chanceOf_75 1 rfl ?_
      refine ba_i2l V dX6_chanceOf_76 ?_
      exact ba_sub [0, 1, 2, 3, 4, 5, 7] rfl (ym_chanceOf_j77_46 V hk EX h)
    · refine ba_bipush V dX6_chanceOf_67 ba_c16b ?_
      refine ba_iload_n V dX6_chanceOf_69 1 rfl ?_
      refine ba_isub V dX6_chanceOf_70 ?_
      refine ba_i2l V dX6_chanceOf_71 ?_
      refine ba_goto V dX6_chanceOf_72 rfl ?_
      exact ba_sub [0, 1, 2, 3, 4, 5, 7] rfl (ym_chanceOf_j77_46 V hk EX h)
def xm_chanceOf_j41_6 (k : (ba_St × Int64 × Int32) → Option (ba_St × Int64)) (s : ba_St) (z1 : Int32) (z2 : Int32) (z3 : Int32) (z4 : Int64) (z6 : Int32) (q0 : Int64) : Option (ba_St × Int64) :=
  ba_bnd (ba_fix (xm_chanceOf_l46 s z1 z2 z3 z4 z6) 1000 (q0, 0)) fun x1074 =>
    ba_lt (z4 + x1074) fun x1075 =>
    ba_lt (z6 + 1) fun x1076 =>
    k (s, x1075, x1076)
set_option maxHeartbeats 4000000 in
set_option maxRecDepth 100000 in
theorem ym_chanceOf_j41_6 {w : ba_W} {X : ba_X} (V : ba_V ba_tM w 10 X cX6_chanceOf RX6 rm_m_chanceOf) {s : ba_St} {z1 : Int32} {z2 : Int32} {z3 : Int32} {z4 : Int64} {z6 : Int32} {q0 : Int64} {o : ba_St × Int64} {k : (ba_St × Int64 × Int32) → Option (ba_St × Int64)} (hk : ∀ (s : ba_St) (z4 : Int64) (z6 : Int32), k (s, z4, z6) = some o → ba_G ba_tM w 10 X s 6 [(0, .ref (w.1 0)), (1, .int z1), (2, .int z2), (3, .int z3), (4, .long z4), (6, .int z6)] []) (EX : ∀ (s : ba_St) (z4 : Int64), (s, z4) = o → ba_G ba_tM w 10 X s 99 [(0, .ref (w.1 0)), (3, .int z3), (4, .long z4)] []) (h : xm_chanceOf_j41_6 k s z1 z2 z3 z4 z6 q0 = some o) : ba_G ba_tM w 10 X s 41 [(0, .ref (w.1 0)), (1, .int z1), (2, .int z2), (3, .int z3), (4, .long z4), (6, .int z6)] [.long q0] := by
  unfold xm_chanceOf_j41_6 at h
  refine ba_lstore (lv' := [(7, .long q0), (0, .ref (w.1 0)), (1, .int z1), (2, .int z2), (3, .int z3), (4, .long z4), (6, .int z6)]) V dX6_chanceOf_41 (by decide) rfl ?_
  refine ba_iconst V dX6_chanceOf_43 ba_c0 ?_
  refine ba_istore (lv' := [(9, .int 0), (7, .long q0), (0, .ref (w.1 0)), (1, .int z1), (2, .int z2), (3, .int z3), (4, .long z4), (6, .int z6)]) V dX6_chanceOf_44 (by decide) rfl ?_
  obtain ⟨o, ho, h⟩ := ba_bnd_some h
  refine ba_sub [2, 3, 4, 5, 6, 7, 1, 0] rfl (ym_chanceOf_l46 V (o := o) (fun x1074 e => ?_) 1000 q0 0 ho)
  subst e
  try dsimp only at h
  refine ba_lload V dX6_chanceOf_86 4 rfl ?_
  refine ba_lload V dX6_chanceOf_88 6 rfl ?_
  refine ba_ladd V dX6_chanceOf_90 ?_
  refine ba_letL h (fun x1075 h => ?_)
  refine ba_lstore (lv' := [(4, .long x1075), (0, .ref (w.1 0)), (1, .int z1), (2, .int z2), (3, .int z3), (6, .int z6), (7, .long x1074)]) V dX6_chanceOf_91 (by decide) rfl ?_
  refine ba_iinc V dX6_chanceOf_93 5 rfl ba_c1 (by decide) h (fun x1076 h => ⟨[(6, .int x1076), (4, .long x1075), (0, .ref (w.1 0)), (1, .int z1), (2, .int z2), (3, .int z3), (7, .long x1074)], rfl, ?_⟩)
  refine ba_goto V dX6_chanceOf_96 rfl ?_
  exact ba_sub [2, 3, 4, 5, 1, 0] rfl (hk _ _ _ h)
def xm_chanceOf_l6 (z1 : Int32) (z2 : Int32) (z3 : Int32) (k : (ba_St × Int64 × Int32) → Option (ba_St × Int64)) (a : (ba_St × Int64 × Int32)) : Option (ba_St × Int64) :=
  match a with
  | (s, z4, z6) =>
    if (ba_fishl 1 (s.1 0 13)) ≤ z6 then
      some (s, z4)
    else
      ba_lt (ba_w s 0 15 z6) fun s1069 =>
      ba_bnd (xm_lives s1069) fun s1070 =>
      ba_grd (ba_inb z2 12) <|
      if (s1070.1 13 (ba_ix z2)) ≤ 0 then
        xm_chanceOf_j41_6 k s1070 z1 z2 z3 z4 z6 0
      else
        xm_chanceOf_j41_6 k s1070 z1 z2 z3 z4 z6 1
set_option maxHeartbeats 4000000 in
set_option maxRecDepth 100000 in
theorem ym_chanceOf_l6 {w : ba_W} {X : ba_X} (V : ba_V ba_tM w 10 X cX6_chanceOf RX6 rm_m_chanceOf) {z1 : Int32} {z2 : Int32} {z3 : Int32} {o : ba_St × Int64} (EX : ∀ (s : ba_St) (z4 : Int64), (s, z4) = o → ba_G ba_tM w 10 X s 99 [(0, .ref (w.1 0)), (3, .int z3), (4, .long z4)] []) : ∀ (n : Nat) (s : ba_St) (z4 : Int64) (z6 : Int32), ba_fix (xm_chanceOf_l6 z1 z2 z3) n (s, z4, z6) = some o → ba_G ba_tM w 10 X s 6 [(0, .ref (w.1 0)), (1, .int z1), (2, .int z2), (3, .int z3), (4, .long z4), (6, .int z6)] [] := by
  intro n s z4 z6 h
  refine ba_loop (P := fun a => ba_G ba_tM w 10 X a.1 6 [(0, .ref (w.1 0)), (1, .int z1), (2, .int z2), (3, .int z3), (4, .long a.2.1), (6, .int a.2.2)] []) ?_ n (s, z4, z6) h
  intro k hk0 a h
  obtain ⟨s, z4, z6⟩ := a
  have hk : ∀ (s : ba_St) (z4 : Int64) (z6 : Int32), k (s, z4, z6) = some o → ba_G ba_tM w 10 X s 6 [(0, .ref (w.1 0)), (1, .int z1), (2, .int z2), (3, .int z3), (4, .long z4), (6, .int z6)] [] := fun s z4 z6 e => hk0 (s, z4, z6) e
  unfold xm_chanceOf_l6 at h
  try dsimp only at h ⊢
  refine ba_iload V dX6_chanceOf_6 5 rfl ?_
  refine ba_iconst V dX6_chanceOf_8 ba_c1 ?_
  refine ba_aload_n V dX6_chanceOf_9 0 rfl ?_
  refine ba_getI V dX6_chanceOf_10 kfX6_182 ba_sModel rfl ?_
  refine ba_ishl V dX6_chanceOf_13 ?_
  refine ba_icmp_ge V dX6_chanceOf_14 rfl h (fun h => ?_) (fun h => ?_)
  · exact ba_sub [0, 3, 4] rfl (EX _ _ (Option.some.inj h))
  · refine ba_aload_n V dX6_chanceOf_17 0 rfl ?_
    refine ba_iload V dX6_chanceOf_18 5 rfl ?_
    refine ba_putI V dX6_chanceOf_20 kfX6_193 ba_sModel rfl h (fun s1069 h => ?_)
    refine ba_aload_n V dX6_chanceOf_23 0 rfl ?_
    obtain ⟨s1070, hc, h⟩ := ba_bnd_some h
    refine ba_callVV (As := []) (st := []) V dX6_chanceOf_24 kcX6_236 ba_sModel (fun l => ym_lives V.inj l hc) ⟨rfl, rfl⟩ ⟨rfl, rfl, Nat.le_of_ble_eq_true rfl, Nat.le_of_ble_eq_true rfl⟩ (Nat.le_of_ble_eq_true rfl) ?_
    refine ba_aload_n V dX6_chanceOf_27 0 rfl ?_
    refine ba_getR V dX6_chanceOf_28 kfX6_46 ba_sModel rfl ?_
    refine ba_iload_n V dX6_chanceOf_31 2 rfl ?_
    refine ba_iald V dX6_chanceOf_32 ba_sM_13 h (fun h => ?_)
    refine ba_if_le V dX6_chanceOf_33 rfl h (fun h => ?_) (fun h => ?_)
    · refine ba_lconst V dX6_chanceOf_40 rfl ?_
      exact ba_sub [0, 1, 2, 3, 4, 5] rfl (ym_chanceOf_j41_6 V hk EX h)
    · refine ba_lconst V dX6_chanceOf_36 rfl ?_
      refine ba_goto V dX6_chanceOf_37 rfl ?_
      exact ba_sub [0, 1, 2, 3, 4, 5] rfl (ym_chanceOf_j41_6 V hk EX h)
def xm_chanceOf (s : ba_St) (a1 : Int32) (a2 : Int32) (a3 : Int32) : Option (Int64 × ba_St) :=
  ba_bnd (ba_fix (xm_chanceOf_l6 a1 a2 a3) 1000 (s, 0, 0)) fun o => match o with
  | (s1077, x1078) =>
    ba_lt (ba_w s1077 0 15 0) fun s1079 =>
    ba_bnd (xm_part x1078 (ba_flshl 1 (4 * (s1079.1 0 13))) a3) fun v1080 =>
    some (v1080, s1079)
set_option maxHeartbeats 4000000 in
set_option maxRecDepth 100000 in
theorem ym_chanceOf {w : ba_W} (hj : ba_inj ba_tM w) (l : Launch) {s : ba_St} {a1 : Int32} {a2 : Int32} {a3 : Int32} {o : Int64 × ba_St} (h : xm_chanceOf s a1 a2 a3 = some o) : ba_CL ba_tM w l yX6_chanceOf cX6_chanceOf 10 (some .long) rm_m_chanceOf [.ref (w.1 0), .int a1, .int a2, .int a3] s o := by
  refine ba_metL (lv := [(0, .ref (w.1 0)), (1, .int a1), (2, .int a2), (3, .int a3)]) l hj (by decide +kernel) ⟨Nat.le_of_ble_eq_true rfl, rfl⟩ ?_
  intro X V RT
  unfold xm_chanceOf at h
  refine ba_lconst V dX6_chanceOf_0 rfl ?_
  refine ba_lstore (lv' := [(4, .long 0), (0, .ref (w.1 0)), (1, .int a1), (2, .int a2), (3, .int a3)]) V dX6_chanceOf_1 (by decide) rfl ?_
  refine ba_iconst V dX6_chanceOf_3 ba_c0 ?_
  refine ba_istore (lv' := [(6, .int 0), (4, .long 0), (0, .ref (w.1 0)), (1, .int a1), (2, .int a2), (3, .int a3)]) V dX6_chanceOf_4 (by decide) rfl ?_
  obtain ⟨o, ho, h⟩ := ba_bnd_some h
  refine ba_sub [2, 3, 4, 5, 1, 0] rfl (ym_chanceOf_l6 V (o := o) (fun s1077 x1078 e => ?_) 1000 s 0 0 ho)
  subst e
  try dsimp only at h
  refine ba_aload_n V dX6_chanceOf_99 0 rfl ?_
  refine ba_iconst V dX6_chanceOf_100 ba_c0 ?_
  refine ba_putI V dX6_chanceOf_101 kfX6_193 ba_sModel rfl h (fun s1079 h => ?_)
  refine ba_lload V dX6_chanceOf_104 2 rfl ?_
  refine ba_lconst V dX6_chanceOf_106 rfl ?_
  refine ba_iconst V dX6_chanceOf_107 ba_c4 ?_
  refine ba_aload_n V dX6_chanceOf_108 0 rfl ?_
  refine ba_getI V dX6_chanceOf_109 kfX6_182 ba_sModel rfl ?_
  refine ba_imul V dX6_chanceOf_112 ?_
  refine ba_lshl V dX6_chanceOf_113 ?_
  refine ba_iload_n V dX6_chanceOf_114 1 rfl ?_
  obtain ⟨v1080, hc, h⟩ := ba_bnd_some h
  refine ba_callSL (As := [.long x1078, .long (ba_flshl 1 (4 * (s1079.1 0 13))), .int a3]) (st := []) V dX6_chanceOf_115 kcX6_323 (fun l => ym_part V.inj l hc) ⟨rfl, rfl⟩ ⟨rfl, rfl, Nat.le_of_ble_eq_true rfl, Nat.le_of_ble_eq_true rfl⟩ (Nat.le_of_ble_eq_true rfl) ?_
  exact RT _ _ _ _ dX6_chanceOf_118 (Option.some.inj h)
def xm_chance_j41 (s : ba_St) : Option (Int64 × ba_St) :=
  ba_bnd (xm_no (-2)) fun v1083 =>
  some (v1083, s)
set_option maxHeartbeats 4000000 in
set_option maxRecDepth 100000 in
theorem ym_chance_j41 {w : ba_W} {X : ba_X} (V : ba_V ba_tM w 4 X cX6_chance RX6 rm_m_chance) {s : ba_St} {o : Int64 × ba_St} (RT : ∀ (pc : Nat) (lv : List (Nat × Value)) (v : Int64) (s : ba_St), decode cX6_chance pc = .ok (.lreturn, 1) → (v, s) = o → ba_G ba_tM w 4 X s pc lv [.long v]) (h : xm_chance_j41 s = some o) : ba_G ba_tM w 4 X s 41 [] [] := by
  unfold xm_chance_j41 at h
  refine ba_bipush V dX6_chance_41 ba_cm2b ?_
  obtain ⟨v1083, hc, h⟩ := ba_bnd_some h
  refine ba_callSL (As := [.int (-2)]) (st := []) V dX6_chance_43 kcX6_333 (fun l => ym_no V.inj l hc) ⟨rfl, rfl⟩ ⟨rfl, rfl, Nat.le_of_ble_eq_true rfl, Nat.le_of_ble_eq_true rfl⟩ (Nat.le_of_ble_eq_true rfl) ?_
  exact RT _ _ _ _ dX6_chance_46 (Option.some.inj h)
def xm_chance (s : ba_St) (a1 : Int32) (a2 : Int32) (a3 : Int32) : Option (Int64 × ba_St) :=
  ba_bnd (xm_find s) fun s1081 =>
  ba_bnd (xm_in (Int32.toInt64 a1) 0 16) fun v1082 =>
  if v1082 = 0 then
    xm_chance_j41 s1081
  else
    ba_bnd (xm_isBall s1081 a2) fun v1084 =>
    if v1084 = 0 then
      xm_chance_j41 s1081
    else
      ba_bnd (xm_isTwo a3) fun v1085 =>
      if v1085 = 0 then
        xm_chance_j41 s1081
      else
        ba_bn2 (xm_chanceOf s1081 a1 a2 a3) fun v1086 s1087 =>
        some (v1086, s1087)
set_option maxHeartbeats 4000000 in
set_option maxRecDepth 100000 in
theorem ym_chance {w : ba_W} (hj : ba_inj ba_tM w) (l : Launch) {s : ba_St} {a1 : Int32} {a2 : Int32} {a3 : Int32} {o : Int64 × ba_St} (h : xm_chance s a1 a2 a3 = some o) : ba_CL ba_tM w l yX6_chance cX6_chance 4 (some .long) rm_m_chance [.ref (w.1 0), .int a1, .int a2, .int a3] s o := by
  refine ba_metL (lv := [(0, .ref (w.1 0)), (1, .int a1), (2, .int a2), (3, .int a3)]) l hj (by decide +kernel) ⟨Nat.le_of_ble_eq_true rfl, rfl⟩ ?_
  intro X V RT
  unfold xm_chance at h
  refine ba_aload_n V dX6_chance_0 0 rfl ?_
  obtain ⟨s1081, hc, h⟩ := ba_bnd_some h
  refine ba_callVV (As := []) (st := []) V dX6_chance_1 kcX6_239 ba_sModel (fun l => ym_find V.inj l hc) ⟨rfl, rfl⟩ ⟨rfl, rfl, Nat.le_of_ble_eq_true rfl, Nat.le_of_ble_eq_true rfl⟩ (Nat.le_of_ble_eq_true rfl) ?_
  refine ba_iload_n V dX6_chance_4 1 rfl ?_
  refine ba_i2l V dX6_chance_5 ?_
  refine ba_lconst V dX6_chance_6 rfl ?_
  refine ba_ldc2 V dX6_chance_7 kkX6_327 ?_
  obtain ⟨v1082, hc, h⟩ := ba_bnd_some h
  refine ba_callSI (As := [.long (Int32.toInt64 a1), .long 0, .long 16]) (st := []) V dX6_chance_10 kcX6_88 (fun l => ym_in V.inj l hc) ⟨rfl, rfl⟩ ⟨rfl, rfl, Nat.le_of_ble_eq_true rfl, Nat.le_of_ble_eq_true rfl⟩ (Nat.le_of_ble_eq_true rfl) ?_
  refine ba_if_eq V dX6_chance_13 rfl h (fun h => ?_) (fun h => ?_)
  · exact ba_sub [] rfl (ym_chance_j41 V RT h)
  · refine ba_aload_n V dX6_chance_16 0 rfl ?_
    refine ba_iload_n V dX6_chance_17 2 rfl ?_
    obtain ⟨v1084, hc, h⟩ := ba_bnd_some h
    refine ba_callVI (As := [.int a2]) (st := []) V dX6_chance_18 kcX6_169 ba_sModel (fun l => ym_isBall V.inj l hc) ⟨rfl, rfl⟩ ⟨rfl, rfl, Nat.le_of_ble_eq_true rfl, Nat.le_of_ble_eq_true rfl⟩ (Nat.le_of_ble_eq_true rfl) ?_
    refine ba_if_eq V dX6_chance_21 rfl h (fun h => ?_) (fun h => ?_)
    · exact ba_sub [] rfl (ym_chance_j41 V RT h)
    · refine ba_iload_n V dX6_chance_24 3 rfl ?_
      obtain ⟨v1085, hc, h⟩ := ba_bnd_some h
      refine ba_callSI (As := [.int a3]) (st := []) V dX6_chance_25 kcX6_172 (fun l => ym_isTwo V.inj l hc) ⟨rfl, rfl⟩ ⟨rfl, rfl, Nat.le_of_ble_eq_true rfl, Nat.le_of_ble_eq_true rfl⟩ (Nat.le_of_ble_eq_true rfl) ?_
      refine ba_if_eq V dX6_chance_28 rfl h (fun h => ?_) (fun h => ?_)
      · exact ba_sub [] rfl (ym_chance_j41 V RT h)
      · refine ba_aload_n V dX6_chance_31 0 rfl ?_
        refine ba_iload_n V dX6_chance_32 1 rfl ?_
        refine ba_iload_n V dX6_chance_33 2 rfl ?_
        refine ba_iload_n V dX6_chance_34 3 rfl ?_
        obtain ⟨v1086, s1087, hc, h⟩ := ba_bn2_some h
        refine ba_callVL (As := [.int a1, .int a2, .int a3]) (st := []) V dX6_chance_35 kcX6_329 ba_sModel (fun l => ym_chanceOf V.inj l hc) ⟨rfl, rfl⟩ ⟨rfl, rfl, Nat.le_of_ble_eq_true rfl, Nat.le_of_ble_eq_true rfl⟩ (Nat.le_of_ble_eq_true rfl) ?_
        refine ba_goto V dX6_chance_38 rfl ?_
        exact RT _ _ _ _ dX6_chance_46 (Option.some.inj h)
def xm_lot (s : ba_St) (a1 : Int32) : Option (Int32 × ba_St) :=
  ba_lt (ba_w s 0 32 ((1103515245 * (s.1 0 32)) + 12345)) fun s1088 =>
  ba_grd (decide (¬ a1 = 0)) <|
  some ((ba_irm (ba_fiushr (s1088.1 0 32) 16) a1), s1088)
set_option maxHeartbeats 4000000 in
set_option maxRecDepth 100000 in
theorem ym_lot {w : ba_W} (hj : ba_inj ba_tM w) (l : Launch) {s : ba_St} {a1 : Int32} {o : Int32 × ba_St} (h : xm_lot s a1 = some o) : ba_CI ba_tM w l yX6_lot cX6_lot 2 (some .int) rm_m_lot [.ref (w.1 0), .int a1] s o := by
  refine ba_metI (lv := [(0, .ref (w.1 0)), (1, .int a1)]) l hj (by decide +kernel) ⟨Nat.le_of_ble_eq_true rfl, rfl⟩ ?_
  intro X V RT
  unfold xm_lot at h
  refine ba_aload_n V dX6_lot_0 0 rfl ?_
  refine ba_ldc_w V dX6_lot_1 kkX6_337 ?_
  refine ba_aload_n V dX6_lot_4 0 rfl ?_
  refine ba_getI V dX6_lot_5 kfX6_338 ba_sModel rfl ?_
  refine ba_imul V dX6_lot_8 ?_
  refine ba_sipush V dX6_lot_9 ba_c12345s ?_
  refine ba_iadd V dX6_lot_12 ?_
  refine ba_putI V dX6_lot_13 kfX6_338 ba_sModel rfl h (fun s1088 h => ?_)
  refine ba_aload_n V dX6_lot_16 0 rfl ?_
  refine ba_getI V dX6_lot_17 kfX6_338 ba_sModel rfl ?_
  refine ba_bipush V dX6_lot_20 ba_c16b ?_
  refine ba_iushr V dX6_lot_22 ?_
  refine ba_iload_n V dX6_lot_23 1 rfl ?_
  refine ba_iremG V dX6_lot_24 h (fun h => ?_)
  exact RT _ _ _ _ dX6_lot_25 (Option.some.inj h)
def xm_sundaysOf_l13 (z2 : Int32) (z3 : Int32) (k : (ba_St × Int32) → Option (ba_St)) (a : (ba_St × Int32)) : Option (ba_St) :=
  match a with
  | (s, z4) =>
    if z2 ≤ z4 then
      some s
    else
      ba_bn2 (xm_lot s 24) fun v1091 s1092 =>
      ba_grd (ba_inb (2 * z4) 24) <|
      ba_lt (ba_w s1092 9 (ba_ix (2 * z4)) v1091) fun s1093 =>
      ba_bn2 (xm_lot s1093 9) fun v1094 s1095 =>
      ba_grd (ba_inb ((2 * z4) + 1) 24) <|
      ba_lt (ba_w s1095 9 (ba_ix ((2 * z4) + 1)) (v1094 + 1)) fun s1096 =>
      ba_lt (z4 + 1) fun x1097 =>
      k (s1096, x1097)
set_option maxHeartbeats 4000000 in
set_option maxRecDepth 100000 in
theorem ym_sundaysOf_l13 {w : ba_W} {X : ba_X} (V : ba_V ba_tM w 5 X cX6_sundaysOf RX6 rm_m_sundaysOf) {z2 : Int32} {z3 : Int32} {o : ba_St} (EX : ∀ (s : ba_St) , s = o → ba_G ba_tM w 5 X s 59 [(0, .ref (w.1 0)), (3, .int z3)] []) : ∀ (n : Nat) (s : ba_St) (z4 : Int32), ba_fix (xm_sundaysOf_l13 z2 z3) n (s, z4) = some o → ba_G ba_tM w 5 X s 13 [(0, .ref (w.1 0)), (2, .int z2), (3, .int z3), (4, .int z4)] [] := by
  intro n s z4 h
  refine ba_loop (P := fun a => ba_G ba_tM w 5 X a.1 13 [(0, .ref (w.1 0)), (2, .int z2), (3, .int z3), (4, .int a.2)] []) ?_ n (s, z4) h
  intro k hk0 a h
  obtain ⟨s, z4⟩ := a
  have hk : ∀ (s : ba_St) (z4 : Int32), k (s, z4) = some o → ba_G ba_tM w 5 X s 13 [(0, .ref (w.1 0)), (2, .int z2), (3, .int z3), (4, .int z4)] [] := fun s z4 e => hk0 (s, z4) e
  unfold xm_sundaysOf_l13 at h
  try dsimp only at h ⊢
  refine ba_iload V dX6_sundaysOf_13 3 rfl ?_
  refine ba_iload_n V dX6_sundaysOf_15 1 rfl ?_
  refine ba_icmp_ge V dX6_sundaysOf_16 rfl h (fun h => ?_) (fun h => ?_)
  · exact ba_sub [0, 2] rfl (EX _ (Option.some.inj h))
  · refine ba_aload_n V dX6_sundaysOf_19 0 rfl ?_
    refine ba_getR V dX6_sundaysOf_20 kfX6_34 ba_sModel rfl ?_
    refine ba_iconst V dX6_sundaysOf_23 ba_c2 ?_
    refine ba_iload V dX6_sundaysOf_24 3 rfl ?_
    refine ba_imul V dX6_sundaysOf_26 ?_
    refine ba_aload_n V dX6_sundaysOf_27 0 rfl ?_
    refine ba_bipush V dX6_sundaysOf_28 ba_c24b ?_
    obtain ⟨v1091, s1092, hc, h⟩ := ba_bn2_some h
    refine ba_callVI (As := [.int 24]) (st := [.int (2 * z4), .ref (w.1 9)]) V dX6_sundaysOf_30 kcX6_341 ba_sModel (fun l => ym_lot V.inj l hc) ⟨rfl, rfl⟩ ⟨rfl, rfl, Nat.le_of_ble_eq_true rfl, Nat.le_of_ble_eq_true rfl⟩ (Nat.le_of_ble_eq_true rfl) ?_
    refine ba_iast V dX6_sundaysOf_33 ba_sM_9 h (fun s1093 h => ?_)
    refine ba_aload_n V dX6_sundaysOf_34 0 rfl ?_
    refine ba_getR V dX6_sundaysOf_35 kfX6_34 ba_sModel rfl ?_
    refine ba_iconst V dX6_sundaysOf_38 ba_c2 ?_
    refine ba_iload V dX6_sundaysOf_39 3 rfl ?_
    refine ba_imul V dX6_sundaysOf_41 ?_
    refine ba_iconst V dX6_sundaysOf_42 ba_c1 ?_
    refine ba_iadd V dX6_sundaysOf_43 ?_
    refine ba_aload_n V dX6_sundaysOf_44 0 rfl ?_
    refine ba_bipush V dX6_sundaysOf_45 ba_c9b ?_
    obtain ⟨v1094, s1095, hc, h⟩ := ba_bn2_some h
    refine ba_callVI (As := [.int 9]) (st := [.int ((2 * z4) + 1), .ref (w.1 9)]) V dX6_sundaysOf_47 kcX6_341 ba_sModel (fun l => ym_lot V.inj l hc) ⟨rfl, rfl⟩ ⟨rfl, rfl, Nat.le_of_ble_eq_true rfl, Nat.le_of_ble_eq_true rfl⟩ (Nat.le_of_ble_eq_true rfl) ?_
    refine ba_iconst V dX6_sundaysOf_50 ba_c1 ?_
    refine ba_iadd V dX6_sundaysOf_51 ?_
    refine ba_iast V dX6_sundaysOf_52 ba_sM_9 h (fun s1096 h => ?_)
    refine ba_iinc V dX6_sundaysOf_53 3 rfl ba_c1 (by decide) h (fun x1097 h => ⟨[(4, .int x1097), (0, .ref (w.1 0)), (2, .int z2), (3, .int z3)], rfl, ?_⟩)
    refine ba_goto V dX6_sundaysOf_56 rfl ?_
    exact ba_sub [1, 2, 3, 0] rfl (hk _ _ h)
def xm_sundaysOf_j80 (s : ba_St) (q0 : Int32) : Option (Int32 × ba_St) :=
  ba_bn2 (xm_readsBalls s) fun v1101 s1102 =>
  some (q0, s1102)
set_option maxHeartbeats 4000000 in
set_option maxRecDepth 100000 in
theorem ym_sundaysOf_j80 {w : ba_W} {X : ba_X} (V : ba_V ba_tM w 5 X cX6_sundaysOf RX6 rm_m_sundaysOf) {s : ba_St} {q0 : Int32} {o : Int32 × ba_St} (RT : ∀ (pc : Nat) (lv : List (Nat × Value)) (v : Int32) (s : ba_St), decode cX6_sundaysOf pc = .ok (.ireturn, 1) → (v, s) = o → ba_G ba_tM w 5 X s pc lv [.int v]) (h : xm_sundaysOf_j80 s q0 = some o) : ba_G ba_tM w 5 X s 80 [(0, .ref (w.1 0))] [.int q0] := by
  unfold xm_sundaysOf_j80 at h
  refine ba_istore (lv' := [(4, .int q0), (0, .ref (w.1 0))]) V dX6_sundaysOf_80 (by decide) rfl ?_
  refine ba_aload_n V dX6_sundaysOf_82 1 rfl ?_
  obtain ⟨v1101, s1102, hc, h⟩ := ba_bn2_some h
  refine ba_callVI (As := []) (st := []) V dX6_sundaysOf_83 kcX6_156 ba_sModel (fun l => ym_readsBalls V.inj l hc) ⟨rfl, rfl⟩ ⟨rfl, rfl, Nat.le_of_ble_eq_true rfl, Nat.le_of_ble_eq_true rfl⟩ (Nat.le_of_ble_eq_true rfl) ?_
  refine ba_pop V dX6_sundaysOf_86 rfl ?_
  refine ba_iload V dX6_sundaysOf_87 0 rfl ?_
  exact RT _ _ _ _ dX6_sundaysOf_89 (Option.some.inj h)
def xm_sundaysOf (s : ba_St) (a1 : Int32) (a2 : Int32) (a3 : Int32) : Option (Int32 × ba_St) :=
  ba_lt (ba_w s 0 32 a1) fun s1089 =>
  ba_lt (ba_w s1089 0 10 a2) fun s1090 =>
  ba_bnd (ba_fix (xm_sundaysOf_l13 a2 a3) 1000 (s1090, 0)) fun s1098 =>
    ba_bnd (xm_lives s1098) fun s1099 =>
    if a3 = 0 then
      ba_bnd (xm_score s1099) fun v1100 =>
      xm_sundaysOf_j80 s1099 v1100
    else
      ba_bnd (xm_manyIn s1099 9) fun v1103 =>
      xm_sundaysOf_j80 s1099 v1103
set_option maxHeartbeats 4000000 in
set_option maxRecDepth 100000 in
theorem ym_sundaysOf {w : ba_W} (hj : ba_inj ba_tM w) (l : Launch) {s : ba_St} {a1 : Int32} {a2 : Int32} {a3 : Int32} {o : Int32 × ba_St} (h : xm_sundaysOf s a1 a2 a3 = some o) : ba_CI ba_tM w l yX6_sundaysOf cX6_sundaysOf 5 (some .int) rm_m_sundaysOf [.ref (w.1 0), .int a1, .int a2, .int a3] s o := by
  refine ba_metI (lv := [(0, .ref (w.1 0)), (1, .int a1), (2, .int a2), (3, .int a3)]) l hj (by decide +kernel) ⟨Nat.le_of_ble_eq_true rfl, rfl⟩ ?_
  intro X V RT
  unfold xm_sundaysOf at h
  refine ba_aload_n V dX6_sundaysOf_0 0 rfl ?_
  refine ba_iload_n V dX6_sundaysOf_1 1 rfl ?_
  refine ba_putI V dX6_sundaysOf_2 kfX6_338 ba_sModel rfl h (fun s1089 h => ?_)
  refine ba_aload_n V dX6_sundaysOf_5 0 rfl ?_
  refine ba_iload_n V dX6_sundaysOf_6 2 rfl ?_
  refine ba_putI V dX6_sundaysOf_7 kfX6_143 ba_sModel rfl h (fun s1090 h => ?_)
  refine ba_iconst V dX6_sundaysOf_10 ba_c0 ?_
  refine ba_istore (lv' := [(4, .int 0), (0, .ref (w.1 0)), (1, .int a1), (2, .int a2), (3, .int a3)]) V dX6_sundaysOf_11 (by decide) rfl ?_
  obtain ⟨o, ho, h⟩ := ba_bnd_some h
  refine ba_sub [1, 3, 4, 0] rfl (ym_sundaysOf_l13 V (o := o) (fun s1098 e => ?_) 1000 s1090 0 ho)
  subst e
  try dsimp only at h
  refine ba_aload_n V dX6_sundaysOf_59 0 rfl ?_
  obtain ⟨s1099, hc, h⟩ := ba_bnd_some h
  refine ba_callVV (As := []) (st := []) V dX6_sundaysOf_60 kcX6_236 ba_sModel (fun l => ym_lives V.inj l hc) ⟨rfl, rfl⟩ ⟨rfl, rfl, Nat.le_of_ble_eq_true rfl, Nat.le_of_ble_eq_true rfl⟩ (Nat.le_of_ble_eq_true rfl) ?_
  refine ba_iload_n V dX6_sundaysOf_63 1 rfl ?_
  refine ba_if_ne V dX6_sundaysOf_64 rfl h (fun h => ?_) (fun h => ?_)
  · refine ba_aload_n V dX6_sundaysOf_67 0 rfl ?_
    obtain ⟨v1100, hc, h⟩ := ba_bnd_some h
    refine ba_callVI (As := []) (st := []) V dX6_sundaysOf_68 kcX6_256 ba_sModel (fun l => ym_score V.inj l hc) ⟨rfl, rfl⟩ ⟨rfl, rfl, Nat.le_of_ble_eq_true rfl, Nat.le_of_ble_eq_true rfl⟩ (Nat.le_of_ble_eq_true rfl) ?_
    refine ba_goto V dX6_sundaysOf_71 rfl ?_
    exact ba_sub [0] rfl (ym_sundaysOf_j80 V RT h)
  · refine ba_aload_n V dX6_sundaysOf_74 0 rfl ?_
    refine ba_bipush V dX6_sundaysOf_75 ba_c9b ?_
    obtain ⟨v1103, hc, h⟩ := ba_bnd_some h
    refine ba_callVI (As := [.int 9]) (st := []) V dX6_sundaysOf_77 kcX6_259 ba_sModel (fun l => ym_manyIn V.inj l hc) ⟨rfl, rfl⟩ ⟨rfl, rfl, Nat.le_of_ble_eq_true rfl, Nat.le_of_ble_eq_true rfl⟩ (Nat.le_of_ble_eq_true rfl) ?_
    exact ba_sub [0] rfl (ym_sundaysOf_j80 V RT h)
def xm_sundays_j33 (s : ba_St) : Option (Int32 × ba_St) :=
  some ((-2), s)
set_option maxHeartbeats 4000000 in
set_option maxRecDepth 100000 in
theorem ym_sundays_j33 {w : ba_W} {X : ba_X} (V : ba_V ba_tM w 4 X cX6_sundays RX6 rm_m_sundays) {s : ba_St} {o : Int32 × ba_St} (RT : ∀ (pc : Nat) (lv : List (Nat × Value)) (v : Int32) (s : ba_St), decode cX6_sundays pc = .ok (.ireturn, 1) → (v, s) = o → ba_G ba_tM w 4 X s pc lv [.int v]) (h : xm_sundays_j33 s = some o) : ba_G ba_tM w 4 X s 33 [] [] := by
  unfold xm_sundays_j33 at h
  refine ba_bipush V dX6_sundays_33 ba_cm2b ?_
  exact RT _ _ _ _ dX6_sundays_35 (Option.some.inj h)
def xm_sundays (s : ba_St) (a1 : Int32) (a2 : Int32) (a3 : Int32) : Option (Int32 × ba_St) :=
  ba_bnd (xm_find s) fun s1104 =>
  ba_bnd (xm_in (Int32.toInt64 a2) 0 12) fun v1105 =>
  if v1105 = 0 then
    xm_sundays_j33 s1104
  else
    ba_bnd (xm_isTwo a3) fun v1106 =>
    if v1106 = 0 then
      xm_sundays_j33 s1104
    else
      ba_bn2 (xm_sundaysOf s1104 a1 a2 a3) fun v1107 s1108 =>
      some (v1107, s1108)
set_option maxHeartbeats 4000000 in
set_option maxRecDepth 100000 in
theorem ym_sundays {w : ba_W} (hj : ba_inj ba_tM w) (l : Launch) {s : ba_St} {a1 : Int32} {a2 : Int32} {a3 : Int32} {o : Int32 × ba_St} (h : xm_sundays s a1 a2 a3 = some o) : ba_CI ba_tM w l yX6_sundays cX6_sundays 4 (some .int) rm_m_sundays [.ref (w.1 0), .int a1, .int a2, .int a3] s o := by
  refine ba_metI (lv := [(0, .ref (w.1 0)), (1, .int a1), (2, .int a2), (3, .int a3)]) l hj (by decide +kernel) ⟨Nat.le_of_ble_eq_true rfl, rfl⟩ ?_
  intro X V RT
  unfold xm_sundays at h
  refine ba_aload_n V dX6_sundays_0 0 rfl ?_
  obtain ⟨s1104, hc, h⟩ := ba_bnd_some h
  refine ba_callVV (As := []) (st := []) V dX6_sundays_1 kcX6_239 ba_sModel (fun l => ym_find V.inj l hc) ⟨rfl, rfl⟩ ⟨rfl, rfl, Nat.le_of_ble_eq_true rfl, Nat.le_of_ble_eq_true rfl⟩ (Nat.le_of_ble_eq_true rfl) ?_
  refine ba_iload_n V dX6_sundays_4 2 rfl ?_
  refine ba_i2l V dX6_sundays_5 ?_
  refine ba_lconst V dX6_sundays_6 rfl ?_
  refine ba_ldc2 V dX6_sundays_7 kkX6_292 ?_
  obtain ⟨v1105, hc, h⟩ := ba_bnd_some h
  refine ba_callSI (As := [.long (Int32.toInt64 a2), .long 0, .long 12]) (st := []) V dX6_sundays_10 kcX6_88 (fun l => ym_in V.inj l hc) ⟨rfl, rfl⟩ ⟨rfl, rfl, Nat.le_of_ble_eq_true rfl, Nat.le_of_ble_eq_true rfl⟩ (Nat.le_of_ble_eq_true rfl) ?_
  refine ba_if_eq V dX6_sundays_13 rfl h (fun h => ?_) (fun h => ?_)
  · exact ba_sub [] rfl (ym_sundays_j33 V RT h)
  · refine ba_iload_n V dX6_sundays_16 3 rfl ?_
    obtain ⟨v1106, hc, h⟩ := ba_bnd_some h
    refine ba_callSI (As := [.int a3]) (st := []) V dX6_sundays_17 kcX6_172 (fun l => ym_isTwo V.inj l hc) ⟨rfl, rfl⟩ ⟨rfl, rfl, Nat.le_of_ble_eq_true rfl, Nat.le_of_ble_eq_true rfl⟩ (Nat.le_of_ble_eq_true rfl) ?_
    refine ba_if_eq V dX6_sundays_20 rfl h (fun h => ?_) (fun h => ?_)
    · exact ba_sub [] rfl (ym_sundays_j33 V RT h)
    · refine ba_aload_n V dX6_sundays_23 0 rfl ?_
      refine ba_iload_n V dX6_sundays_24 1 rfl ?_
      refine ba_iload_n V dX6_sundays_25 2 rfl ?_
      refine ba_iload_n V dX6_sundays_26 3 rfl ?_
      obtain ⟨v1107, s1108, hc, h⟩ := ba_bn2_some h
      refine ba_callVI (As := [.int a1, .int a2, .int a3]) (st := []) V dX6_sundays_27 kcX6_344 ba_sModel (fun l => ym_sundaysOf V.inj l hc) ⟨rfl, rfl⟩ ⟨rfl, rfl, Nat.le_of_ble_eq_true rfl, Nat.le_of_ble_eq_true rfl⟩ (Nat.le_of_ble_eq_true rfl) ?_
      refine ba_goto V dX6_sundays_30 rfl ?_
      exact RT _ _ _ _ dX6_sundays_35 (Option.some.inj h)
def xm_write_l52 (z1 : Int32) (z2 : Int32) (z3 : Int32) (k : (ba_St × Int32) → Option (ba_St)) (a : (ba_St × Int32)) : Option (ba_St) :=
  match a with
  | (s, z4) =>
    if z3 ≤ z4 then
      some s
    else
      ba_grd (ba_inb z2 4) <|
      ba_grd (ba_inb ((12 * z4) + z1) 288) <|
      ba_bnd (xm_cut (s.1 1 (ba_ix z2)) (s.1 21 (ba_ix ((12 * z4) + z1)))) fun v1113 =>
      ba_grd (ba_inb ((60 * z2) + z4) 240) <|
      ba_lt (ba_w s 3 (ba_ix ((60 * z2) + z4)) v1113) fun s1114 =>
      ba_lt (z4 + 1) fun x1115 =>
      k (s1114, x1115)
set_option maxHeartbeats 4000000 in
set_option maxRecDepth 100000 in
theorem ym_write_l52 {w : ba_W} {X : ba_X} (V : ba_V ba_tM w 5 X cX6_write RX6 rm_m_write) {z1 : Int32} {z2 : Int32} {z3 : Int32} {o : ba_St} (EX : ∀ (s : ba_St) , s = o → ba_G ba_tM w 5 X s 97 [(3, .int z3)] []) : ∀ (n : Nat) (s : ba_St) (z4 : Int32), ba_fix (xm_write_l52 z1 z2 z3) n (s, z4) = some o → ba_G ba_tM w 5 X s 52 [(0, .ref (w.1 0)), (1, .int z1), (2, .int z2), (3, .int z3), (4, .int z4)] [] := by
  intro n s z4 h
  refine ba_loop (P := fun a => ba_G ba_tM w 5 X a.1 52 [(0, .ref (w.1 0)), (1, .int z1), (2, .int z2), (3, .int z3), (4, .int a.2)] []) ?_ n (s, z4) h
  intro k hk0 a h
  obtain ⟨s, z4⟩ := a
  have hk : ∀ (s : ba_St) (z4 : Int32), k (s, z4) = some o → ba_G ba_tM w 5 X s 52 [(0, .ref (w.1 0)), (1, .int z1), (2, .int z2), (3, .int z3), (4, .int z4)] [] := fun s z4 e => hk0 (s, z4) e
  unfold xm_write_l52 at h
  try dsimp only at h ⊢
  refine ba_iload V dX6_write_52 4 rfl ?_
  refine ba_iload_n V dX6_write_54 3 rfl ?_
  refine ba_icmp_ge V dX6_write_55 rfl h (fun h => ?_) (fun h => ?_)
  · exact ba_sub [3] rfl (EX _ (Option.some.inj h))
  · refine ba_aload_n V dX6_write_58 0 rfl ?_
    refine ba_getR V dX6_write_59 kfX6_16 ba_sModel rfl ?_
    refine ba_bipush V dX6_write_62 ba_c60b ?_
    refine ba_iload_n V dX6_write_64 2 rfl ?_
    refine ba_imul V dX6_write_65 ?_
    refine ba_iload V dX6_write_66 4 rfl ?_
    refine ba_iadd V dX6_write_68 ?_
    refine ba_aload_n V dX6_write_69 0 rfl ?_
    refine ba_getR V dX6_write_70 kfX6_7 ba_sModel rfl ?_
    refine ba_iload_n V dX6_write_73 2 rfl ?_
    refine ba_iald V dX6_write_74 ba_sM_1 h (fun h => ?_)
    refine ba_aload_n V dX6_write_75 0 rfl ?_
    refine ba_getR V dX6_write_76 kfX6_70 ba_sModel rfl ?_
    refine ba_bipush V dX6_write_79 ba_c12b ?_
    refine ba_iload V dX6_write_81 4 rfl ?_
    refine ba_imul V dX6_write_83 ?_
    refine ba_iload_n V dX6_write_84 1 rfl ?_
    refine ba_iadd V dX6_write_85 ?_
    refine ba_iald V dX6_write_86 ba_sM_21 h (fun h => ?_)
    obtain ⟨v1113, hc, h⟩ := ba_bnd_some h
    refine ba_callSI (As := [.int (s.1 1 (ba_ix z2)), .int (s.1 21 (ba_ix ((12 * z4) + z1)))]) (st := [.int ((60 * z2) + z4), .ref (w.1 3)]) V dX6_write_87 kcX6_111 (fun l => ym_cut V.inj l hc) ⟨rfl, rfl⟩ ⟨rfl, rfl, Nat.le_of_ble_eq_true rfl, Nat.le_of_ble_eq_true rfl⟩ (Nat.le_of_ble_eq_true rfl) ?_
    refine ba_iast V dX6_write_90 ba_sM_3 h (fun s1114 h => ?_)
    refine ba_iinc V dX6_write_91 4 rfl ba_c1 (by decide) h (fun x1115 h => ⟨[(4, .int x1115), (0, .ref (w.1 0)), (1, .int z1), (2, .int z2), (3, .int z3)], rfl, ?_⟩)
    refine ba_goto V dX6_write_94 rfl ?_
    exact ba_sub [1, 2, 3, 4, 0] rfl (hk _ _ h)
def xm_write (s : ba_St) (a1 : Int32) (a2 : Int32) : Option (Int32 × ba_St) :=
  ba_bnd (xm_find s) fun s1109 =>
  ba_bnd (xm_isBall s1109 a1) fun v1110 =>
  if v1110 = 0 then
    some ((-2), s1109)
  else
    ba_bnd (xm_isSheet a2) fun v1111 =>
    if v1111 = 0 then
      some ((-2), s1109)
    else
      ba_grd (ba_inb a2 4) <|
      if 0 ≤ (s1109.1 1 (ba_ix a2)) then
        ba_grd (ba_inb a2 4) <|
        ba_bnd (xm_lesser (s1109.1 2 (ba_ix a2)) 24) fun v1112 =>
        ba_bnd (ba_fix (xm_write_l52 a1 a2 v1112) 1000 (s1109, 0)) fun s1116 =>
          some (v1112, s1116)
      else
        ba_bn2 (xm_finds s1109 1) fun v1117 s1118 =>
        some (v1117, s1118)
set_option maxHeartbeats 4000000 in
set_option maxRecDepth 100000 in
theorem ym_write {w : ba_W} (hj : ba_inj ba_tM w) (l : Launch) {s : ba_St} {a1 : Int32} {a2 : Int32} {o : Int32 × ba_St} (h : xm_write s a1 a2 = some o) : ba_CI ba_tM w l yX6_write cX6_write 5 (some .int) rm_m_write [.ref (w.1 0), .int a1, .int a2] s o := by
  refine ba_metI (lv := [(0, .ref (w.1 0)), (1, .int a1), (2, .int a2)]) l hj (by decide +kernel) ⟨Nat.le_of_ble_eq_true rfl, rfl⟩ ?_
  intro X V RT
  unfold xm_write at h
  refine ba_aload_n V dX6_write_0 0 rfl ?_
  obtain ⟨s1109, hc, h⟩ := ba_bnd_some h
  refine ba_callVV (As := []) (st := []) V dX6_write_1 kcX6_239 ba_sModel (fun l => ym_find V.inj l hc) ⟨rfl, rfl⟩ ⟨rfl, rfl, Nat.le_of_ble_eq_true rfl, Nat.le_of_ble_eq_true rfl⟩ (Nat.le_of_ble_eq_true rfl) ?_
  refine ba_aload_n V dX6_write_4 0 rfl ?_
  refine ba_iload_n V dX6_write_5 1 rfl ?_
  obtain ⟨v1110, hc, h⟩ := ba_bnd_some h
  refine ba_callVI (As := [.int a1]) (st := []) V dX6_write_6 kcX6_169 ba_sModel (fun l => ym_isBall V.inj l hc) ⟨rfl, rfl⟩ ⟨rfl, rfl, Nat.le_of_ble_eq_true rfl, Nat.le_of_ble_eq_true rfl⟩ (Nat.le_of_ble_eq_true rfl) ?_
  refine ba_if_eq V dX6_write_9 rfl h (fun h => ?_) (fun h => ?_)
  · refine ba_bipush V dX6_write_19 ba_cm2b ?_
    exact RT _ _ _ _ dX6_write_21 (Option.some.inj h)
  · refine ba_iload_n V dX6_write_12 2 rfl ?_
    obtain ⟨v1111, hc, h⟩ := ba_bnd_some h
    refine ba_callSI (As := [.int a2]) (st := []) V dX6_write_13 kcX6_97 (fun l => ym_isSheet V.inj l hc) ⟨rfl, rfl⟩ ⟨rfl, rfl, Nat.le_of_ble_eq_true rfl, Nat.le_of_ble_eq_true rfl⟩ (Nat.le_of_ble_eq_true rfl) ?_
    refine ba_if_ne V dX6_write_16 rfl h (fun h => ?_) (fun h => ?_)
    · refine ba_bipush V dX6_write_19 ba_cm2b ?_
      exact RT _ _ _ _ dX6_write_21 (Option.some.inj h)
    · refine ba_aload_n V dX6_write_22 0 rfl ?_
      refine ba_getR V dX6_write_23 kfX6_7 ba_sModel rfl ?_
      refine ba_iload_n V dX6_write_26 2 rfl ?_
      refine ba_iald V dX6_write_27 ba_sM_1 h (fun h => ?_)
      refine ba_if_ge V dX6_write_28 rfl h (fun h => ?_) (fun h => ?_)
      · refine ba_aload_n V dX6_write_37 0 rfl ?_
        refine ba_getR V dX6_write_38 kfX6_13 ba_sModel rfl ?_
        refine ba_iload_n V dX6_write_41 2 rfl ?_
        refine ba_iald V dX6_write_42 ba_sM_2 h (fun h => ?_)
        refine ba_bipush V dX6_write_43 ba_c24b ?_
        obtain ⟨v1112, hc, h⟩ := ba_bnd_some h
        refine ba_callSI (As := [.int (s1109.1 2 (ba_ix a2)), .int 24]) (st := []) V dX6_write_45 kcX6_317 (fun l => ym_lesser V.inj l hc) ⟨rfl, rfl⟩ ⟨rfl, rfl, Nat.le_of_ble_eq_true rfl, Nat.le_of_ble_eq_true rfl⟩ (Nat.le_of_ble_eq_true rfl) ?_
        refine ba_istore_n (lv' := [(3, .int v1112), (0, .ref (w.1 0)), (1, .int a1), (2, .int a2)]) V dX6_write_48 (by decide) rfl ?_
        refine ba_iconst V dX6_write_49 ba_c0 ?_
        refine ba_istore (lv' := [(4, .int 0), (3, .int v1112), (0, .ref (w.1 0)), (1, .int a1), (2, .int a2)]) V dX6_write_50 (by decide) rfl ?_
        obtain ⟨o, ho, h⟩ := ba_bnd_some h
        refine ba_sub [2, 3, 4, 1, 0] rfl (ym_write_l52 V (o := o) (fun s1116 e => ?_) 1000 s1109 0 ho)
        subst e
        try dsimp only at h
        refine ba_iload_n V dX6_write_97 0 rfl ?_
        exact RT _ _ _ _ dX6_write_98 (Option.some.inj h)
      · refine ba_aload_n V dX6_write_31 0 rfl ?_
        refine ba_iconst V dX6_write_32 ba_c1 ?_
        obtain ⟨v1117, s1118, hc, h⟩ := ba_bn2_some h
        refine ba_callVI (As := [.int 1]) (st := []) V dX6_write_33 kcX6_103 ba_sModel (fun l => ym_finds V.inj l hc) ⟨rfl, rfl⟩ ⟨rfl, rfl, Nat.le_of_ble_eq_true rfl, Nat.le_of_ble_eq_true rfl⟩ (Nat.le_of_ble_eq_true rfl) ?_
        exact RT _ _ _ _ dX6_write_36 (Option.some.inj h)
def xm_onBoard_j35_4 (k : (Int32 × Int32) → Option (Int32)) (s : ba_St) (z2 : Int32) (q0 : Int32) (q1 : Int32) : Option (Int32) :=
  ba_lt (q1 + q0) fun x1120 =>
  ba_lt (z2 + 1) fun x1121 =>
  k (x1120, x1121)
set_option maxHeartbeats 4000000 in
set_option maxRecDepth 100000 in
theorem ym_onBoard_j35_4 {w : ba_W} {X : ba_X} (V : ba_V ba_tM w 3 X cX6_onBoard RX6 rm_m_onBoard) {s : ba_St} {z2 : Int32} {q0 : Int32} {q1 : Int32} {o : Int32} {k : (Int32 × Int32) → Option (Int32)} (hk : ∀ (z1 : Int32) (z2 : Int32), k (z1, z2) = some o → ba_G ba_tM w 3 X s 4 [(0, .ref (w.1 0)), (1, .int z1), (2, .int z2)] []) (EX : ∀ (z1 : Int32), z1 = o → ba_G ba_tM w 3 X s 43 [(1, .int z1)] []) (h : xm_onBoard_j35_4 k s z2 q0 q1 = some o) : ba_G ba_tM w 3 X s 35 [(0, .ref (w.1 0)), (2, .int z2)] [.int q0, .int q1] := by
  unfold xm_onBoard_j35_4 at h
  refine ba_iadd V dX6_onBoard_35 ?_
  refine ba_letI h (fun x1120 h => ?_)
  refine ba_istore_n (lv' := [(1, .int x1120), (0, .ref (w.1 0)), (2, .int z2)]) V dX6_onBoard_36 (by decide) rfl ?_
  refine ba_iinc V dX6_onBoard_37 2 rfl ba_c1 (by decide) h (fun x1121 h => ⟨[(2, .int x1121), (1, .int x1120), (0, .ref (w.1 0))], rfl, ?_⟩)
  refine ba_goto V dX6_onBoard_40 rfl ?_
  exact ba_sub [2, 1, 0] rfl (hk _ _ h)
def xm_onBoard_l4 (s : ba_St) (k : (Int32 × Int32) → Option (Int32)) (a : (Int32 × Int32)) : Option (Int32) :=
  match a with
  | (z1, z2) =>
    if (s.1 0 10) ≤ z2 then
      some z1
    else
      ba_grd (ba_inb z2 12) <|
      ba_bnd (xm_in (Int32.toInt64 (s.1 11 (ba_ix z2))) 0 7) fun v1119 =>
      if v1119 = 0 then
        xm_onBoard_j35_4 k s z2 0 z1
      else
        xm_onBoard_j35_4 k s z2 1 z1
set_option maxHeartbeats 4000000 in
set_option maxRecDepth 100000 in
theorem ym_onBoard_l4 {w : ba_W} {X : ba_X} (V : ba_V ba_tM w 3 X cX6_onBoard RX6 rm_m_onBoard) {s : ba_St} {o : Int32} (EX : ∀ (z1 : Int32), z1 = o → ba_G ba_tM w 3 X s 43 [(1, .int z1)] []) : ∀ (n : Nat) (z1 : Int32) (z2 : Int32), ba_fix (xm_onBoard_l4 s) n (z1, z2) = some o → ba_G ba_tM w 3 X s 4 [(0, .ref (w.1 0)), (1, .int z1), (2, .int z2)] [] := by
  intro n z1 z2 h
  refine ba_loop (P := fun a => ba_G ba_tM w 3 X s 4 [(0, .ref (w.1 0)), (1, .int a.1), (2, .int a.2)] []) ?_ n (z1, z2) h
  intro k hk0 a h
  obtain ⟨z1, z2⟩ := a
  have hk : ∀ (z1 : Int32) (z2 : Int32), k (z1, z2) = some o → ba_G ba_tM w 3 X s 4 [(0, .ref (w.1 0)), (1, .int z1), (2, .int z2)] [] := fun z1 z2 e => hk0 (z1, z2) e
  unfold xm_onBoard_l4 at h
  try dsimp only at h ⊢
  refine ba_iload_n V dX6_onBoard_4 2 rfl ?_
  refine ba_aload_n V dX6_onBoard_5 0 rfl ?_
  refine ba_getI V dX6_onBoard_6 kfX6_143 ba_sModel rfl ?_
  refine ba_icmp_ge V dX6_onBoard_9 rfl h (fun h => ?_) (fun h => ?_)
  · exact ba_sub [1] rfl (EX _ (Option.some.inj h))
  · refine ba_iload_n V dX6_onBoard_12 1 rfl ?_
    refine ba_aload_n V dX6_onBoard_13 0 rfl ?_
    refine ba_getR V dX6_onBoard_14 kfX6_40 ba_sModel rfl ?_
    refine ba_iload_n V dX6_onBoard_17 2 rfl ?_
    refine ba_iald V dX6_onBoard_18 ba_sM_11 h (fun h => ?_)
    refine ba_i2l V dX6_onBoard_19 ?_
    refine ba_lconst V dX6_onBoard_20 rfl ?_
    refine ba_ldc2 V dX6_onBoard_21 kkX6_248 ?_
    obtain ⟨v1119, hc, h⟩ := ba_bnd_some h
    refine ba_callSI (As := [.long (Int32.toInt64 (s.1 11 (ba_ix z2))), .long 0, .long 7]) (st := [.int z1]) V dX6_onBoard_24 kcX6_88 (fun l => ym_in V.inj l hc) ⟨rfl, rfl⟩ ⟨rfl, rfl, Nat.le_of_ble_eq_true rfl, Nat.le_of_ble_eq_true rfl⟩ (Nat.le_of_ble_eq_true rfl) ?_
    refine ba_if_eq V dX6_onBoard_27 rfl h (fun h => ?_) (fun h => ?_)
    · refine ba_iconst V dX6_onBoard_34 ba_c0 ?_
      exact ba_sub [0, 2] rfl (ym_onBoard_j35_4 V hk EX h)
    · refine ba_iconst V dX6_onBoard_30 ba_c1 ?_
      refine ba_goto V dX6_onBoard_31 rfl ?_
      exact ba_sub [0, 2] rfl (ym_onBoard_j35_4 V hk EX h)
def xm_onBoard (s : ba_St) : Option (Int32) :=
  ba_bnd (ba_fix (xm_onBoard_l4 s) 1000 (0, 0)) fun x1122 =>
    some x1122
set_option maxHeartbeats 4000000 in
set_option maxRecDepth 100000 in
theorem ym_onBoard {w : ba_W} (hj : ba_inj ba_tM w) (l : Launch) {s : ba_St} {o : Int32} (h : xm_onBoard s = some o) : ba_CI ba_tM w l yX6_onBoard cX6_onBoard 3 (some .int) rm_m_onBoard [.ref (w.1 0)] s (o, s) := by
  refine ba_metI (lv := [(0, .ref (w.1 0))]) l hj (by decide +kernel) ⟨Nat.le_of_ble_eq_true rfl, rfl⟩ ?_
  intro X V RT
  replace RT := fun pc lv v D e => RT pc lv v s D (congrArg (fun q => (q, s)) e)
  unfold xm_onBoard at h
  refine ba_iconst V dX6_onBoard_0 ba_c0 ?_
  refine ba_istore_n (lv' := [(1, .int 0), (0, .ref (w.1 0))]) V dX6_onBoard_1 (by decide) rfl ?_
  refine ba_iconst V dX6_onBoard_2 ba_c0 ?_
  refine ba_istore_n (lv' := [(2, .int 0), (1, .int 0), (0, .ref (w.1 0))]) V dX6_onBoard_3 (by decide) rfl ?_
  obtain ⟨o, ho, h⟩ := ba_bnd_some h
  refine ba_sub [2, 1, 0] rfl (ym_onBoard_l4 V (o := o) (fun x1122 e => ?_) 1000 0 0 ho)
  subst e
  try dsimp only at h
  refine ba_iload_n V dX6_onBoard_43 0 rfl ?_
  exact RT _ _ _ dX6_onBoard_44 (Option.some.inj h)
