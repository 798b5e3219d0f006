def xm_in_j17 : Option (Int32) :=
  some 0
set_option maxHeartbeats 4000000 in
set_option maxRecDepth 100000 in
theorem ym_in_j17 {w : ba_W} {X : ba_X} {σ : ba_St} (V : ba_V ba_tM w 6 X cX6_in RX6 rm_m_in) {o : Int32} (RT : ∀ (pc : Nat) (lv : List (Nat × Value)) (v : Int32) , decode cX6_in pc = .ok (.ireturn, 1) → v = 0 ∨ v = 1 → v = o → ba_G ba_tM w 6 X σ pc lv [.int v]) (h : xm_in_j17 = some o) : ba_G ba_tM w 6 X σ 17 [] [] := by
  unfold xm_in_j17 at h
  refine ba_iconst V dX6_in_17 ba_c0 ?_
  exact RT _ _ _ dX6_in_18 ba_y0 (Option.some.inj h)
def xm_in (a0 : Int64) (a2 : Int64) (a4 : Int64) : Option (Int32) :=
  if a0 < a2 then
    xm_in_j17
  else
    if a4 < a0 then
      xm_in_j17
    else
      some 1
set_option maxHeartbeats 4000000 in
set_option maxRecDepth 100000 in
theorem ym_in {w : ba_W} (hj : ba_inj ba_tM w) (l : Launch) {σ : ba_St} {a0 : Int64} {a2 : Int64} {a4 : Int64} {o : Int32} (h : xm_in a0 a2 a4 = some o) : ba_CI ba_tM w l yX6_in cX6_in 6 (some .boolean) rm_m_in [.long a0, .long a2, .long a4] σ (o, σ) := by
  refine ba_metZ (lv := [(0, .long a0), (2, .long a2), (4, .long a4)]) l hj (by decide +kernel) ⟨Nat.le_of_ble_eq_true rfl, rfl⟩ ?_
  intro X V RT
  replace RT := fun pc lv v D z e => RT pc lv v σ D z (congrArg (fun q => (q, σ)) e)
  unfold xm_in at h
  refine ba_lload_n V dX6_in_0 0 rfl ?_
  refine ba_lload_n V dX6_in_1 1 rfl ?_
  refine ba_lcmp_lt V dX6_in_2 dX6_in_3 rfl h (fun h => ?_) (fun h => ?_)
  · exact ba_sub [] rfl (ym_in_j17 V RT h)
  · refine ba_lload_n V dX6_in_6 0 rfl ?_
    refine ba_lload V dX6_in_7 2 rfl ?_
    refine ba_lcmp_gt V dX6_in_9 dX6_in_10 rfl h (fun h => ?_) (fun h => ?_)
    · exact ba_sub [] rfl (ym_in_j17 V RT h)
    · refine ba_iconst V dX6_in_13 ba_c1 ?_
      refine ba_goto V dX6_in_14 rfl ?_
      exact RT _ _ _ dX6_in_18 ba_y1 (Option.some.inj h)
def xm_no (a0 : Int32) : Option (Int64) :=
  some ((-9223372036854775808) - (Int32.toInt64 a0))
set_option maxHeartbeats 4000000 in
set_option maxRecDepth 100000 in
theorem ym_no {w : ba_W} (hj : ba_inj ba_tM w) (l : Launch) {σ : ba_St} {a0 : Int32} {o : Int64} (h : xm_no a0 = some o) : ba_CL ba_tM w l yX6_no cX6_no 1 (some .long) rm_m_no [.int a0] σ (o, σ) := by
  refine ba_metL (lv := [(0, .int a0)]) l hj (by decide +kernel) ⟨Nat.le_of_ble_eq_true rfl, rfl⟩ ?_
  intro X V RT
  replace RT := fun pc lv v D e => RT pc lv v σ D (congrArg (fun q => (q, σ)) e)
  unfold xm_no at h
  refine ba_ldc2 V dX6_no_0 kkX6_86 ?_
  refine ba_iload_n V dX6_no_3 0 rfl ?_
  refine ba_i2l V dX6_no_4 ?_
  refine ba_lsub V dX6_no_5 ?_
  exact RT _ _ _ dX6_no_6 (Option.some.inj h)
def xm_isTwo (a0 : Int32) : Option (Int32) :=
  ba_bnd (xm_in (Int32.toInt64 a0) 0 1) fun v636 =>
  ba_grd (ba_bool v636) <|
  some v636
set_option maxHeartbeats 4000000 in
set_option maxRecDepth 100000 in
theorem ym_isTwo {w : ba_W} (hj : ba_inj ba_tM w) (l : Launch) {σ : ba_St} {a0 : Int32} {o : Int32} (h : xm_isTwo a0 = some o) : ba_CI ba_tM w l yX6_isTwo cX6_isTwo 1 (some .boolean) rm_m_isTwo [.int a0] σ (o, σ) := by
  refine ba_metZ (lv := [(0, .int a0)]) l hj (by decide +kernel) ⟨Nat.le_of_ble_eq_true rfl, rfl⟩ ?_
  intro X V RT
  replace RT := fun pc lv v D z e => RT pc lv v σ D z (congrArg (fun q => (q, σ)) e)
  unfold xm_isTwo at h
  refine ba_iload_n V dX6_isTwo_0 0 rfl ?_
  refine ba_i2l V dX6_isTwo_1 ?_
  refine ba_lconst V dX6_isTwo_2 rfl ?_
  refine ba_lconst V dX6_isTwo_3 rfl ?_
  obtain ⟨v636, hc, h⟩ := ba_bnd_some h
  refine ba_callSI (As := [.long (Int32.toInt64 a0), .long 0, .long 1]) (st := []) V dX6_isTwo_4 kcX6_88 (fun l => ym_in V.inj l hc) ⟨rfl, rfl⟩ ⟨rfl, rfl, Nat.le_of_ble_eq_true rfl, Nat.le_of_ble_eq_true rfl⟩ (Nat.le_of_ble_eq_true rfl) ?_
  refine ba_guard h (fun z h => ?_)
  exact RT _ _ _ dX6_isTwo_7 (ba_boolY z) (Option.some.inj h)
def xm_isIn (a0 : Int32) (a1 : Int32) : Option (Int32) :=
  if ((ba_fishr a0 a1) &&& 1) = 1 then
    some 1
  else
    some 0
set_option maxHeartbeats 4000000 in
set_option maxRecDepth 100000 in
theorem ym_isIn {w : ba_W} (hj : ba_inj ba_tM w) (l : Launch) {σ : ba_St} {a0 : Int32} {a1 : Int32} {o : Int32} (h : xm_isIn a0 a1 = some o) : ba_CI ba_tM w l yX6_isIn cX6_isIn 2 (some .boolean) rm_m_isIn [.int a0, .int a1] σ (o, σ) := by
  refine ba_metZ (lv := [(0, .int a0), (1, .int a1)]) l hj (by decide +kernel) ⟨Nat.le_of_ble_eq_true rfl, rfl⟩ ?_
  intro X V RT
  replace RT := fun pc lv v D z e => RT pc lv v σ D z (congrArg (fun q => (q, σ)) e)
  unfold xm_isIn at h
  refine ba_iload_n V dX6_isIn_0 0 rfl ?_
  refine ba_iload_n V dX6_isIn_1 1 rfl ?_
  refine ba_ishr V dX6_isIn_2 ?_
  refine ba_iconst V dX6_isIn_3 ba_c1 ?_
  refine ba_iand V dX6_isIn_4 ?_
  refine ba_iconst V dX6_isIn_5 ba_c1 ?_
  refine ba_icmp_ne V dX6_isIn_6 rfl h (fun h => ?_) (fun h => ?_)
  · refine ba_iconst V dX6_isIn_9 ba_c1 ?_
    refine ba_goto V dX6_isIn_10 rfl ?_
    exact RT _ _ _ dX6_isIn_14 ba_y1 (Option.some.inj h)
  · refine ba_iconst V dX6_isIn_13 ba_c0 ?_
    exact RT _ _ _ dX6_isIn_14 ba_y0 (Option.some.inj h)
def xm_lesser (a0 : Int32) (a1 : Int32) : Option (Int32) :=
  if a1 ≤ a0 then
    some a1
  else
    some a0
set_option maxHeartbeats 4000000 in
set_option maxRecDepth 100000 in
theorem ym_lesser {w : ba_W} (hj : ba_inj ba_tM w) (l : Launch) {σ : ba_St} {a0 : Int32} {a1 : Int32} {o : Int32} (h : xm_lesser a0 a1 = some o) : ba_CI ba_tM w l yX6_lesser cX6_lesser 2 (some .int) rm_m_lesser [.int a0, .int a1] σ (o, σ) := by
  refine ba_metI (lv := [(0, .int a0), (1, .int a1)]) l hj (by decide +kernel) ⟨Nat.le_of_ble_eq_true rfl, rfl⟩ ?_
  intro X V RT
  replace RT := fun pc lv v D e => RT pc lv v σ D (congrArg (fun q => (q, σ)) e)
  unfold xm_lesser at h
  refine ba_iload_n V dX6_lesser_0 0 rfl ?_
  refine ba_iload_n V dX6_lesser_1 1 rfl ?_
  refine ba_icmp_ge V dX6_lesser_2 rfl h (fun h => ?_) (fun h => ?_)
  · refine ba_iload_n V dX6_lesser_9 1 rfl ?_
    exact RT _ _ _ dX6_lesser_10 (Option.some.inj h)
  · refine ba_iload_n V dX6_lesser_5 0 rfl ?_
    refine ba_goto V dX6_lesser_6 rfl ?_
    exact RT _ _ _ dX6_lesser_10 (Option.some.inj h)
def xm_greater (a0 : Int32) (a1 : Int32) : Option (Int32) :=
  if a0 ≤ a1 then
    some a1
  else
    some a0
set_option maxHeartbeats 4000000 in
set_option maxRecDepth 100000 in
theorem ym_greater {w : ba_W} (hj : ba_inj ba_tM w) (l : Launch) {σ : ba_St} {a0 : Int32} {a1 : Int32} {o : Int32} (h : xm_greater a0 a1 = some o) : ba_CI ba_tM w l yX6_greater cX6_greater 2 (some .int) rm_m_greater [.int a0, .int a1] σ (o, σ) := by
  refine ba_metI (lv := [(0, .int a0), (1, .int a1)]) l hj (by decide +kernel) ⟨Nat.le_of_ble_eq_true rfl, rfl⟩ ?_
  intro X V RT
  replace RT := fun pc lv v D e => RT pc lv v σ D (congrArg (fun q => (q, σ)) e)
  unfold xm_greater at h
  refine ba_iload_n V dX6_greater_0 0 rfl ?_
  refine ba_iload_n V dX6_greater_1 1 rfl ?_
  refine ba_icmp_le V dX6_greater_2 rfl h (fun h => ?_) (fun h => ?_)
  · refine ba_iload_n V dX6_greater_9 1 rfl ?_
    exact RT _ _ _ dX6_greater_10 (Option.some.inj h)
  · refine ba_iload_n V dX6_greater_5 0 rfl ?_
    refine ba_goto V dX6_greater_6 rfl ?_
    exact RT _ _ _ dX6_greater_10 (Option.some.inj h)
def xm_part_l6 (z0 : Int64) (z2 : Int64) (z4 : Int32) (k : (Int64 × Int64) → Option (Int64)) (a : (Int64 × Int64)) : Option (Int64) :=
  match a with
  | (z5, z7) =>
    if z7 = 0 then
      some z5
    else
      ba_grd (decide (¬ z7 = 0)) <|
      ba_lt (ba_lrm z5 z7) fun x637 =>
      k (z7, x637)
set_option maxHeartbeats 4000000 in
set_option maxRecDepth 100000 in
theorem ym_part_l6 {w : ba_W} {X : ba_X} {σ : ba_St} (V : ba_V ba_tM w 11 X cX6_part RX6 rm_m_part) {z0 : Int64} {z2 : Int64} {z4 : Int32} {o : Int64} (EX : ∀ (z5 : Int64), z5 = o → ba_G ba_tM w 11 X σ 31 [(0, .long z0), (2, .long z2), (4, .int z4), (5, .long z5)] []) : ∀ (n : Nat) (z5 : Int64) (z7 : Int64), ba_fix (xm_part_l6 z0 z2 z4) n (z5, z7) = some o → ba_G ba_tM w 11 X σ 6 [(0, .long z0), (2, .long z2), (4, .int z4), (5, .long z5), (7, .long z7)] [] := by
  intro n z5 z7 h
  refine ba_loop (P := fun a => ba_G ba_tM w 11 X σ 6 [(0, .long z0), (2, .long z2), (4, .int z4), (5, .long a.1), (7, .long a.2)] []) ?_ n (z5, z7) h
  intro k hk0 a h
  obtain ⟨z5, z7⟩ := a
  have hk : ∀ (z5 : Int64) (z7 : Int64), k (z5, z7) = some o → ba_G ba_tM w 11 X σ 6 [(0, .long z0), (2, .long z2), (4, .int z4), (5, .long z5), (7, .long z7)] [] := fun z5 z7 e => hk0 (z5, z7) e
  unfold xm_part_l6 at h
  try dsimp only at h ⊢
  refine ba_lload V dX6_part_6 4 rfl ?_
  refine ba_lconst V dX6_part_8 rfl ?_
  refine ba_lcmp_eq V dX6_part_9 dX6_part_10 rfl h (fun h => ?_) (fun h => ?_)
  · exact ba_sub [0, 1, 2, 3] rfl (EX _ (Option.some.inj h))
  · refine ba_lload V dX6_part_13 3 rfl ?_
    refine ba_lload V dX6_part_15 4 rfl ?_
    refine ba_lremG V dX6_part_17 h (fun h => ?_)
    refine ba_letL h (fun x637 h => ?_)
    refine ba_lstore (lv' := [(9, .long x637), (0, .long z0), (2, .long z2), (4, .int z4), (5, .long z5), (7, .long z7)]) V dX6_part_18 (by decide) rfl ?_
    refine ba_lload V dX6_part_20 5 rfl ?_
    refine ba_lstore (lv' := [(5, .long z7), (9, .long x637), (0, .long z0), (2, .long z2), (4, .int z4), (7, .long z7)]) V dX6_part_22 (by decide) rfl ?_
    refine ba_lload V dX6_part_24 1 rfl ?_
    refine ba_lstore (lv' := [(7, .long x637), (5, .long z7), (9, .long x637), (0, .long z0), (2, .long z2), (4, .int z4)]) V dX6_part_26 (by decide) rfl ?_
    refine ba_goto V dX6_part_28 rfl ?_
    exact ba_sub [3, 4, 5, 1, 0] rfl (hk _ _ h)
def xm_part_j41 (z5 : Int64) (q0 : Int64) : Option (Int64) :=
  ba_grd (decide (¬ z5 = 0)) <|
  some (q0 / z5)
set_option maxHeartbeats 4000000 in
set_option maxRecDepth 100000 in
theorem ym_part_j41 {w : ba_W} {X : ba_X} {σ : ba_St} (V : ba_V ba_tM w 11 X cX6_part RX6 rm_m_part) {z5 : Int64} {q0 : Int64} {o : Int64} (RT : ∀ (pc : Nat) (lv : List (Nat × Value)) (v : Int64) , decode cX6_part pc = .ok (.lreturn, 1) → v = o → ba_G ba_tM w 11 X σ pc lv [.long v]) (h : xm_part_j41 z5 q0 = some o) : ba_G ba_tM w 11 X σ 41 [(5, .long z5)] [.long q0] := by
  unfold xm_part_j41 at h
  refine ba_lload V dX6_part_41 0 rfl ?_
  refine ba_ldivG V dX6_part_43 h (fun h => ?_)
  exact RT _ _ _ dX6_part_44 (Option.some.inj h)
def xm_part (a0 : Int64) (a2 : Int64) (a4 : Int32) : Option (Int64) :=
  ba_bnd (ba_fix (xm_part_l6 a0 a2 a4) 1000 (a0, a2)) fun x638 =>
    if a4 = 0 then
      xm_part_j41 x638 a0
    else
      xm_part_j41 x638 a2
set_option maxHeartbeats 4000000 in
set_option maxRecDepth 100000 in
theorem ym_part {w : ba_W} (hj : ba_inj ba_tM w) (l : Launch) {σ : ba_St} {a0 : Int64} {a2 : Int64} {a4 : Int32} {o : Int64} (h : xm_part a0 a2 a4 = some o) : ba_CL ba_tM w l yX6_part cX6_part 11 (some .long) rm_m_part [.long a0, .long a2, .int a4] σ (o, σ) := by
  refine ba_metL (lv := [(0, .long a0), (2, .long a2), (4, .int a4)]) l hj (by decide +kernel) ⟨Nat.le_of_ble_eq_true rfl, rfl⟩ ?_
  intro X V RT
  replace RT := fun pc lv v D e => RT pc lv v σ D (congrArg (fun q => (q, σ)) e)
  unfold xm_part at h
  refine ba_lload_n V dX6_part_0 0 rfl ?_
  refine ba_lstore (lv' := [(5, .long a0), (0, .long a0), (2, .long a2), (4, .int a4)]) V dX6_part_1 (by decide) rfl ?_
  refine ba_lload_n V dX6_part_3 2 rfl ?_
  refine ba_lstore (lv' := [(7, .long a2), (5, .long a0), (0, .long a0), (2, .long a2), (4, .int a4)]) V dX6_part_4 (by decide) rfl ?_
  obtain ⟨o, ho, h⟩ := ba_bnd_some h
  refine ba_sub [2, 3, 4, 1, 0] rfl (ym_part_l6 V (o := o) (fun x638 e => ?_) 1000 a0 a2 ho)
  subst e
  try dsimp only at h
  refine ba_iload V dX6_part_31 2 rfl ?_
  refine ba_if_ne V dX6_part_33 rfl h (fun h => ?_) (fun h => ?_)
  · refine ba_lload_n V dX6_part_36 0 rfl ?_
    refine ba_goto V dX6_part_37 rfl ?_
    exact ba_sub [3] rfl (ym_part_j41 V RT h)
  · refine ba_lload_n V dX6_part_40 1 rfl ?_
    exact ba_sub [3] rfl (ym_part_j41 V RT h)
def xm_finds (s : ba_St) (a1 : Int32) : Option (Int32 × ba_St) :=
  ba_lt (ba_w s 0 4 a1) fun s639 =>
  some (((-10) - a1), s639)
set_option maxHeartbeats 4000000 in
set_option maxRecDepth 100000 in
theorem ym_finds {w : ba_W} (hj : ba_inj ba_tM w) (l : Launch) {s : ba_St} {a1 : Int32} {o : Int32 × ba_St} (h : xm_finds s a1 = some o) : ba_CI ba_tM w l yX6_finds cX6_finds 2 (some .int) rm_m_finds [.ref (w.1 0), .int a1] s o := by
  refine ba_metI (lv := [(0, .ref (w.1 0)), (1, .int a1)]) l hj (by decide +kernel) ⟨Nat.le_of_ble_eq_true rfl, rfl⟩ ?_
  intro X V RT
  unfold xm_finds at h
  refine ba_aload_n V dX6_finds_0 0 rfl ?_
  refine ba_iload_n V dX6_finds_1 1 rfl ?_
  refine ba_putI V dX6_finds_2 kfX6_92 ba_sModel rfl h (fun s639 h => ?_)
  refine ba_bipush V dX6_finds_5 ba_cm10b ?_
  refine ba_iload_n V dX6_finds_7 1 rfl ?_
  refine ba_isub V dX6_finds_8 ?_
  exact RT _ _ _ _ dX6_finds_9 (Option.some.inj h)
def xm_isSheet (a0 : Int32) : Option (Int32) :=
  ba_bnd (xm_in (Int32.toInt64 a0) 0 3) fun v640 =>
  ba_grd (ba_bool v640) <|
  some v640
set_option maxHeartbeats 4000000 in
set_option maxRecDepth 100000 in
theorem ym_isSheet {w : ba_W} (hj : ba_inj ba_tM w) (l : Launch) {σ : ba_St} {a0 : Int32} {o : Int32} (h : xm_isSheet a0 = some o) : ba_CI ba_tM w l yX6_isSheet cX6_isSheet 1 (some .boolean) rm_m_isSheet [.int a0] σ (o, σ) := by
  refine ba_metZ (lv := [(0, .int a0)]) l hj (by decide +kernel) ⟨Nat.le_of_ble_eq_true rfl, rfl⟩ ?_
  intro X V RT
  replace RT := fun pc lv v D z e => RT pc lv v σ D z (congrArg (fun q => (q, σ)) e)
  unfold xm_isSheet at h
  refine ba_iload_n V dX6_isSheet_0 0 rfl ?_
  refine ba_i2l V dX6_isSheet_1 ?_
  refine ba_lconst V dX6_isSheet_2 rfl ?_
  refine ba_ldc2 V dX6_isSheet_3 kkX6_95 ?_
  obtain ⟨v640, hc, h⟩ := ba_bnd_some h
  refine ba_callSI (As := [.long (Int32.toInt64 a0), .long 0, .long 3]) (st := []) V dX6_isSheet_6 kcX6_88 (fun l => ym_in V.inj l hc) ⟨rfl, rfl⟩ ⟨rfl, rfl, Nat.le_of_ble_eq_true rfl, Nat.le_of_ble_eq_true rfl⟩ (Nat.le_of_ble_eq_true rfl) ?_
  refine ba_guard h (fun z h => ?_)
  exact RT _ _ _ dX6_isSheet_9 (ba_boolY z) (Option.some.inj h)
def xm_sheet_l55 (z1 : Int32) (z3 : Int32) (k : (ba_St × Int32) → Option (ba_St)) (a : (ba_St × Int32)) : Option (ba_St) :=
  match a with
  | (s, z4) =>
    if z3 ≤ z4 then
      some s
    else
      ba_grd (ba_inb ((60 * z1) + z4) 240) <|
      ba_lt (ba_w s 3 (ba_ix ((60 * z1) + z4)) 0) fun s645 =>
      ba_lt (z4 + 1) fun x646 =>
      k (s645, x646)
set_option maxHeartbeats 4000000 in
set_option maxRecDepth 100000 in
theorem ym_sheet_l55 {w : ba_W} {X : ba_X} (V : ba_V ba_tM w 5 X cX6_sheet RX6 rm_m_sheet) {z1 : Int32} {z3 : Int32} {o : ba_St} (EX : ∀ (s : ba_St) , s = o → ba_G ba_tM w 5 X s 80 [(3, .int z3)] []) : ∀ (n : Nat) (s : ba_St) (z4 : Int32), ba_fix (xm_sheet_l55 z1 z3) n (s, z4) = some o → ba_G ba_tM w 5 X s 55 [(0, .ref (w.1 0)), (1, .int z1), (3, .int z3), (4, .int z4)] [] := by
  intro n s z4 h
  refine ba_loop (P := fun a => ba_G ba_tM w 5 X a.1 55 [(0, .ref (w.1 0)), (1, .int z1), (3, .int z3), (4, .int a.2)] []) ?_ n (s, z4) h
  intro k hk0 a h
  obtain ⟨s, z4⟩ := a
  have hk : ∀ (s : ba_St) (z4 : Int32), k (s, z4) = some o → ba_G ba_tM w 5 X s 55 [(0, .ref (w.1 0)), (1, .int z1), (3, .int z3), (4, .int z4)] [] := fun s z4 e => hk0 (s, z4) e
  unfold xm_sheet_l55 at h
  try dsimp only at h ⊢
  refine ba_iload V dX6_sheet_55 3 rfl ?_
  refine ba_iload_n V dX6_sheet_57 2 rfl ?_
  refine ba_icmp_ge V dX6_sheet_58 rfl h (fun h => ?_) (fun h => ?_)
  · exact ba_sub [2] rfl (EX _ (Option.some.inj h))
  · refine ba_aload_n V dX6_sheet_61 0 rfl ?_
    refine ba_getR V dX6_sheet_62 kfX6_16 ba_sModel rfl ?_
    refine ba_bipush V dX6_sheet_65 ba_c60b ?_
    refine ba_iload_n V dX6_sheet_67 1 rfl ?_
    refine ba_imul V dX6_sheet_68 ?_
    refine ba_iload V dX6_sheet_69 3 rfl ?_
    refine ba_iadd V dX6_sheet_71 ?_
    refine ba_iconst V dX6_sheet_72 ba_c0 ?_
    refine ba_iast V dX6_sheet_73 ba_sM_3 h (fun s645 h => ?_)
    refine ba_iinc V dX6_sheet_74 3 rfl ba_c1 (by decide) h (fun x646 h => ⟨[(4, .int x646), (0, .ref (w.1 0)), (1, .int z1), (3, .int z3)], rfl, ?_⟩)
    refine ba_goto V dX6_sheet_77 rfl ?_
    exact ba_sub [1, 2, 3, 0] rfl (hk _ _ h)
def xm_sheet (s : ba_St) (a1 : Int32) (a2 : Int32) (a3 : Int32) : Option (Int32 × ba_St) :=
  ba_bnd (xm_isSheet a1) fun v641 =>
  if v641 = 0 then
    some ((-2), s)
  else
    ba_bnd (xm_in (Int32.toInt64 a2) 0 2) fun v642 =>
    if v642 = 0 then
      some ((-2), s)
    else
      if a3 ≤ 60 then
        if 0 ≤ a3 then
          ba_grd (ba_inb a1 4) <|
          ba_lt (ba_w s 1 (ba_ix a1) a2) fun s643 =>
          ba_grd (ba_inb a1 4) <|
          ba_lt (ba_w s643 2 (ba_ix a1) a3) fun s644 =>
          ba_bnd (ba_fix (xm_sheet_l55 a1 a3) 1000 (s644, 0)) fun s647 =>
            some (a3, s647)
        else
          ba_bn2 (xm_finds s 5) fun v648 s649 =>
          some (v648, s649)
      else
        some ((-2), s)
set_option maxHeartbeats 4000000 in
set_option maxRecDepth 100000 in
theorem ym_sheet {w : ba_W} (hj : ba_inj ba_tM w) (l : Launch) {s : ba_St} {a1 : Int32} {a2 : Int32} {a3 : Int32} {o : Int32 × ba_St} (h : xm_sheet s a1 a2 a3 = some o) : ba_CI ba_tM w l yX6_sheet cX6_sheet 5 (some .int) rm_m_sheet [.ref (w.1 0), .int a1, .int a2, .int a3] s o := by
  refine ba_metI (lv := [(0, .ref (w.1 0)), (1, .int a1), (2, .int a2), (3, .int a3)]) l hj (by decide +kernel) ⟨Nat.le_of_ble_eq_true rfl, rfl⟩ ?_
  intro X V RT
  unfold xm_sheet at h
  refine ba_iload_n V dX6_sheet_0 1 rfl ?_
  obtain ⟨v641, hc, h⟩ := ba_bnd_some h
  refine ba_callSI (As := [.int a1]) (st := []) V dX6_sheet_1 kcX6_97 (fun l => ym_isSheet V.inj l hc) ⟨rfl, rfl⟩ ⟨rfl, rfl, Nat.le_of_ble_eq_true rfl, Nat.le_of_ble_eq_true rfl⟩ (Nat.le_of_ble_eq_true rfl) ?_
  refine ba_if_eq V dX6_sheet_4 rfl h (fun h => ?_) (fun h => ?_)
  · refine ba_bipush V dX6_sheet_25 ba_cm2b ?_
    exact RT _ _ _ _ dX6_sheet_27 (Option.some.inj h)
  · refine ba_iload_n V dX6_sheet_7 2 rfl ?_
    refine ba_i2l V dX6_sheet_8 ?_
    refine ba_lconst V dX6_sheet_9 rfl ?_
    refine ba_ldc2 V dX6_sheet_10 kkX6_101 ?_
    obtain ⟨v642, hc, h⟩ := ba_bnd_some h
    refine ba_callSI (As := [.long (Int32.toInt64 a2), .long 0, .long 2]) (st := []) V dX6_sheet_13 kcX6_88 (fun l => ym_in V.inj l hc) ⟨rfl, rfl⟩ ⟨rfl, rfl, Nat.le_of_ble_eq_true rfl, Nat.le_of_ble_eq_true rfl⟩ (Nat.le_of_ble_eq_true rfl) ?_
    refine ba_if_eq V dX6_sheet_16 rfl h (fun h => ?_) (fun h => ?_)
    · refine ba_bipush V dX6_sheet_25 ba_cm2b ?_
      exact RT _ _ _ _ dX6_sheet_27 (Option.some.inj h)
    · refine ba_iload_n V dX6_sheet_19 3 rfl ?_
      refine ba_bipush V dX6_sheet_20 ba_c60b ?_
      refine ba_icmp_le V dX6_sheet_22 rfl h (fun h => ?_) (fun h => ?_)
      · refine ba_iload_n V dX6_sheet_28 3 rfl ?_
        refine ba_if_ge V dX6_sheet_29 rfl h (fun h => ?_) (fun h => ?_)
        · refine ba_aload_n V dX6_sheet_38 0 rfl ?_
          refine ba_getR V dX6_sheet_39 kfX6_7 ba_sModel rfl ?_
          refine ba_iload_n V dX6_sheet_42 1 rfl ?_
          refine ba_iload_n V dX6_sheet_43 2 rfl ?_
          refine ba_iast V dX6_sheet_44 ba_sM_1 h (fun s643 h => ?_)
          refine ba_aload_n V dX6_sheet_45 0 rfl ?_
          refine ba_getR V dX6_sheet_46 kfX6_13 ba_sModel rfl ?_
          refine ba_iload_n V dX6_sheet_49 1 rfl ?_
          refine ba_iload_n V dX6_sheet_50 3 rfl ?_
          refine ba_iast V dX6_sheet_51 ba_sM_2 h (fun s644 h => ?_)
          refine ba_iconst V dX6_sheet_52 ba_c0 ?_
          refine ba_istore (lv' := [(4, .int 0), (0, .ref (w.1 0)), (1, .int a1), (2, .int a2), (3, .int a3)]) V dX6_sheet_53 (by decide) rfl ?_
          obtain ⟨o, ho, h⟩ := ba_bnd_some h
          refine ba_sub [1, 2, 4, 0] rfl (ym_sheet_l55 V (o := o) (fun s647 e => ?_) 1000 s644 0 ho)
          subst e
          try dsimp only at h
          refine ba_iload_n V dX6_sheet_80 0 rfl ?_
          exact RT _ _ _ _ dX6_sheet_81 (Option.some.inj h)
        · refine ba_aload_n V dX6_sheet_32 0 rfl ?_
          refine ba_iconst V dX6_sheet_33 ba_c5 ?_
          obtain ⟨v648, s649, hc, h⟩ := ba_bn2_some h
          refine ba_callVI (As := [.int 5]) (st := []) V dX6_sheet_34 kcX6_103 ba_sModel (fun l => ym_finds V.inj l hc) ⟨rfl, rfl⟩ ⟨rfl, rfl, Nat.le_of_ble_eq_true rfl, Nat.le_of_ble_eq_true rfl⟩ (Nat.le_of_ble_eq_true rfl) ?_
          exact RT _ _ _ _ dX6_sheet_37 (Option.some.inj h)
      · refine ba_bipush V dX6_sheet_25 ba_cm2b ?_
        exact RT _ _ _ _ dX6_sheet_27 (Option.some.inj h)
def xm_lose (s : ba_St) (a1 : Int32) : Option (Int32 × ba_St) :=
  ba_bnd (xm_isSheet a1) fun v650 =>
  if v650 = 0 then
    some ((-2), s)
  else
    ba_grd (ba_inb a1 4) <|
    if 0 ≤ (s.1 1 (ba_ix a1)) then
      ba_grd (ba_inb a1 4) <|
      ba_lt (ba_w s 1 (ba_ix a1) (-1)) fun s651 =>
      ba_grd (ba_inb a1 4) <|
      some ((s651.1 2 (ba_ix a1)), s651)
    else
      ba_bn2 (xm_finds s 1) fun v652 s653 =>
      some (v652, s653)
set_option maxHeartbeats 4000000 in
set_option maxRecDepth 100000 in
theorem ym_lose {w : ba_W} (hj : ba_inj ba_tM w) (l : Launch) {s : ba_St} {a1 : Int32} {o : Int32 × ba_St} (h : xm_lose s a1 = some o) : ba_CI ba_tM w l yX6_lose cX6_lose 2 (some .int) rm_m_lose [.ref (w.1 0), .int a1] s o := by
  refine ba_metI (lv := [(0, .ref (w.1 0)), (1, .int a1)]) l hj (by decide +kernel) ⟨Nat.le_of_ble_eq_true rfl, rfl⟩ ?_
  intro X V RT
  unfold xm_lose at h
  refine ba_iload_n V dX6_lose_0 1 rfl ?_
  obtain ⟨v650, hc, h⟩ := ba_bnd_some h
  refine ba_callSI (As := [.int a1]) (st := []) V dX6_lose_1 kcX6_97 (fun l => ym_isSheet V.inj l hc) ⟨rfl, rfl⟩ ⟨rfl, rfl, Nat.le_of_ble_eq_true rfl, Nat.le_of_ble_eq_true rfl⟩ (Nat.le_of_ble_eq_true rfl) ?_
  refine ba_if_ne V dX6_lose_4 rfl h (fun h => ?_) (fun h => ?_)
  · refine ba_bipush V dX6_lose_7 ba_cm2b ?_
    exact RT _ _ _ _ dX6_lose_9 (Option.some.inj h)
  · refine ba_aload_n V dX6_lose_10 0 rfl ?_
    refine ba_getR V dX6_lose_11 kfX6_7 ba_sModel rfl ?_
    refine ba_iload_n V dX6_lose_14 1 rfl ?_
    refine ba_iald V dX6_lose_15 ba_sM_1 h (fun h => ?_)
    refine ba_if_ge V dX6_lose_16 rfl h (fun h => ?_) (fun h => ?_)
    · refine ba_aload_n V dX6_lose_25 0 rfl ?_
      refine ba_getR V dX6_lose_26 kfX6_7 ba_sModel rfl ?_
      refine ba_iload_n V dX6_lose_29 1 rfl ?_
      refine ba_iconst V dX6_lose_30 ba_cm1 ?_
      refine ba_iast V dX6_lose_31 ba_sM_1 h (fun s651 h => ?_)
      refine ba_aload_n V dX6_lose_32 0 rfl ?_
      refine ba_getR V dX6_lose_33 kfX6_13 ba_sModel rfl ?_
      refine ba_iload_n V dX6_lose_36 1 rfl ?_
      refine ba_iald V dX6_lose_37 ba_sM_2 h (fun h => ?_)
      exact RT _ _ _ _ dX6_lose_38 (Option.some.inj h)
    · refine ba_aload_n V dX6_lose_19 0 rfl ?_
      refine ba_iconst V dX6_lose_20 ba_c1 ?_
      obtain ⟨v652, s653, hc, h⟩ := ba_bn2_some h
      refine ba_callVI (As := [.int 1]) (st := []) V dX6_lose_21 kcX6_103 ba_sModel (fun l => ym_finds V.inj l hc) ⟨rfl, rfl⟩ ⟨rfl, rfl, Nat.le_of_ble_eq_true rfl, Nat.le_of_ble_eq_true rfl⟩ (Nat.le_of_ble_eq_true rfl) ?_
      exact RT _ _ _ _ dX6_lose_24 (Option.some.inj h)
def xm_lacks (s : ba_St) (a1 : Int32) (a2 : Int32) (a3 : Int32) : Option (Int32 × ba_St) :=
  ba_grd (ba_inb a1 4) <|
  if 0 ≤ (s.1 1 (ba_ix a1)) then
    ba_grd (ba_inb a1 4) <|
    if (s.1 1 (ba_ix a1)) = a2 then
      ba_grd (ba_inb a1 4) <|
      ba_bnd (xm_in (Int32.toInt64 a3) 0 (Int32.toInt64 ((s.1 2 (ba_ix a1)) - 1))) fun v654 =>
      if v654 = 0 then
        ba_bn2 (xm_finds s 2) fun v655 s656 =>
        some (v655, s656)
      else
        some (0, s)
    else
      ba_bn2 (xm_finds s 3) fun v657 s658 =>
      some (v657, s658)
  else
    ba_bn2 (xm_finds s 1) fun v659 s660 =>
    some (v659, s660)
set_option maxHeartbeats 4000000 in
set_option maxRecDepth 100000 in
theorem ym_lacks {w : ba_W} (hj : ba_inj ba_tM w) (l : Launch) {s : ba_St} {a1 : Int32} {a2 : Int32} {a3 : Int32} {o : Int32 × ba_St} (h : xm_lacks s a1 a2 a3 = some o) : ba_CI ba_tM w l yX6_lacks cX6_lacks 4 (some .int) rm_m_lacks [.ref (w.1 0), .int a1, .int a2, .int a3] s o := by
  refine ba_metI (lv := [(0, .ref (w.1 0)), (1, .int a1), (2, .int a2), (3, .int a3)]) l hj (by decide +kernel) ⟨Nat.le_of_ble_eq_true rfl, rfl⟩ ?_
  intro X V RT
  unfold xm_lacks at h
  refine ba_aload_n V dX6_lacks_0 0 rfl ?_
  refine ba_getR V dX6_lacks_1 kfX6_7 ba_sModel rfl ?_
  refine ba_iload_n V dX6_lacks_4 1 rfl ?_
  refine ba_iald V dX6_lacks_5 ba_sM_1 h (fun h => ?_)
  refine ba_if_ge V dX6_lacks_6 rfl h (fun h => ?_) (fun h => ?_)
  · refine ba_aload_n V dX6_lacks_15 0 rfl ?_
    refine ba_getR V dX6_lacks_16 kfX6_7 ba_sModel rfl ?_
    refine ba_iload_n V dX6_lacks_19 1 rfl ?_
    refine ba_iald V dX6_lacks_20 ba_sM_1 h (fun h => ?_)
    refine ba_iload_n V dX6_lacks_21 2 rfl ?_
    refine ba_icmp_eq V dX6_lacks_22 rfl h (fun h => ?_) (fun h => ?_)
    · refine ba_iload_n V dX6_lacks_31 3 rfl ?_
      refine ba_i2l V dX6_lacks_32 ?_
      refine ba_lconst V dX6_lacks_33 rfl ?_
      refine ba_aload_n V dX6_lacks_34 0 rfl ?_
      refine ba_getR V dX6_lacks_35 kfX6_13 ba_sModel rfl ?_
      refine ba_iload_n V dX6_lacks_38 1 rfl ?_
      refine ba_iald V dX6_lacks_39 ba_sM_2 h (fun h => ?_)
      refine ba_iconst V dX6_lacks_40 ba_c1 ?_
      refine ba_isub V dX6_lacks_41 ?_
      refine ba_i2l V dX6_lacks_42 ?_
      obtain ⟨v654, hc, h⟩ := ba_bnd_some h
      refine ba_callSI (As := [.long (Int32.toInt64 a3), .long 0, .long (Int32.toInt64 ((s.1 2 (ba_ix a1)) - 1))]) (st := []) V dX6_lacks_43 kcX6_88 (fun l => ym_in V.inj l hc) ⟨rfl, rfl⟩ ⟨rfl, rfl, Nat.le_of_ble_eq_true rfl, Nat.le_of_ble_eq_true rfl⟩ (Nat.le_of_ble_eq_true rfl) ?_
      refine ba_if_eq V dX6_lacks_46 rfl h (fun h => ?_) (fun h => ?_)
      · refine ba_aload_n V dX6_lacks_53 0 rfl ?_
        refine ba_iconst V dX6_lacks_54 ba_c2 ?_
        obtain ⟨v655, s656, hc, h⟩ := ba_bn2_some h
        refine ba_callVI (As := [.int 2]) (st := []) V dX6_lacks_55 kcX6_103 ba_sModel (fun l => ym_finds V.inj l hc) ⟨rfl, rfl⟩ ⟨rfl, rfl, Nat.le_of_ble_eq_true rfl, Nat.le_of_ble_eq_true rfl⟩ (Nat.le_of_ble_eq_true rfl) ?_
        exact RT _ _ _ _ dX6_lacks_58 (Option.some.inj h)
      · refine ba_iconst V dX6_lacks_49 ba_c0 ?_
        refine ba_goto V dX6_lacks_50 rfl ?_
        exact RT _ _ _ _ dX6_lacks_58 (Option.some.inj h)
    · refine ba_aload_n V dX6_lacks_25 0 rfl ?_
      refine ba_iconst V dX6_lacks_26 ba_c3 ?_
      obtain ⟨v657, s658, hc, h⟩ := ba_bn2_some h
      refine ba_callVI (As := [.int 3]) (st := []) V dX6_lacks_27 kcX6_103 ba_sModel (fun l => ym_finds V.inj l hc) ⟨rfl, rfl⟩ ⟨rfl, rfl, Nat.le_of_ble_eq_true rfl, Nat.le_of_ble_eq_true rfl⟩ (Nat.le_of_ble_eq_true rfl) ?_
      exact RT _ _ _ _ dX6_lacks_30 (Option.some.inj h)
  · refine ba_aload_n V dX6_lacks_9 0 rfl ?_
    refine ba_iconst V dX6_lacks_10 ba_c1 ?_
    obtain ⟨v659, s660, hc, h⟩ := ba_bn2_some h
    refine ba_callVI (As := [.int 1]) (st := []) V dX6_lacks_11 kcX6_103 ba_sModel (fun l => ym_finds V.inj l hc) ⟨rfl, rfl⟩ ⟨rfl, rfl, Nat.le_of_ble_eq_true rfl, Nat.le_of_ble_eq_true rfl⟩ (Nat.le_of_ble_eq_true rfl) ?_
    exact RT _ _ _ _ dX6_lacks_14 (Option.some.inj h)
def xm_cut (a0 : Int32) (a1 : Int32) : Option (Int32) :=
  if a0 = 0 then
    some (ba_i8 a1)
  else
    if a0 = 1 then
      some (ba_i16 a1)
    else
      some a1
set_option maxHeartbeats 4000000 in
set_option maxRecDepth 100000 in
theorem ym_cut {w : ba_W} (hj : ba_inj ba_tM w) (l : Launch) {σ : ba_St} {a0 : Int32} {a1 : Int32} {o : Int32} (h : xm_cut a0 a1 = some o) : ba_CI ba_tM w l yX6_cut cX6_cut 2 (some .int) rm_m_cut [.int a0, .int a1] σ (o, σ) := by
  refine ba_metI (lv := [(0, .int a0), (1, .int a1)]) l hj (by decide +kernel) ⟨Nat.le_of_ble_eq_true rfl, rfl⟩ ?_
  intro X V RT
  replace RT := fun pc lv v D e => RT pc lv v σ D (congrArg (fun q => (q, σ)) e)
  unfold xm_cut at h
  refine ba_iload_n V dX6_cut_0 0 rfl ?_
  refine ba_if_ne V dX6_cut_1 rfl h (fun h => ?_) (fun h => ?_)
  · refine ba_iload_n V dX6_cut_4 1 rfl ?_
    refine ba_i2b V dX6_cut_5 ?_
    refine ba_goto V dX6_cut_6 rfl ?_
    exact RT _ _ _ dX6_cut_20 (Option.some.inj h)
  · refine ba_iload_n V dX6_cut_9 0 rfl ?_
    refine ba_iconst V dX6_cut_10 ba_c1 ?_
    refine ba_icmp_ne V dX6_cut_11 rfl h (fun h => ?_) (fun h => ?_)
    · refine ba_iload_n V dX6_cut_14 1 rfl ?_
      refine ba_i2s V dX6_cut_15 ?_
      refine ba_goto V dX6_cut_16 rfl ?_
      exact RT _ _ _ dX6_cut_20 (Option.some.inj h)
    · refine ba_iload_n V dX6_cut_19 1 rfl ?_
      exact RT _ _ _ dX6_cut_20 (Option.some.inj h)
def xm_lay (s : ba_St) (a1 : Int32) (a2 : Int32) (a3 : Int32) (a4 : Int32) : Option (Int32 × ba_St) :=
  ba_bnd (xm_isSheet a1) fun v661 =>
  if v661 = 0 then
    some ((-2), s)
  else
    ba_bnd (xm_in (Int32.toInt64 a2) 0 2) fun v662 =>
    if v662 = 0 then
      some ((-2), s)
    else
      ba_bn2 (xm_lacks s a1 a2 a3) fun v663 s664 =>
      if v663 = 0 then
        ba_bnd (xm_cut a2 a4) fun v665 =>
        ba_grd (ba_inb ((60 * a1) + a3) 240) <|
        ba_lt (ba_w s664 3 (ba_ix ((60 * a1) + a3)) v665) fun s666 =>
        some (1, s666)
      else
        some (v663, s664)
set_option maxHeartbeats 4000000 in
set_option maxRecDepth 100000 in
theorem ym_lay {w : ba_W} (hj : ba_inj ba_tM w) (l : Launch) {s : ba_St} {a1 : Int32} {a2 : Int32} {a3 : Int32} {a4 : Int32} {o : Int32 × ba_St} (h : xm_lay s a1 a2 a3 a4 = some o) : ba_CI ba_tM w l yX6_lay cX6_lay 6 (some .int) rm_m_lay [.ref (w.1 0), .int a1, .int a2, .int a3, .int a4] s o := by
  refine ba_metI (lv := [(0, .ref (w.1 0)), (1, .int a1), (2, .int a2), (3, .int a3), (4, .int a4)]) l hj (by decide +kernel) ⟨Nat.le_of_ble_eq_true rfl, rfl⟩ ?_
  intro X V RT
  unfold xm_lay at h
  refine ba_iload_n V dX6_lay_0 1 rfl ?_
  obtain ⟨v661, hc, h⟩ := ba_bnd_some h
  refine ba_callSI (As := [.int a1]) (st := []) V dX6_lay_1 kcX6_97 (fun l => ym_isSheet V.inj l hc) ⟨rfl, rfl⟩ ⟨rfl, rfl, Nat.le_of_ble_eq_true rfl, Nat.le_of_ble_eq_true rfl⟩ (Nat.le_of_ble_eq_true rfl) ?_
  refine ba_if_eq V dX6_lay_4 rfl h (fun h => ?_) (fun h => ?_)
  · refine ba_bipush V dX6_lay_19 ba_cm2b ?_
    exact RT _ _ _ _ dX6_lay_21 (Option.some.inj h)
  · refine ba_iload_n V dX6_lay_7 2 rfl ?_
    refine ba_i2l V dX6_lay_8 ?_
    refine ba_lconst V dX6_lay_9 rfl ?_
    refine ba_ldc2 V dX6_lay_10 kkX6_101 ?_
    obtain ⟨v662, hc, h⟩ := ba_bnd_some h
    refine ba_callSI (As := [.long (Int32.toInt64 a2), .long 0, .long 2]) (st := []) V dX6_lay_13 kcX6_88 (fun l => ym_in V.inj l hc) ⟨rfl, rfl⟩ ⟨rfl, rfl, Nat.le_of_ble_eq_true rfl, Nat.le_of_ble_eq_true rfl⟩ (Nat.le_of_ble_eq_true rfl) ?_
    refine ba_if_ne V dX6_lay_16 rfl h (fun h => ?_) (fun h => ?_)
    · refine ba_bipush V dX6_lay_19 ba_cm2b ?_
      exact RT _ _ _ _ dX6_lay_21 (Option.some.inj h)
    · refine ba_aload_n V dX6_lay_22 0 rfl ?_
      refine ba_iload_n V dX6_lay_23 1 rfl ?_
      refine ba_iload_n V dX6_lay_24 2 rfl ?_
      refine ba_iload_n V dX6_lay_25 3 rfl ?_
      obtain ⟨v663, s664, hc, h⟩ := ba_bn2_some h
      refine ba_callVI (As := [.int a1, .int a2, .int a3]) (st := []) V dX6_lay_26 kcX6_107 ba_sModel (fun l => ym_lacks V.inj l hc) ⟨rfl, rfl⟩ ⟨rfl, rfl, Nat.le_of_ble_eq_true rfl, Nat.le_of_ble_eq_true rfl⟩ (Nat.le_of_ble_eq_true rfl) ?_
      refine ba_istore (lv' := [(5, .int v663), (0, .ref (w.1 0)), (1, .int a1), (2, .int a2), (3, .int a3), (4, .int a4)]) V dX6_lay_29 (by decide) rfl ?_
      refine ba_iload V dX6_lay_31 0 rfl ?_
      refine ba_if_eq V dX6_lay_33 rfl h (fun h => ?_) (fun h => ?_)
      · refine ba_aload_n V dX6_lay_39 1 rfl ?_
        refine ba_getR V dX6_lay_40 kfX6_16 ba_sModel rfl ?_
        refine ba_bipush V dX6_lay_43 ba_c60b ?_
        refine ba_iload_n V dX6_lay_45 2 rfl ?_
        refine ba_imul V dX6_lay_46 ?_
        refine ba_iload_n V dX6_lay_47 4 rfl ?_
        refine ba_iadd V dX6_lay_48 ?_
        refine ba_iload_n V dX6_lay_49 3 rfl ?_
        refine ba_iload V dX6_lay_50 5 rfl ?_
        obtain ⟨v665, hc, h⟩ := ba_bnd_some h
        refine ba_callSI (As := [.int a2, .int a4]) (st := [.int ((60 * a1) + a3), .ref (w.1 3)]) V dX6_lay_52 kcX6_111 (fun l => ym_cut V.inj l hc) ⟨rfl, rfl⟩ ⟨rfl, rfl, Nat.le_of_ble_eq_true rfl, Nat.le_of_ble_eq_true rfl⟩ (Nat.le_of_ble_eq_true rfl) ?_
        refine ba_iast V dX6_lay_55 ba_sM_3 h (fun s666 h => ?_)
        refine ba_iconst V dX6_lay_56 ba_c1 ?_
        exact RT _ _ _ _ dX6_lay_57 (Option.some.inj h)
      · refine ba_iload V dX6_lay_36 0 rfl ?_
        exact RT _ _ _ _ dX6_lay_38 (Option.some.inj h)
def xm_get_j29 (s : ba_St) : Option (Int32 × ba_St) :=
  some ((-2147483648), s)
set_option maxHeartbeats 4000000 in
set_option maxRecDepth 100000 in
theorem ym_get_j29 {w : ba_W} {X : ba_X} (V : ba_V ba_tM w 4 X cX6_get RX6 rm_m_get) {s : ba_St} {o : Int32 × ba_St} (RT : ∀ (pc : Nat) (lv : List (Nat × Value)) (v : Int32) (s : ba_St), decode cX6_get pc = .ok (.ireturn, 1) → (v, s) = o → ba_G ba_tM w 4 X s pc lv [.int v]) (h : xm_get_j29 s = some o) : ba_G ba_tM w 4 X s 29 [] [] := by
  unfold xm_get_j29 at h
  refine ba_ldc V dX6_get_29 kkX6_115 ?_
  exact RT _ _ _ _ dX6_get_31 (Option.some.inj h)
def xm_get (s : ba_St) (a1 : Int32) (a2 : Int32) (a3 : Int32) : Option (Int32 × ba_St) :=
  ba_bnd (xm_isSheet a1) fun v667 =>
  if v667 = 0 then
    xm_get_j29 s
  else
    ba_bnd (xm_in (Int32.toInt64 a2) 0 2) fun v668 =>
    if v668 = 0 then
      xm_get_j29 s
    else
      ba_bn2 (xm_lacks s a1 a2 a3) fun v669 s670 =>
      if v669 = 0 then
        ba_grd (ba_inb ((60 * a1) + a3) 240) <|
        some ((s670.1 3 (ba_ix ((60 * a1) + a3))), s670)
      else
        xm_get_j29 s670
set_option maxHeartbeats 4000000 in
set_option maxRecDepth 100000 in
theorem ym_get {w : ba_W} (hj : ba_inj ba_tM w) (l : Launch) {s : ba_St} {a1 : Int32} {a2 : Int32} {a3 : Int32} {o : Int32 × ba_St} (h : xm_get s a1 a2 a3 = some o) : ba_CI ba_tM w l yX6_get cX6_get 4 (some .int) rm_m_get [.ref (w.1 0), .int a1, .int a2, .int a3] s o := by
  refine ba_metI (lv := [(0, .ref (w.1 0)), (1, .int a1), (2, .int a2), (3, .int a3)]) l hj (by decide +kernel) ⟨Nat.le_of_ble_eq_true rfl, rfl⟩ ?_
  intro X V RT
  unfold xm_get at h
  refine ba_iload_n V dX6_get_0 1 rfl ?_
  obtain ⟨v667, hc, h⟩ := ba_bnd_some h
  refine ba_callSI (As := [.int a1]) (st := []) V dX6_get_1 kcX6_97 (fun l => ym_isSheet V.inj l hc) ⟨rfl, rfl⟩ ⟨rfl, rfl, Nat.le_of_ble_eq_true rfl, Nat.le_of_ble_eq_true rfl⟩ (Nat.le_of_ble_eq_true rfl) ?_
  refine ba_if_eq V dX6_get_4 rfl h (fun h => ?_) (fun h => ?_)
  · exact ba_sub [] rfl (ym_get_j29 V RT h)
  · refine ba_iload_n V dX6_get_7 2 rfl ?_
    refine ba_i2l V dX6_get_8 ?_
    refine ba_lconst V dX6_get_9 rfl ?_
    refine ba_ldc2 V dX6_get_10 kkX6_101 ?_
    obtain ⟨v668, hc, h⟩ := ba_bnd_some h
    refine ba_callSI (As := [.long (Int32.toInt64 a2), .long 0, .long 2]) (st := []) V dX6_get_13 kcX6_88 (fun l => ym_in V.inj l hc) ⟨rfl, rfl⟩ ⟨rfl, rfl, Nat.le_of_ble_eq_true rfl, Nat.le_of_ble_eq_true rfl⟩ (Nat.le_of_ble_eq_true rfl) ?_
    refine ba_if_eq V dX6_get_16 rfl h (fun h => ?_) (fun h => ?_)
    · exact ba_sub [] rfl (ym_get_j29 V RT h)
    · refine ba_aload_n V dX6_get_19 0 rfl ?_
      refine ba_iload_n V dX6_get_20 1 rfl ?_
      refine ba_iload_n V dX6_get_21 2 rfl ?_
      refine ba_iload_n V dX6_get_22 3 rfl ?_
      obtain ⟨v669, s670, hc, h⟩ := ba_bn2_some h
      refine ba_callVI (As := [.int a1, .int a2, .int a3]) (st := []) V dX6_get_23 kcX6_107 ba_sModel (fun l => ym_lacks V.inj l hc) ⟨rfl, rfl⟩ ⟨rfl, rfl, Nat.le_of_ble_eq_true rfl, Nat.le_of_ble_eq_true rfl⟩ (Nat.le_of_ble_eq_true rfl) ?_
      refine ba_if_eq V dX6_get_26 rfl h (fun h => ?_) (fun h => ?_)
      · refine ba_aload_n V dX6_get_32 0 rfl ?_
        refine ba_getR V dX6_get_33 kfX6_16 ba_sModel rfl ?_
        refine ba_bipush V dX6_get_36 ba_c60b ?_
        refine ba_iload_n V dX6_get_38 1 rfl ?_
        refine ba_imul V dX6_get_39 ?_
        refine ba_iload_n V dX6_get_40 3 rfl ?_
        refine ba_iadd V dX6_get_41 ?_
        refine ba_iald V dX6_get_42 ba_sM_3 h (fun h => ?_)
        exact RT _ _ _ _ dX6_get_43 (Option.some.inj h)
      · exact ba_sub [] rfl (ym_get_j29 V RT h)
def xm_copy_j35 (s : ba_St) : Option (Int32 × ba_St) :=
  ba_bn2 (xm_finds s 1) fun v673 s674 =>
  some (v673, s674)
set_option maxHeartbeats 4000000 in
set_option maxRecDepth 100000 in
theorem ym_copy_j35 {w : ba_W} {X : ba_X} (V : ba_V ba_tM w 7 X cX6_copy RX6 rm_m_copy) {s : ba_St} {o : Int32 × ba_St} (RT : ∀ (pc : Nat) (lv : List (Nat × Value)) (v : Int32) (s : ba_St), decode cX6_copy pc = .ok (.ireturn, 1) → (v, s) = o → ba_G ba_tM w 7 X s pc lv [.int v]) (h : xm_copy_j35 s = some o) : ba_G ba_tM w 7 X s 35 [(0, .ref (w.1 0))] [] := by
  unfold xm_copy_j35 at h
  refine ba_aload_n V dX6_copy_35 0 rfl ?_
  refine ba_iconst V dX6_copy_36 ba_c1 ?_
  obtain ⟨v673, s674, hc, h⟩ := ba_bn2_some h
  refine ba_callVI (As := [.int 1]) (st := []) V dX6_copy_37 kcX6_103 ba_sModel (fun l => ym_finds V.inj l hc) ⟨rfl, rfl⟩ ⟨rfl, rfl, Nat.le_of_ble_eq_true rfl, Nat.le_of_ble_eq_true rfl⟩ (Nat.le_of_ble_eq_true rfl) ?_
  exact RT _ _ _ _ dX6_copy_40 (Option.some.inj h)
def xm_copy_j111 (s : ba_St) : Option (Int32 × ba_St) :=
  ba_bn2 (xm_finds s 2) fun v675 s676 =>
  some (v675, s676)
set_option maxHeartbeats 4000000 in
set_option maxRecDepth 100000 in
theorem ym_copy_j111 {w : ba_W} {X : ba_X} (V : ba_V ba_tM w 7 X cX6_copy RX6 rm_m_copy) {s : ba_St} {o : Int32 × ba_St} (RT : ∀ (pc : Nat) (lv : List (Nat × Value)) (v : Int32) (s : ba_St), decode cX6_copy pc = .ok (.ireturn, 1) → (v, s) = o → ba_G ba_tM w 7 X s pc lv [.int v]) (h : xm_copy_j111 s = some o) : ba_G ba_tM w 7 X s 111 [(0, .ref (w.1 0))] [] := by
  unfold xm_copy_j111 at h
  refine ba_aload_n V dX6_copy_111 0 rfl ?_
  refine ba_iconst V dX6_copy_112 ba_c2 ?_
  obtain ⟨v675, s676, hc, h⟩ := ba_bn2_some h
  refine ba_callVI (As := [.int 2]) (st := []) V dX6_copy_113 kcX6_103 ba_sModel (fun l => ym_finds V.inj l hc) ⟨rfl, rfl⟩ ⟨rfl, rfl, Nat.le_of_ble_eq_true rfl, Nat.le_of_ble_eq_true rfl⟩ (Nat.le_of_ble_eq_true rfl) ?_
  exact RT _ _ _ _ dX6_copy_116 (Option.some.inj h)
def xm_copy_l120 (z1 : Int32) (z2 : Int32) (z3 : Int32) (z4 : Int32) (z5 : Int32) (k : (ba_St × Int32) → Option (ba_St)) (a : (ba_St × Int32)) : Option (ba_St) :=
  match a with
  | (s, z6) =>
    if z5 ≤ z6 then
      some s
    else
      ba_grd (ba_inb (((60 * z1) + z2) + z6) 240) <|
      ba_grd (ba_inb z6 60) <|
      ba_lt (ba_w s 4 (ba_ix z6) (s.1 3 (ba_ix (((60 * z1) + z2) + z6)))) fun s677 =>
      ba_lt (z6 + 1) fun x678 =>
      k (s677, x678)
set_option maxHeartbeats 4000000 in
set_option maxRecDepth 100000 in
theorem ym_copy_l120 {w : ba_W} {X : ba_X} (V : ba_V ba_tM w 7 X cX6_copy RX6 rm_m_copy) {z1 : Int32} {z2 : Int32} {z3 : Int32} {z4 : Int32} {z5 : Int32} {o : ba_St} (EX : ∀ (s : ba_St) , s = o → ba_G ba_tM w 7 X s 154 [(0, .ref (w.1 0)), (3, .int z3), (4, .int z4), (5, .int z5)] []) : ∀ (n : Nat) (s : ba_St) (z6 : Int32), ba_fix (xm_copy_l120 z1 z2 z3 z4 z5) n (s, z6) = some o → ba_G ba_tM w 7 X s 120 [(0, .ref (w.1 0)), (1, .int z1), (2, .int z2), (3, .int z3), (4, .int z4), (5, .int z5), (6, .int z6)] [] := by
  intro n s z6 h
  refine ba_loop (P := fun a => ba_G ba_tM w 7 X a.1 120 [(0, .ref (w.1 0)), (1, .int z1), (2, .int z2), (3, .int z3), (4, .int z4), (5, .int z5), (6, .int a.2)] []) ?_ n (s, z6) h
  intro k hk0 a h
  obtain ⟨s, z6⟩ := a
  have hk : ∀ (s : ba_St) (z6 : Int32), k (s, z6) = some o → ba_G ba_tM w 7 X s 120 [(0, .ref (w.1 0)), (1, .int z1), (2, .int z2), (3, .int z3), (4, .int z4), (5, .int z5), (6, .int z6)] [] := fun s z6 e => hk0 (s, z6) e
  unfold xm_copy_l120 at h
  try dsimp only at h ⊢
  refine ba_iload V dX6_copy_120 6 rfl ?_
  refine ba_iload V dX6_copy_122 5 rfl ?_
  refine ba_icmp_ge V dX6_copy_124 rfl h (fun h => ?_) (fun h => ?_)
  · exact ba_sub [0, 3, 4, 5] rfl (EX _ (Option.some.inj h))
  · refine ba_aload_n V dX6_copy_127 0 rfl ?_
    refine ba_getR V dX6_copy_128 kfX6_19 ba_sModel rfl ?_
    refine ba_iload V dX6_copy_131 6 rfl ?_
    refine ba_aload_n V dX6_copy_133 0 rfl ?_
    refine ba_getR V dX6_copy_134 kfX6_16 ba_sModel rfl ?_
    refine ba_bipush V dX6_copy_137 ba_c60b ?_
    refine ba_iload_n V dX6_copy_139 1 rfl ?_
    refine ba_imul V dX6_copy_140 ?_
    refine ba_iload_n V dX6_copy_141 2 rfl ?_
    refine ba_iadd V dX6_copy_142 ?_
    refine ba_iload V dX6_copy_143 6 rfl ?_
    refine ba_iadd V dX6_copy_145 ?_
    refine ba_iald V dX6_copy_146 ba_sM_3 h (fun h => ?_)
    refine ba_iast V dX6_copy_147 ba_sM_4 h (fun s677 h => ?_)
    refine ba_iinc V dX6_copy_148 6 rfl ba_c1 (by decide) h (fun x678 h => ⟨[(6, .int x678), (0, .ref (w.1 0)), (1, .int z1), (2, .int z2), (3, .int z3), (4, .int z4), (5, .int z5)], rfl, ?_⟩)
    refine ba_goto V dX6_copy_151 rfl ?_
    exact ba_sub [1, 2, 3, 4, 5, 6, 0] rfl (hk _ _ h)
def xm_copy_l157 (z3 : Int32) (z4 : Int32) (z5 : Int32) (k : (ba_St × Int32) → Option (ba_St)) (a : (ba_St × Int32)) : Option (ba_St) :=
  match a with
  | (s, z6) =>
    if z5 ≤ z6 then
      some s
    else
      ba_grd (ba_inb z6 60) <|
      ba_grd (ba_inb (((60 * z3) + z4) + z6) 240) <|
      ba_lt (ba_w s 3 (ba_ix (((60 * z3) + z4) + z6)) (s.1 4 (ba_ix z6))) fun s680 =>
      ba_lt (z6 + 1) fun x681 =>
      k (s680, x681)
set_option maxHeartbeats 4000000 in
set_option maxRecDepth 100000 in
theorem ym_copy_l157 {w : ba_W} {X : ba_X} (V : ba_V ba_tM w 7 X cX6_copy RX6 rm_m_copy) {z3 : Int32} {z4 : Int32} {z5 : Int32} {o : ba_St} (EX : ∀ (s : ba_St) , s = o → ba_G ba_tM w 7 X s 192 [] []) : ∀ (n : Nat) (s : ba_St) (z6 : Int32), ba_fix (xm_copy_l157 z3 z4 z5) n (s, z6) = some o → ba_G ba_tM w 7 X s 157 [(0, .ref (w.1 0)), (3, .int z3), (4, .int z4), (5, .int z5), (6, .int z6)] [] := by
  intro n s z6 h
  refine ba_loop (P := fun a => ba_G ba_tM w 7 X a.1 157 [(0, .ref (w.1 0)), (3, .int z3), (4, .int z4), (5, .int z5), (6, .int a.2)] []) ?_ n (s, z6) h
  intro k hk0 a h
  obtain ⟨s, z6⟩ := a
  have hk : ∀ (s : ba_St) (z6 : Int32), k (s, z6) = some o → ba_G ba_tM w 7 X s 157 [(0, .ref (w.1 0)), (3, .int z3), (4, .int z4), (5, .int z5), (6, .int z6)] [] := fun s z6 e => hk0 (s, z6) e
  unfold xm_copy_l157 at h
  try dsimp only at h ⊢
  refine ba_iload V dX6_copy_157 4 rfl ?_
  refine ba_iload V dX6_copy_159 3 rfl ?_
  refine ba_icmp_ge V dX6_copy_161 rfl h (fun h => ?_) (fun h => ?_)
  · exact ba_sub [] rfl (EX _ (Option.some.inj h))
  · refine ba_aload_n V dX6_copy_164 0 rfl ?_
    refine ba_getR V dX6_copy_165 kfX6_16 ba_sModel rfl ?_
    refine ba_bipush V dX6_copy_168 ba_c60b ?_
    refine ba_iload_n V dX6_copy_170 1 rfl ?_
    refine ba_imul V dX6_copy_171 ?_
    refine ba_iload V dX6_copy_172 2 rfl ?_
    refine ba_iadd V dX6_copy_174 ?_
    refine ba_iload V dX6_copy_175 4 rfl ?_
    refine ba_iadd V dX6_copy_177 ?_
    refine ba_aload_n V dX6_copy_178 0 rfl ?_
    refine ba_getR V dX6_copy_179 kfX6_19 ba_sModel rfl ?_
    refine ba_iload V dX6_copy_182 4 rfl ?_
    refine ba_iald V dX6_copy_184 ba_sM_4 h (fun h => ?_)
    refine ba_iast V dX6_copy_185 ba_sM_3 h (fun s680 h => ?_)
    refine ba_iinc V dX6_copy_186 4 rfl ba_c1 (by decide) h (fun x681 h => ⟨[(6, .int x681), (0, .ref (w.1 0)), (3, .int z3), (4, .int z4), (5, .int z5)], rfl, ?_⟩)
    refine ba_goto V dX6_copy_189 rfl ?_
    exact ba_sub [1, 2, 3, 4, 0] rfl (hk _ _ h)
def xm_copy (s : ba_St) (a1 : Int32) (a2 : Int32) (a3 : Int32) (a4 : Int32) (a5 : Int32) : Option (Int32 × ba_St) :=
  ba_bnd (xm_isSheet a1) fun v671 =>
  if v671 = 0 then
    some ((-2), s)
  else
    ba_bnd (xm_isSheet a3) fun v672 =>
    if v672 = 0 then
      some ((-2), s)
    else
      ba_grd (ba_inb a1 4) <|
      if (s.1 1 (ba_ix a1)) < 0 then
        xm_copy_j35 s
      else
        ba_grd (ba_inb a3 4) <|
        if 0 ≤ (s.1 1 (ba_ix a3)) then
          ba_grd (ba_inb a1 4) <|
          ba_grd (ba_inb a3 4) <|
          if (s.1 1 (ba_ix a1)) = (s.1 1 (ba_ix a3)) then
            if a2 < 0 then
              xm_copy_j111 s
            else
              if a4 < 0 then
                xm_copy_j111 s
              else
                if a5 < 0 then
                  xm_copy_j111 s
                else
                  ba_grd (ba_inb a1 4) <|
                  if (Int32.toInt64 (s.1 2 (ba_ix a1))) < ((Int32.toInt64 a2) + (Int32.toInt64 a5)) then
                    xm_copy_j111 s
                  else
                    ba_grd (ba_inb a3 4) <|
                    if ((Int32.toInt64 a4) + (Int32.toInt64 a5)) ≤ (Int32.toInt64 (s.1 2 (ba_ix a3))) then
                      ba_bnd (ba_fix (xm_copy_l120 a1 a2 a3 a4 a5) 1000 (s, 0)) fun s679 =>
                        ba_bnd (ba_fix (xm_copy_l157 a3 a4 a5) 1000 (s679, 0)) fun s682 =>
                          some (1, s682)
                    else
                      xm_copy_j111 s
          else
            ba_bn2 (xm_finds s 4) fun v683 s684 =>
            some (v683, s684)
        else
          xm_copy_j35 s
set_option maxHeartbeats 4000000 in
set_option maxRecDepth 100000 in
theorem ym_copy {w : ba_W} (hj : ba_inj ba_tM w) (l : Launch) {s : ba_St} {a1 : Int32} {a2 : Int32} {a3 : Int32} {a4 : Int32} {a5 : Int32} {o : Int32 × ba_St} (h : xm_copy s a1 a2 a3 a4 a5 = some o) : ba_CI ba_tM w l yX6_copy cX6_copy 7 (some .int) rm_m_copy [.ref (w.1 0), .int a1, .int a2, .int a3, .int a4, .int a5] s o := by
  refine ba_metI (lv := [(0, .ref (w.1 0)), (1, .int a1), (2, .int a2), (3, .int a3), (4, .int a4), (5, .int a5)]) l hj (by decide +kernel) ⟨Nat.le_of_ble_eq_true rfl, rfl⟩ ?_
  intro X V RT
  unfold xm_copy at h
  refine ba_iload_n V dX6_copy_0 1 rfl ?_
  obtain ⟨v671, hc, h⟩ := ba_bnd_some h
  refine ba_callSI (As := [.int a1]) (st := []) V dX6_copy_1 kcX6_97 (fun l => ym_isSheet V.inj l hc) ⟨rfl, rfl⟩ ⟨rfl, rfl, Nat.le_of_ble_eq_true rfl, Nat.le_of_ble_eq_true rfl⟩ (Nat.le_of_ble_eq_true rfl) ?_
  refine ba_if_eq V dX6_copy_4 rfl h (fun h => ?_) (fun h => ?_)
  · refine ba_bipush V dX6_copy_14 ba_cm2b ?_
    exact RT _ _ _ _ dX6_copy_16 (Option.some.inj h)
  · refine ba_iload_n V dX6_copy_7 3 rfl ?_
    obtain ⟨v672, hc, h⟩ := ba_bnd_some h
    refine ba_callSI (As := [.int a3]) (st := []) V dX6_copy_8 kcX6_97 (fun l => ym_isSheet V.inj l hc) ⟨rfl, rfl⟩ ⟨rfl, rfl, Nat.le_of_ble_eq_true rfl, Nat.le_of_ble_eq_true rfl⟩ (Nat.le_of_ble_eq_true rfl) ?_
    refine ba_if_ne V dX6_copy_11 rfl h (fun h => ?_) (fun h => ?_)
    · refine ba_bipush V dX6_copy_14 ba_cm2b ?_
      exact RT _ _ _ _ dX6_copy_16 (Option.some.inj h)
    · refine ba_aload_n V dX6_copy_17 0 rfl ?_
      refine ba_getR V dX6_copy_18 kfX6_7 ba_sModel rfl ?_
      refine ba_iload_n V dX6_copy_21 1 rfl ?_
      refine ba_iald V dX6_copy_22 ba_sM_1 h (fun h => ?_)
      refine ba_if_lt V dX6_copy_23 rfl h (fun h => ?_) (fun h => ?_)
      · exact ba_sub [0] rfl (ym_copy_j35 V RT h)
      · refine ba_aload_n V dX6_copy_26 0 rfl ?_
        refine ba_getR V dX6_copy_27 kfX6_7 ba_sModel rfl ?_
        refine ba_iload_n V dX6_copy_30 3 rfl ?_
        refine ba_iald V dX6_copy_31 ba_sM_1 h (fun h => ?_)
        refine ba_if_ge V dX6_copy_32 rfl h (fun h => ?_) (fun h => ?_)
        · refine ba_aload_n V dX6_copy_41 0 rfl ?_
          refine ba_getR V dX6_copy_42 kfX6_7 ba_sModel rfl ?_
          refine ba_iload_n V dX6_copy_45 1 rfl ?_
          refine ba_iald V dX6_copy_46 ba_sM_1 h (fun h => ?_)
          refine ba_aload_n V dX6_copy_47 0 rfl ?_
          refine ba_getR V dX6_copy_48 kfX6_7 ba_sModel rfl ?_
          refine ba_iload_n V dX6_copy_51 3 rfl ?_
          refine ba_iald V dX6_copy_52 ba_sM_1 h (fun h => ?_)
          refine ba_icmp_eq V dX6_copy_53 rfl h (fun h => ?_) (fun h => ?_)
          · refine ba_iload_n V dX6_copy_62 2 rfl ?_
            refine ba_if_lt V dX6_copy_63 rfl h (fun h => ?_) (fun h => ?_)
            · exact ba_sub [0] rfl (ym_copy_j111 V RT h)
            · refine ba_iload V dX6_copy_66 4 rfl ?_
              refine ba_if_lt V dX6_copy_68 rfl h (fun h => ?_) (fun h => ?_)
              · exact ba_sub [0] rfl (ym_copy_j111 V RT h)
              · refine ba_iload V dX6_copy_71 5 rfl ?_
                refine ba_if_lt V dX6_copy_73 rfl h (fun h => ?_) (fun h => ?_)
                · exact ba_sub [0] rfl (ym_copy_j111 V RT h)
                · refine ba_iload_n V dX6_copy_76 2 rfl ?_
                  refine ba_i2l V dX6_copy_77 ?_
                  refine ba_iload V dX6_copy_78 5 rfl ?_
                  refine ba_i2l V dX6_copy_80 ?_
                  refine ba_ladd V dX6_copy_81 ?_
                  refine ba_aload_n V dX6_copy_82 0 rfl ?_
                  refine ba_getR V dX6_copy_83 kfX6_13 ba_sModel rfl ?_
                  refine ba_iload_n V dX6_copy_86 1 rfl ?_
                  refine ba_iald V dX6_copy_87 ba_sM_2 h (fun h => ?_)
                  refine ba_i2l V dX6_copy_88 ?_
                  refine ba_lcmp_gt V dX6_copy_89 dX6_copy_90 rfl h (fun h => ?_) (fun h => ?_)
                  · exact ba_sub [0] rfl (ym_copy_j111 V RT h)
                  · refine ba_iload V dX6_copy_93 4 rfl ?_
                    refine ba_i2l V dX6_copy_95 ?_
                    refine ba_iload V dX6_copy_96 5 rfl ?_
                    refine ba_i2l V dX6_copy_98 ?_
                    refine ba_ladd V dX6_copy_99 ?_
                    refine ba_aload_n V dX6_copy_100 0 rfl ?_
                    refine ba_getR V dX6_copy_101 kfX6_13 ba_sModel rfl ?_
                    refine ba_iload_n V dX6_copy_104 3 rfl ?_
                    refine ba_iald V dX6_copy_105 ba_sM_2 h (fun h => ?_)
                    refine ba_i2l V dX6_copy_106 ?_
                    refine ba_lcmp_le V dX6_copy_107 dX6_copy_108 rfl h (fun h => ?_) (fun h => ?_)
                    · refine ba_iconst V dX6_copy_117 ba_c0 ?_
                      refine ba_istore (lv' := [(6, .int 0), (0, .ref (w.1 0)), (1, .int a1), (2, .int a2), (3, .int a3), (4, .int a4), (5, .int a5)]) V dX6_copy_118 (by decide) rfl ?_
                      obtain ⟨o, ho, h⟩ := ba_bnd_some h
                      refine ba_sub [1, 2, 3, 4, 5, 6, 0] rfl (ym_copy_l120 V (o := o) (fun s679 e => ?_) 1000 s 0 ho)
                      subst e
                      try dsimp only at h
                      refine ba_iconst V dX6_copy_154 ba_c0 ?_
                      refine ba_istore (lv' := [(6, .int 0), (0, .ref (w.1 0)), (3, .int a3), (4, .int a4), (5, .int a5)]) V dX6_copy_155 (by decide) rfl ?_
                      obtain ⟨o, ho, h⟩ := ba_bnd_some h
                      refine ba_sub [1, 2, 3, 4, 0] rfl (ym_copy_l157 V (o := o) (fun s682 e => ?_) 1000 s679 0 ho)
                      subst e
                      try dsimp only at h
                      refine ba_iconst V dX6_copy_192 ba_c1 ?_
                      exact RT _ _ _ _ dX6_copy_193 (Option.some.inj h)
                    · exact ba_sub [0] rfl (ym_copy_j111 V RT h)
          · refine ba_aload_n V dX6_copy_56 0 rfl ?_
            refine ba_iconst V dX6_copy_57 ba_c4 ?_
            obtain ⟨v683, s684, hc, h⟩ := ba_bn2_some h
            refine ba_callVI (As := [.int 4]) (st := []) V dX6_copy_58 kcX6_103 ba_sModel (fun l => ym_finds V.inj l hc) ⟨rfl, rfl⟩ ⟨rfl, rfl, Nat.le_of_ble_eq_true rfl, Nat.le_of_ble_eq_true rfl⟩ (Nat.le_of_ble_eq_true rfl) ?_
            exact RT _ _ _ _ dX6_copy_61 (Option.some.inj h)
        · exact ba_sub [0] rfl (ym_copy_j35 V RT h)
def xm_isText (a0 : Int32) : Option (Int32) :=
  ba_bnd (xm_in (Int32.toInt64 a0) 0 2) fun v685 =>
  ba_grd (ba_bool v685) <|
  some v685
set_option maxHeartbeats 4000000 in
set_option maxRecDepth 100000 in
theorem ym_isText {w : ba_W} (hj : ba_inj ba_tM w) (l : Launch) {σ : ba_St} {a0 : Int32} {o : Int32} (h : xm_isText a0 = some o) : ba_CI ba_tM w l yX6_isText cX6_isText 1 (some .boolean) rm_m_isText [.int a0] σ (o, σ) := by
  refine ba_metZ (lv := [(0, .int a0)]) l hj (by decide +kernel) ⟨Nat.le_of_ble_eq_true rfl, rfl⟩ ?_
  intro X V RT
  replace RT := fun pc lv v D z e => RT pc lv v σ D z (congrArg (fun q => (q, σ)) e)
  unfold xm_isText at h
  refine ba_iload_n V dX6_isText_0 0 rfl ?_
  refine ba_i2l V dX6_isText_1 ?_
  refine ba_lconst V dX6_isText_2 rfl ?_
  refine ba_ldc2 V dX6_isText_3 kkX6_101 ?_
  obtain ⟨v685, hc, h⟩ := ba_bnd_some h
  refine ba_callSI (As := [.long (Int32.toInt64 a0), .long 0, .long 2]) (st := []) V dX6_isText_6 kcX6_88 (fun l => ym_in V.inj l hc) ⟨rfl, rfl⟩ ⟨rfl, rfl, Nat.le_of_ble_eq_true rfl, Nat.le_of_ble_eq_true rfl⟩ (Nat.le_of_ble_eq_true rfl) ?_
  refine ba_guard h (fun z h => ?_)
  exact RT _ _ _ dX6_isText_9 (ba_boolY z) (Option.some.inj h)
def xm_type_j49 (s : ba_St) (z1 : Int32) (z2 : Int32) (q0 : Int32) (q1 : Int32) : Option (Int32 × ba_St) :=
  if q1 = q0 then
    some ((-4), s)
  else
    ba_grd (ba_inb z1 3) <|
    ba_grd (ba_inb ((48 * z1) + (s.1 6 (ba_ix z1))) 144) <|
    ba_lt (ba_w s 5 (ba_ix ((48 * z1) + (s.1 6 (ba_ix z1)))) z2) fun s688 =>
    ba_grd (ba_inb z1 3) <|
    ba_grd (ba_inb z1 3) <|
    ba_lt (ba_w s688 6 (ba_ix z1) ((s688.1 6 (ba_ix z1)) + 1)) fun s689 =>
    ba_grd (ba_inb z1 3) <|
    some ((s689.1 6 (ba_ix z1)), s689)
set_option maxHeartbeats 4000000 in
set_option maxRecDepth 100000 in
theorem ym_type_j49 {w : ba_W} {X : ba_X} (V : ba_V ba_tM w 3 X cX6_type RX6 rm_m_type) {s : ba_St} {z1 : Int32} {z2 : Int32} {q0 : Int32} {q1 : Int32} {o : Int32 × ba_St} (RT : ∀ (pc : Nat) (lv : List (Nat × Value)) (v : Int32) (s : ba_St), decode cX6_type pc = .ok (.ireturn, 1) → (v, s) = o → ba_G ba_tM w 3 X s pc lv [.int v]) (h : xm_type_j49 s z1 z2 q0 q1 = some o) : ba_G ba_tM w 3 X s 49 [(0, .ref (w.1 0)), (1, .int z1), (2, .int z2)] [.int q0, .int q1] := by
  unfold xm_type_j49 at h
  refine ba_icmp_ne V dX6_type_49 rfl h (fun h => ?_) (fun h => ?_)
  · refine ba_bipush V dX6_type_52 ba_cm4b ?_
    exact RT _ _ _ _ dX6_type_54 (Option.some.inj h)
  · refine ba_aload_n V dX6_type_55 0 rfl ?_
    refine ba_getR V dX6_type_56 kfX6_22 ba_sModel rfl ?_
    refine ba_bipush V dX6_type_59 ba_c48b ?_
    refine ba_iload_n V dX6_type_61 1 rfl ?_
    refine ba_imul V dX6_type_62 ?_
    refine ba_aload_n V dX6_type_63 0 rfl ?_
    refine ba_getR V dX6_type_64 kfX6_25 ba_sModel rfl ?_
    refine ba_iload_n V dX6_type_67 1 rfl ?_
    refine ba_iald V dX6_type_68 ba_sM_6 h (fun h => ?_)
    refine ba_iadd V dX6_type_69 ?_
    refine ba_iload_n V dX6_type_70 2 rfl ?_
    refine ba_iast V dX6_type_71 ba_sM_5 h (fun s688 h => ?_)
    refine ba_aload_n V dX6_type_72 0 rfl ?_
    refine ba_getR V dX6_type_73 kfX6_25 ba_sModel rfl ?_
    refine ba_iload_n V dX6_type_76 1 rfl ?_
    refine ba_dup2 V dX6_type_77 rfl rfl ?_
    refine ba_iald V dX6_type_78 ba_sM_6 h (fun h => ?_)
    refine ba_iconst V dX6_type_79 ba_c1 ?_
    refine ba_iadd V dX6_type_80 ?_
    refine ba_iast V dX6_type_81 ba_sM_6 h (fun s689 h => ?_)
    refine ba_aload_n V dX6_type_82 0 rfl ?_
    refine ba_getR V dX6_type_83 kfX6_25 ba_sModel rfl ?_
    refine ba_iload_n V dX6_type_86 1 rfl ?_
    refine ba_iald V dX6_type_87 ba_sM_6 h (fun h => ?_)
    exact RT _ _ _ _ dX6_type_88 (Option.some.inj h)
def xm_type (s : ba_St) (a1 : Int32) (a2 : Int32) : Option (Int32 × ba_St) :=
  ba_bnd (xm_isText a1) fun v686 =>
  if v686 = 0 then
    some ((-2), s)
  else
    ba_bnd (xm_in (Int32.toInt64 a2) 0 255) fun v687 =>
    if v687 = 0 then
      some ((-2), s)
    else
      ba_grd (ba_inb a1 3) <|
      if a1 = 0 then
        xm_type_j49 s a1 a2 47 (s.1 6 (ba_ix a1))
      else
        if a1 = 1 then
          xm_type_j49 s a1 a2 9 (s.1 6 (ba_ix a1))
        else
          xm_type_j49 s a1 a2 35 (s.1 6 (ba_ix a1))
set_option maxHeartbeats 4000000 in
set_option maxRecDepth 100000 in
theorem ym_type {w : ba_W} (hj : ba_inj ba_tM w) (l : Launch) {s : ba_St} {a1 : Int32} {a2 : Int32} {o : Int32 × ba_St} (h : xm_type s a1 a2 = some o) : ba_CI ba_tM w l yX6_type cX6_type 3 (some .int) rm_m_type [.ref (w.1 0), .int a1, .int a2] s o := by
  refine ba_metI (lv := [(0, .ref (w.1 0)), (1, .int a1), (2, .int a2)]) l hj (by decide +kernel) ⟨Nat.le_of_ble_eq_true rfl, rfl⟩ ?_
  intro X V RT
  unfold xm_type at h
  refine ba_iload_n V dX6_type_0 1 rfl ?_
  obtain ⟨v686, hc, h⟩ := ba_bnd_some h
  refine ba_callSI (As := [.int a1]) (st := []) V dX6_type_1 kcX6_116 (fun l => ym_isText V.inj l hc) ⟨rfl, rfl⟩ ⟨rfl, rfl, Nat.le_of_ble_eq_true rfl, Nat.le_of_ble_eq_true rfl⟩ (Nat.le_of_ble_eq_true rfl) ?_
  refine ba_if_eq V dX6_type_4 rfl h (fun h => ?_) (fun h => ?_)
  · refine ba_bipush V dX6_type_19 ba_cm2b ?_
    exact RT _ _ _ _ dX6_type_21 (Option.some.inj h)
  · refine ba_iload_n V dX6_type_7 2 rfl ?_
    refine ba_i2l V dX6_type_8 ?_
    refine ba_lconst V dX6_type_9 rfl ?_
    refine ba_ldc2 V dX6_type_10 kkX6_119 ?_
    obtain ⟨v687, hc, h⟩ := ba_bnd_some h
    refine ba_callSI (As := [.long (Int32.toInt64 a2), .long 0, .long 255]) (st := []) V dX6_type_13 kcX6_88 (fun l => ym_in V.inj l hc) ⟨rfl, rfl⟩ ⟨rfl, rfl, Nat.le_of_ble_eq_true rfl, Nat.le_of_ble_eq_true rfl⟩ (Nat.le_of_ble_eq_true rfl) ?_
    refine ba_if_ne V dX6_type_16 rfl h (fun h => ?_) (fun h => ?_)
    · refine ba_bipush V dX6_type_19 ba_cm2b ?_
      exact RT _ _ _ _ dX6_type_21 (Option.some.inj h)
    · refine ba_aload_n V dX6_type_22 0 rfl ?_
      refine ba_getR V dX6_type_23 kfX6_25 ba_sModel rfl ?_
      refine ba_iload_n V dX6_type_26 1 rfl ?_
      refine ba_iald V dX6_type_27 ba_sM_6 h (fun h => ?_)
      refine ba_iload_n V dX6_type_28 1 rfl ?_
      refine ba_if_ne V dX6_type_29 rfl h (fun h => ?_) (fun h => ?_)
      · refine ba_bipush V dX6_type_32 ba_c47b ?_
        refine ba_goto V dX6_type_34 rfl ?_
        exact ba_sub [0, 1, 2] rfl (ym_type_j49 V RT h)
      · refine ba_iload_n V dX6_type_37 1 rfl ?_
        refine ba_iconst V dX6_type_38 ba_c1 ?_
        refine ba_icmp_ne V dX6_type_39 rfl h (fun h => ?_) (fun h => ?_)
        · refine ba_bipush V dX6_type_42 ba_c9b ?_
          refine ba_goto V dX6_type_44 rfl ?_
          exact ba_sub [0, 1, 2] rfl (ym_type_j49 V RT h)
        · refine ba_bipush V dX6_type_47 ba_c35b ?_
          exact ba_sub [0, 1, 2] rfl (ym_type_j49 V RT h)
def xm_wipe (s : ba_St) (a1 : Int32) : Option (Int32 × ba_St) :=
  ba_bnd (xm_isText a1) fun v690 =>
  if v690 = 0 then
    some ((-2), s)
  else
    ba_grd (ba_inb a1 3) <|
    ba_lt (s.1 6 (ba_ix a1)) fun x691 =>
    ba_grd (ba_inb a1 3) <|
    ba_lt (ba_w s 6 (ba_ix a1) 0) fun s692 =>
    some (x691, s692)
set_option maxHeartbeats 4000000 in
set_option maxRecDepth 100000 in
theorem ym_wipe {w : ba_W} (hj : ba_inj ba_tM w) (l : Launch) {s : ba_St} {a1 : Int32} {o : Int32 × ba_St} (h : xm_wipe s a1 = some o) : ba_CI ba_tM w l yX6_wipe cX6_wipe 3 (some .int) rm_m_wipe [.ref (w.1 0), .int a1] s o := by
  refine ba_metI (lv := [(0, .ref (w.1 0)), (1, .int a1)]) l hj (by decide +kernel) ⟨Nat.le_of_ble_eq_true rfl, rfl⟩ ?_
  intro X V RT
  unfold xm_wipe at h
  refine ba_iload_n V dX6_wipe_0 1 rfl ?_
  obtain ⟨v690, hc, h⟩ := ba_bnd_some h
  refine ba_callSI (As := [.int a1]) (st := []) V dX6_wipe_1 kcX6_116 (fun l => ym_isText V.inj l hc) ⟨rfl, rfl⟩ ⟨rfl, rfl, Nat.le_of_ble_eq_true rfl, Nat.le_of_ble_eq_true rfl⟩ (Nat.le_of_ble_eq_true rfl) ?_
  refine ba_if_ne V dX6_wipe_4 rfl h (fun h => ?_) (fun h => ?_)
  · refine ba_bipush V dX6_wipe_7 ba_cm2b ?_
    exact RT _ _ _ _ dX6_wipe_9 (Option.some.inj h)
  · refine ba_aload_n V dX6_wipe_10 0 rfl ?_
    refine ba_getR V dX6_wipe_11 kfX6_25 ba_sModel rfl ?_
    refine ba_iload_n V dX6_wipe_14 1 rfl ?_
    refine ba_iald V dX6_wipe_15 ba_sM_6 h (fun h => ?_)
    refine ba_letI h (fun x691 h => ?_)
    refine ba_istore_n (lv' := [(2, .int x691), (0, .ref (w.1 0)), (1, .int a1)]) V dX6_wipe_16 (by decide) rfl ?_
    refine ba_aload_n V dX6_wipe_17 1 rfl ?_
    refine ba_getR V dX6_wipe_18 kfX6_25 ba_sModel rfl ?_
    refine ba_iload_n V dX6_wipe_21 2 rfl ?_
    refine ba_iconst V dX6_wipe_22 ba_c0 ?_
    refine ba_iast V dX6_wipe_23 ba_sM_6 h (fun s692 h => ?_)
    refine ba_iload_n V dX6_wipe_24 0 rfl ?_
    exact RT _ _ _ _ dX6_wipe_25 (Option.some.inj h)
def xm_undo (s : ba_St) (a1 : Int32) : Option (Int32 × ba_St) :=
  ba_bnd (xm_isText a1) fun v693 =>
  if v693 = 0 then
    some ((-2), s)
  else
    ba_grd (ba_inb a1 3) <|
    if (s.1 6 (ba_ix a1)) = 0 then
      some ((-3), s)
    else
      ba_grd (ba_inb a1 3) <|
      ba_grd (ba_inb a1 3) <|
      ba_lt (ba_w s 6 (ba_ix a1) ((s.1 6 (ba_ix a1)) - 1)) fun s694 =>
      ba_grd (ba_inb a1 3) <|
      some ((s694.1 6 (ba_ix a1)), s694)
set_option maxHeartbeats 4000000 in
set_option maxRecDepth 100000 in
theorem ym_undo {w : ba_W} (hj : ba_inj ba_tM w) (l : Launch) {s : ba_St} {a1 : Int32} {o : Int32 × ba_St} (h : xm_undo s a1 = some o) : ba_CI ba_tM w l yX6_undo cX6_undo 2 (some .int) rm_m_undo [.ref (w.1 0), .int a1] s o := by
  refine ba_metI (lv := [(0, .ref (w.1 0)), (1, .int a1)]) l hj (by decide +kernel) ⟨Nat.le_of_ble_eq_true rfl, rfl⟩ ?_
  intro X V RT
  unfold xm_undo at h
  refine ba_iload_n V dX6_undo_0 1 rfl ?_
  obtain ⟨v693, hc, h⟩ := ba_bnd_some h
  refine ba_callSI (As := [.int a1]) (st := []) V dX6_undo_1 kcX6_116 (fun l => ym_isText V.inj l hc) ⟨rfl, rfl⟩ ⟨rfl, rfl, Nat.le_of_ble_eq_true rfl, Nat.le_of_ble_eq_true rfl⟩ (Nat.le_of_ble_eq_true rfl) ?_
  refine ba_if_ne V dX6_undo_4 rfl h (fun h => ?_) (fun h => ?_)
  · refine ba_bipush V dX6_undo_7 ba_cm2b ?_
    exact RT _ _ _ _ dX6_undo_9 (Option.some.inj h)
  · refine ba_aload_n V dX6_undo_10 0 rfl ?_
    refine ba_getR V dX6_undo_11 kfX6_25 ba_sModel rfl ?_
    refine ba_iload_n V dX6_undo_14 1 rfl ?_
    refine ba_iald V dX6_undo_15 ba_sM_6 h (fun h => ?_)
    refine ba_if_ne V dX6_undo_16 rfl h (fun h => ?_) (fun h => ?_)
    · refine ba_bipush V dX6_undo_19 ba_cm3b ?_
      exact RT _ _ _ _ dX6_undo_21 (Option.some.inj h)
    · refine ba_aload_n V dX6_undo_22 0 rfl ?_
      refine ba_getR V dX6_undo_23 kfX6_25 ba_sModel rfl ?_
      refine ba_iload_n V dX6_undo_26 1 rfl ?_
      refine ba_dup2 V dX6_undo_27 rfl rfl ?_
      refine ba_iald V dX6_undo_28 ba_sM_6 h (fun h => ?_)
      refine ba_iconst V dX6_undo_29 ba_c1 ?_
      refine ba_isub V dX6_undo_30 ?_
      refine ba_iast V dX6_undo_31 ba_sM_6 h (fun s694 h => ?_)
      refine ba_aload_n V dX6_undo_32 0 rfl ?_
      refine ba_getR V dX6_undo_33 kfX6_25 ba_sModel rfl ?_
      refine ba_iload_n V dX6_undo_36 1 rfl ?_
      refine ba_iald V dX6_undo_37 ba_sM_6 h (fun h => ?_)
      exact RT _ _ _ _ dX6_undo_38 (Option.some.inj h)
def xm_figureOf (a0 : Int32) (a1 : Int32) (a2 : Int32) : Option (Int32) :=
  ba_bnd (xm_in (Int32.toInt64 a0) (Int32.toInt64 (48 + a1)) (Int32.toInt64 (48 + a2))) fun v695 =>
  if v695 = 0 then
    some (-9)
  else
    some (a0 - 48)
set_option maxHeartbeats 4000000 in
set_option maxRecDepth 100000 in
theorem ym_figureOf {w : ba_W} (hj : ba_inj ba_tM w) (l : Launch) {σ : ba_St} {a0 : Int32} {a1 : Int32} {a2 : Int32} {o : Int32} (h : xm_figureOf a0 a1 a2 = some o) : ba_CI ba_tM w l yX6_figureOf cX6_figureOf 3 (some .int) rm_m_figureOf [.int a0, .int a1, .int a2] σ (o, σ) := by
  refine ba_metI (lv := [(0, .int a0), (1, .int a1), (2, .int a2)]) l hj (by decide +kernel) ⟨Nat.le_of_ble_eq_true rfl, rfl⟩ ?_
  intro X V RT
  replace RT := fun pc lv v D e => RT pc lv v σ D (congrArg (fun q => (q, σ)) e)
  unfold xm_figureOf at h
  refine ba_iload_n V dX6_figureOf_0 0 rfl ?_
  refine ba_i2l V dX6_figureOf_1 ?_
  refine ba_bipush V dX6_figureOf_2 ba_c48b ?_
  refine ba_iload_n V dX6_figureOf_4 1 rfl ?_
  refine ba_iadd V dX6_figureOf_5 ?_
  refine ba_i2l V dX6_figureOf_6 ?_
  refine ba_bipush V dX6_figureOf_7 ba_c48b ?_
  refine ba_iload_n V dX6_figureOf_9 2 rfl ?_
  refine ba_iadd V dX6_figureOf_10 ?_
  refine ba_i2l V dX6_figureOf_11 ?_
  obtain ⟨v695, hc, h⟩ := ba_bnd_some h
  refine ba_callSI (As := [.long (Int32.toInt64 a0), .long (Int32.toInt64 (48 + a1)), .long (Int32.toInt64 (48 + a2))]) (st := []) V dX6_figureOf_12 kcX6_88 (fun l => ym_in V.inj l hc) ⟨rfl, rfl⟩ ⟨rfl, rfl, Nat.le_of_ble_eq_true rfl, Nat.le_of_ble_eq_true rfl⟩ (Nat.le_of_ble_eq_true rfl) ?_
  refine ba_if_eq V dX6_figureOf_15 rfl h (fun h => ?_) (fun h => ?_)
  · refine ba_bipush V dX6_figureOf_25 ba_cm9b ?_
    exact RT _ _ _ dX6_figureOf_27 (Option.some.inj h)
  · refine ba_iload_n V dX6_figureOf_18 0 rfl ?_
    refine ba_bipush V dX6_figureOf_19 ba_c48b ?_
    refine ba_isub V dX6_figureOf_21 ?_
    refine ba_goto V dX6_figureOf_22 rfl ?_
    exact RT _ _ _ dX6_figureOf_27 (Option.some.inj h)
def xm_between (a0 : Int32) : Option (Int32) :=
  if a0 = 59 then
    some 0
  else
    some (-9)
set_option maxHeartbeats 4000000 in
set_option maxRecDepth 100000 in
theorem ym_between {w : ba_W} (hj : ba_inj ba_tM w) (l : Launch) {σ : ba_St} {a0 : Int32} {o : Int32} (h : xm_between a0 = some o) : ba_CI ba_tM w l yX6_between cX6_between 1 (some .int) rm_m_between [.int a0] σ (o, σ) := by
  refine ba_metI (lv := [(0, .int a0)]) l hj (by decide +kernel) ⟨Nat.le_of_ble_eq_true rfl, rfl⟩ ?_
  intro X V RT
  replace RT := fun pc lv v D e => RT pc lv v σ D (congrArg (fun q => (q, σ)) e)
  unfold xm_between at h
  refine ba_iload_n V dX6_between_0 0 rfl ?_
  refine ba_bipush V dX6_between_1 ba_c59b ?_
  refine ba_icmp_ne V dX6_between_3 rfl h (fun h => ?_) (fun h => ?_)
  · refine ba_iconst V dX6_between_6 ba_c0 ?_
    refine ba_goto V dX6_between_7 rfl ?_
    exact RT _ _ _ dX6_between_12 (Option.some.inj h)
  · refine ba_bipush V dX6_between_10 ba_cm9b ?_
    exact RT _ _ _ dX6_between_12 (Option.some.inj h)
def xm_pinOf (a0 : Int32) (a1 : Int32) : Option (Int32) :=
  if a0 = 0 then
    ba_bnd (xm_figureOf a1 0 7) fun v696 =>
    some v696
  else if a0 = 1 then
    ba_bnd (xm_figureOf a1 0 8) fun v697 =>
    some v697
  else if a0 = 2 then
    if a1 = 108 then
      some 0
    else
      if a1 = 114 then
        some 1
      else
        if a1 = 116 then
          some 2
        else
          if a1 = 98 then
            some 3
          else
            some (-9)
  else
    ba_bnd (xm_between a1) fun v698 =>
    some v698
set_option maxHeartbeats 4000000 in
set_option maxRecDepth 100000 in
theorem ym_pinOf {w : ba_W} (hj : ba_inj ba_tM w) (l : Launch) {σ : ba_St} {a0 : Int32} {a1 : Int32} {o : Int32} (h : xm_pinOf a0 a1 = some o) : ba_CI ba_tM w l yX6_pinOf cX6_pinOf 2 (some .int) rm_m_pinOf [.int a0, .int a1] σ (o, σ) := by
  refine ba_metI (lv := [(0, .int a0), (1, .int a1)]) l hj (by decide +kernel) ⟨Nat.le_of_ble_eq_true rfl, rfl⟩ ?_
  intro X V RT
  replace RT := fun pc lv v D e => RT pc lv v σ D (congrArg (fun q => (q, σ)) e)
  unfold xm_pinOf at h
  refine ba_iload_n V dX6_pinOf_0 0 rfl ?_
  refine ba_case h (fun e0 h => ?_) (fun e0 h => ?_)
  · refine ba_swT (off := 27) (tgt := 28) V dX6_pinOf_1 (Or.inl ⟨by rw [e0]; decide, by rw [e0]; decide, by rw [e0]; rfl⟩) rfl ?_
    refine ba_iload_n V dX6_pinOf_28 1 rfl ?_
    refine ba_iconst V dX6_pinOf_29 ba_c0 ?_
    refine ba_bipush V dX6_pinOf_30 ba_c7b ?_
    obtain ⟨v696, hc, h⟩ := ba_bnd_some h
    refine ba_callSI (As := [.int a1, .int 0, .int 7]) (st := []) V dX6_pinOf_32 kcX6_121 (fun l => ym_figureOf V.inj l hc) ⟨rfl, rfl⟩ ⟨rfl, rfl, Nat.le_of_ble_eq_true rfl, Nat.le_of_ble_eq_true rfl⟩ (Nat.le_of_ble_eq_true rfl) ?_
    exact RT _ _ _ dX6_pinOf_35 (Option.some.inj h)
  refine ba_case h (fun e1 h => ?_) (fun e1 h => ?_)
  · refine ba_swT (off := 35) (tgt := 36) V dX6_pinOf_1 (Or.inl ⟨by rw [e1]; decide, by rw [e1]; decide, by rw [e1]; rfl⟩) rfl ?_
    refine ba_iload_n V dX6_pinOf_36 1 rfl ?_
    refine ba_iconst V dX6_pinOf_37 ba_c0 ?_
    refine ba_bipush V dX6_pinOf_38 ba_c8b ?_
    obtain ⟨v697, hc, h⟩ := ba_bnd_some h
    refine ba_callSI (As := [.int a1, .int 0, .int 8]) (st := []) V dX6_pinOf_40 kcX6_121 (fun l => ym_figureOf V.inj l hc) ⟨rfl, rfl⟩ ⟨rfl, rfl, Nat.le_of_ble_eq_true rfl, Nat.le_of_ble_eq_true rfl⟩ (Nat.le_of_ble_eq_true rfl) ?_
    exact RT _ _ _ dX6_pinOf_43 (Option.some.inj h)
  refine ba_case h (fun e2 h => ?_) (fun e2 h => ?_)
  · refine ba_swT (off := 43) (tgt := 44) V dX6_pinOf_1 (Or.inl ⟨by rw [e2]; decide, by rw [e2]; decide, by rw [e2]; rfl⟩) rfl ?_
    refine ba_iload_n V dX6_pinOf_44 1 rfl ?_
    refine ba_bipush V dX6_pinOf_45 ba_c108b ?_
    refine ba_icmp_ne V dX6_pinOf_47 rfl h (fun h => ?_) (fun h => ?_)
    · refine ba_iconst V dX6_pinOf_50 ba_c0 ?_
      refine ba_goto V dX6_pinOf_51 rfl ?_
      exact RT _ _ _ dX6_pinOf_86 (Option.some.inj h)
    · refine ba_iload_n V dX6_pinOf_54 1 rfl ?_
      refine ba_bipush V dX6_pinOf_55 ba_c114b ?_
      refine ba_icmp_ne V dX6_pinOf_57 rfl h (fun h => ?_) (fun h => ?_)
      · refine ba_iconst V dX6_pinOf_60 ba_c1 ?_
        refine ba_goto V dX6_pinOf_61 rfl ?_
        exact RT _ _ _ dX6_pinOf_86 (Option.some.inj h)
      · refine ba_iload_n V dX6_pinOf_64 1 rfl ?_
        refine ba_bipush V dX6_pinOf_65 ba_c116b ?_
        refine ba_icmp_ne V dX6_pinOf_67 rfl h (fun h => ?_) (fun h => ?_)
        · refine ba_iconst V dX6_pinOf_70 ba_c2 ?_
          refine ba_goto V dX6_pinOf_71 rfl ?_
          exact RT _ _ _ dX6_pinOf_86 (Option.some.inj h)
        · refine ba_iload_n V dX6_pinOf_74 1 rfl ?_
          refine ba_bipush V dX6_pinOf_75 ba_c98b ?_
          refine ba_icmp_ne V dX6_pinOf_77 rfl h (fun h => ?_) (fun h => ?_)
          · refine ba_iconst V dX6_pinOf_80 ba_c3 ?_
            refine ba_goto V dX6_pinOf_81 rfl ?_
            exact RT _ _ _ dX6_pinOf_86 (Option.some.inj h)
          · refine ba_bipush V dX6_pinOf_84 ba_cm9b ?_
            exact RT _ _ _ dX6_pinOf_86 (Option.some.inj h)
  refine ba_swT (off := 86) (tgt := 87) V dX6_pinOf_1 (Or.inr ⟨by have g0 : ¬ Int32.toInt a0 = 0 := ba_ne e0; have g1 : ¬ Int32.toInt a0 = 1 := ba_ne e1; have g2 : ¬ Int32.toInt a0 = 2 := ba_ne e2; omega, rfl⟩) rfl ?_
  refine ba_iload_n V dX6_pinOf_87 1 rfl ?_
  obtain ⟨v698, hc, h⟩ := ba_bnd_some h
  refine ba_callSI (As := [.int a1]) (st := []) V dX6_pinOf_88 kcX6_124 (fun l => ym_between V.inj l hc) ⟨rfl, rfl⟩ ⟨rfl, rfl, Nat.le_of_ble_eq_true rfl, Nat.le_of_ble_eq_true rfl⟩ (Nat.le_of_ble_eq_true rfl) ?_
  exact RT _ _ _ dX6_pinOf_91 (Option.some.inj h)
def xm_isTaken_j59_4 (k : (Int32 × Int32) → Option (Int32)) (s : ba_St) (z1 : Int32) (z3 : Int32) : Option (Int32) :=
  ba_lt (z3 + 1) fun x700 =>
  k (0, x700)
set_option maxHeartbeats 4000000 in
set_option maxRecDepth 100000 in
theorem ym_isTaken_j59_4 {w : ba_W} {X : ba_X} (V : ba_V ba_tM w 4 X cX6_isTaken RX6 rm_m_isTaken) {s : ba_St} {z1 : Int32} {z3 : Int32} {o : Int32} {k : (Int32 × Int32) → Option (Int32)} (hk : ∀ (z2 : Int32) (z3 : Int32), k (z2, z3) = some o → ba_G ba_tM w 4 X s 4 [(0, .ref (w.1 0)), (1, .int z1), (2, .int z2), (3, .int z3)] []) (EX : ∀ (z2 : Int32), z2 = o → ba_G ba_tM w 4 X s 67 [(2, .int z2)] []) (h : xm_isTaken_j59_4 k s z1 z3 = some o) : ba_G ba_tM w 4 X s 59 [(0, .ref (w.1 0)), (1, .int z1), (3, .int z3)] [] := by
  unfold xm_isTaken_j59_4 at h
  refine ba_iconst V dX6_isTaken_59 ba_c0 ?_
  refine ba_istore_n (lv' := [(2, .int 0), (0, .ref (w.1 0)), (1, .int z1), (3, .int z3)]) V dX6_isTaken_60 (by decide) rfl ?_
  refine ba_iinc V dX6_isTaken_61 3 rfl ba_c1 (by decide) h (fun x700 h => ⟨[(3, .int x700), (2, .int 0), (0, .ref (w.1 0)), (1, .int z1)], rfl, ?_⟩)
  refine ba_goto V dX6_isTaken_64 rfl ?_
  exact ba_sub [2, 3, 1, 0] rfl (hk _ _ h)
def xm_isTaken_l4 (s : ba_St) (z1 : Int32) (k : (Int32 × Int32) → Option (Int32)) (a : (Int32 × Int32)) : Option (Int32) :=
  match a with
  | (z2, z3) =>
    if z1 ≤ z3 then
      some z2
    else
      if z2 = 0 then
        ba_grd (ba_inb (3 * z3) 36) <|
        ba_grd (ba_inb (3 * z1) 36) <|
        if (s.1 7 (ba_ix (3 * z3))) = (s.1 7 (ba_ix (3 * z1))) then
          ba_grd (ba_inb ((3 * z3) + 1) 36) <|
          ba_grd (ba_inb ((3 * z1) + 1) 36) <|
          if (s.1 7 (ba_ix ((3 * z3) + 1))) = (s.1 7 (ba_ix ((3 * z1) + 1))) then
            ba_lt (z3 + 1) fun x699 =>
            k (1, x699)
          else
            xm_isTaken_j59_4 k s z1 z3
        else
          xm_isTaken_j59_4 k s z1 z3
      else
        ba_lt (z3 + 1) fun x701 =>
        k (1, x701)
set_option maxHeartbeats 4000000 in
set_option maxRecDepth 100000 in
theorem ym_isTaken_l4 {w : ba_W} {X : ba_X} (V : ba_V ba_tM w 4 X cX6_isTaken RX6 rm_m_isTaken) {s : ba_St} {z1 : Int32} {o : Int32} (EX : ∀ (z2 : Int32), z2 = o → ba_G ba_tM w 4 X s 67 [(2, .int z2)] []) : ∀ (n : Nat) (z2 : Int32) (z3 : Int32), ba_fix (xm_isTaken_l4 s z1) n (z2, z3) = some o → ba_G ba_tM w 4 X s 4 [(0, .ref (w.1 0)), (1, .int z1), (2, .int z2), (3, .int z3)] [] := by
  intro n z2 z3 h
  refine ba_loop (P := fun a => ba_G ba_tM w 4 X s 4 [(0, .ref (w.1 0)), (1, .int z1), (2, .int a.1), (3, .int a.2)] []) ?_ n (z2, z3) h
  intro k hk0 a h
  obtain ⟨z2, z3⟩ := a
  have hk : ∀ (z2 : Int32) (z3 : Int32), k (z2, z3) = some o → ba_G ba_tM w 4 X s 4 [(0, .ref (w.1 0)), (1, .int z1), (2, .int z2), (3, .int z3)] [] := fun z2 z3 e => hk0 (z2, z3) e
  unfold xm_isTaken_l4 at h
  try dsimp only at h ⊢
  refine ba_iload_n V dX6_isTaken_4 3 rfl ?_
  refine ba_iload_n V dX6_isTaken_5 1 rfl ?_
  refine ba_icmp_ge V dX6_isTaken_6 rfl h (fun h => ?_) (fun h => ?_)
  · exact ba_sub [2] rfl (EX _ (Option.some.inj h))
  · refine ba_iload_n V dX6_isTaken_9 2 rfl ?_
    refine ba_if_ne V dX6_isTaken_10 rfl h (fun h => ?_) (fun h => ?_)
    · refine ba_aload_n V dX6_isTaken_13 0 rfl ?_
      refine ba_getR V dX6_isTaken_14 kfX6_28 ba_sModel rfl ?_
      refine ba_iconst V dX6_isTaken_17 ba_c3 ?_
      refine ba_iload_n V dX6_isTaken_18 3 rfl ?_
      refine ba_imul V dX6_isTaken_19 ?_
      refine ba_iald V dX6_isTaken_20 ba_sM_7 h (fun h => ?_)
      refine ba_aload_n V dX6_isTaken_21 0 rfl ?_
      refine ba_getR V dX6_isTaken_22 kfX6_28 ba_sModel rfl ?_
      refine ba_iconst V dX6_isTaken_25 ba_c3 ?_
      refine ba_iload_n V dX6_isTaken_26 1 rfl ?_
      refine ba_imul V dX6_isTaken_27 ?_
      refine ba_iald V dX6_isTaken_28 ba_sM_7 h (fun h => ?_)
      refine ba_icmp_ne V dX6_isTaken_29 rfl h (fun h => ?_) (fun h => ?_)
      · refine ba_aload_n V dX6_isTaken_32 0 rfl ?_
        refine ba_getR V dX6_isTaken_33 kfX6_28 ba_sModel rfl ?_
        refine ba_iconst V dX6_isTaken_36 ba_c3 ?_
        refine ba_iload_n V dX6_isTaken_37 3 rfl ?_
        refine ba_imul V dX6_isTaken_38 ?_
        refine ba_iconst V dX6_isTaken_39 ba_c1 ?_
        refine ba_iadd V dX6_isTaken_40 ?_
        refine ba_iald V dX6_isTaken_41 ba_sM_7 h (fun h => ?_)
        refine ba_aload_n V dX6_isTaken_42 0 rfl ?_
        refine ba_getR V dX6_isTaken_43 kfX6_28 ba_sModel rfl ?_
        refine ba_iconst V dX6_isTaken_46 ba_c3 ?_
        refine ba_iload_n V dX6_isTaken_47 1 rfl ?_
        refine ba_imul V dX6_isTaken_48 ?_
        refine ba_iconst V dX6_isTaken_49 ba_c1 ?_
        refine ba_iadd V dX6_isTaken_50 ?_
        refine ba_iald V dX6_isTaken_51 ba_sM_7 h (fun h => ?_)
        refine ba_icmp_ne V dX6_isTaken_52 rfl h (fun h => ?_) (fun h => ?_)
        · refine ba_iconst V dX6_isTaken_55 ba_c1 ?_
          refine ba_goto V dX6_isTaken_56 rfl ?_
          refine ba_istore_n (lv' := [(2, .int 1), (0, .ref (w.1 0)), (1, .int z1), (3, .int z3)]) V dX6_isTaken_60 (by decide) rfl ?_
          refine ba_iinc V dX6_isTaken_61 3 rfl ba_c1 (by decide) h (fun x699 h => ⟨[(3, .int x699), (2, .int 1), (0, .ref (w.1 0)), (1, .int z1)], rfl, ?_⟩)
          refine ba_goto V dX6_isTaken_64 rfl ?_
          exact ba_sub [2, 3, 1, 0] rfl (hk _ _ h)
        · exact ba_sub [0, 1, 3] rfl (ym_isTaken_j59_4 V hk EX h)
      · exact ba_sub [0, 1, 3] rfl (ym_isTaken_j59_4 V hk EX h)
    · refine ba_iconst V dX6_isTaken_55 ba_c1 ?_
      refine ba_goto V dX6_isTaken_56 rfl ?_
      refine ba_istore_n (lv' := [(2, .int 1), (0, .ref (w.1 0)), (1, .int z1), (3, .int z3)]) V dX6_isTaken_60 (by decide) rfl ?_
      refine ba_iinc V dX6_isTaken_61 3 rfl ba_c1 (by decide) h (fun x701 h => ⟨[(3, .int x701), (2, .int 1), (0, .ref (w.1 0)), (1, .int z1)], rfl, ?_⟩)
      refine ba_goto V dX6_isTaken_64 rfl ?_
      exact ba_sub [2, 3, 1, 0] rfl (hk _ _ h)
def xm_isTaken (s : ba_St) (a1 : Int32) : Option (Int32) :=
  ba_bnd (ba_fix (xm_isTaken_l4 s a1) 1000 (0, 0)) fun x702 =>
    ba_grd (ba_bool x702) <|
    some x702
set_option maxHeartbeats 4000000 in
set_option maxRecDepth 100000 in
theorem ym_isTaken {w : ba_W} (hj : ba_inj ba_tM w) (l : Launch) {s : ba_St} {a1 : Int32} {o : Int32} (h : xm_isTaken s a1 = some o) : ba_CI ba_tM w l yX6_isTaken cX6_isTaken 4 (some .boolean) rm_m_isTaken [.ref (w.1 0), .int a1] s (o, s) := by
  refine ba_metZ (lv := [(0, .ref (w.1 0)), (1, .int a1)]) l hj (by decide +kernel) ⟨Nat.le_of_ble_eq_true rfl, rfl⟩ ?_
  intro X V RT
  replace RT := fun pc lv v D z e => RT pc lv v s D z (congrArg (fun q => (q, s)) e)
  unfold xm_isTaken at h
  refine ba_iconst V dX6_isTaken_0 ba_c0 ?_
  refine ba_istore_n (lv' := [(2, .int 0), (0, .ref (w.1 0)), (1, .int a1)]) V dX6_isTaken_1 (by decide) rfl ?_
  refine ba_iconst V dX6_isTaken_2 ba_c0 ?_
  refine ba_istore_n (lv' := [(3, .int 0), (2, .int 0), (0, .ref (w.1 0)), (1, .int a1)]) V dX6_isTaken_3 (by decide) rfl ?_
  obtain ⟨o, ho, h⟩ := ba_bnd_some h
  refine ba_sub [2, 3, 1, 0] rfl (ym_isTaken_l4 V (o := o) (fun x702 e => ?_) 1000 0 0 ho)
  subst e
  try dsimp only at h
  refine ba_iload_n V dX6_isTaken_67 0 rfl ?_
  refine ba_guard h (fun z h => ?_)
  exact RT _ _ _ dX6_isTaken_68 (ba_boolY z) (Option.some.inj h)
def xm_readsPins_j83_14 (k : (ba_St × Int32) → Option ((ba_St) ⊕ (Int32 × ba_St))) (s : ba_St) (z2 : Int32) : Option ((ba_St) ⊕ (Int32 × ba_St)) :=
  ba_lt (ba_w s 0 7 0) fun s707 =>
  some (.inr (z2, s707))
set_option maxHeartbeats 4000000 in
set_option maxRecDepth 100000 in
theorem ym_readsPins_j83_14 {w : ba_W} {X : ba_X} (V : ba_V ba_tM w 5 X cX6_readsPins RX6 rm_m_readsPins) {z1 : Int32} {s : ba_St} {z2 : Int32} {o : (ba_St) ⊕ (Int32 × ba_St)} {k : (ba_St × Int32) → Option ((ba_St) ⊕ (Int32 × ba_St))} (hk : ∀ (s : ba_St) (z2 : Int32), k (s, z2) = some o → ba_G ba_tM w 5 X s 14 [(0, .ref (w.1 0)), (1, .int z1), (2, .int z2)] []) (EX : ∀ (s : ba_St) , .inl s = o → ba_G ba_tM w 5 X s 115 [(0, .ref (w.1 0)), (1, .int z1)] []) (RT : ∀ (pc : Nat) (lv : List (Nat × Value)) (v : Int32) (s : ba_St), decode cX6_readsPins pc = .ok (.ireturn, 1) → .inr (v, s) = o → ba_G ba_tM w 5 X s pc lv [.int v]) (h : xm_readsPins_j83_14 k s z2 = some o) : ba_G ba_tM w 5 X s 83 [(0, .ref (w.1 0)), (2, .int z2)] [] := by
  unfold xm_readsPins_j83_14 at h
  refine ba_aload_n V dX6_readsPins_83 0 rfl ?_
  refine ba_iconst V dX6_readsPins_84 ba_c0 ?_
  refine ba_putI V dX6_readsPins_85 kfX6_127 ba_sModel rfl h (fun s707 h => ?_)
  refine ba_iload_n V dX6_readsPins_88 1 rfl ?_
  exact RT _ _ _ _ dX6_readsPins_89 (Option.some.inj h)
def xm_readsPins_j105_14 (k : (ba_St × Int32) → Option ((ba_St) ⊕ (Int32 × ba_St))) (s : ba_St) (z1 : Int32) (z2 : Int32) (q0 : Int32) (q1 : Int32) : Option ((ba_St) ⊕ (Int32 × ba_St)) :=
  ba_lt (ba_w s 0 7 (q1 + q0)) fun s709 =>
  ba_lt (z2 + 1) fun x710 =>
  k (s709, x710)
set_option maxHeartbeats 4000000 in
set_option maxRecDepth 100000 in
theorem ym_readsPins_j105_14 {w : ba_W} {X : ba_X} (V : ba_V ba_tM w 5 X cX6_readsPins RX6 rm_m_readsPins) {s : ba_St} {z1 : Int32} {z2 : Int32} {q0 : Int32} {q1 : Int32} {o : (ba_St) ⊕ (Int32 × ba_St)} {k : (ba_St × Int32) → Option ((ba_St) ⊕ (Int32 × ba_St))} (hk : ∀ (s : ba_St) (z2 : Int32), k (s, z2) = some o → ba_G ba_tM w 5 X s 14 [(0, .ref (w.1 0)), (1, .int z1), (2, .int z2)] []) (EX : ∀ (s : ba_St) , .inl s = o → ba_G ba_tM w 5 X s 115 [(0, .ref (w.1 0)), (1, .int z1)] []) (RT : ∀ (pc : Nat) (lv : List (Nat × Value)) (v : Int32) (s : ba_St), decode cX6_readsPins pc = .ok (.ireturn, 1) → .inr (v, s) = o → ba_G ba_tM w 5 X s pc lv [.int v]) (h : xm_readsPins_j105_14 k s z1 z2 q0 q1 = some o) : ba_G ba_tM w 5 X s 105 [(0, .ref (w.1 0)), (1, .int z1), (2, .int z2)] [.int q0, .int q1, .ref (w.1 0)] := by
  unfold xm_readsPins_j105_14 at h
  refine ba_iadd V dX6_readsPins_105 ?_
  refine ba_putI V dX6_readsPins_106 kfX6_127 ba_sModel rfl h (fun s709 h => ?_)
  refine ba_iinc V dX6_readsPins_109 2 rfl ba_c1 (by decide) h (fun x710 h => ⟨[(2, .int x710), (0, .ref (w.1 0)), (1, .int z1)], rfl, ?_⟩)
  refine ba_goto V dX6_readsPins_112 rfl ?_
  exact ba_sub [1, 2, 0] rfl (hk _ _ h)
def xm_readsPins_j90_14 (k : (ba_St × Int32) → Option ((ba_St) ⊕ (Int32 × ba_St))) (s : ba_St) (z1 : Int32) (z2 : Int32) (z3 : Int32) : Option ((ba_St) ⊕ (Int32 × ba_St)) :=
  if z3 = 2 then
    xm_readsPins_j105_14 k s z1 z2 1 (s.1 0 7)
  else
    xm_readsPins_j105_14 k s z1 z2 0 (s.1 0 7)
set_option maxHeartbeats 4000000 in
set_option maxRecDepth 100000 in
theorem ym_readsPins_j90_14 {w : ba_W} {X : ba_X} (V : ba_V ba_tM w 5 X cX6_readsPins RX6 rm_m_readsPins) {s : ba_St} {z1 : Int32} {z2 : Int32} {z3 : Int32} {o : (ba_St) ⊕ (Int32 × ba_St)} {k : (ba_St × Int32) → Option ((ba_St) ⊕ (Int32 × ba_St))} (hk : ∀ (s : ba_St) (z2 : Int32), k (s, z2) = some o → ba_G ba_tM w 5 X s 14 [(0, .ref (w.1 0)), (1, .int z1), (2, .int z2)] []) (EX : ∀ (s : ba_St) , .inl s = o → ba_G ba_tM w 5 X s 115 [(0, .ref (w.1 0)), (1, .int z1)] []) (RT : ∀ (pc : Nat) (lv : List (Nat × Value)) (v : Int32) (s : ba_St), decode cX6_readsPins pc = .ok (.ireturn, 1) → .inr (v, s) = o → ba_G ba_tM w 5 X s pc lv [.int v]) (h : xm_readsPins_j90_14 k s z1 z2 z3 = some o) : ba_G ba_tM w 5 X s 90 [(0, .ref (w.1 0)), (1, .int z1), (2, .int z2), (3, .int z3)] [] := by
  unfold xm_readsPins_j90_14 at h
  refine ba_aload_n V dX6_readsPins_90 0 rfl ?_
  refine ba_dup V dX6_readsPins_91 rfl ?_
  refine ba_getI V dX6_readsPins_92 kfX6_127 ba_sModel rfl ?_
  refine ba_iload_n V dX6_readsPins_95 3 rfl ?_
  refine ba_iconst V dX6_readsPins_96 ba_c2 ?_
  refine ba_icmp_ne V dX6_readsPins_97 rfl h (fun h => ?_) (fun h => ?_)
  · refine ba_iconst V dX6_readsPins_100 ba_c1 ?_
    refine ba_goto V dX6_readsPins_101 rfl ?_
    exact ba_sub [0, 1, 2] rfl (ym_readsPins_j105_14 V hk EX RT h)
  · refine ba_iconst V dX6_readsPins_104 ba_c0 ?_
    exact ba_sub [0, 1, 2] rfl (ym_readsPins_j105_14 V hk EX RT h)
def xm_readsPins_j61_14 (k : (ba_St × Int32) → Option ((ba_St) ⊕ (Int32 × ba_St))) (s : ba_St) (z1 : Int32) (z2 : Int32) (z3 : Int32) (z4 : Int32) : Option ((ba_St) ⊕ (Int32 × ba_St)) :=
  if z4 = (-9) then
    xm_readsPins_j83_14 k s z2
  else
    if z3 = 1 then
      ba_bnd (xm_isTaken s (z2 / 4)) fun v708 =>
      if v708 = 0 then
        xm_readsPins_j90_14 k s z1 z2 z3
      else
        xm_readsPins_j83_14 k s z2
    else
      xm_readsPins_j90_14 k s z1 z2 z3
set_option maxHeartbeats 4000000 in
set_option maxRecDepth 100000 in
theorem ym_readsPins_j61_14 {w : ba_W} {X : ba_X} (V : ba_V ba_tM w 5 X cX6_readsPins RX6 rm_m_readsPins) {s : ba_St} {z1 : Int32} {z2 : Int32} {z3 : Int32} {z4 : Int32} {o : (ba_St) ⊕ (Int32 × ba_St)} {k : (ba_St × Int32) → Option ((ba_St) ⊕ (Int32 × ba_St))} (hk : ∀ (s : ba_St) (z2 : Int32), k (s, z2) = some o → ba_G ba_tM w 5 X s 14 [(0, .ref (w.1 0)), (1, .int z1), (2, .int z2)] []) (EX : ∀ (s : ba_St) , .inl s = o → ba_G ba_tM w 5 X s 115 [(0, .ref (w.1 0)), (1, .int z1)] []) (RT : ∀ (pc : Nat) (lv : List (Nat × Value)) (v : Int32) (s : ba_St), decode cX6_readsPins pc = .ok (.ireturn, 1) → .inr (v, s) = o → ba_G ba_tM w 5 X s pc lv [.int v]) (h : xm_readsPins_j61_14 k s z1 z2 z3 z4 = some o) : ba_G ba_tM w 5 X s 61 [(0, .ref (w.1 0)), (1, .int z1), (2, .int z2), (3, .int z3), (4, .int z4)] [] := by
  unfold xm_readsPins_j61_14 at h
  refine ba_iload V dX6_readsPins_61 4 rfl ?_
  refine ba_bipush V dX6_readsPins_63 ba_cm9b ?_
  refine ba_icmp_eq V dX6_readsPins_65 rfl h (fun h => ?_) (fun h => ?_)
  · exact ba_sub [0, 2] rfl (ym_readsPins_j83_14 V hk EX RT h)
  · refine ba_iload_n V dX6_readsPins_68 3 rfl ?_
    refine ba_iconst V dX6_readsPins_69 ba_c1 ?_
    refine ba_icmp_ne V dX6_readsPins_70 rfl h (fun h => ?_) (fun h => ?_)
    · refine ba_aload_n V dX6_readsPins_73 0 rfl ?_
      refine ba_iload_n V dX6_readsPins_74 2 rfl ?_
      refine ba_iconst V dX6_readsPins_75 ba_c4 ?_
      refine ba_idiv V dX6_readsPins_76 (by decide) ?_
      obtain ⟨v708, hc, h⟩ := ba_bnd_some h
      refine ba_callVI (As := [.int (z2 / 4)]) (st := []) V dX6_readsPins_77 kcX6_133 ba_sModel (fun l => ym_isTaken V.inj l hc) ⟨rfl, rfl⟩ ⟨rfl, rfl, Nat.le_of_ble_eq_true rfl, Nat.le_of_ble_eq_true rfl⟩ (Nat.le_of_ble_eq_true rfl) ?_
      refine ba_if_eq V dX6_readsPins_80 rfl h (fun h => ?_) (fun h => ?_)
      · exact ba_sub [0, 1, 2, 3] rfl (ym_readsPins_j90_14 V hk EX RT h)
      · exact ba_sub [0, 2] rfl (ym_readsPins_j83_14 V hk EX RT h)
    · exact ba_sub [0, 1, 2, 3] rfl (ym_readsPins_j90_14 V hk EX RT h)
def xm_readsPins_l14 (z1 : Int32) (k : (ba_St × Int32) → Option ((ba_St) ⊕ (Int32 × ba_St))) (a : (ba_St × Int32)) : Option ((ba_St) ⊕ (Int32 × ba_St)) :=
  match a with
  | (s, z2) =>
    if z1 ≤ z2 then
      some (.inl s)
    else
      ba_lt (ba_irm z2 4) fun x705 =>
      ba_grd (ba_inb z2 144) <|
      ba_bnd (xm_pinOf x705 (s.1 5 (ba_ix z2))) fun v706 =>
      if v706 = (-9) then
        xm_readsPins_j61_14 k s z1 z2 x705 v706
      else
        if 3 ≤ x705 then
          xm_readsPins_j61_14 k s z1 z2 x705 v706
        else
          ba_grd (ba_inb ((3 * (z2 / 4)) + x705) 36) <|
          ba_lt (ba_w s 7 (ba_ix ((3 * (z2 / 4)) + x705)) v706) fun s711 =>
          xm_readsPins_j61_14 k s711 z1 z2 x705 v706
set_option maxHeartbeats 4000000 in
set_option maxRecDepth 100000 in
theorem ym_readsPins_l14 {w : ba_W} {X : ba_X} (V : ba_V ba_tM w 5 X cX6_readsPins RX6 rm_m_readsPins) {z1 : Int32} {o : (ba_St) ⊕ (Int32 × ba_St)} (EX : ∀ (s : ba_St) , .inl s = o → ba_G ba_tM w 5 X s 115 [(0, .ref (w.1 0)), (1, .int z1)] []) (RT : ∀ (pc : Nat) (lv : List (Nat × Value)) (v : Int32) (s : ba_St), decode cX6_readsPins pc = .ok (.ireturn, 1) → .inr (v, s) = o → ba_G ba_tM w 5 X s pc lv [.int v]) : ∀ (n : Nat) (s : ba_St) (z2 : Int32), ba_fix (xm_readsPins_l14 z1) n (s, z2) = some o → ba_G ba_tM w 5 X s 14 [(0, .ref (w.1 0)), (1, .int z1), (2, .int z2)] [] := by
  intro n s z2 h
  refine ba_loop (P := fun a => ba_G ba_tM w 5 X a.1 14 [(0, .ref (w.1 0)), (1, .int z1), (2, .int a.2)] []) ?_ n (s, z2) h
  intro k hk0 a h
  obtain ⟨s, z2⟩ := a
  have hk : ∀ (s : ba_St) (z2 : Int32), k (s, z2) = some o → ba_G ba_tM w 5 X s 14 [(0, .ref (w.1 0)), (1, .int z1), (2, .int z2)] [] := fun s z2 e => hk0 (s, z2) e
  unfold xm_readsPins_l14 at h
  try dsimp only at h ⊢
  refine ba_iload_n V dX6_readsPins_14 2 rfl ?_
  refine ba_iload_n V dX6_readsPins_15 1 rfl ?_
  refine ba_icmp_ge V dX6_readsPins_16 rfl h (fun h => ?_) (fun h => ?_)
  · exact ba_sub [0, 1] rfl (EX _ (Option.some.inj h))
  · refine ba_iload_n V dX6_readsPins_19 2 rfl ?_
    refine ba_iconst V dX6_readsPins_20 ba_c4 ?_
    refine ba_irem V dX6_readsPins_21 (by decide) ?_
    refine ba_letI h (fun x705 h => ?_)
    refine ba_istore_n (lv' := [(3, .int x705), (0, .ref (w.1 0)), (1, .int z1), (2, .int z2)]) V dX6_readsPins_22 (by decide) rfl ?_
    refine ba_iload_n V dX6_readsPins_23 0 rfl ?_
    refine ba_aload_n V dX6_readsPins_24 1 rfl ?_
    refine ba_getR V dX6_readsPins_25 kfX6_22 ba_sModel rfl ?_
    refine ba_iload_n V dX6_readsPins_28 3 rfl ?_
    refine ba_iald V dX6_readsPins_29 ba_sM_5 h (fun h => ?_)
    obtain ⟨v706, hc, h⟩ := ba_bnd_some h
    refine ba_callSI (As := [.int x705, .int (s.1 5 (ba_ix z2))]) (st := []) V dX6_readsPins_30 kcX6_130 (fun l => ym_pinOf V.inj l hc) ⟨rfl, rfl⟩ ⟨rfl, rfl, Nat.le_of_ble_eq_true rfl, Nat.le_of_ble_eq_true rfl⟩ (Nat.le_of_ble_eq_true rfl) ?_
    refine ba_istore (lv' := [(4, .int v706), (3, .int x705), (0, .ref (w.1 0)), (1, .int z1), (2, .int z2)]) V dX6_readsPins_33 (by decide) rfl ?_
    refine ba_iload V dX6_readsPins_35 0 rfl ?_
    refine ba_bipush V dX6_readsPins_37 ba_cm9b ?_
    refine ba_icmp_eq V dX6_readsPins_39 rfl h (fun h => ?_) (fun h => ?_)
    · exact ba_sub [2, 3, 4, 1, 0] rfl (ym_readsPins_j61_14 V hk EX RT h)
    · refine ba_iload_n V dX6_readsPins_42 1 rfl ?_
      refine ba_iconst V dX6_readsPins_43 ba_c3 ?_
      refine ba_icmp_ge V dX6_readsPins_44 rfl h (fun h => ?_) (fun h => ?_)
      · exact ba_sub [2, 3, 4, 1, 0] rfl (ym_readsPins_j61_14 V hk EX RT h)
      · refine ba_aload_n V dX6_readsPins_47 2 rfl ?_
        refine ba_getR V dX6_readsPins_48 kfX6_28 ba_sModel rfl ?_
        refine ba_iconst V dX6_readsPins_51 ba_c3 ?_
        refine ba_iload_n V dX6_readsPins_52 4 rfl ?_
        refine ba_iconst V dX6_readsPins_53 ba_c4 ?_
        refine ba_idiv V dX6_readsPins_54 (by decide) ?_
        refine ba_imul V dX6_readsPins_55 ?_
        refine ba_iload_n V dX6_readsPins_56 1 rfl ?_
        refine ba_iadd V dX6_readsPins_57 ?_
        refine ba_iload V dX6_readsPins_58 0 rfl ?_
        refine ba_iast V dX6_readsPins_60 ba_sM_7 h (fun s711 h => ?_)
        exact ba_sub [2, 3, 4, 1, 0] rfl (ym_readsPins_j61_14 V hk EX RT h)
def xm_readsPins (s : ba_St) : Option (Int32 × ba_St) :=
  ba_lt (ba_w s 0 7 0) fun s703 =>
  ba_grd (ba_inb 0 3) <|
  ba_lt (s703.1 6 (ba_ix 0)) fun x704 =>
  ba_bnd (ba_fix (xm_readsPins_l14 x704) 1000 (s703, 0)) fun o => match o with
  | .inr r714 => some r714
  | .inl s712 =>
    if x704 ≤ 0 then
      some ((-1), s712)
    else
      if (ba_irm x704 4) = 3 then
        some ((-1), s712)
      else
        ba_lt (ba_w s712 0 7 0) fun s713 =>
        some (x704, s713)
set_option maxHeartbeats 4000000 in
set_option maxRecDepth 100000 in
theorem ym_readsPins {w : ba_W} (hj : ba_inj ba_tM w) (l : Launch) {s : ba_St} {o : Int32 × ba_St} (h : xm_readsPins s = some o) : ba_CI ba_tM w l yX6_readsPins cX6_readsPins 5 (some .int) rm_m_readsPins [.ref (w.1 0)] s o := by
  refine ba_metI (lv := [(0, .ref (w.1 0))]) l hj (by decide +kernel) ⟨Nat.le_of_ble_eq_true rfl, rfl⟩ ?_
  intro X V RT
  unfold xm_readsPins at h
  refine ba_aload_n V dX6_readsPins_0 0 rfl ?_
  refine ba_iconst V dX6_readsPins_1 ba_c0 ?_
  refine ba_putI V dX6_readsPins_2 kfX6_127 ba_sModel rfl h (fun s703 h => ?_)
  refine ba_aload_n V dX6_readsPins_5 0 rfl ?_
  refine ba_getR V dX6_readsPins_6 kfX6_25 ba_sModel rfl ?_
  refine ba_iconst V dX6_readsPins_9 ba_c0 ?_
  refine ba_iald V dX6_readsPins_10 ba_sM_6 h (fun h => ?_)
  refine ba_letI h (fun x704 h => ?_)
  refine ba_istore_n (lv' := [(1, .int x704), (0, .ref (w.1 0))]) V dX6_readsPins_11 (by decide) rfl ?_
  refine ba_iconst V dX6_readsPins_12 ba_c0 ?_
  refine ba_istore_n (lv' := [(2, .int 0), (1, .int x704), (0, .ref (w.1 0))]) V dX6_readsPins_13 (by decide) rfl ?_
  obtain ⟨o, ho, h⟩ := ba_bnd_some h
  refine ba_sub [2, 1, 0] rfl (ym_readsPins_l14 V (o := o) (fun s712 e => ?_) (fun pc lv v s D  e => by subst e; exact RT pc lv v s D  (Option.some.inj h)) 1000 s703 0 ho)
  subst e
  try dsimp only at h
  refine ba_iload_n V dX6_readsPins_115 1 rfl ?_
  refine ba_if_le V dX6_readsPins_116 rfl h (fun h => ?_) (fun h => ?_)
  · refine ba_iconst V dX6_readsPins_133 ba_cm1 ?_
    exact RT _ _ _ _ dX6_readsPins_134 (Option.some.inj h)
  · refine ba_iload_n V dX6_readsPins_119 1 rfl ?_
    refine ba_iconst V dX6_readsPins_120 ba_c4 ?_
    refine ba_irem V dX6_readsPins_121 (by decide) ?_
    refine ba_iconst V dX6_readsPins_122 ba_c3 ?_
    refine ba_icmp_eq V dX6_readsPins_123 rfl h (fun h => ?_) (fun h => ?_)
    · refine ba_iconst V dX6_readsPins_133 ba_cm1 ?_
      exact RT _ _ _ _ dX6_readsPins_134 (Option.some.inj h)
    · refine ba_aload_n V dX6_readsPins_126 0 rfl ?_
      refine ba_iconst V dX6_readsPins_127 ba_c0 ?_
      refine ba_putI V dX6_readsPins_128 kfX6_127 ba_sModel rfl h (fun s713 h => ?_)
      refine ba_iload_n V dX6_readsPins_131 1 rfl ?_
      exact RT _ _ _ _ dX6_readsPins_132 (Option.some.inj h)
def xm_worthless_l2 (k : (ba_St × Int32) → Option (ba_St)) (a : (ba_St × Int32)) : Option (ba_St) :=
  match a with
  | (s, z1) =>
    if 9 ≤ z1 then
      some s
    else
      ba_grd (ba_inb z1 9) <|
      ba_lt (ba_w s 8 (ba_ix z1) 0) fun s715 =>
      ba_lt (z1 + 1) fun x716 =>
      k (s715, x716)
set_option maxHeartbeats 4000000 in
set_option maxRecDepth 100000 in
theorem ym_worthless_l2 {w : ba_W} {X : ba_X} (V : ba_V ba_tM w 2 X cX6_worthless RX6 rm_m_worthless) {o : ba_St} (EX : ∀ (s : ba_St) , s = o → ba_G ba_tM w 2 X s 21 [] []) : ∀ (n : Nat) (s : ba_St) (z1 : Int32), ba_fix (xm_worthless_l2) n (s, z1) = some o → ba_G ba_tM w 2 X s 2 [(0, .ref (w.1 0)), (1, .int z1)] [] := by
  intro n s z1 h
  refine ba_loop (P := fun a => ba_G ba_tM w 2 X a.1 2 [(0, .ref (w.1 0)), (1, .int a.2)] []) ?_ n (s, z1) h
  intro k hk0 a h
  obtain ⟨s, z1⟩ := a
  have hk : ∀ (s : ba_St) (z1 : Int32), k (s, z1) = some o → ba_G ba_tM w 2 X s 2 [(0, .ref (w.1 0)), (1, .int z1)] [] := fun s z1 e => hk0 (s, z1) e
  unfold xm_worthless_l2 at h
  try dsimp only at h ⊢
  refine ba_iload_n V dX6_worthless_2 1 rfl ?_
  refine ba_bipush V dX6_worthless_3 ba_c9b ?_
  refine ba_icmp_ge V dX6_worthless_5 rfl h (fun h => ?_) (fun h => ?_)
  · exact ba_sub [] rfl (EX _ (Option.some.inj h))
  · refine ba_aload_n V dX6_worthless_8 0 rfl ?_
    refine ba_getR V dX6_worthless_9 kfX6_31 ba_sModel rfl ?_
    refine ba_iload_n V dX6_worthless_12 1 rfl ?_
    refine ba_iconst V dX6_worthless_13 ba_c0 ?_
    refine ba_iast V dX6_worthless_14 ba_sM_8 h (fun s715 h => ?_)
    refine ba_iinc V dX6_worthless_15 1 rfl ba_c1 (by decide) h (fun x716 h => ⟨[(1, .int x716), (0, .ref (w.1 0))], rfl, ?_⟩)
    refine ba_goto V dX6_worthless_18 rfl ?_
    exact ba_sub [1, 0] rfl (hk _ _ h)
def xm_worthless (s : ba_St) : Option (ba_St) :=
  ba_bnd (ba_fix (xm_worthless_l2) 1000 (s, 0)) fun s717 =>
    some s717
set_option maxHeartbeats 4000000 in
set_option maxRecDepth 100000 in
theorem ym_worthless {w : ba_W} (hj : ba_inj ba_tM w) (l : Launch) {s : ba_St} {o : ba_St} (h : xm_worthless s = some o) : ba_CV ba_tM w l yX6_worthless cX6_worthless 2 none rm_m_worthless [.ref (w.1 0)] s o := by
  refine ba_metV (lv := [(0, .ref (w.1 0))]) l hj (by decide +kernel) ⟨Nat.le_of_ble_eq_true rfl, rfl⟩ ?_
  intro X V RT
  unfold xm_worthless at h
  refine ba_iconst V dX6_worthless_0 ba_c0 ?_
  refine ba_istore_n (lv' := [(1, .int 0), (0, .ref (w.1 0))]) V dX6_worthless_1 (by decide) rfl ?_
  obtain ⟨o, ho, h⟩ := ba_bnd_some h
  refine ba_sub [1, 0] rfl (ym_worthless_l2 V (o := o) (fun s717 e => ?_) 1000 s 0 ho)
  subst e
  try dsimp only at h
  exact RT _ _ _ dX6_worthless_21 (Option.some.inj h)
def xm_readsCups_l6 (k : (ba_St × Int32) → Option ((ba_St) ⊕ (Int32 × ba_St))) (a : (ba_St × Int32)) : Option ((ba_St) ⊕ (Int32 × ba_St)) :=
  match a with
  | (s, z1) =>
    ba_grd (ba_inb 1 3) <|
    if (s.1 6 (ba_ix 1)) ≤ z1 then
      some (.inl s)
    else
      ba_grd (ba_inb (48 + z1) 144) <|
      ba_bnd (xm_figureOf (s.1 5 (ba_ix (48 + z1))) 0 9) fun v719 =>
      if v719 = (-9) then
        ba_bnd (xm_worthless s) fun s720 =>
        some (.inr (z1, s720))
      else
        ba_grd (ba_inb z1 9) <|
        ba_lt (ba_w s 8 (ba_ix z1) v719) fun s721 =>
        ba_lt (z1 + 1) fun x722 =>
        k (s721, x722)
set_option maxHeartbeats 4000000 in
set_option maxRecDepth 100000 in
theorem ym_readsCups_l6 {w : ba_W} {X : ba_X} (V : ba_V ba_tM w 3 X cX6_readsCups RX6 rm_m_readsCups) {o : (ba_St) ⊕ (Int32 × ba_St)} (EX : ∀ (s : ba_St) , .inl s = o → ba_G ba_tM w 3 X s 57 [] []) (RT : ∀ (pc : Nat) (lv : List (Nat × Value)) (v : Int32) (s : ba_St), decode cX6_readsCups pc = .ok (.ireturn, 1) → .inr (v, s) = o → ba_G ba_tM w 3 X s pc lv [.int v]) : ∀ (n : Nat) (s : ba_St) (z1 : Int32), ba_fix (xm_readsCups_l6) n (s, z1) = some o → ba_G ba_tM w 3 X s 6 [(0, .ref (w.1 0)), (1, .int z1)] [] := by
  intro n s z1 h
  refine ba_loop (P := fun a => ba_G ba_tM w 3 X a.1 6 [(0, .ref (w.1 0)), (1, .int a.2)] []) ?_ n (s, z1) h
  intro k hk0 a h
  obtain ⟨s, z1⟩ := a
  have hk : ∀ (s : ba_St) (z1 : Int32), k (s, z1) = some o → ba_G ba_tM w 3 X s 6 [(0, .ref (w.1 0)), (1, .int z1)] [] := fun s z1 e => hk0 (s, z1) e
  unfold xm_readsCups_l6 at h
  try dsimp only at h ⊢
  refine ba_iload_n V dX6_readsCups_6 1 rfl ?_
  refine ba_aload_n V dX6_readsCups_7 0 rfl ?_
  refine ba_getR V dX6_readsCups_8 kfX6_25 ba_sModel rfl ?_
  refine ba_iconst V dX6_readsCups_11 ba_c1 ?_
  refine ba_iald V dX6_readsCups_12 ba_sM_6 h (fun h => ?_)
  refine ba_icmp_ge V dX6_readsCups_13 rfl h (fun h => ?_) (fun h => ?_)
  · exact ba_sub [] rfl (EX _ (Option.some.inj h))
  · refine ba_aload_n V dX6_readsCups_16 0 rfl ?_
    refine ba_getR V dX6_readsCups_17 kfX6_22 ba_sModel rfl ?_
    refine ba_bipush V dX6_readsCups_20 ba_c48b ?_
    refine ba_iload_n V dX6_readsCups_22 1 rfl ?_
    refine ba_iadd V dX6_readsCups_23 ?_
    refine ba_iald V dX6_readsCups_24 ba_sM_5 h (fun h => ?_)
    refine ba_iconst V dX6_readsCups_25 ba_c0 ?_
    refine ba_bipush V dX6_readsCups_26 ba_c9b ?_
    obtain ⟨v719, hc, h⟩ := ba_bnd_some h
    refine ba_callSI (As := [.int (s.1 5 (ba_ix (48 + z1))), .int 0, .int 9]) (st := []) V dX6_readsCups_28 kcX6_121 (fun l => ym_figureOf V.inj l hc) ⟨rfl, rfl⟩ ⟨rfl, rfl, Nat.le_of_ble_eq_true rfl, Nat.le_of_ble_eq_true rfl⟩ (Nat.le_of_ble_eq_true rfl) ?_
    refine ba_istore_n (lv' := [(2, .int v719), (0, .ref (w.1 0)), (1, .int z1)]) V dX6_readsCups_31 (by decide) rfl ?_
    refine ba_iload_n V dX6_readsCups_32 0 rfl ?_
    refine ba_bipush V dX6_readsCups_33 ba_cm9b ?_
    refine ba_icmp_ne V dX6_readsCups_35 rfl h (fun h => ?_) (fun h => ?_)
    · refine ba_aload_n V dX6_readsCups_38 1 rfl ?_
      obtain ⟨s720, hc, h⟩ := ba_bnd_some h
      refine ba_callVV (As := []) (st := []) V dX6_readsCups_39 kcX6_136 ba_sModel (fun l => ym_worthless V.inj l hc) ⟨rfl, rfl⟩ ⟨rfl, rfl, Nat.le_of_ble_eq_true rfl, Nat.le_of_ble_eq_true rfl⟩ (Nat.le_of_ble_eq_true rfl) ?_
      refine ba_iload_n V dX6_readsCups_42 2 rfl ?_
      exact RT _ _ _ _ dX6_readsCups_43 (Option.some.inj h)
    · refine ba_aload_n V dX6_readsCups_44 1 rfl ?_
      refine ba_getR V dX6_readsCups_45 kfX6_31 ba_sModel rfl ?_
      refine ba_iload_n V dX6_readsCups_48 2 rfl ?_
      refine ba_iload_n V dX6_readsCups_49 0 rfl ?_
      refine ba_iast V dX6_readsCups_50 ba_sM_8 h (fun s721 h => ?_)
      refine ba_iinc V dX6_readsCups_51 2 rfl ba_c1 (by decide) h (fun x722 h => ⟨[(1, .int x722), (2, .int v719), (0, .ref (w.1 0))], rfl, ?_⟩)
      refine ba_goto V dX6_readsCups_54 rfl ?_
      exact ba_sub [2, 0] rfl (hk _ _ h)
def xm_readsCups (s : ba_St) : Option (Int32 × ba_St) :=
  ba_bnd (xm_worthless s) fun s718 =>
  ba_bnd (ba_fix (xm_readsCups_l6) 1000 (s718, 0)) fun o => match o with
  | .inr r724 => some r724
  | .inl s723 =>
    some ((-1), s723)
set_option maxHeartbeats 4000000 in
set_option maxRecDepth 100000 in
theorem ym_readsCups {w : ba_W} (hj : ba_inj ba_tM w) (l : Launch) {s : ba_St} {o : Int32 × ba_St} (h : xm_readsCups s = some o) : ba_CI ba_tM w l yX6_readsCups cX6_readsCups 3 (some .int) rm_m_readsCups [.ref (w.1 0)] s o := by
  refine ba_metI (lv := [(0, .ref (w.1 0))]) l hj (by decide +kernel) ⟨Nat.le_of_ble_eq_true rfl, rfl⟩ ?_
  intro X V RT
  unfold xm_readsCups at h
  refine ba_aload_n V dX6_readsCups_0 0 rfl ?_
  obtain ⟨s718, hc, h⟩ := ba_bnd_some h
  refine ba_callVV (As := []) (st := []) V dX6_readsCups_1 kcX6_136 ba_sModel (fun l => ym_worthless V.inj l hc) ⟨rfl, rfl⟩ ⟨rfl, rfl, Nat.le_of_ble_eq_true rfl, Nat.le_of_ble_eq_true rfl⟩ (Nat.le_of_ble_eq_true rfl) ?_
  refine ba_iconst V dX6_readsCups_4 ba_c0 ?_
  refine ba_istore_n (lv' := [(1, .int 0), (0, .ref (w.1 0))]) V dX6_readsCups_5 (by decide) rfl ?_
  obtain ⟨o, ho, h⟩ := ba_bnd_some h
  refine ba_sub [1, 0] rfl (ym_readsCups_l6 V (o := o) (fun s723 e => ?_) (fun pc lv v s D  e => by subst e; exact RT pc lv v s D  (Option.some.inj h)) 1000 s718 0 ho)
  subst e
  try dsimp only at h
  refine ba_iconst V dX6_readsCups_57 ba_cm1 ?_
  exact RT _ _ _ _ dX6_readsCups_58 (Option.some.inj h)
def xm_ballOf (a0 : Int32) (a1 : Int32) : Option (Int32) :=
  if a0 = 0 then
    ba_bnd (xm_in (Int32.toInt64 a1) 97 120) fun v725 =>
    if v725 = 0 then
      some (-9)
    else
      some (a1 - 97)
  else
    if a0 = 1 then
      ba_bnd (xm_figureOf a1 1 9) fun v726 =>
      some v726
    else
      ba_bnd (xm_between a1) fun v727 =>
      some v727
set_option maxHeartbeats 4000000 in
set_option maxRecDepth 100000 in
theorem ym_ballOf {w : ba_W} (hj : ba_inj ba_tM w) (l : Launch) {σ : ba_St} {a0 : Int32} {a1 : Int32} {o : Int32} (h : xm_ballOf a0 a1 = some o) : ba_CI ba_tM w l yX6_ballOf cX6_ballOf 2 (some .int) rm_m_ballOf [.int a0, .int a1] σ (o, σ) := by
  refine ba_metI (lv := [(0, .int a0), (1, .int a1)]) l hj (by decide +kernel) ⟨Nat.le_of_ble_eq_true rfl, rfl⟩ ?_
  intro X V RT
  replace RT := fun pc lv v D e => RT pc lv v σ D (congrArg (fun q => (q, σ)) e)
  unfold xm_ballOf at h
  refine ba_iload_n V dX6_ballOf_0 0 rfl ?_
  refine ba_if_ne V dX6_ballOf_1 rfl h (fun h => ?_) (fun h => ?_)
  · refine ba_iload_n V dX6_ballOf_4 1 rfl ?_
    refine ba_i2l V dX6_ballOf_5 ?_
    refine ba_ldc2 V dX6_ballOf_6 kkX6_139 ?_
    refine ba_ldc2 V dX6_ballOf_9 kkX6_141 ?_
    obtain ⟨v725, hc, h⟩ := ba_bnd_some h
    refine ba_callSI (As := [.long (Int32.toInt64 a1), .long 97, .long 120]) (st := []) V dX6_ballOf_12 kcX6_88 (fun l => ym_in V.inj l hc) ⟨rfl, rfl⟩ ⟨rfl, rfl, Nat.le_of_ble_eq_true rfl, Nat.le_of_ble_eq_true rfl⟩ (Nat.le_of_ble_eq_true rfl) ?_
    refine ba_if_eq V dX6_ballOf_15 rfl h (fun h => ?_) (fun h => ?_)
    · refine ba_bipush V dX6_ballOf_25 ba_cm9b ?_
      exact RT _ _ _ dX6_ballOf_27 (Option.some.inj h)
    · refine ba_iload_n V dX6_ballOf_18 1 rfl ?_
      refine ba_bipush V dX6_ballOf_19 ba_c97b ?_
      refine ba_isub V dX6_ballOf_21 ?_
      refine ba_goto V dX6_ballOf_22 rfl ?_
      exact RT _ _ _ dX6_ballOf_27 (Option.some.inj h)
  · refine ba_iload_n V dX6_ballOf_28 0 rfl ?_
    refine ba_iconst V dX6_ballOf_29 ba_c1 ?_
    refine ba_icmp_ne V dX6_ballOf_30 rfl h (fun h => ?_) (fun h => ?_)
    · refine ba_iload_n V dX6_ballOf_33 1 rfl ?_
      refine ba_iconst V dX6_ballOf_34 ba_c1 ?_
      refine ba_bipush V dX6_ballOf_35 ba_c9b ?_
      obtain ⟨v726, hc, h⟩ := ba_bnd_some h
      refine ba_callSI (As := [.int a1, .int 1, .int 9]) (st := []) V dX6_ballOf_37 kcX6_121 (fun l => ym_figureOf V.inj l hc) ⟨rfl, rfl⟩ ⟨rfl, rfl, Nat.le_of_ble_eq_true rfl, Nat.le_of_ble_eq_true rfl⟩ (Nat.le_of_ble_eq_true rfl) ?_
      refine ba_goto V dX6_ballOf_40 rfl ?_
      exact RT _ _ _ dX6_ballOf_47 (Option.some.inj h)
    · refine ba_iload_n V dX6_ballOf_43 1 rfl ?_
      obtain ⟨v727, hc, h⟩ := ba_bnd_some h
      refine ba_callSI (As := [.int a1]) (st := []) V dX6_ballOf_44 kcX6_124 (fun l => ym_between V.inj l hc) ⟨rfl, rfl⟩ ⟨rfl, rfl, Nat.le_of_ble_eq_true rfl, Nat.le_of_ble_eq_true rfl⟩ (Nat.le_of_ble_eq_true rfl) ?_
      exact RT _ _ _ dX6_ballOf_47 (Option.some.inj h)
def xm_readsBalls_j86_14 (k : (ba_St × Int32) → Option ((ba_St) ⊕ (Int32 × ba_St))) (s : ba_St) (z1 : Int32) (z2 : Int32) (q0 : Int32) (q1 : Int32) : Option ((ba_St) ⊕ (Int32 × ba_St)) :=
  ba_lt (ba_w s 0 10 (q1 + q0)) fun s733 =>
  ba_lt (z2 + 1) fun x734 =>
  k (s733, x734)
set_option maxHeartbeats 4000000 in
set_option maxRecDepth 100000 in
theorem ym_readsBalls_j86_14 {w : ba_W} {X : ba_X} (V : ba_V ba_tM w 5 X cX6_readsBalls RX6 rm_m_readsBalls) {s : ba_St} {z1 : Int32} {z2 : Int32} {q0 : Int32} {q1 : Int32} {o : (ba_St) ⊕ (Int32 × ba_St)} {k : (ba_St × Int32) → Option ((ba_St) ⊕ (Int32 × ba_St))} (hk : ∀ (s : ba_St) (z2 : Int32), k (s, z2) = some o → ba_G ba_tM w 5 X s 14 [(0, .ref (w.1 0)), (1, .int z1), (2, .int z2)] []) (EX : ∀ (s : ba_St) , .inl s = o → ba_G ba_tM w 5 X s 96 [(0, .ref (w.1 0)), (1, .int z1)] []) (RT : ∀ (pc : Nat) (lv : List (Nat × Value)) (v : Int32) (s : ba_St), decode cX6_readsBalls pc = .ok (.ireturn, 1) → .inr (v, s) = o → ba_G ba_tM w 5 X s pc lv [.int v]) (h : xm_readsBalls_j86_14 k s z1 z2 q0 q1 = some o) : ba_G ba_tM w 5 X s 86 [(0, .ref (w.1 0)), (1, .int z1), (2, .int z2)] [.int q0, .int q1, .ref (w.1 0)] := by
  unfold xm_readsBalls_j86_14 at h
  refine ba_iadd V dX6_readsBalls_86 ?_
  refine ba_putI V dX6_readsBalls_87 kfX6_143 ba_sModel rfl h (fun s733 h => ?_)
  refine ba_iinc V dX6_readsBalls_90 2 rfl ba_c1 (by decide) h (fun x734 h => ⟨[(2, .int x734), (0, .ref (w.1 0)), (1, .int z1)], rfl, ?_⟩)
  refine ba_goto V dX6_readsBalls_93 rfl ?_
  exact ba_sub [1, 2, 0] rfl (hk _ _ h)
def xm_readsBalls_j71_14 (k : (ba_St × Int32) → Option ((ba_St) ⊕ (Int32 × ba_St))) (s : ba_St) (z1 : Int32) (z2 : Int32) (z3 : Int32) : Option ((ba_St) ⊕ (Int32 × ba_St)) :=
  if z3 = 1 then
    xm_readsBalls_j86_14 k s z1 z2 1 (s.1 0 10)
  else
    xm_readsBalls_j86_14 k s z1 z2 0 (s.1 0 10)
set_option maxHeartbeats 4000000 in
set_option maxRecDepth 100000 in
theorem ym_readsBalls_j71_14 {w : ba_W} {X : ba_X} (V : ba_V ba_tM w 5 X cX6_readsBalls RX6 rm_m_readsBalls) {s : ba_St} {z1 : Int32} {z2 : Int32} {z3 : Int32} {o : (ba_St) ⊕ (Int32 × ba_St)} {k : (ba_St × Int32) → Option ((ba_St) ⊕ (Int32 × ba_St))} (hk : ∀ (s : ba_St) (z2 : Int32), k (s, z2) = some o → ba_G ba_tM w 5 X s 14 [(0, .ref (w.1 0)), (1, .int z1), (2, .int z2)] []) (EX : ∀ (s : ba_St) , .inl s = o → ba_G ba_tM w 5 X s 96 [(0, .ref (w.1 0)), (1, .int z1)] []) (RT : ∀ (pc : Nat) (lv : List (Nat × Value)) (v : Int32) (s : ba_St), decode cX6_readsBalls pc = .ok (.ireturn, 1) → .inr (v, s) = o → ba_G ba_tM w 5 X s pc lv [.int v]) (h : xm_readsBalls_j71_14 k s z1 z2 z3 = some o) : ba_G ba_tM w 5 X s 71 [(0, .ref (w.1 0)), (1, .int z1), (2, .int z2), (3, .int z3)] [] := by
  unfold xm_readsBalls_j71_14 at h
  refine ba_aload_n V dX6_readsBalls_71 0 rfl ?_
  refine ba_dup V dX6_readsBalls_72 rfl ?_
  refine ba_getI V dX6_readsBalls_73 kfX6_143 ba_sModel rfl ?_
  refine ba_iload_n V dX6_readsBalls_76 3 rfl ?_
  refine ba_iconst V dX6_readsBalls_77 ba_c1 ?_
  refine ba_icmp_ne V dX6_readsBalls_78 rfl h (fun h => ?_) (fun h => ?_)
  · refine ba_iconst V dX6_readsBalls_81 ba_c1 ?_
    refine ba_goto V dX6_readsBalls_82 rfl ?_
    exact ba_sub [0, 1, 2] rfl (ym_readsBalls_j86_14 V hk EX RT h)
  · refine ba_iconst V dX6_readsBalls_85 ba_c0 ?_
    exact ba_sub [0, 1, 2] rfl (ym_readsBalls_j86_14 V hk EX RT h)
def xm_readsBalls_l14 (z1 : Int32) (k : (ba_St × Int32) → Option ((ba_St) ⊕ (Int32 × ba_St))) (a : (ba_St × Int32)) : Option ((ba_St) ⊕ (Int32 × ba_St)) :=
  match a with
  | (s, z2) =>
    if z1 ≤ z2 then
      some (.inl s)
    else
      ba_lt (ba_irm z2 3) fun x730 =>
      ba_grd (ba_inb (96 + z2) 144) <|
      ba_bnd (xm_ballOf x730 (s.1 5 (ba_ix (96 + z2)))) fun v731 =>
      if v731 = (-9) then
        ba_lt (ba_w s 0 10 0) fun s732 =>
        some (.inr (z2, s732))
      else
        if 2 ≤ x730 then
          xm_readsBalls_j71_14 k s z1 z2 x730
        else
          ba_grd (ba_inb ((2 * (z2 / 3)) + x730) 24) <|
          ba_lt (ba_w s 9 (ba_ix ((2 * (z2 / 3)) + x730)) v731) fun s735 =>
          xm_readsBalls_j71_14 k s735 z1 z2 x730
set_option maxHeartbeats 4000000 in
set_option maxRecDepth 100000 in
theorem ym_readsBalls_l14 {w : ba_W} {X : ba_X} (V : ba_V ba_tM w 5 X cX6_readsBalls RX6 rm_m_readsBalls) {z1 : Int32} {o : (ba_St) ⊕ (Int32 × ba_St)} (EX : ∀ (s : ba_St) , .inl s = o → ba_G ba_tM w 5 X s 96 [(0, .ref (w.1 0)), (1, .int z1)] []) (RT : ∀ (pc : Nat) (lv : List (Nat × Value)) (v : Int32) (s : ba_St), decode cX6_readsBalls pc = .ok (.ireturn, 1) → .inr (v, s) = o → ba_G ba_tM w 5 X s pc lv [.int v]) : ∀ (n : Nat) (s : ba_St) (z2 : Int32), ba_fix (xm_readsBalls_l14 z1) n (s, z2) = some o → ba_G ba_tM w 5 X s 14 [(0, .ref (w.1 0)), (1, .int z1), (2, .int z2)] [] := by
  intro n s z2 h
  refine ba_loop (P := fun a => ba_G ba_tM w 5 X a.1 14 [(0, .ref (w.1 0)), (1, .int z1), (2, .int a.2)] []) ?_ n (s, z2) h
  intro k hk0 a h
  obtain ⟨s, z2⟩ := a
  have hk : ∀ (s : ba_St) (z2 : Int32), k (s, z2) = some o → ba_G ba_tM w 5 X s 14 [(0, .ref (w.1 0)), (1, .int z1), (2, .int z2)] [] := fun s z2 e => hk0 (s, z2) e
  unfold xm_readsBalls_l14 at h
  try dsimp only at h ⊢
  refine ba_iload_n V dX6_readsBalls_14 2 rfl ?_
  refine ba_iload_n V dX6_readsBalls_15 1 rfl ?_
  refine ba_icmp_ge V dX6_readsBalls_16 rfl h (fun h => ?_) (fun h => ?_)
  · exact ba_sub [0, 1] rfl (EX _ (Option.some.inj h))
  · refine ba_iload_n V dX6_readsBalls_19 2 rfl ?_
    refine ba_iconst V dX6_readsBalls_20 ba_c3 ?_
    refine ba_irem V dX6_readsBalls_21 (by decide) ?_
    refine ba_letI h (fun x730 h => ?_)
    refine ba_istore_n (lv' := [(3, .int x730), (0, .ref (w.1 0)), (1, .int z1), (2, .int z2)]) V dX6_readsBalls_22 (by decide) rfl ?_
    refine ba_iload_n V dX6_readsBalls_23 0 rfl ?_
    refine ba_aload_n V dX6_readsBalls_24 1 rfl ?_
    refine ba_getR V dX6_readsBalls_25 kfX6_22 ba_sModel rfl ?_
    refine ba_bipush V dX6_readsBalls_28 ba_c96b ?_
    refine ba_iload_n V dX6_readsBalls_30 3 rfl ?_
    refine ba_iadd V dX6_readsBalls_31 ?_
    refine ba_iald V dX6_readsBalls_32 ba_sM_5 h (fun h => ?_)
    obtain ⟨v731, hc, h⟩ := ba_bnd_some h
    refine ba_callSI (As := [.int x730, .int (s.1 5 (ba_ix (96 + z2)))]) (st := []) V dX6_readsBalls_33 kcX6_146 (fun l => ym_ballOf V.inj l hc) ⟨rfl, rfl⟩ ⟨rfl, rfl, Nat.le_of_ble_eq_true rfl, Nat.le_of_ble_eq_true rfl⟩ (Nat.le_of_ble_eq_true rfl) ?_
    refine ba_istore (lv' := [(4, .int v731), (3, .int x730), (0, .ref (w.1 0)), (1, .int z1), (2, .int z2)]) V dX6_readsBalls_36 (by decide) rfl ?_
    refine ba_iload V dX6_readsBalls_38 0 rfl ?_
    refine ba_bipush V dX6_readsBalls_40 ba_cm9b ?_
    refine ba_icmp_ne V dX6_readsBalls_42 rfl h (fun h => ?_) (fun h => ?_)
    · refine ba_aload_n V dX6_readsBalls_45 2 rfl ?_
      refine ba_iconst V dX6_readsBalls_46 ba_c0 ?_
      refine ba_putI V dX6_readsBalls_47 kfX6_143 ba_sModel rfl h (fun s732 h => ?_)
      refine ba_iload_n V dX6_readsBalls_50 4 rfl ?_
      exact RT _ _ _ _ dX6_readsBalls_51 (Option.some.inj h)
    · refine ba_iload_n V dX6_readsBalls_52 1 rfl ?_
      refine ba_iconst V dX6_readsBalls_53 ba_c2 ?_
      refine ba_icmp_ge V dX6_readsBalls_54 rfl h (fun h => ?_) (fun h => ?_)
      · exact ba_sub [2, 3, 4, 1] rfl (ym_readsBalls_j71_14 V hk EX RT h)
      · refine ba_aload_n V dX6_readsBalls_57 2 rfl ?_
        refine ba_getR V dX6_readsBalls_58 kfX6_34 ba_sModel rfl ?_
        refine ba_iconst V dX6_readsBalls_61 ba_c2 ?_
        refine ba_iload_n V dX6_readsBalls_62 4 rfl ?_
        refine ba_iconst V dX6_readsBalls_63 ba_c3 ?_
        refine ba_idiv V dX6_readsBalls_64 (by decide) ?_
        refine ba_imul V dX6_readsBalls_65 ?_
        refine ba_iload_n V dX6_readsBalls_66 1 rfl ?_
        refine ba_iadd V dX6_readsBalls_67 ?_
        refine ba_iload V dX6_readsBalls_68 0 rfl ?_
        refine ba_iast V dX6_readsBalls_70 ba_sM_9 h (fun s735 h => ?_)
        exact ba_sub [2, 3, 4, 1] rfl (ym_readsBalls_j71_14 V hk EX RT h)
def xm_readsBalls (s : ba_St) : Option (Int32 × ba_St) :=
  ba_lt (ba_w s 0 10 0) fun s728 =>
  ba_grd (ba_inb 2 3) <|
  ba_lt (s728.1 6 (ba_ix 2)) fun x729 =>
  ba_bnd (ba_fix (xm_readsBalls_l14 x729) 1000 (s728, 0)) fun o => match o with
  | .inr r738 => some r738
  | .inl s736 =>
    if x729 ≤ 0 then
      some ((-1), s736)
    else
      if (ba_irm x729 3) = 2 then
        some ((-1), s736)
      else
        ba_lt (ba_w s736 0 10 0) fun s737 =>
        some (x729, s737)
set_option maxHeartbeats 4000000 in
set_option maxRecDepth 100000 in
theorem ym_readsBalls {w : ba_W} (hj : ba_inj ba_tM w) (l : Launch) {s : ba_St} {o : Int32 × ba_St} (h : xm_readsBalls s = some o) : ba_CI ba_tM w l yX6_readsBalls cX6_readsBalls 5 (some .int) rm_m_readsBalls [.ref (w.1 0)] s o := by
  refine ba_metI (lv := [(0, .ref (w.1 0))]) l hj (by decide +kernel) ⟨Nat.le_of_ble_eq_true rfl, rfl⟩ ?_
  intro X V RT
  unfold xm_readsBalls at h
  refine ba_aload_n V dX6_readsBalls_0 0 rfl ?_
  refine ba_iconst V dX6_readsBalls_1 ba_c0 ?_
  refine ba_putI V dX6_readsBalls_2 kfX6_143 ba_sModel rfl h (fun s728 h => ?_)
  refine ba_aload_n V dX6_readsBalls_5 0 rfl ?_
  refine ba_getR V dX6_readsBalls_6 kfX6_25 ba_sModel rfl ?_
  refine ba_iconst V dX6_readsBalls_9 ba_c2 ?_
  refine ba_iald V dX6_readsBalls_10 ba_sM_6 h (fun h => ?_)
  refine ba_letI h (fun x729 h => ?_)
  refine ba_istore_n (lv' := [(1, .int x729), (0, .ref (w.1 0))]) V dX6_readsBalls_11 (by decide) rfl ?_
  refine ba_iconst V dX6_readsBalls_12 ba_c0 ?_
  refine ba_istore_n (lv' := [(2, .int 0), (1, .int x729), (0, .ref (w.1 0))]) V dX6_readsBalls_13 (by decide) rfl ?_
  obtain ⟨o, ho, h⟩ := ba_bnd_some h
  refine ba_sub [2, 1, 0] rfl (ym_readsBalls_l14 V (o := o) (fun s736 e => ?_) (fun pc lv v s D  e => by subst e; exact RT pc lv v s D  (Option.some.inj h)) 1000 s728 0 ho)
  subst e
  try dsimp only at h
  refine ba_iload_n V dX6_readsBalls_96 1 rfl ?_
  refine ba_if_le V dX6_readsBalls_97 rfl h (fun h => ?_) (fun h => ?_)
  · refine ba_iconst V dX6_readsBalls_114 ba_cm1 ?_
    exact RT _ _ _ _ dX6_readsBalls_115 (Option.some.inj h)
  · refine ba_iload_n V dX6_readsBalls_100 1 rfl ?_
    refine ba_iconst V dX6_readsBalls_101 ba_c3 ?_
    refine ba_irem V dX6_readsBalls_102 (by decide) ?_
    refine ba_iconst V dX6_readsBalls_103 ba_c2 ?_
    refine ba_icmp_eq V dX6_readsBalls_104 rfl h (fun h => ?_) (fun h => ?_)
    · refine ba_iconst V dX6_readsBalls_114 ba_cm1 ?_
      exact RT _ _ _ _ dX6_readsBalls_115 (Option.some.inj h)
    · refine ba_aload_n V dX6_readsBalls_107 0 rfl ?_
      refine ba_iconst V dX6_readsBalls_108 ba_c0 ?_
      refine ba_putI V dX6_readsBalls_109 kfX6_143 ba_sModel rfl h (fun s737 h => ?_)
      refine ba_iload_n V dX6_readsBalls_112 1 rfl ?_
      exact RT _ _ _ _ dX6_readsBalls_113 (Option.some.inj h)
def xm_readsText (s : ba_St) (a1 : Int32) : Option (Int32 × ba_St) :=
  if a1 = 0 then
    ba_bn2 (xm_readsPins s) fun v739 s740 =>
    some (v739, s740)
  else
    if a1 = 1 then
      ba_bn2 (xm_readsCups s) fun v741 s742 =>
      some (v741, s742)
    else
      ba_bn2 (xm_readsBalls s) fun v743 s744 =>
      some (v743, s744)
set_option maxHeartbeats 4000000 in
set_option maxRecDepth 100000 in
theorem ym_readsText {w : ba_W} (hj : ba_inj ba_tM w) (l : Launch) {s : ba_St} {a1 : Int32} {o : Int32 × ba_St} (h : xm_readsText s a1 = some o) : ba_CI ba_tM w l yX6_readsText cX6_readsText 2 (some .int) rm_m_readsText [.ref (w.1 0), .int a1] s o := by
  refine ba_metI (lv := [(0, .ref (w.1 0)), (1, .int a1)]) l hj (by decide +kernel) ⟨Nat.le_of_ble_eq_true rfl, rfl⟩ ?_
  intro X V RT
  unfold xm_readsText at h
  refine ba_iload_n V dX6_readsText_0 1 rfl ?_
  refine ba_if_ne V dX6_readsText_1 rfl h (fun h => ?_) (fun h => ?_)
  · refine ba_aload_n V dX6_readsText_4 0 rfl ?_
    obtain ⟨v739, s740, hc, h⟩ := ba_bn2_some h
    refine ba_callVI (As := []) (st := []) V dX6_readsText_5 kcX6_149 ba_sModel (fun l => ym_readsPins V.inj l hc) ⟨rfl, rfl⟩ ⟨rfl, rfl, Nat.le_of_ble_eq_true rfl, Nat.le_of_ble_eq_true rfl⟩ (Nat.le_of_ble_eq_true rfl) ?_
    refine ba_goto V dX6_readsText_8 rfl ?_
    exact RT _ _ _ _ dX6_readsText_27 (Option.some.inj h)
  · refine ba_iload_n V dX6_readsText_11 1 rfl ?_
    refine ba_iconst V dX6_readsText_12 ba_c1 ?_
    refine ba_icmp_ne V dX6_readsText_13 rfl h (fun h => ?_) (fun h => ?_)
    · refine ba_aload_n V dX6_readsText_16 0 rfl ?_
      obtain ⟨v741, s742, hc, h⟩ := ba_bn2_some h
      refine ba_callVI (As := []) (st := []) V dX6_readsText_17 kcX6_153 ba_sModel (fun l => ym_readsCups V.inj l hc) ⟨rfl, rfl⟩ ⟨rfl, rfl, Nat.le_of_ble_eq_true rfl, Nat.le_of_ble_eq_true rfl⟩ (Nat.le_of_ble_eq_true rfl) ?_
      refine ba_goto V dX6_readsText_20 rfl ?_
      exact RT _ _ _ _ dX6_readsText_27 (Option.some.inj h)
    · refine ba_aload_n V dX6_readsText_23 0 rfl ?_
      obtain ⟨v743, s744, hc, h⟩ := ba_bn2_some h
      refine ba_callVI (As := []) (st := []) V dX6_readsText_24 kcX6_156 ba_sModel (fun l => ym_readsBalls V.inj l hc) ⟨rfl, rfl⟩ ⟨rfl, rfl, Nat.le_of_ble_eq_true rfl, Nat.le_of_ble_eq_true rfl⟩ (Nat.le_of_ble_eq_true rfl) ?_
      exact RT _ _ _ _ dX6_readsText_27 (Option.some.inj h)
def xm_fault (s : ba_St) (a1 : Int32) : Option (Int32 × ba_St) :=
  ba_bnd (xm_isText a1) fun v745 =>
  if v745 = 0 then
    some ((-2), s)
  else
    ba_bn2 (xm_readsText s a1) fun v746 s747 =>
    some (v746, s747)
set_option maxHeartbeats 4000000 in
set_option maxRecDepth 100000 in
theorem ym_fault {w : ba_W} (hj : ba_inj ba_tM w) (l : Launch) {s : ba_St} {a1 : Int32} {o : Int32 × ba_St} (h : xm_fault s a1 = some o) : ba_CI ba_tM w l yX6_fault cX6_fault 2 (some .int) rm_m_fault [.ref (w.1 0), .int a1] s o := by
  refine ba_metI (lv := [(0, .ref (w.1 0)), (1, .int a1)]) l hj (by decide +kernel) ⟨Nat.le_of_ble_eq_true rfl, rfl⟩ ?_
  intro X V RT
  unfold xm_fault at h
  refine ba_iload_n V dX6_fault_0 1 rfl ?_
  obtain ⟨v745, hc, h⟩ := ba_bnd_some h
  refine ba_callSI (As := [.int a1]) (st := []) V dX6_fault_1 kcX6_116 (fun l => ym_isText V.inj l hc) ⟨rfl, rfl⟩ ⟨rfl, rfl, Nat.le_of_ble_eq_true rfl, Nat.le_of_ble_eq_true rfl⟩ (Nat.le_of_ble_eq_true rfl) ?_
  refine ba_if_eq V dX6_fault_4 rfl h (fun h => ?_) (fun h => ?_)
  · refine ba_bipush V dX6_fault_15 ba_cm2b ?_
    exact RT _ _ _ _ dX6_fault_17 (Option.some.inj h)
  · refine ba_aload_n V dX6_fault_7 0 rfl ?_
    refine ba_iload_n V dX6_fault_8 1 rfl ?_
    obtain ⟨v746, s747, hc, h⟩ := ba_bn2_some h
    refine ba_callVI (As := [.int a1]) (st := []) V dX6_fault_9 kcX6_159 ba_sModel (fun l => ym_readsText V.inj l hc) ⟨rfl, rfl⟩ ⟨rfl, rfl, Nat.le_of_ble_eq_true rfl, Nat.le_of_ble_eq_true rfl⟩ (Nat.le_of_ble_eq_true rfl) ?_
    refine ba_goto V dX6_fault_12 rfl ?_
    exact RT _ _ _ _ dX6_fault_17 (Option.some.inj h)
def xm_isTick (a0 : Int32) : Option (Int32) :=
  ba_bnd (xm_in (Int32.toInt64 a0) 0 23) fun v748 =>
  ba_grd (ba_bool v748) <|
  some v748
set_option maxHeartbeats 4000000 in
set_option maxRecDepth 100000 in
theorem ym_isTick {w : ba_W} (hj : ba_inj ba_tM w) (l : Launch) {σ : ba_St} {a0 : Int32} {o : Int32} (h : xm_isTick a0 = some o) : ba_CI ba_tM w l yX6_isTick cX6_isTick 1 (some .boolean) rm_m_isTick [.int a0] σ (o, σ) := by
  refine ba_metZ (lv := [(0, .int a0)]) l hj (by decide +kernel) ⟨Nat.le_of_ble_eq_true rfl, rfl⟩ ?_
  intro X V RT
  replace RT := fun pc lv v D z e => RT pc lv v σ D z (congrArg (fun q => (q, σ)) e)
  unfold xm_isTick at h
  refine ba_iload_n V dX6_isTick_0 0 rfl ?_
  refine ba_i2l V dX6_isTick_1 ?_
  refine ba_lconst V dX6_isTick_2 rfl ?_
  refine ba_ldc2 V dX6_isTick_3 kkX6_162 ?_
  obtain ⟨v748, hc, h⟩ := ba_bnd_some h
  refine ba_callSI (As := [.long (Int32.toInt64 a0), .long 0, .long 23]) (st := []) V dX6_isTick_6 kcX6_88 (fun l => ym_in V.inj l hc) ⟨rfl, rfl⟩ ⟨rfl, rfl, Nat.le_of_ble_eq_true rfl, Nat.le_of_ble_eq_true rfl⟩ (Nat.le_of_ble_eq_true rfl) ?_
  refine ba_guard h (fun z h => ?_)
  exact RT _ _ _ dX6_isTick_9 (ba_boolY z) (Option.some.inj h)
def xm_isColumn (a0 : Int32) : Option (Int32) :=
  ba_bnd (xm_in (Int32.toInt64 a0) 0 8) fun v749 =>
  ba_grd (ba_bool v749) <|
  some v749
set_option maxHeartbeats 4000000 in
set_option maxRecDepth 100000 in
theorem ym_isColumn {w : ba_W} (hj : ba_inj ba_tM w) (l : Launch) {σ : ba_St} {a0 : Int32} {o : Int32} (h : xm_isColumn a0 = some o) : ba_CI ba_tM w l yX6_isColumn cX6_isColumn 1 (some .boolean) rm_m_isColumn [.int a0] σ (o, σ) := by
  refine ba_metZ (lv := [(0, .int a0)]) l hj (by decide +kernel) ⟨Nat.le_of_ble_eq_true rfl, rfl⟩ ?_
  intro X V RT
  replace RT := fun pc lv v D z e => RT pc lv v σ D z (congrArg (fun q => (q, σ)) e)
  unfold xm_isColumn at h
  refine ba_iload_n V dX6_isColumn_0 0 rfl ?_
  refine ba_i2l V dX6_isColumn_1 ?_
  refine ba_lconst V dX6_isColumn_2 rfl ?_
  refine ba_ldc2 V dX6_isColumn_3 kkX6_164 ?_
  obtain ⟨v749, hc, h⟩ := ba_bnd_some h
  refine ba_callSI (As := [.long (Int32.toInt64 a0), .long 0, .long 8]) (st := []) V dX6_isColumn_6 kcX6_88 (fun l => ym_in V.inj l hc) ⟨rfl, rfl⟩ ⟨rfl, rfl, Nat.le_of_ble_eq_true rfl, Nat.le_of_ble_eq_true rfl⟩ (Nat.le_of_ble_eq_true rfl) ?_
  refine ba_guard h (fun z h => ?_)
  exact RT _ _ _ dX6_isColumn_9 (ba_boolY z) (Option.some.inj h)
def xm_isPin (s : ba_St) (a1 : Int32) : Option (Int32) :=
  ba_bnd (xm_in (Int32.toInt64 a1) 0 (Int32.toInt64 ((s.1 0 7) - 1))) fun v750 =>
  ba_grd (ba_bool v750) <|
  some v750
set_option maxHeartbeats 4000000 in
set_option maxRecDepth 100000 in
theorem ym_isPin {w : ba_W} (hj : ba_inj ba_tM w) (l : Launch) {s : ba_St} {a1 : Int32} {o : Int32} (h : xm_isPin s a1 = some o) : ba_CI ba_tM w l yX6_isPin cX6_isPin 2 (some .boolean) rm_m_isPin [.ref (w.1 0), .int a1] s (o, s) := by
  refine ba_metZ (lv := [(0, .ref (w.1 0)), (1, .int a1)]) l hj (by decide +kernel) ⟨Nat.le_of_ble_eq_true rfl, rfl⟩ ?_
  intro X V RT
  replace RT := fun pc lv v D z e => RT pc lv v s D z (congrArg (fun q => (q, s)) e)
  unfold xm_isPin at h
  refine ba_iload_n V dX6_isPin_0 1 rfl ?_
  refine ba_i2l V dX6_isPin_1 ?_
  refine ba_lconst V dX6_isPin_2 rfl ?_
  refine ba_aload_n V dX6_isPin_3 0 rfl ?_
  refine ba_getI V dX6_isPin_4 kfX6_127 ba_sModel rfl ?_
  refine ba_iconst V dX6_isPin_7 ba_c1 ?_
  refine ba_isub V dX6_isPin_8 ?_
  refine ba_i2l V dX6_isPin_9 ?_
  obtain ⟨v750, hc, h⟩ := ba_bnd_some h
  refine ba_callSI (As := [.long (Int32.toInt64 a1), .long 0, .long (Int32.toInt64 ((s.1 0 7) - 1))]) (st := []) V dX6_isPin_10 kcX6_88 (fun l => ym_in V.inj l hc) ⟨rfl, rfl⟩ ⟨rfl, rfl, Nat.le_of_ble_eq_true rfl, Nat.le_of_ble_eq_true rfl⟩ (Nat.le_of_ble_eq_true rfl) ?_
  refine ba_guard h (fun z h => ?_)
  exact RT _ _ _ dX6_isPin_13 (ba_boolY z) (Option.some.inj h)
def xm_isBall (s : ba_St) (a1 : Int32) : Option (Int32) :=
  ba_bnd (xm_in (Int32.toInt64 a1) 0 (Int32.toInt64 ((s.1 0 10) - 1))) fun v751 =>
  ba_grd (ba_bool v751) <|
  some v751
set_option maxHeartbeats 4000000 in
set_option maxRecDepth 100000 in
theorem ym_isBall {w : ba_W} (hj : ba_inj ba_tM w) (l : Launch) {s : ba_St} {a1 : Int32} {o : Int32} (h : xm_isBall s a1 = some o) : ba_CI ba_tM w l yX6_isBall cX6_isBall 2 (some .boolean) rm_m_isBall [.ref (w.1 0), .int a1] s (o, s) := by
  refine ba_metZ (lv := [(0, .ref (w.1 0)), (1, .int a1)]) l hj (by decide +kernel) ⟨Nat.le_of_ble_eq_true rfl, rfl⟩ ?_
  intro X V RT
  replace RT := fun pc lv v D z e => RT pc lv v s D z (congrArg (fun q => (q, s)) e)
  unfold xm_isBall at h
  refine ba_iload_n V dX6_isBall_0 1 rfl ?_
  refine ba_i2l V dX6_isBall_1 ?_
  refine ba_lconst V dX6_isBall_2 rfl ?_
  refine ba_aload_n V dX6_isBall_3 0 rfl ?_
  refine ba_getI V dX6_isBall_4 kfX6_143 ba_sModel rfl ?_
  refine ba_iconst V dX6_isBall_7 ba_c1 ?_
  refine ba_isub V dX6_isBall_8 ?_
  refine ba_i2l V dX6_isBall_9 ?_
  obtain ⟨v751, hc, h⟩ := ba_bnd_some h
  refine ba_callSI (As := [.long (Int32.toInt64 a1), .long 0, .long (Int32.toInt64 ((s.1 0 10) - 1))]) (st := []) V dX6_isBall_10 kcX6_88 (fun l => ym_in V.inj l hc) ⟨rfl, rfl⟩ ⟨rfl, rfl, Nat.le_of_ble_eq_true rfl, Nat.le_of_ble_eq_true rfl⟩ (Nat.le_of_ble_eq_true rfl) ?_
  refine ba_guard h (fun z h => ?_)
  exact RT _ _ _ dX6_isBall_13 (ba_boolY z) (Option.some.inj h)
def xm_pin_j38 (s : ba_St) : Option (Int32 × ba_St) :=
  some ((-2), s)
set_option maxHeartbeats 4000000 in
set_option maxRecDepth 100000 in
theorem ym_pin_j38 {w : ba_W} {X : ba_X} (V : ba_V ba_tM w 3 X cX6_pin RX6 rm_m_pin) {s : ba_St} {o : Int32 × ba_St} (RT : ∀ (pc : Nat) (lv : List (Nat × Value)) (v : Int32) (s : ba_St), decode cX6_pin pc = .ok (.ireturn, 1) → (v, s) = o → ba_G ba_tM w 3 X s pc lv [.int v]) (h : xm_pin_j38 s = some o) : ba_G ba_tM w 3 X s 38 [] [] := by
  unfold xm_pin_j38 at h
  refine ba_bipush V dX6_pin_38 ba_cm2b ?_
  exact RT _ _ _ _ dX6_pin_40 (Option.some.inj h)
def xm_pin (s : ba_St) (a1 : Int32) (a2 : Int32) : Option (Int32 × ba_St) :=
  ba_bn2 (xm_readsPins s) fun v752 s753 =>
  ba_bnd (xm_isPin s753 a1) fun v754 =>
  if v754 = 0 then
    xm_pin_j38 s753
  else
    ba_bnd (xm_in (Int32.toInt64 a2) 0 2) fun v755 =>
    if v755 = 0 then
      xm_pin_j38 s753
    else
      ba_grd (ba_inb ((3 * a1) + a2) 36) <|
      some ((s753.1 7 (ba_ix ((3 * a1) + a2))), s753)
set_option maxHeartbeats 4000000 in
set_option maxRecDepth 100000 in
theorem ym_pin {w : ba_W} (hj : ba_inj ba_tM w) (l : Launch) {s : ba_St} {a1 : Int32} {a2 : Int32} {o : Int32 × ba_St} (h : xm_pin s a1 a2 = some o) : ba_CI ba_tM w l yX6_pin cX6_pin 3 (some .int) rm_m_pin [.ref (w.1 0), .int a1, .int a2] s o := by
  refine ba_metI (lv := [(0, .ref (w.1 0)), (1, .int a1), (2, .int a2)]) l hj (by decide +kernel) ⟨Nat.le_of_ble_eq_true rfl, rfl⟩ ?_
  intro X V RT
  unfold xm_pin at h
  refine ba_aload_n V dX6_pin_0 0 rfl ?_
  obtain ⟨v752, s753, hc, h⟩ := ba_bn2_some h
  refine ba_callVI (As := []) (st := []) V dX6_pin_1 kcX6_149 ba_sModel (fun l => ym_readsPins V.inj l hc) ⟨rfl, rfl⟩ ⟨rfl, rfl, Nat.le_of_ble_eq_true rfl, Nat.le_of_ble_eq_true rfl⟩ (Nat.le_of_ble_eq_true rfl) ?_
  refine ba_pop V dX6_pin_4 rfl ?_
  refine ba_aload_n V dX6_pin_5 0 rfl ?_
  refine ba_iload_n V dX6_pin_6 1 rfl ?_
  obtain ⟨v754, hc, h⟩ := ba_bnd_some h
  refine ba_callVI (As := [.int a1]) (st := []) V dX6_pin_7 kcX6_166 ba_sModel (fun l => ym_isPin V.inj l hc) ⟨rfl, rfl⟩ ⟨rfl, rfl, Nat.le_of_ble_eq_true rfl, Nat.le_of_ble_eq_true rfl⟩ (Nat.le_of_ble_eq_true rfl) ?_
  refine ba_if_eq V dX6_pin_10 rfl h (fun h => ?_) (fun h => ?_)
  · exact ba_sub [] rfl (ym_pin_j38 V RT h)
  · refine ba_iload_n V dX6_pin_13 2 rfl ?_
    refine ba_i2l V dX6_pin_14 ?_
    refine ba_lconst V dX6_pin_15 rfl ?_
    refine ba_ldc2 V dX6_pin_16 kkX6_101 ?_
    obtain ⟨v755, hc, h⟩ := ba_bnd_some h
    refine ba_callSI (As := [.long (Int32.toInt64 a2), .long 0, .long 2]) (st := []) V dX6_pin_19 kcX6_88 (fun l => ym_in V.inj l hc) ⟨rfl, rfl⟩ ⟨rfl, rfl, Nat.le_of_ble_eq_true rfl, Nat.le_of_ble_eq_true rfl⟩ (Nat.le_of_ble_eq_true rfl) ?_
    refine ba_if_eq V dX6_pin_22 rfl h (fun h => ?_) (fun h => ?_)
    · exact ba_sub [] rfl (ym_pin_j38 V RT h)
    · refine ba_aload_n V dX6_pin_25 0 rfl ?_
      refine ba_getR V dX6_pin_26 kfX6_28 ba_sModel rfl ?_
      refine ba_iconst V dX6_pin_29 ba_c3 ?_
      refine ba_iload_n V dX6_pin_30 1 rfl ?_
      refine ba_imul V dX6_pin_31 ?_
      refine ba_iload_n V dX6_pin_32 2 rfl ?_
      refine ba_iadd V dX6_pin_33 ?_
      refine ba_iald V dX6_pin_34 ba_sM_7 h (fun h => ?_)
      refine ba_goto V dX6_pin_35 rfl ?_
      exact RT _ _ _ _ dX6_pin_40 (Option.some.inj h)
def xm_ball_j33 (s : ba_St) : Option (Int32 × ba_St) :=
  some ((-2), s)
set_option maxHeartbeats 4000000 in
set_option maxRecDepth 100000 in
theorem ym_ball_j33 {w : ba_W} {X : ba_X} (V : ba_V ba_tM w 3 X cX6_ball RX6 rm_m_ball) {s : ba_St} {o : Int32 × ba_St} (RT : ∀ (pc : Nat) (lv : List (Nat × Value)) (v : Int32) (s : ba_St), decode cX6_ball pc = .ok (.ireturn, 1) → (v, s) = o → ba_G ba_tM w 3 X s pc lv [.int v]) (h : xm_ball_j33 s = some o) : ba_G ba_tM w 3 X s 33 [] [] := by
  unfold xm_ball_j33 at h
  refine ba_bipush V dX6_ball_33 ba_cm2b ?_
  exact RT _ _ _ _ dX6_ball_35 (Option.some.inj h)
def xm_ball (s : ba_St) (a1 : Int32) (a2 : Int32) : Option (Int32 × ba_St) :=
  ba_bn2 (xm_readsBalls s) fun v756 s757 =>
  ba_bnd (xm_isBall s757 a1) fun v758 =>
  if v758 = 0 then
    xm_ball_j33 s757
  else
    ba_bnd (xm_isTwo a2) fun v759 =>
    if v759 = 0 then
      xm_ball_j33 s757
    else
      ba_grd (ba_inb ((2 * a1) + a2) 24) <|
      some ((s757.1 9 (ba_ix ((2 * a1) + a2))), s757)
set_option maxHeartbeats 4000000 in
set_option maxRecDepth 100000 in
theorem ym_ball {w : ba_W} (hj : ba_inj ba_tM w) (l : Launch) {s : ba_St} {a1 : Int32} {a2 : Int32} {o : Int32 × ba_St} (h : xm_ball s a1 a2 = some o) : ba_CI ba_tM w l yX6_ball cX6_ball 3 (some .int) rm_m_ball [.ref (w.1 0), .int a1, .int a2] s o := by
  refine ba_metI (lv := [(0, .ref (w.1 0)), (1, .int a1), (2, .int a2)]) l hj (by decide +kernel) ⟨Nat.le_of_ble_eq_true rfl, rfl⟩ ?_
  intro X V RT
  unfold xm_ball at h
  refine ba_aload_n V dX6_ball_0 0 rfl ?_
  obtain ⟨v756, s757, hc, h⟩ := ba_bn2_some h
  refine ba_callVI (As := []) (st := []) V dX6_ball_1 kcX6_156 ba_sModel (fun l => ym_readsBalls V.inj l hc) ⟨rfl, rfl⟩ ⟨rfl, rfl, Nat.le_of_ble_eq_true rfl, Nat.le_of_ble_eq_true rfl⟩ (Nat.le_of_ble_eq_true rfl) ?_
  refine ba_pop V dX6_ball_4 rfl ?_
  refine ba_aload_n V dX6_ball_5 0 rfl ?_
  refine ba_iload_n V dX6_ball_6 1 rfl ?_
  obtain ⟨v758, hc, h⟩ := ba_bnd_some h
  refine ba_callVI (As := [.int a1]) (st := []) V dX6_ball_7 kcX6_169 ba_sModel (fun l => ym_isBall V.inj l hc) ⟨rfl, rfl⟩ ⟨rfl, rfl, Nat.le_of_ble_eq_true rfl, Nat.le_of_ble_eq_true rfl⟩ (Nat.le_of_ble_eq_true rfl) ?_
  refine ba_if_eq V dX6_ball_10 rfl h (fun h => ?_) (fun h => ?_)
  · exact ba_sub [] rfl (ym_ball_j33 V RT h)
  · refine ba_iload_n V dX6_ball_13 2 rfl ?_
    obtain ⟨v759, hc, h⟩ := ba_bnd_some h
    refine ba_callSI (As := [.int a2]) (st := []) V dX6_ball_14 kcX6_172 (fun l => ym_isTwo V.inj l hc) ⟨rfl, rfl⟩ ⟨rfl, rfl, Nat.le_of_ble_eq_true rfl, Nat.le_of_ble_eq_true rfl⟩ (Nat.le_of_ble_eq_true rfl) ?_
    refine ba_if_eq V dX6_ball_17 rfl h (fun h => ?_) (fun h => ?_)
    · exact ba_sub [] rfl (ym_ball_j33 V RT h)
    · refine ba_aload_n V dX6_ball_20 0 rfl ?_
      refine ba_getR V dX6_ball_21 kfX6_34 ba_sModel rfl ?_
      refine ba_iconst V dX6_ball_24 ba_c2 ?_
      refine ba_iload_n V dX6_ball_25 1 rfl ?_
      refine ba_imul V dX6_ball_26 ?_
      refine ba_iload_n V dX6_ball_27 2 rfl ?_
      refine ba_iadd V dX6_ball_28 ?_
      refine ba_iald V dX6_ball_29 ba_sM_9 h (fun h => ?_)
      refine ba_goto V dX6_ball_30 rfl ?_
      exact RT _ _ _ _ dX6_ball_35 (Option.some.inj h)
def xm_room (s : ba_St) (a1 : Int32) : Option (Int32 × ba_St) :=
  ba_bnd (xm_in (Int32.toInt64 a1) 1 9) fun v760 =>
  if v760 = 0 then
    some ((-2), s)
  else
    ba_lt (s.1 0 12) fun x761 =>
    ba_lt (ba_w s 0 12 a1) fun s762 =>
    some (x761, s762)
set_option maxHeartbeats 4000000 in
set_option maxRecDepth 100000 in
theorem ym_room {w : ba_W} (hj : ba_inj ba_tM w) (l : Launch) {s : ba_St} {a1 : Int32} {o : Int32 × ba_St} (h : xm_room s a1 = some o) : ba_CI ba_tM w l yX6_room cX6_room 3 (some .int) rm_m_room [.ref (w.1 0), .int a1] s o := by
  refine ba_metI (lv := [(0, .ref (w.1 0)), (1, .int a1)]) l hj (by decide +kernel) ⟨Nat.le_of_ble_eq_true rfl, rfl⟩ ?_
  intro X V RT
  unfold xm_room at h
  refine ba_iload_n V dX6_room_0 1 rfl ?_
  refine ba_i2l V dX6_room_1 ?_
  refine ba_lconst V dX6_room_2 rfl ?_
  refine ba_ldc2 V dX6_room_3 kkX6_175 ?_
  obtain ⟨v760, hc, h⟩ := ba_bnd_some h
  refine ba_callSI (As := [.long (Int32.toInt64 a1), .long 1, .long 9]) (st := []) V dX6_room_6 kcX6_88 (fun l => ym_in V.inj l hc) ⟨rfl, rfl⟩ ⟨rfl, rfl, Nat.le_of_ble_eq_true rfl, Nat.le_of_ble_eq_true rfl⟩ (Nat.le_of_ble_eq_true rfl) ?_
  refine ba_if_ne V dX6_room_9 rfl h (fun h => ?_) (fun h => ?_)
  · refine ba_bipush V dX6_room_12 ba_cm2b ?_
    exact RT _ _ _ _ dX6_room_14 (Option.some.inj h)
  · refine ba_aload_n V dX6_room_15 0 rfl ?_
    refine ba_getI V dX6_room_16 kfX6_82 ba_sModel rfl ?_
    refine ba_letI h (fun x761 h => ?_)
    refine ba_istore_n (lv' := [(2, .int x761), (0, .ref (w.1 0)), (1, .int a1)]) V dX6_room_19 (by decide) rfl ?_
    refine ba_aload_n V dX6_room_20 1 rfl ?_
    refine ba_iload_n V dX6_room_21 2 rfl ?_
    refine ba_putI V dX6_room_22 kfX6_82 ba_sModel rfl h (fun s762 h => ?_)
    refine ba_iload_n V dX6_room_25 0 rfl ?_
    exact RT _ _ _ _ dX6_room_26 (Option.some.inj h)
def xm_event (s : ba_St) (a1 : Int32) (a2 : Int32) (a3 : Int32) : Option (Int32 × ba_St) :=
  ba_bnd (xm_in (Int32.toInt64 a1) 0 2) fun v763 =>
  if v763 = 0 then
    some ((-2), s)
  else
    ba_bnd (xm_isTick a2) fun v764 =>
    if v764 = 0 then
      some ((-2), s)
    else
      ba_bnd (xm_in (Int32.toInt64 a3) 0 11) fun v765 =>
      if v765 = 0 then
        some ((-2), s)
      else
        if (s.1 0 13) = 8 then
          some ((-4), s)
        else
          ba_grd (ba_inb (3 * (s.1 0 13)) 24) <|
          ba_lt (ba_w s 10 (ba_ix (3 * (s.1 0 13))) a1) fun s766 =>
          ba_grd (ba_inb ((3 * (s766.1 0 13)) + 1) 24) <|
          ba_lt (ba_w s766 10 (ba_ix ((3 * (s766.1 0 13)) + 1)) a2) fun s767 =>
          ba_grd (ba_inb ((3 * (s767.1 0 13)) + 2) 24) <|
          ba_lt (ba_w s767 10 (ba_ix ((3 * (s767.1 0 13)) + 2)) a3) fun s768 =>
          ba_lt (ba_w s768 0 13 ((s768.1 0 13) + 1)) fun s769 =>
          some ((s769.1 0 13), s769)
set_option maxHeartbeats 4000000 in
set_option maxRecDepth 100000 in
theorem ym_event {w : ba_W} (hj : ba_inj ba_tM w) (l : Launch) {s : ba_St} {a1 : Int32} {a2 : Int32} {a3 : Int32} {o : Int32 × ba_St} (h : xm_event s a1 a2 a3 = some o) : ba_CI ba_tM w l yX6_event cX6_event 4 (some .int) rm_m_event [.ref (w.1 0), .int a1, .int a2, .int a3] s o := by
  refine ba_metI (lv := [(0, .ref (w.1 0)), (1, .int a1), (2, .int a2), (3, .int a3)]) l hj (by decide +kernel) ⟨Nat.le_of_ble_eq_true rfl, rfl⟩ ?_
  intro X V RT
  unfold xm_event at h
  refine ba_iload_n V dX6_event_0 1 rfl ?_
  refine ba_i2l V dX6_event_1 ?_
  refine ba_lconst V dX6_event_2 rfl ?_
  refine ba_ldc2 V dX6_event_3 kkX6_101 ?_
  obtain ⟨v763, hc, h⟩ := ba_bnd_some h
  refine ba_callSI (As := [.long (Int32.toInt64 a1), .long 0, .long 2]) (st := []) V dX6_event_6 kcX6_88 (fun l => ym_in V.inj l hc) ⟨rfl, rfl⟩ ⟨rfl, rfl, Nat.le_of_ble_eq_true rfl, Nat.le_of_ble_eq_true rfl⟩ (Nat.le_of_ble_eq_true rfl) ?_
  refine ba_if_eq V dX6_event_9 rfl h (fun h => ?_) (fun h => ?_)
  · refine ba_bipush V dX6_event_31 ba_cm2b ?_
    exact RT _ _ _ _ dX6_event_33 (Option.some.inj h)
  · refine ba_iload_n V dX6_event_12 2 rfl ?_
    obtain ⟨v764, hc, h⟩ := ba_bnd_some h
    refine ba_callSI (As := [.int a2]) (st := []) V dX6_event_13 kcX6_177 (fun l => ym_isTick V.inj l hc) ⟨rfl, rfl⟩ ⟨rfl, rfl, Nat.le_of_ble_eq_true rfl, Nat.le_of_ble_eq_true rfl⟩ (Nat.le_of_ble_eq_true rfl) ?_
    refine ba_if_eq V dX6_event_16 rfl h (fun h => ?_) (fun h => ?_)
    · refine ba_bipush V dX6_event_31 ba_cm2b ?_
      exact RT _ _ _ _ dX6_event_33 (Option.some.inj h)
    · refine ba_iload_n V dX6_event_19 3 rfl ?_
      refine ba_i2l V dX6_event_20 ?_
      refine ba_lconst V dX6_event_21 rfl ?_
      refine ba_ldc2 V dX6_event_22 kkX6_180 ?_
      obtain ⟨v765, hc, h⟩ := ba_bnd_some h
      refine ba_callSI (As := [.long (Int32.toInt64 a3), .long 0, .long 11]) (st := []) V dX6_event_25 kcX6_88 (fun l => ym_in V.inj l hc) ⟨rfl, rfl⟩ ⟨rfl, rfl, Nat.le_of_ble_eq_true rfl, Nat.le_of_ble_eq_true rfl⟩ (Nat.le_of_ble_eq_true rfl) ?_
      refine ba_if_ne V dX6_event_28 rfl h (fun h => ?_) (fun h => ?_)
      · refine ba_bipush V dX6_event_31 ba_cm2b ?_
        exact RT _ _ _ _ dX6_event_33 (Option.some.inj h)
      · refine ba_aload_n V dX6_event_34 0 rfl ?_
        refine ba_getI V dX6_event_35 kfX6_182 ba_sModel rfl ?_
        refine ba_bipush V dX6_event_38 ba_c8b ?_
        refine ba_icmp_ne V dX6_event_40 rfl h (fun h => ?_) (fun h => ?_)
        · refine ba_bipush V dX6_event_43 ba_cm4b ?_
          exact RT _ _ _ _ dX6_event_45 (Option.some.inj h)
        · refine ba_aload_n V dX6_event_46 0 rfl ?_
          refine ba_getR V dX6_event_47 kfX6_37 ba_sModel rfl ?_
          refine ba_iconst V dX6_event_50 ba_c3 ?_
          refine ba_aload_n V dX6_event_51 0 rfl ?_
          refine ba_getI V dX6_event_52 kfX6_182 ba_sModel rfl ?_
          refine ba_imul V dX6_event_55 ?_
          refine ba_iload_n V dX6_event_56 1 rfl ?_
          refine ba_iast V dX6_event_57 ba_sM_10 h (fun s766 h => ?_)
          refine ba_aload_n V dX6_event_58 0 rfl ?_
          refine ba_getR V dX6_event_59 kfX6_37 ba_sModel rfl ?_
          refine ba_iconst V dX6_event_62 ba_c3 ?_
          refine ba_aload_n V dX6_event_63 0 rfl ?_
          refine ba_getI V dX6_event_64 kfX6_182 ba_sModel rfl ?_
          refine ba_imul V dX6_event_67 ?_
          refine ba_iconst V dX6_event_68 ba_c1 ?_
          refine ba_iadd V dX6_event_69 ?_
          refine ba_iload_n V dX6_event_70 2 rfl ?_
          refine ba_iast V dX6_event_71 ba_sM_10 h (fun s767 h => ?_)
          refine ba_aload_n V dX6_event_72 0 rfl ?_
          refine ba_getR V dX6_event_73 kfX6_37 ba_sModel rfl ?_
          refine ba_iconst V dX6_event_76 ba_c3 ?_
          refine ba_aload_n V dX6_event_77 0 rfl ?_
          refine ba_getI V dX6_event_78 kfX6_182 ba_sModel rfl ?_
          refine ba_imul V dX6_event_81 ?_
          refine ba_iconst V dX6_event_82 ba_c2 ?_
          refine ba_iadd V dX6_event_83 ?_
          refine ba_iload_n V dX6_event_84 3 rfl ?_
          refine ba_iast V dX6_event_85 ba_sM_10 h (fun s768 h => ?_)
          refine ba_aload_n V dX6_event_86 0 rfl ?_
          refine ba_dup V dX6_event_87 rfl ?_
          refine ba_getI V dX6_event_88 kfX6_182 ba_sModel rfl ?_
          refine ba_iconst V dX6_event_91 ba_c1 ?_
          refine ba_iadd V dX6_event_92 ?_
          refine ba_putI V dX6_event_93 kfX6_182 ba_sModel rfl h (fun s769 h => ?_)
          refine ba_aload_n V dX6_event_96 0 rfl ?_
          refine ba_getI V dX6_event_97 kfX6_182 ba_sModel rfl ?_
          exact RT _ _ _ _ dX6_event_100 (Option.some.inj h)
def xm_back (s : ba_St) : Option (Int32 × ba_St) :=
  if (s.1 0 13) = 0 then
    some ((-3), s)
  else
    ba_lt (ba_w s 0 13 ((s.1 0 13) - 1)) fun s770 =>
    some ((s770.1 0 13), s770)
set_option maxHeartbeats 4000000 in
set_option maxRecDepth 100000 in
theorem ym_back {w : ba_W} (hj : ba_inj ba_tM w) (l : Launch) {s : ba_St} {o : Int32 × ba_St} (h : xm_back s = some o) : ba_CI ba_tM w l yX6_back cX6_back 1 (some .int) rm_m_back [.ref (w.1 0)] s o := by
  refine ba_metI (lv := [(0, .ref (w.1 0))]) l hj (by decide +kernel) ⟨Nat.le_of_ble_eq_true rfl, rfl⟩ ?_
  intro X V RT
  unfold xm_back at h
  refine ba_aload_n V dX6_back_0 0 rfl ?_
  refine ba_getI V dX6_back_1 kfX6_182 ba_sModel rfl ?_
  refine ba_if_ne V dX6_back_4 rfl h (fun h => ?_) (fun h => ?_)
  · refine ba_bipush V dX6_back_7 ba_cm3b ?_
    exact RT _ _ _ _ dX6_back_9 (Option.some.inj h)
  · refine ba_aload_n V dX6_back_10 0 rfl ?_
    refine ba_dup V dX6_back_11 rfl ?_
    refine ba_getI V dX6_back_12 kfX6_182 ba_sModel rfl ?_
    refine ba_iconst V dX6_back_15 ba_c1 ?_
    refine ba_isub V dX6_back_16 ?_
    refine ba_putI V dX6_back_17 kfX6_182 ba_sModel rfl h (fun s770 h => ?_)
    refine ba_aload_n V dX6_back_20 0 rfl ?_
    refine ba_getI V dX6_back_21 kfX6_182 ba_sModel rfl ?_
    exact RT _ _ _ _ dX6_back_24 (Option.some.inj h)
def xm_read_j105_29 (k : (ba_St × Int32 × Int32) → Option (ba_St × Int32)) (s : ba_St) (z1 : Int32) (z3 : Int32) (q0 : Int32) (q1 : Int32) : Option (ba_St × Int32) :=
  ba_lt (q1 + q0) fun x775 =>
  k (s, x775, z3)
set_option maxHeartbeats 4000000 in
set_option maxRecDepth 100000 in
theorem ym_read_j105_29 {w : ba_W} {X : ba_X} (V : ba_V ba_tM w 5 X cX6_read RX6 rm_m_read) {s : ba_St} {z1 : Int32} {z3 : Int32} {q0 : Int32} {q1 : Int32} {o : ba_St × Int32} {k : (ba_St × Int32 × Int32) → Option (ba_St × Int32)} (hk : ∀ (s : ba_St) (z2 : Int32) (z3 : Int32), k (s, z2, z3) = some o → ba_G ba_tM w 5 X s 29 [(0, .ref (w.1 0)), (1, .int z1), (2, .int z2), (3, .int z3)] []) (EX : ∀ (s : ba_St) (z2 : Int32), (s, z2) = o → ba_G ba_tM w 5 X s 110 [(2, .int z2)] []) (h : xm_read_j105_29 k s z1 z3 q0 q1 = some o) : ba_G ba_tM w 5 X s 105 [(0, .ref (w.1 0)), (1, .int z1), (3, .int z3)] [.int q0, .int q1] := by
  unfold xm_read_j105_29 at h
  refine ba_iadd V dX6_read_105 ?_
  refine ba_letI h (fun x775 h => ?_)
  refine ba_istore_n (lv' := [(2, .int x775), (0, .ref (w.1 0)), (1, .int z1), (3, .int z3)]) V dX6_read_106 (by decide) rfl ?_
  refine ba_goto V dX6_read_107 rfl ?_
  exact ba_sub [1, 2, 0, 3] rfl (hk _ _ _ h)
def xm_read_j94_29 (k : (ba_St × Int32 × Int32) → Option (ba_St × Int32)) (s : ba_St) (z1 : Int32) (z2 : Int32) (q0 : Int32) : Option (ba_St × Int32) :=
  if q0 = 0 then
    xm_read_j105_29 k s z1 q0 0 z2
  else
    xm_read_j105_29 k s z1 q0 1 z2
set_option maxHeartbeats 4000000 in
set_option maxRecDepth 100000 in
theorem ym_read_j94_29 {w : ba_W} {X : ba_X} (V : ba_V ba_tM w 5 X cX6_read RX6 rm_m_read) {s : ba_St} {z1 : Int32} {z2 : Int32} {q0 : Int32} {o : ba_St × Int32} {k : (ba_St × Int32 × Int32) → Option (ba_St × Int32)} (hk : ∀ (s : ba_St) (z2 : Int32) (z3 : Int32), k (s, z2, z3) = some o → ba_G ba_tM w 5 X s 29 [(0, .ref (w.1 0)), (1, .int z1), (2, .int z2), (3, .int z3)] []) (EX : ∀ (s : ba_St) (z2 : Int32), (s, z2) = o → ba_G ba_tM w 5 X s 110 [(2, .int z2)] []) (h : xm_read_j94_29 k s z1 z2 q0 = some o) : ba_G ba_tM w 5 X s 94 [(0, .ref (w.1 0)), (1, .int z1), (2, .int z2)] [.int q0] := by
  unfold xm_read_j94_29 at h
  refine ba_istore_n (lv' := [(3, .int q0), (0, .ref (w.1 0)), (1, .int z1), (2, .int z2)]) V dX6_read_94 (by decide) rfl ?_
  refine ba_iload_n V dX6_read_95 3 rfl ?_
  refine ba_iload_n V dX6_read_96 0 rfl ?_
  refine ba_if_eq V dX6_read_97 rfl h (fun h => ?_) (fun h => ?_)
  · refine ba_iconst V dX6_read_104 ba_c0 ?_
    exact ba_sub [1, 2, 0] rfl (ym_read_j105_29 V hk EX h)
  · refine ba_iconst V dX6_read_100 ba_c1 ?_
    refine ba_goto V dX6_read_101 rfl ?_
    exact ba_sub [1, 2, 0] rfl (ym_read_j105_29 V hk EX h)
def xm_read_l29 (z1 : Int32) (k : (ba_St × Int32 × Int32) → Option (ba_St × Int32)) (a : (ba_St × Int32 × Int32)) : Option (ba_St × Int32) :=
  match a with
  | (s, z2, z3) =>
    if z3 = 0 then
      some (s, z2)
    else
      ba_grd (ba_inb z1 4) <|
      if (s.1 2 (ba_ix z1)) < ((3 * z2) + 3) then
        some (s, z2)
      else
        ba_lt ((60 * z1) + (3 * z2)) fun x772 =>
        ba_grd (ba_inb x772 240) <|
        ba_grd (ba_inb (x772 + 1) 240) <|
        ba_grd (ba_inb (x772 + 2) 240) <|
        ba_bn2 (xm_event s (s.1 3 (ba_ix x772)) (s.1 3 (ba_ix (x772 + 1))) (s.1 3 (ba_ix (x772 + 2)))) fun v773 s774 =>
        if v773 < 0 then
          xm_read_j94_29 k s774 z1 z2 0
        else
          xm_read_j94_29 k s774 z1 z2 1
set_option maxHeartbeats 4000000 in
set_option maxRecDepth 100000 in
theorem ym_read_l29 {w : ba_W} {X : ba_X} (V : ba_V ba_tM w 5 X cX6_read RX6 rm_m_read) {z1 : Int32} {o : ba_St × Int32} (EX : ∀ (s : ba_St) (z2 : Int32), (s, z2) = o → ba_G ba_tM w 5 X s 110 [(2, .int z2)] []) : ∀ (n : Nat) (s : ba_St) (z2 : Int32) (z3 : Int32), ba_fix (xm_read_l29 z1) n (s, z2, z3) = some o → ba_G ba_tM w 5 X s 29 [(0, .ref (w.1 0)), (1, .int z1), (2, .int z2), (3, .int z3)] [] := by
  intro n s z2 z3 h
  refine ba_loop (P := fun a => ba_G ba_tM w 5 X a.1 29 [(0, .ref (w.1 0)), (1, .int z1), (2, .int a.2.1), (3, .int a.2.2)] []) ?_ n (s, z2, z3) h
  intro k hk0 a h
  obtain ⟨s, z2, z3⟩ := a
  have hk : ∀ (s : ba_St) (z2 : Int32) (z3 : Int32), k (s, z2, z3) = some o → ba_G ba_tM w 5 X s 29 [(0, .ref (w.1 0)), (1, .int z1), (2, .int z2), (3, .int z3)] [] := fun s z2 z3 e => hk0 (s, z2, z3) e
  unfold xm_read_l29 at h
  try dsimp only at h ⊢
  refine ba_iload_n V dX6_read_29 3 rfl ?_
  refine ba_if_eq V dX6_read_30 rfl h (fun h => ?_) (fun h => ?_)
  · exact ba_sub [2] rfl (EX _ _ (Option.some.inj h))
  · refine ba_iconst V dX6_read_33 ba_c3 ?_
    refine ba_iload_n V dX6_read_34 2 rfl ?_
    refine ba_imul V dX6_read_35 ?_
    refine ba_iconst V dX6_read_36 ba_c3 ?_
    refine ba_iadd V dX6_read_37 ?_
    refine ba_aload_n V dX6_read_38 0 rfl ?_
    refine ba_getR V dX6_read_39 kfX6_13 ba_sModel rfl ?_
    refine ba_iload_n V dX6_read_42 1 rfl ?_
    refine ba_iald V dX6_read_43 ba_sM_2 h (fun h => ?_)
    refine ba_icmp_gt V dX6_read_44 rfl h (fun h => ?_) (fun h => ?_)
    · exact ba_sub [2] rfl (EX _ _ (Option.some.inj h))
    · refine ba_bipush V dX6_read_47 ba_c60b ?_
      refine ba_iload_n V dX6_read_49 1 rfl ?_
      refine ba_imul V dX6_read_50 ?_
      refine ba_iconst V dX6_read_51 ba_c3 ?_
      refine ba_iload_n V dX6_read_52 2 rfl ?_
      refine ba_imul V dX6_read_53 ?_
      refine ba_iadd V dX6_read_54 ?_
      refine ba_letI h (fun x772 h => ?_)
      refine ba_istore (lv' := [(4, .int x772), (0, .ref (w.1 0)), (1, .int z1), (2, .int z2), (3, .int z3)]) V dX6_read_55 (by decide) rfl ?_
      refine ba_aload_n V dX6_read_57 1 rfl ?_
      refine ba_aload_n V dX6_read_58 1 rfl ?_
      refine ba_getR V dX6_read_59 kfX6_16 ba_sModel rfl ?_
      refine ba_iload V dX6_read_62 0 rfl ?_
      refine ba_iald V dX6_read_64 ba_sM_3 h (fun h => ?_)
      refine ba_aload_n V dX6_read_65 1 rfl ?_
      refine ba_getR V dX6_read_66 kfX6_16 ba_sModel rfl ?_
      refine ba_iload V dX6_read_69 0 rfl ?_
      refine ba_iconst V dX6_read_71 ba_c1 ?_
      refine ba_iadd V dX6_read_72 ?_
      refine ba_iald V dX6_read_73 ba_sM_3 h (fun h => ?_)
      refine ba_aload_n V dX6_read_74 1 rfl ?_
      refine ba_getR V dX6_read_75 kfX6_16 ba_sModel rfl ?_
      refine ba_iload V dX6_read_78 0 rfl ?_
      refine ba_iconst V dX6_read_80 ba_c2 ?_
      refine ba_iadd V dX6_read_81 ?_
      refine ba_iald V dX6_read_82 ba_sM_3 h (fun h => ?_)
      obtain ⟨v773, s774, hc, h⟩ := ba_bn2_some h
      refine ba_callVI (As := [.int (s.1 3 (ba_ix x772)), .int (s.1 3 (ba_ix (x772 + 1))), .int (s.1 3 (ba_ix (x772 + 2)))]) (st := []) V dX6_read_83 kcX6_185 ba_sModel (fun l => ym_event V.inj l hc) ⟨rfl, rfl⟩ ⟨rfl, rfl, Nat.le_of_ble_eq_true rfl, Nat.le_of_ble_eq_true rfl⟩ (Nat.le_of_ble_eq_true rfl) ?_
      refine ba_if_lt V dX6_read_86 rfl h (fun h => ?_) (fun h => ?_)
      · refine ba_iconst V dX6_read_93 ba_c0 ?_
        exact ba_sub [1, 2, 3] rfl (ym_read_j94_29 V hk EX h)
      · refine ba_iconst V dX6_read_89 ba_c1 ?_
        refine ba_goto V dX6_read_90 rfl ?_
        exact ba_sub [1, 2, 3] rfl (ym_read_j94_29 V hk EX h)
def xm_read (s : ba_St) (a1 : Int32) : Option (Int32 × ba_St) :=
  ba_bnd (xm_isSheet a1) fun v771 =>
  if v771 = 0 then
    some ((-2), s)
  else
    ba_grd (ba_inb a1 4) <|
    if 0 ≤ (s.1 1 (ba_ix a1)) then
      ba_bnd (ba_fix (xm_read_l29 a1) 1000 (s, 0, 1)) fun o => match o with
      | (s776, x777) =>
        some (x777, s776)
    else
      ba_bn2 (xm_finds s 1) fun v778 s779 =>
      some (v778, s779)
set_option maxHeartbeats 4000000 in
set_option maxRecDepth 100000 in
theorem ym_read {w : ba_W} (hj : ba_inj ba_tM w) (l : Launch) {s : ba_St} {a1 : Int32} {o : Int32 × ba_St} (h : xm_read s a1 = some o) : ba_CI ba_tM w l yX6_read cX6_read 5 (some .int) rm_m_read [.ref (w.1 0), .int a1] s o := by
  refine ba_metI (lv := [(0, .ref (w.1 0)), (1, .int a1)]) l hj (by decide +kernel) ⟨Nat.le_of_ble_eq_true rfl, rfl⟩ ?_
  intro X V RT
  unfold xm_read at h
  refine ba_iload_n V dX6_read_0 1 rfl ?_
  obtain ⟨v771, hc, h⟩ := ba_bnd_some h
  refine ba_callSI (As := [.int a1]) (st := []) V dX6_read_1 kcX6_97 (fun l => ym_isSheet V.inj l hc) ⟨rfl, rfl⟩ ⟨rfl, rfl, Nat.le_of_ble_eq_true rfl, Nat.le_of_ble_eq_true rfl⟩ (Nat.le_of_ble_eq_true rfl) ?_
  refine ba_if_ne V dX6_read_4 rfl h (fun h => ?_) (fun h => ?_)
  · refine ba_bipush V dX6_read_7 ba_cm2b ?_
    exact RT _ _ _ _ dX6_read_9 (Option.some.inj h)
  · refine ba_aload_n V dX6_read_10 0 rfl ?_
    refine ba_getR V dX6_read_11 kfX6_7 ba_sModel rfl ?_
    refine ba_iload_n V dX6_read_14 1 rfl ?_
    refine ba_iald V dX6_read_15 ba_sM_1 h (fun h => ?_)
    refine ba_if_ge V dX6_read_16 rfl h (fun h => ?_) (fun h => ?_)
    · refine ba_iconst V dX6_read_25 ba_c0 ?_
      refine ba_istore_n (lv' := [(2, .int 0), (0, .ref (w.1 0)), (1, .int a1)]) V dX6_read_26 (by decide) rfl ?_
      refine ba_iconst V dX6_read_27 ba_c1 ?_
      refine ba_istore_n (lv' := [(3, .int 1), (2, .int 0), (0, .ref (w.1 0)), (1, .int a1)]) V dX6_read_28 (by decide) rfl ?_
      obtain ⟨o, ho, h⟩ := ba_bnd_some h
      refine ba_sub [2, 3, 1, 0] rfl (ym_read_l29 V (o := o) (fun s776 x777 e => ?_) 1000 s 0 1 ho)
      subst e
      try dsimp only at h
      refine ba_iload_n V dX6_read_110 0 rfl ?_
      exact RT _ _ _ _ dX6_read_111 (Option.some.inj h)
    · refine ba_aload_n V dX6_read_19 0 rfl ?_
      refine ba_iconst V dX6_read_20 ba_c1 ?_
      obtain ⟨v778, s779, hc, h⟩ := ba_bn2_some h
      refine ba_callVI (As := [.int 1]) (st := []) V dX6_read_21 kcX6_103 ba_sModel (fun l => ym_finds V.inj l hc) ⟨rfl, rfl⟩ ⟨rfl, rfl, Nat.le_of_ble_eq_true rfl, Nat.le_of_ble_eq_true rfl⟩ (Nat.le_of_ble_eq_true rfl) ?_
      exact RT _ _ _ _ dX6_read_24 (Option.some.inj h)
def xm_whoAt_j41_5 (k : (Int32 × Int32) → Option (Int32)) (s : ba_St) (z1 : Int32) (z2 : Int32) (z3 : Int32) (z4 : Int32) : Option (Int32) :=
  ba_lt (z4 + 1) fun x781 =>
  k (z3, x781)
set_option maxHeartbeats 4000000 in
set_option maxRecDepth 100000 in
theorem ym_whoAt_j41_5 {w : ba_W} {X : ba_X} (V : ba_V ba_tM w 5 X cX6_whoAt RX6 rm_m_whoAt) {s : ba_St} {z1 : Int32} {z2 : Int32} {z3 : Int32} {z4 : Int32} {o : Int32} {k : (Int32 × Int32) → Option (Int32)} (hk : ∀ (z3 : Int32) (z4 : Int32), k (z3, z4) = some o → ba_G ba_tM w 5 X s 5 [(0, .ref (w.1 0)), (1, .int z1), (2, .int z2), (3, .int z3), (4, .int z4)] []) (EX : ∀ (z3 : Int32), z3 = o → ba_G ba_tM w 5 X s 49 [(3, .int z3)] []) (h : xm_whoAt_j41_5 k s z1 z2 z3 z4 = some o) : ba_G ba_tM w 5 X s 41 [(0, .ref (w.1 0)), (1, .int z1), (2, .int z2), (3, .int z3), (4, .int z4)] [] := by
  unfold xm_whoAt_j41_5 at h
  refine ba_iload_n V dX6_whoAt_41 3 rfl ?_
  refine ba_istore_n (lv' := [(3, .int z3), (0, .ref (w.1 0)), (1, .int z1), (2, .int z2), (4, .int z4)]) V dX6_whoAt_42 (by decide) rfl ?_
  refine ba_iinc V dX6_whoAt_43 4 rfl ba_c1 (by decide) h (fun x781 h => ⟨[(4, .int x781), (3, .int z3), (0, .ref (w.1 0)), (1, .int z1), (2, .int z2)], rfl, ?_⟩)
  refine ba_goto V dX6_whoAt_46 rfl ?_
  exact ba_sub [2, 3, 4, 1, 0] rfl (hk _ _ h)
def xm_whoAt_l5 (s : ba_St) (z1 : Int32) (z2 : Int32) (k : (Int32 × Int32) → Option (Int32)) (a : (Int32 × Int32)) : Option (Int32) :=
  match a with
  | (z3, z4) =>
    if (s.1 0 10) ≤ z4 then
      some z3
    else
      ba_grd (ba_inb z4 12) <|
      if (s.1 11 (ba_ix z4)) = z1 then
        ba_grd (ba_inb z4 12) <|
        if (s.1 12 (ba_ix z4)) = z2 then
          ba_lt (z4 + 1) fun x780 =>
          k (z4, x780)
        else
          xm_whoAt_j41_5 k s z1 z2 z3 z4
      else
        xm_whoAt_j41_5 k s z1 z2 z3 z4
set_option maxHeartbeats 4000000 in
set_option maxRecDepth 100000 in
theorem ym_whoAt_l5 {w : ba_W} {X : ba_X} (V : ba_V ba_tM w 5 X cX6_whoAt RX6 rm_m_whoAt) {s : ba_St} {z1 : Int32} {z2 : Int32} {o : Int32} (EX : ∀ (z3 : Int32), z3 = o → ba_G ba_tM w 5 X s 49 [(3, .int z3)] []) : ∀ (n : Nat) (z3 : Int32) (z4 : Int32), ba_fix (xm_whoAt_l5 s z1 z2) n (z3, z4) = some o → ba_G ba_tM w 5 X s 5 [(0, .ref (w.1 0)), (1, .int z1), (2, .int z2), (3, .int z3), (4, .int z4)] [] := by
  intro n z3 z4 h
  refine ba_loop (P := fun a => ba_G ba_tM w 5 X s 5 [(0, .ref (w.1 0)), (1, .int z1), (2, .int z2), (3, .int a.1), (4, .int a.2)] []) ?_ n (z3, z4) h
  intro k hk0 a h
  obtain ⟨z3, z4⟩ := a
  have hk : ∀ (z3 : Int32) (z4 : Int32), k (z3, z4) = some o → ba_G ba_tM w 5 X s 5 [(0, .ref (w.1 0)), (1, .int z1), (2, .int z2), (3, .int z3), (4, .int z4)] [] := fun z3 z4 e => hk0 (z3, z4) e
  unfold xm_whoAt_l5 at h
  try dsimp only at h ⊢
  refine ba_iload V dX6_whoAt_5 4 rfl ?_
  refine ba_aload_n V dX6_whoAt_7 0 rfl ?_
  refine ba_getI V dX6_whoAt_8 kfX6_143 ba_sModel rfl ?_
  refine ba_icmp_ge V dX6_whoAt_11 rfl h (fun h => ?_) (fun h => ?_)
  · exact ba_sub [3] rfl (EX _ (Option.some.inj h))
  · refine ba_aload_n V dX6_whoAt_14 0 rfl ?_
    refine ba_getR V dX6_whoAt_15 kfX6_40 ba_sModel rfl ?_
    refine ba_iload V dX6_whoAt_18 4 rfl ?_
    refine ba_iald V dX6_whoAt_20 ba_sM_11 h (fun h => ?_)
    refine ba_iload_n V dX6_whoAt_21 1 rfl ?_
    refine ba_icmp_ne V dX6_whoAt_22 rfl h (fun h => ?_) (fun h => ?_)
    · refine ba_aload_n V dX6_whoAt_25 0 rfl ?_
      refine ba_getR V dX6_whoAt_26 kfX6_43 ba_sModel rfl ?_
      refine ba_iload V dX6_whoAt_29 4 rfl ?_
      refine ba_iald V dX6_whoAt_31 ba_sM_12 h (fun h => ?_)
      refine ba_iload_n V dX6_whoAt_32 2 rfl ?_
      refine ba_icmp_ne V dX6_whoAt_33 rfl h (fun h => ?_) (fun h => ?_)
      · refine ba_iload V dX6_whoAt_36 4 rfl ?_
        refine ba_goto V dX6_whoAt_38 rfl ?_
        refine ba_istore_n (lv' := [(3, .int z4), (0, .ref (w.1 0)), (1, .int z1), (2, .int z2), (4, .int z4)]) V dX6_whoAt_42 (by decide) rfl ?_
        refine ba_iinc V dX6_whoAt_43 4 rfl ba_c1 (by decide) h (fun x780 h => ⟨[(4, .int x780), (3, .int z4), (0, .ref (w.1 0)), (1, .int z1), (2, .int z2)], rfl, ?_⟩)
        refine ba_goto V dX6_whoAt_46 rfl ?_
        exact ba_sub [2, 3, 4, 1, 0] rfl (hk _ _ h)
      · exact ba_sub [0, 1, 2, 3, 4] rfl (ym_whoAt_j41_5 V hk EX h)
    · exact ba_sub [0, 1, 2, 3, 4] rfl (ym_whoAt_j41_5 V hk EX h)
def xm_whoAt (s : ba_St) (a1 : Int32) (a2 : Int32) : Option (Int32) :=
  ba_bnd (ba_fix (xm_whoAt_l5 s a1 a2) 1000 ((-1), 0)) fun x782 =>
    some x782
set_option maxHeartbeats 4000000 in
set_option maxRecDepth 100000 in
theorem ym_whoAt {w : ba_W} (hj : ba_inj ba_tM w) (l : Launch) {s : ba_St} {a1 : Int32} {a2 : Int32} {o : Int32} (h : xm_whoAt s a1 a2 = some o) : ba_CI ba_tM w l yX6_whoAt cX6_whoAt 5 (some .int) rm_m_whoAt [.ref (w.1 0), .int a1, .int a2] s (o, s) := by
  refine ba_metI (lv := [(0, .ref (w.1 0)), (1, .int a1), (2, .int a2)]) l hj (by decide +kernel) ⟨Nat.le_of_ble_eq_true rfl, rfl⟩ ?_
  intro X V RT
  replace RT := fun pc lv v D e => RT pc lv v s D (congrArg (fun q => (q, s)) e)
  unfold xm_whoAt at h
  refine ba_iconst V dX6_whoAt_0 ba_cm1 ?_
  refine ba_istore_n (lv' := [(3, .int (-1)), (0, .ref (w.1 0)), (1, .int a1), (2, .int a2)]) V dX6_whoAt_1 (by decide) rfl ?_
  refine ba_iconst V dX6_whoAt_2 ba_c0 ?_
  refine ba_istore (lv' := [(4, .int 0), (3, .int (-1)), (0, .ref (w.1 0)), (1, .int a1), (2, .int a2)]) V dX6_whoAt_3 (by decide) rfl ?_
  obtain ⟨o, ho, h⟩ := ba_bnd_some h
  refine ba_sub [2, 3, 4, 1, 0] rfl (ym_whoAt_l5 V (o := o) (fun x782 e => ?_) 1000 (-1) 0 ho)
  subst e
  try dsimp only at h
  refine ba_iload_n V dX6_whoAt_49 0 rfl ?_
  exact RT _ _ _ dX6_whoAt_50 (Option.some.inj h)
