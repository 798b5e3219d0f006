def xm_tilts_l24 (z1 : Int32) (z2 : Int32) (z3 : Int32) (k : (ba_St × Int32) → Option (ba_St)) (a : (ba_St × Int32)) : Option (ba_St) :=
  match a with
  | (s, z4) =>
    if 8 ≤ z4 then
      some s
    else
      ba_bnd (xm_whoAt s z4 z3) fun v783 =>
      if v783 = (-1) then
        ba_lt (z4 + 1) fun x784 =>
        k (s, x784)
      else
        ba_bnd (xm_isColumn (z3 + z1)) fun v785 =>
        if v785 = 0 then
          ba_lt (z4 + 1) fun x786 =>
          k (s, x786)
        else
          ba_bnd (xm_whoAt s z4 (z3 + z1)) fun v787 =>
          if v787 = (-1) then
            ba_grd (ba_inb v783 12) <|
            ba_grd (ba_inb v783 12) <|
            ba_lt (ba_w s 12 (ba_ix v783) ((s.1 12 (ba_ix v783)) + z1)) fun s788 =>
            ba_lt (z4 + 1) fun x789 =>
            k (s788, x789)
          else
            ba_lt (z4 + 1) fun x790 =>
            k (s, x790)
set_option maxHeartbeats 4000000 in
set_option maxRecDepth 100000 in
theorem ym_tilts_l24 {w : ba_W} {X : ba_X} (V : ba_V ba_tM w 6 X cX6_tilts RX6 rm_m_tilts) {z1 : Int32} {z2 : Int32} {z3 : Int32} {o : ba_St} (EX : ∀ (s : ba_St) , s = o → ba_G ba_tM w 6 X s 85 [(0, .ref (w.1 0)), (1, .int z1), (2, .int z2)] []) : ∀ (n : Nat) (s : ba_St) (z4 : Int32), ba_fix (xm_tilts_l24 z1 z2 z3) n (s, z4) = some o → ba_G ba_tM w 6 X s 24 [(0, .ref (w.1 0)), (1, .int z1), (2, .int z2), (3, .int z3), (4, .int z4)] [] := by
  intro n s z4 h
  refine ba_loop (P := fun a => ba_G ba_tM w 6 X a.1 24 [(0, .ref (w.1 0)), (1, .int z1), (2, .int z2), (3, .int z3), (4, .int a.2)] []) ?_ n (s, z4) h
  intro k hk0 a h
  obtain ⟨s, z4⟩ := a
  have hk : ∀ (s : ba_St) (z4 : Int32), k (s, z4) = some o → ba_G ba_tM w 6 X s 24 [(0, .ref (w.1 0)), (1, .int z1), (2, .int z2), (3, .int z3), (4, .int z4)] [] := fun s z4 e => hk0 (s, z4) e
  unfold xm_tilts_l24 at h
  try dsimp only at h ⊢
  refine ba_iload V dX6_tilts_24 4 rfl ?_
  refine ba_bipush V dX6_tilts_26 ba_c8b ?_
  refine ba_icmp_ge V dX6_tilts_28 rfl h (fun h => ?_) (fun h => ?_)
  · exact ba_sub [0, 1, 2] rfl (EX _ (Option.some.inj h))
  · refine ba_aload_n V dX6_tilts_31 0 rfl ?_
    refine ba_iload V dX6_tilts_32 4 rfl ?_
    refine ba_iload_n V dX6_tilts_34 3 rfl ?_
    obtain ⟨v783, hc, h⟩ := ba_bnd_some h
    refine ba_callVI (As := [.int z4, .int z3]) (st := []) V dX6_tilts_35 kcX6_187 ba_sModel (fun l => ym_whoAt V.inj l hc) ⟨rfl, rfl⟩ ⟨rfl, rfl, Nat.le_of_ble_eq_true rfl, Nat.le_of_ble_eq_true rfl⟩ (Nat.le_of_ble_eq_true rfl) ?_
    refine ba_istore (lv' := [(5, .int v783), (0, .ref (w.1 0)), (1, .int z1), (2, .int z2), (3, .int z3), (4, .int z4)]) V dX6_tilts_38 (by decide) rfl ?_
    refine ba_iload V dX6_tilts_40 0 rfl ?_
    refine ba_iconst V dX6_tilts_42 ba_cm1 ?_
    refine ba_icmp_eq V dX6_tilts_43 rfl h (fun h => ?_) (fun h => ?_)
    · refine ba_iinc V dX6_tilts_79 5 rfl ba_c1 (by decide) h (fun x784 h => ⟨[(4, .int x784), (5, .int v783), (0, .ref (w.1 0)), (1, .int z1), (2, .int z2), (3, .int z3)], rfl, ?_⟩)
      refine ba_goto V dX6_tilts_82 rfl ?_
      exact ba_sub [2, 3, 4, 5, 0] rfl (hk _ _ h)
    · refine ba_iload_n V dX6_tilts_46 4 rfl ?_
      refine ba_iload_n V dX6_tilts_47 2 rfl ?_
      refine ba_iadd V dX6_tilts_48 ?_
      obtain ⟨v785, hc, h⟩ := ba_bnd_some h
      refine ba_callSI (As := [.int (z3 + z1)]) (st := []) V dX6_tilts_49 kcX6_190 (fun l => ym_isColumn V.inj l hc) ⟨rfl, rfl⟩ ⟨rfl, rfl, Nat.le_of_ble_eq_true rfl, Nat.le_of_ble_eq_true rfl⟩ (Nat.le_of_ble_eq_true rfl) ?_
      refine ba_if_eq V dX6_tilts_52 rfl h (fun h => ?_) (fun h => ?_)
      · refine ba_iinc V dX6_tilts_79 5 rfl ba_c1 (by decide) h (fun x786 h => ⟨[(4, .int x786), (5, .int v783), (0, .ref (w.1 0)), (1, .int z1), (2, .int z2), (3, .int z3)], rfl, ?_⟩)
        refine ba_goto V dX6_tilts_82 rfl ?_
        exact ba_sub [2, 3, 4, 5, 0] rfl (hk _ _ h)
      · refine ba_aload_n V dX6_tilts_55 1 rfl ?_
        refine ba_iload V dX6_tilts_56 5 rfl ?_
        refine ba_iload_n V dX6_tilts_58 4 rfl ?_
        refine ba_iload_n V dX6_tilts_59 2 rfl ?_
        refine ba_iadd V dX6_tilts_60 ?_
        obtain ⟨v787, hc, h⟩ := ba_bnd_some h
        refine ba_callVI (As := [.int z4, .int (z3 + z1)]) (st := []) V dX6_tilts_61 kcX6_187 ba_sModel (fun l => ym_whoAt V.inj l hc) ⟨rfl, rfl⟩ ⟨rfl, rfl, Nat.le_of_ble_eq_true rfl, Nat.le_of_ble_eq_true rfl⟩ (Nat.le_of_ble_eq_true rfl) ?_
        refine ba_iconst V dX6_tilts_64 ba_cm1 ?_
        refine ba_icmp_ne V dX6_tilts_65 rfl h (fun h => ?_) (fun h => ?_)
        · refine ba_aload_n V dX6_tilts_68 1 rfl ?_
          refine ba_getR V dX6_tilts_69 kfX6_43 ba_sModel rfl ?_
          refine ba_iload V dX6_tilts_72 0 rfl ?_
          refine ba_dup2 V dX6_tilts_74 rfl rfl ?_
          refine ba_iald V dX6_tilts_75 ba_sM_12 h (fun h => ?_)
          refine ba_iload_n V dX6_tilts_76 2 rfl ?_
          refine ba_iadd V dX6_tilts_77 ?_
          refine ba_iast V dX6_tilts_78 ba_sM_12 h (fun s788 h => ?_)
          refine ba_iinc V dX6_tilts_79 5 rfl ba_c1 (by decide) h (fun x789 h => ⟨[(4, .int x789), (5, .int v783), (0, .ref (w.1 0)), (1, .int z1), (2, .int z2), (3, .int z3)], rfl, ?_⟩)
          refine ba_goto V dX6_tilts_82 rfl ?_
          exact ba_sub [2, 3, 4, 5, 0] rfl (hk _ _ h)
        · refine ba_iinc V dX6_tilts_79 5 rfl ba_c1 (by decide) h (fun x790 h => ⟨[(4, .int x790), (5, .int v783), (0, .ref (w.1 0)), (1, .int z1), (2, .int z2), (3, .int z3)], rfl, ?_⟩)
          refine ba_goto V dX6_tilts_82 rfl ?_
          exact ba_sub [2, 3, 4, 5, 0] rfl (hk _ _ h)
def xm_tilts_j20_2 (k : (ba_St × Int32) → Option (ba_St)) (s : ba_St) (z1 : Int32) (z2 : Int32) (q0 : Int32) : Option (ba_St) :=
  ba_bnd (ba_fix (xm_tilts_l24 z1 z2 q0) 1000 (s, 0)) fun s791 =>
    ba_lt (z2 + 1) fun x792 =>
    k (s791, x792)
set_option maxHeartbeats 4000000 in
set_option maxRecDepth 100000 in
theorem ym_tilts_j20_2 {w : ba_W} {X : ba_X} (V : ba_V ba_tM w 6 X cX6_tilts RX6 rm_m_tilts) {s : ba_St} {z1 : Int32} {z2 : Int32} {q0 : Int32} {o : ba_St} {k : (ba_St × Int32) → Option (ba_St)} (hk : ∀ (s : ba_St) (z2 : Int32), k (s, z2) = some o → ba_G ba_tM w 6 X s 2 [(0, .ref (w.1 0)), (1, .int z1), (2, .int z2)] []) (EX : ∀ (s : ba_St) , s = o → ba_G ba_tM w 6 X s 91 [] []) (h : xm_tilts_j20_2 k s z1 z2 q0 = some o) : ba_G ba_tM w 6 X s 20 [(0, .ref (w.1 0)), (1, .int z1), (2, .int z2)] [.int q0] := by
  unfold xm_tilts_j20_2 at h
  refine ba_istore_n (lv' := [(3, .int q0), (0, .ref (w.1 0)), (1, .int z1), (2, .int z2)]) V dX6_tilts_20 (by decide) rfl ?_
  refine ba_iconst V dX6_tilts_21 ba_c0 ?_
  refine ba_istore (lv' := [(4, .int 0), (3, .int q0), (0, .ref (w.1 0)), (1, .int z1), (2, .int z2)]) V dX6_tilts_22 (by decide) rfl ?_
  obtain ⟨o, ho, h⟩ := ba_bnd_some h
  refine ba_sub [2, 3, 4, 1, 0] rfl (ym_tilts_l24 V (o := o) (fun s791 e => ?_) 1000 s 0 ho)
  subst e
  try dsimp only at h
  refine ba_iinc V dX6_tilts_85 2 rfl ba_c1 (by decide) h (fun x792 h => ⟨[(2, .int x792), (0, .ref (w.1 0)), (1, .int z1)], rfl, ?_⟩)
  refine ba_goto V dX6_tilts_88 rfl ?_
  exact ba_sub [1, 2, 0] rfl (hk _ _ h)
def xm_tilts_l2 (z1 : Int32) (k : (ba_St × Int32) → Option (ba_St)) (a : (ba_St × Int32)) : Option (ba_St) :=
  match a with
  | (s, z2) =>
    if 9 ≤ z2 then
      some s
    else
      if z1 ≤ 0 then
        xm_tilts_j20_2 k s z1 z2 z2
      else
        xm_tilts_j20_2 k s z1 z2 (8 - z2)
set_option maxHeartbeats 4000000 in
set_option maxRecDepth 100000 in
theorem ym_tilts_l2 {w : ba_W} {X : ba_X} (V : ba_V ba_tM w 6 X cX6_tilts RX6 rm_m_tilts) {z1 : Int32} {o : ba_St} (EX : ∀ (s : ba_St) , s = o → ba_G ba_tM w 6 X s 91 [] []) : ∀ (n : Nat) (s : ba_St) (z2 : Int32), ba_fix (xm_tilts_l2 z1) n (s, z2) = some o → ba_G ba_tM w 6 X s 2 [(0, .ref (w.1 0)), (1, .int z1), (2, .int z2)] [] := by
  intro n s z2 h
  refine ba_loop (P := fun a => ba_G ba_tM w 6 X a.1 2 [(0, .ref (w.1 0)), (1, .int z1), (2, .int a.2)] []) ?_ n (s, z2) h
  intro k hk0 a h
  obtain ⟨s, z2⟩ := a
  have hk : ∀ (s : ba_St) (z2 : Int32), k (s, z2) = some o → ba_G ba_tM w 6 X s 2 [(0, .ref (w.1 0)), (1, .int z1), (2, .int z2)] [] := fun s z2 e => hk0 (s, z2) e
  unfold xm_tilts_l2 at h
  try dsimp only at h ⊢
  refine ba_iload_n V dX6_tilts_2 2 rfl ?_
  refine ba_bipush V dX6_tilts_3 ba_c9b ?_
  refine ba_icmp_ge V dX6_tilts_5 rfl h (fun h => ?_) (fun h => ?_)
  · exact ba_sub [] rfl (EX _ (Option.some.inj h))
  · refine ba_iload_n V dX6_tilts_8 1 rfl ?_
    refine ba_if_le V dX6_tilts_9 rfl h (fun h => ?_) (fun h => ?_)
    · refine ba_iload_n V dX6_tilts_19 2 rfl ?_
      exact ba_sub [0, 1, 2] rfl (ym_tilts_j20_2 V hk EX h)
    · refine ba_bipush V dX6_tilts_12 ba_c8b ?_
      refine ba_iload_n V dX6_tilts_14 2 rfl ?_
      refine ba_isub V dX6_tilts_15 ?_
      refine ba_goto V dX6_tilts_16 rfl ?_
      exact ba_sub [0, 1, 2] rfl (ym_tilts_j20_2 V hk EX h)
def xm_tilts (s : ba_St) (a1 : Int32) : Option (ba_St) :=
  ba_bnd (ba_fix (xm_tilts_l2 a1) 1000 (s, 0)) fun s793 =>
    some s793
set_option maxHeartbeats 4000000 in
set_option maxRecDepth 100000 in
theorem ym_tilts {w : ba_W} (hj : ba_inj ba_tM w) (l : Launch) {s : ba_St} {a1 : Int32} {o : ba_St} (h : xm_tilts s a1 = some o) : ba_CV ba_tM w l yX6_tilts cX6_tilts 6 none rm_m_tilts [.ref (w.1 0), .int a1] s o := by
  refine ba_metV (lv := [(0, .ref (w.1 0)), (1, .int a1)]) l hj (by decide +kernel) ⟨Nat.le_of_ble_eq_true rfl, rfl⟩ ?_
  intro X V RT
  unfold xm_tilts at h
  refine ba_iconst V dX6_tilts_0 ba_c0 ?_
  refine ba_istore_n (lv' := [(2, .int 0), (0, .ref (w.1 0)), (1, .int a1)]) V dX6_tilts_1 (by decide) rfl ?_
  obtain ⟨o, ho, h⟩ := ba_bnd_some h
  refine ba_sub [1, 2, 0] rfl (ym_tilts_l2 V (o := o) (fun s793 e => ?_) 1000 s 0 ho)
  subst e
  try dsimp only at h
  exact RT _ _ _ dX6_tilts_91 (Option.some.inj h)
def xm_knocks_j73 (s : ba_St) (q0 : Int32) (q1 : Int32) : Option (ba_St) :=
  ba_grd (ba_inb q1 12) <|
  ba_lt (ba_w s 17 (ba_ix q1) q0) fun s796 =>
  some s796
set_option maxHeartbeats 4000000 in
set_option maxRecDepth 100000 in
theorem ym_knocks_j73 {w : ba_W} {X : ba_X} (V : ba_V ba_tM w 2 X cX6_knocks RX6 rm_m_knocks) {s : ba_St} {q0 : Int32} {q1 : Int32} {o : ba_St} (RT : ∀ (pc : Nat) (lv : List (Nat × Value)) (s : ba_St), decode cX6_knocks pc = .ok (.return_, 1) → s = o → ba_G ba_tM w 2 X s pc lv []) (h : xm_knocks_j73 s q0 q1 = some o) : ba_G ba_tM w 2 X s 73 [] [.int q0, .int q1, .ref (w.1 17)] := by
  unfold xm_knocks_j73 at h
  refine ba_iast V dX6_knocks_73 ba_sM_17 h (fun s796 h => ?_)
  exact RT _ _ _ dX6_knocks_74 (Option.some.inj h)
def xm_knocks_j40 (s : ba_St) (z1 : Int32) (q0 : Int32) (q1 : Int32) : Option (ba_St) :=
  ba_grd (ba_inb q1 12) <|
  ba_lt (ba_w s 16 (ba_ix q1) q0) fun s795 =>
  ba_grd (ba_inb z1 12) <|
  if (s795.1 16 (ba_ix z1)) = 2 then
    ba_grd (ba_inb z1 12) <|
    xm_knocks_j73 s795 (1 - (s795.1 17 (ba_ix z1))) z1
  else
    ba_grd (ba_inb z1 12) <|
    xm_knocks_j73 s795 (s795.1 17 (ba_ix z1)) z1
set_option maxHeartbeats 4000000 in
set_option maxRecDepth 100000 in
theorem ym_knocks_j40 {w : ba_W} {X : ba_X} (V : ba_V ba_tM w 2 X cX6_knocks RX6 rm_m_knocks) {s : ba_St} {z1 : Int32} {q0 : Int32} {q1 : Int32} {o : ba_St} (RT : ∀ (pc : Nat) (lv : List (Nat × Value)) (s : ba_St), decode cX6_knocks pc = .ok (.return_, 1) → s = o → ba_G ba_tM w 2 X s pc lv []) (h : xm_knocks_j40 s z1 q0 q1 = some o) : ba_G ba_tM w 2 X s 40 [(0, .ref (w.1 0)), (1, .int z1)] [.int q0, .int q1, .ref (w.1 16)] := by
  unfold xm_knocks_j40 at h
  refine ba_iast V dX6_knocks_40 ba_sM_16 h (fun s795 h => ?_)
  refine ba_aload_n V dX6_knocks_41 0 rfl ?_
  refine ba_getR V dX6_knocks_42 kfX6_58 ba_sModel rfl ?_
  refine ba_iload_n V dX6_knocks_45 1 rfl ?_
  refine ba_aload_n V dX6_knocks_46 0 rfl ?_
  refine ba_getR V dX6_knocks_47 kfX6_55 ba_sModel rfl ?_
  refine ba_iload_n V dX6_knocks_50 1 rfl ?_
  refine ba_iald V dX6_knocks_51 ba_sM_16 h (fun h => ?_)
  refine ba_iconst V dX6_knocks_52 ba_c2 ?_
  refine ba_icmp_ne V dX6_knocks_53 rfl h (fun h => ?_) (fun h => ?_)
  · refine ba_iconst V dX6_knocks_56 ba_c1 ?_
    refine ba_aload_n V dX6_knocks_57 0 rfl ?_
    refine ba_getR V dX6_knocks_58 kfX6_58 ba_sModel rfl ?_
    refine ba_iload_n V dX6_knocks_61 1 rfl ?_
    refine ba_iald V dX6_knocks_62 ba_sM_17 h (fun h => ?_)
    refine ba_isub V dX6_knocks_63 ?_
    refine ba_goto V dX6_knocks_64 rfl ?_
    exact ba_sub [] rfl (ym_knocks_j73 V RT h)
  · refine ba_aload_n V dX6_knocks_67 0 rfl ?_
    refine ba_getR V dX6_knocks_68 kfX6_58 ba_sModel rfl ?_
    refine ba_iload_n V dX6_knocks_71 1 rfl ?_
    refine ba_iald V dX6_knocks_72 ba_sM_17 h (fun h => ?_)
    exact ba_sub [] rfl (ym_knocks_j73 V RT h)
def xm_knocks (s : ba_St) (a1 : Int32) : Option (ba_St) :=
  ba_bnd (xm_isPin s a1) fun v794 =>
  if v794 = 0 then
    some s
  else
    ba_grd (ba_inb a1 12) <|
    if 2 ≤ (s.1 16 (ba_ix a1)) then
      ba_grd (ba_inb a1 12) <|
      xm_knocks_j40 s a1 (s.1 16 (ba_ix a1)) a1
    else
      ba_grd (ba_inb a1 12) <|
      xm_knocks_j40 s a1 (1 - (s.1 16 (ba_ix a1))) a1
set_option maxHeartbeats 4000000 in
set_option maxRecDepth 100000 in
theorem ym_knocks {w : ba_W} (hj : ba_inj ba_tM w) (l : Launch) {s : ba_St} {a1 : Int32} {o : ba_St} (h : xm_knocks s a1 = some o) : ba_CV ba_tM w l yX6_knocks cX6_knocks 2 none rm_m_knocks [.ref (w.1 0), .int a1] s o := by
  refine ba_metV (lv := [(0, .ref (w.1 0)), (1, .int a1)]) l hj (by decide +kernel) ⟨Nat.le_of_ble_eq_true rfl, rfl⟩ ?_
  intro X V RT
  unfold xm_knocks at h
  refine ba_aload_n V dX6_knocks_0 0 rfl ?_
  refine ba_iload_n V dX6_knocks_1 1 rfl ?_
  obtain ⟨v794, hc, h⟩ := ba_bnd_some h
  refine ba_callVI (As := [.int a1]) (st := []) V dX6_knocks_2 kcX6_166 ba_sModel (fun l => ym_isPin V.inj l hc) ⟨rfl, rfl⟩ ⟨rfl, rfl, Nat.le_of_ble_eq_true rfl, Nat.le_of_ble_eq_true rfl⟩ (Nat.le_of_ble_eq_true rfl) ?_
  refine ba_if_eq V dX6_knocks_5 rfl h (fun h => ?_) (fun h => ?_)
  · exact RT _ _ _ dX6_knocks_74 (Option.some.inj h)
  · refine ba_aload_n V dX6_knocks_8 0 rfl ?_
    refine ba_getR V dX6_knocks_9 kfX6_55 ba_sModel rfl ?_
    refine ba_iload_n V dX6_knocks_12 1 rfl ?_
    refine ba_aload_n V dX6_knocks_13 0 rfl ?_
    refine ba_getR V dX6_knocks_14 kfX6_55 ba_sModel rfl ?_
    refine ba_iload_n V dX6_knocks_17 1 rfl ?_
    refine ba_iald V dX6_knocks_18 ba_sM_16 h (fun h => ?_)
    refine ba_iconst V dX6_knocks_19 ba_c2 ?_
    refine ba_icmp_ge V dX6_knocks_20 rfl h (fun h => ?_) (fun h => ?_)
    · refine ba_aload_n V dX6_knocks_34 0 rfl ?_
      refine ba_getR V dX6_knocks_35 kfX6_55 ba_sModel rfl ?_
      refine ba_iload_n V dX6_knocks_38 1 rfl ?_
      refine ba_iald V dX6_knocks_39 ba_sM_16 h (fun h => ?_)
      exact ba_sub [0, 1] rfl (ym_knocks_j40 V RT h)
    · refine ba_iconst V dX6_knocks_23 ba_c1 ?_
      refine ba_aload_n V dX6_knocks_24 0 rfl ?_
      refine ba_getR V dX6_knocks_25 kfX6_55 ba_sModel rfl ?_
      refine ba_iload_n V dX6_knocks_28 1 rfl ?_
      refine ba_iald V dX6_knocks_29 ba_sM_16 h (fun h => ?_)
      refine ba_isub V dX6_knocks_30 ?_
      refine ba_goto V dX6_knocks_31 rfl ?_
      exact ba_sub [0, 1] rfl (ym_knocks_j40 V RT h)
def xm_empties (s : ba_St) (a1 : Int32) : Option (ba_St) :=
  ba_bnd (xm_isColumn a1) fun v797 =>
  if v797 = 0 then
    some s
  else
    ba_grd (ba_inb a1 9) <|
    ba_lt (ba_w s 18 (ba_ix a1) 0) fun s798 =>
    some s798
set_option maxHeartbeats 4000000 in
set_option maxRecDepth 100000 in
theorem ym_empties {w : ba_W} (hj : ba_inj ba_tM w) (l : Launch) {s : ba_St} {a1 : Int32} {o : ba_St} (h : xm_empties s a1 = some o) : ba_CV ba_tM w l yX6_empties cX6_empties 2 none rm_m_empties [.ref (w.1 0), .int a1] s o := by
  refine ba_metV (lv := [(0, .ref (w.1 0)), (1, .int a1)]) l hj (by decide +kernel) ⟨Nat.le_of_ble_eq_true rfl, rfl⟩ ?_
  intro X V RT
  unfold xm_empties at h
  refine ba_iload_n V dX6_empties_0 1 rfl ?_
  obtain ⟨v797, hc, h⟩ := ba_bnd_some h
  refine ba_callSI (As := [.int a1]) (st := []) V dX6_empties_1 kcX6_190 (fun l => ym_isColumn V.inj l hc) ⟨rfl, rfl⟩ ⟨rfl, rfl, Nat.le_of_ble_eq_true rfl, Nat.le_of_ble_eq_true rfl⟩ (Nat.le_of_ble_eq_true rfl) ?_
  refine ba_if_eq V dX6_empties_4 rfl h (fun h => ?_) (fun h => ?_)
  · exact RT _ _ _ dX6_empties_14 (Option.some.inj h)
  · refine ba_aload_n V dX6_empties_7 0 rfl ?_
    refine ba_getR V dX6_empties_8 kfX6_61 ba_sModel rfl ?_
    refine ba_iload_n V dX6_empties_11 1 rfl ?_
    refine ba_iconst V dX6_empties_12 ba_c0 ?_
    refine ba_iast V dX6_empties_13 ba_sM_18 h (fun s798 h => ?_)
    exact RT _ _ _ dX6_empties_14 (Option.some.inj h)
def xm_happens_j93_2 (k : (ba_St × Int32) → Option (ba_St)) (s : ba_St) (z1 : Int32) (z2 : Int32) (q0 : Int32) : Option (ba_St) :=
  ba_bnd (xm_tilts s q0) fun s801 =>
  ba_lt (z2 + 1) fun x802 =>
  k (s801, x802)
set_option maxHeartbeats 4000000 in
set_option maxRecDepth 100000 in
theorem ym_happens_j93_2 {w : ba_W} {X : ba_X} (V : ba_V ba_tM w 4 X cX6_happens RX6 rm_m_happens) {s : ba_St} {z1 : Int32} {z2 : Int32} {q0 : Int32} {o : ba_St} {k : (ba_St × Int32) → Option (ba_St)} (hk : ∀ (s : ba_St) (z2 : Int32), k (s, z2) = some o → ba_G ba_tM w 4 X s 2 [(0, .ref (w.1 0)), (1, .int z1), (2, .int z2)] []) (EX : ∀ (s : ba_St) , s = o → ba_G ba_tM w 4 X s 118 [] []) (h : xm_happens_j93_2 k s z1 z2 q0 = some o) : ba_G ba_tM w 4 X s 93 [(0, .ref (w.1 0)), (1, .int z1), (2, .int z2)] [.int q0, .ref (w.1 0)] := by
  unfold xm_happens_j93_2 at h
  obtain ⟨s801, hc, h⟩ := ba_bnd_some h
  refine ba_callVV (As := [.int q0]) (st := []) V dX6_happens_93 kcX6_200 ba_sModel (fun l => ym_tilts V.inj l hc) ⟨rfl, rfl⟩ ⟨rfl, rfl, Nat.le_of_ble_eq_true rfl, Nat.le_of_ble_eq_true rfl⟩ (Nat.le_of_ble_eq_true rfl) ?_
  refine ba_goto V dX6_happens_96 rfl ?_
  refine ba_iinc V dX6_happens_112 2 rfl ba_c1 (by decide) h (fun x802 h => ⟨[(2, .int x802), (0, .ref (w.1 0)), (1, .int z1)], rfl, ?_⟩)
  refine ba_goto V dX6_happens_115 rfl ?_
  exact ba_sub [1, 2, 0] rfl (hk _ _ h)
def xm_happens_l2 (z1 : Int32) (k : (ba_St × Int32) → Option (ba_St)) (a : (ba_St × Int32)) : Option (ba_St) :=
  match a with
  | (s, z2) =>
    if (s.1 0 13) ≤ z2 then
      some s
    else
      ba_grd (ba_inb ((3 * z2) + 2) 24) <|
      ba_lt (s.1 10 (ba_ix ((3 * z2) + 2))) fun x799 =>
      ba_grd (ba_inb ((3 * z2) + 1) 24) <|
      if (s.1 10 (ba_ix ((3 * z2) + 1))) = z1 then
        ba_bnd (xm_isIn (s.1 0 15) z2) fun v800 =>
        if v800 = 0 then
          ba_grd (ba_inb (3 * z2) 24) <|
          if (s.1 10 (ba_ix (3 * z2))) = 0 then
            if (ba_irm x799 2) = 1 then
              xm_happens_j93_2 k s z1 z2 1
            else
              xm_happens_j93_2 k s z1 z2 (-1)
          else if (s.1 10 (ba_ix (3 * z2))) = 1 then
            ba_bnd (xm_knocks s x799) fun s803 =>
            ba_lt (z2 + 1) fun x804 =>
            k (s803, x804)
          else
            ba_bnd (xm_empties s x799) fun s805 =>
            ba_lt (z2 + 1) fun x806 =>
            k (s805, x806)
        else
          ba_lt (z2 + 1) fun x807 =>
          k (s, x807)
      else
        ba_lt (z2 + 1) fun x808 =>
        k (s, x808)
set_option maxHeartbeats 4000000 in
set_option maxRecDepth 100000 in
theorem ym_happens_l2 {w : ba_W} {X : ba_X} (V : ba_V ba_tM w 4 X cX6_happens RX6 rm_m_happens) {z1 : Int32} {o : ba_St} (EX : ∀ (s : ba_St) , s = o → ba_G ba_tM w 4 X s 118 [] []) : ∀ (n : Nat) (s : ba_St) (z2 : Int32), ba_fix (xm_happens_l2 z1) n (s, z2) = some o → ba_G ba_tM w 4 X s 2 [(0, .ref (w.1 0)), (1, .int z1), (2, .int z2)] [] := by
  intro n s z2 h
  refine ba_loop (P := fun a => ba_G ba_tM w 4 X a.1 2 [(0, .ref (w.1 0)), (1, .int z1), (2, .int a.2)] []) ?_ n (s, z2) h
  intro k hk0 a h
  obtain ⟨s, z2⟩ := a
  have hk : ∀ (s : ba_St) (z2 : Int32), k (s, z2) = some o → ba_G ba_tM w 4 X s 2 [(0, .ref (w.1 0)), (1, .int z1), (2, .int z2)] [] := fun s z2 e => hk0 (s, z2) e
  unfold xm_happens_l2 at h
  try dsimp only at h ⊢
  refine ba_iload_n V dX6_happens_2 2 rfl ?_
  refine ba_aload_n V dX6_happens_3 0 rfl ?_
  refine ba_getI V dX6_happens_4 kfX6_182 ba_sModel rfl ?_
  refine ba_icmp_ge V dX6_happens_7 rfl h (fun h => ?_) (fun h => ?_)
  · exact ba_sub [] rfl (EX _ (Option.some.inj h))
  · refine ba_aload_n V dX6_happens_10 0 rfl ?_
    refine ba_getR V dX6_happens_11 kfX6_37 ba_sModel rfl ?_
    refine ba_iconst V dX6_happens_14 ba_c3 ?_
    refine ba_iload_n V dX6_happens_15 2 rfl ?_
    refine ba_imul V dX6_happens_16 ?_
    refine ba_iconst V dX6_happens_17 ba_c2 ?_
    refine ba_iadd V dX6_happens_18 ?_
    refine ba_iald V dX6_happens_19 ba_sM_10 h (fun h => ?_)
    refine ba_letI h (fun x799 h => ?_)
    refine ba_istore_n (lv' := [(3, .int x799), (0, .ref (w.1 0)), (1, .int z1), (2, .int z2)]) V dX6_happens_20 (by decide) rfl ?_
    refine ba_aload_n V dX6_happens_21 1 rfl ?_
    refine ba_getR V dX6_happens_22 kfX6_37 ba_sModel rfl ?_
    refine ba_iconst V dX6_happens_25 ba_c3 ?_
    refine ba_iload_n V dX6_happens_26 3 rfl ?_
    refine ba_imul V dX6_happens_27 ?_
    refine ba_iconst V dX6_happens_28 ba_c1 ?_
    refine ba_iadd V dX6_happens_29 ?_
    refine ba_iald V dX6_happens_30 ba_sM_10 h (fun h => ?_)
    refine ba_iload_n V dX6_happens_31 2 rfl ?_
    refine ba_icmp_ne V dX6_happens_32 rfl h (fun h => ?_) (fun h => ?_)
    · refine ba_aload_n V dX6_happens_35 1 rfl ?_
      refine ba_getI V dX6_happens_36 kfX6_193 ba_sModel rfl ?_
      refine ba_iload_n V dX6_happens_39 3 rfl ?_
      obtain ⟨v800, hc, h⟩ := ba_bnd_some h
      refine ba_callSI (As := [.int (s.1 0 15), .int z2]) (st := []) V dX6_happens_40 kcX6_196 (fun l => ym_isIn V.inj l hc) ⟨rfl, rfl⟩ ⟨rfl, rfl, Nat.le_of_ble_eq_true rfl, Nat.le_of_ble_eq_true rfl⟩ (Nat.le_of_ble_eq_true rfl) ?_
      refine ba_if_ne V dX6_happens_43 rfl h (fun h => ?_) (fun h => ?_)
      · refine ba_aload_n V dX6_happens_46 1 rfl ?_
        refine ba_getR V dX6_happens_47 kfX6_37 ba_sModel rfl ?_
        refine ba_iconst V dX6_happens_50 ba_c3 ?_
        refine ba_iload_n V dX6_happens_51 3 rfl ?_
        refine ba_imul V dX6_happens_52 ?_
        refine ba_iald V dX6_happens_53 ba_sM_10 h (fun h => ?_)
        refine ba_case h (fun e0 h => ?_) (fun e0 h => ?_)
        · refine ba_swL (off := 26) (tgt := 80) V dX6_happens_54 (by decide) (by rw [e0]; decide) rfl ?_
          refine ba_aload_n V dX6_happens_80 1 rfl ?_
          refine ba_iload_n V dX6_happens_81 0 rfl ?_
          refine ba_iconst V dX6_happens_82 ba_c2 ?_
          refine ba_irem V dX6_happens_83 (by decide) ?_
          refine ba_iconst V dX6_happens_84 ba_c1 ?_
          refine ba_icmp_ne V dX6_happens_85 rfl h (fun h => ?_) (fun h => ?_)
          · refine ba_iconst V dX6_happens_88 ba_c1 ?_
            refine ba_goto V dX6_happens_89 rfl ?_
            exact ba_sub [1, 2, 3] rfl (ym_happens_j93_2 V hk EX h)
          · refine ba_iconst V dX6_happens_92 ba_cm1 ?_
            exact ba_sub [1, 2, 3] rfl (ym_happens_j93_2 V hk EX h)
        refine ba_case h (fun e1 h => ?_) (fun e1 h => ?_)
        · refine ba_swL (off := 45) (tgt := 99) V dX6_happens_54 (by decide) (by rw [e1]; decide) rfl ?_
          refine ba_aload_n V dX6_happens_99 1 rfl ?_
          refine ba_iload_n V dX6_happens_100 0 rfl ?_
          obtain ⟨s803, hc, h⟩ := ba_bnd_some h
          refine ba_callVV (As := [.int x799]) (st := []) V dX6_happens_101 kcX6_204 ba_sModel (fun l => ym_knocks V.inj l hc) ⟨rfl, rfl⟩ ⟨rfl, rfl, Nat.le_of_ble_eq_true rfl, Nat.le_of_ble_eq_true rfl⟩ (Nat.le_of_ble_eq_true rfl) ?_
          refine ba_goto V dX6_happens_104 rfl ?_
          refine ba_iinc V dX6_happens_112 3 rfl ba_c1 (by decide) h (fun x804 h => ⟨[(2, .int x804), (3, .int x799), (0, .ref (w.1 0)), (1, .int z1)], rfl, ?_⟩)
          refine ba_goto V dX6_happens_115 rfl ?_
          exact ba_sub [2, 3, 0] rfl (hk _ _ h)
        refine ba_swL (off := 53) (tgt := 107) V dX6_happens_54 (by decide) (by show Op.lookupswitch.offset [(0, 26), (1, 45)] 53 _ = 53; rw [lv_osw (a := 0) e0 rfl, lv_osw (a := 1) e1 rfl]; rfl) rfl ?_
        refine ba_aload_n V dX6_happens_107 1 rfl ?_
        refine ba_iload_n V dX6_happens_108 0 rfl ?_
        obtain ⟨s805, hc, h⟩ := ba_bnd_some h
        refine ba_callVV (As := [.int x799]) (st := []) V dX6_happens_109 kcX6_207 ba_sModel (fun l => ym_empties V.inj l hc) ⟨rfl, rfl⟩ ⟨rfl, rfl, Nat.le_of_ble_eq_true rfl, Nat.le_of_ble_eq_true rfl⟩ (Nat.le_of_ble_eq_true rfl) ?_
        refine ba_iinc V dX6_happens_112 3 rfl ba_c1 (by decide) h (fun x806 h => ⟨[(2, .int x806), (3, .int x799), (0, .ref (w.1 0)), (1, .int z1)], rfl, ?_⟩)
        refine ba_goto V dX6_happens_115 rfl ?_
        exact ba_sub [2, 3, 0] rfl (hk _ _ h)
      · refine ba_iinc V dX6_happens_112 3 rfl ba_c1 (by decide) h (fun x807 h => ⟨[(2, .int x807), (3, .int x799), (0, .ref (w.1 0)), (1, .int z1)], rfl, ?_⟩)
        refine ba_goto V dX6_happens_115 rfl ?_
        exact ba_sub [2, 3, 0] rfl (hk _ _ h)
    · refine ba_iinc V dX6_happens_112 3 rfl ba_c1 (by decide) h (fun x808 h => ⟨[(2, .int x808), (3, .int x799), (0, .ref (w.1 0)), (1, .int z1)], rfl, ?_⟩)
      refine ba_goto V dX6_happens_115 rfl ?_
      exact ba_sub [2, 3, 0] rfl (hk _ _ h)
def xm_happens (s : ba_St) (a1 : Int32) : Option (ba_St) :=
  ba_bnd (ba_fix (xm_happens_l2 a1) 1000 (s, 0)) fun s809 =>
    some s809
set_option maxHeartbeats 4000000 in
set_option maxRecDepth 100000 in
theorem ym_happens {w : ba_W} (hj : ba_inj ba_tM w) (l : Launch) {s : ba_St} {a1 : Int32} {o : ba_St} (h : xm_happens s a1 = some o) : ba_CV ba_tM w l yX6_happens cX6_happens 4 none rm_m_happens [.ref (w.1 0), .int a1] s o := by
  refine ba_metV (lv := [(0, .ref (w.1 0)), (1, .int a1)]) l hj (by decide +kernel) ⟨Nat.le_of_ble_eq_true rfl, rfl⟩ ?_
  intro X V RT
  unfold xm_happens at h
  refine ba_iconst V dX6_happens_0 ba_c0 ?_
  refine ba_istore_n (lv' := [(2, .int 0), (0, .ref (w.1 0)), (1, .int a1)]) V dX6_happens_1 (by decide) rfl ?_
  obtain ⟨o, ho, h⟩ := ba_bnd_some h
  refine ba_sub [1, 2, 0] rfl (ym_happens_l2 V (o := o) (fun s809 e => ?_) 1000 s 0 ho)
  subst e
  try dsimp only at h
  exact RT _ _ _ dX6_happens_118 (Option.some.inj h)
def xm_pinAt_j47_5 (k : (Int32 × Int32) → Option (Int32)) (s : ba_St) (z1 : Int32) (z2 : Int32) (z3 : Int32) (z4 : Int32) : Option (Int32) :=
  ba_lt (z4 + 1) fun x811 =>
  k (z3, x811)
set_option maxHeartbeats 4000000 in
set_option maxRecDepth 100000 in
theorem ym_pinAt_j47_5 {w : ba_W} {X : ba_X} (V : ba_V ba_tM w 5 X cX6_pinAt RX6 rm_m_pinAt) {s : ba_St} {z1 : Int32} {z2 : Int32} {z3 : Int32} {z4 : Int32} {o : Int32} {k : (Int32 × Int32) → Option (Int32)} (hk : ∀ (z3 : Int32) (z4 : Int32), k (z3, z4) = some o → ba_G ba_tM w 5 X s 5 [(0, .ref (w.1 0)), (1, .int z1), (2, .int z2), (3, .int z3), (4, .int z4)] []) (EX : ∀ (z3 : Int32), z3 = o → ba_G ba_tM w 5 X s 55 [(3, .int z3)] []) (h : xm_pinAt_j47_5 k s z1 z2 z3 z4 = some o) : ba_G ba_tM w 5 X s 47 [(0, .ref (w.1 0)), (1, .int z1), (2, .int z2), (3, .int z3), (4, .int z4)] [] := by
  unfold xm_pinAt_j47_5 at h
  refine ba_iload_n V dX6_pinAt_47 3 rfl ?_
  refine ba_istore_n (lv' := [(3, .int z3), (0, .ref (w.1 0)), (1, .int z1), (2, .int z2), (4, .int z4)]) V dX6_pinAt_48 (by decide) rfl ?_
  refine ba_iinc V dX6_pinAt_49 4 rfl ba_c1 (by decide) h (fun x811 h => ⟨[(4, .int x811), (3, .int z3), (0, .ref (w.1 0)), (1, .int z1), (2, .int z2)], rfl, ?_⟩)
  refine ba_goto V dX6_pinAt_52 rfl ?_
  exact ba_sub [2, 3, 4, 1, 0] rfl (hk _ _ h)
def xm_pinAt_l5 (s : ba_St) (z1 : Int32) (z2 : Int32) (k : (Int32 × Int32) → Option (Int32)) (a : (Int32 × Int32)) : Option (Int32) :=
  match a with
  | (z3, z4) =>
    if (s.1 0 7) ≤ z4 then
      some z3
    else
      ba_grd (ba_inb (3 * z4) 36) <|
      if (s.1 7 (ba_ix (3 * z4))) = z1 then
        ba_grd (ba_inb ((3 * z4) + 1) 36) <|
        if (s.1 7 (ba_ix ((3 * z4) + 1))) = z2 then
          ba_lt (z4 + 1) fun x810 =>
          k (z4, x810)
        else
          xm_pinAt_j47_5 k s z1 z2 z3 z4
      else
        xm_pinAt_j47_5 k s z1 z2 z3 z4
set_option maxHeartbeats 4000000 in
set_option maxRecDepth 100000 in
theorem ym_pinAt_l5 {w : ba_W} {X : ba_X} (V : ba_V ba_tM w 5 X cX6_pinAt RX6 rm_m_pinAt) {s : ba_St} {z1 : Int32} {z2 : Int32} {o : Int32} (EX : ∀ (z3 : Int32), z3 = o → ba_G ba_tM w 5 X s 55 [(3, .int z3)] []) : ∀ (n : Nat) (z3 : Int32) (z4 : Int32), ba_fix (xm_pinAt_l5 s z1 z2) n (z3, z4) = some o → ba_G ba_tM w 5 X s 5 [(0, .ref (w.1 0)), (1, .int z1), (2, .int z2), (3, .int z3), (4, .int z4)] [] := by
  intro n z3 z4 h
  refine ba_loop (P := fun a => ba_G ba_tM w 5 X s 5 [(0, .ref (w.1 0)), (1, .int z1), (2, .int z2), (3, .int a.1), (4, .int a.2)] []) ?_ n (z3, z4) h
  intro k hk0 a h
  obtain ⟨z3, z4⟩ := a
  have hk : ∀ (z3 : Int32) (z4 : Int32), k (z3, z4) = some o → ba_G ba_tM w 5 X s 5 [(0, .ref (w.1 0)), (1, .int z1), (2, .int z2), (3, .int z3), (4, .int z4)] [] := fun z3 z4 e => hk0 (z3, z4) e
  unfold xm_pinAt_l5 at h
  try dsimp only at h ⊢
  refine ba_iload V dX6_pinAt_5 4 rfl ?_
  refine ba_aload_n V dX6_pinAt_7 0 rfl ?_
  refine ba_getI V dX6_pinAt_8 kfX6_127 ba_sModel rfl ?_
  refine ba_icmp_ge V dX6_pinAt_11 rfl h (fun h => ?_) (fun h => ?_)
  · exact ba_sub [3] rfl (EX _ (Option.some.inj h))
  · refine ba_aload_n V dX6_pinAt_14 0 rfl ?_
    refine ba_getR V dX6_pinAt_15 kfX6_28 ba_sModel rfl ?_
    refine ba_iconst V dX6_pinAt_18 ba_c3 ?_
    refine ba_iload V dX6_pinAt_19 4 rfl ?_
    refine ba_imul V dX6_pinAt_21 ?_
    refine ba_iald V dX6_pinAt_22 ba_sM_7 h (fun h => ?_)
    refine ba_iload_n V dX6_pinAt_23 1 rfl ?_
    refine ba_icmp_ne V dX6_pinAt_24 rfl h (fun h => ?_) (fun h => ?_)
    · refine ba_aload_n V dX6_pinAt_27 0 rfl ?_
      refine ba_getR V dX6_pinAt_28 kfX6_28 ba_sModel rfl ?_
      refine ba_iconst V dX6_pinAt_31 ba_c3 ?_
      refine ba_iload V dX6_pinAt_32 4 rfl ?_
      refine ba_imul V dX6_pinAt_34 ?_
      refine ba_iconst V dX6_pinAt_35 ba_c1 ?_
      refine ba_iadd V dX6_pinAt_36 ?_
      refine ba_iald V dX6_pinAt_37 ba_sM_7 h (fun h => ?_)
      refine ba_iload_n V dX6_pinAt_38 2 rfl ?_
      refine ba_icmp_ne V dX6_pinAt_39 rfl h (fun h => ?_) (fun h => ?_)
      · refine ba_iload V dX6_pinAt_42 4 rfl ?_
        refine ba_goto V dX6_pinAt_44 rfl ?_
        refine ba_istore_n (lv' := [(3, .int z4), (0, .ref (w.1 0)), (1, .int z1), (2, .int z2), (4, .int z4)]) V dX6_pinAt_48 (by decide) rfl ?_
        refine ba_iinc V dX6_pinAt_49 4 rfl ba_c1 (by decide) h (fun x810 h => ⟨[(4, .int x810), (3, .int z4), (0, .ref (w.1 0)), (1, .int z1), (2, .int z2)], rfl, ?_⟩)
        refine ba_goto V dX6_pinAt_52 rfl ?_
        exact ba_sub [2, 3, 4, 1, 0] rfl (hk _ _ h)
      · exact ba_sub [0, 1, 2, 3, 4] rfl (ym_pinAt_j47_5 V hk EX h)
    · exact ba_sub [0, 1, 2, 3, 4] rfl (ym_pinAt_j47_5 V hk EX h)
def xm_pinAt (s : ba_St) (a1 : Int32) (a2 : Int32) : Option (Int32) :=
  ba_bnd (ba_fix (xm_pinAt_l5 s a1 a2) 1000 ((-1), 0)) fun x812 =>
    some x812
set_option maxHeartbeats 4000000 in
set_option maxRecDepth 100000 in
theorem ym_pinAt {w : ba_W} (hj : ba_inj ba_tM w) (l : Launch) {s : ba_St} {a1 : Int32} {a2 : Int32} {o : Int32} (h : xm_pinAt s a1 a2 = some o) : ba_CI ba_tM w l yX6_pinAt cX6_pinAt 5 (some .int) rm_m_pinAt [.ref (w.1 0), .int a1, .int a2] s (o, s) := by
  refine ba_metI (lv := [(0, .ref (w.1 0)), (1, .int a1), (2, .int a2)]) l hj (by decide +kernel) ⟨Nat.le_of_ble_eq_true rfl, rfl⟩ ?_
  intro X V RT
  replace RT := fun pc lv v D e => RT pc lv v s D (congrArg (fun q => (q, s)) e)
  unfold xm_pinAt at h
  refine ba_iconst V dX6_pinAt_0 ba_cm1 ?_
  refine ba_istore_n (lv' := [(3, .int (-1)), (0, .ref (w.1 0)), (1, .int a1), (2, .int a2)]) V dX6_pinAt_1 (by decide) rfl ?_
  refine ba_iconst V dX6_pinAt_2 ba_c0 ?_
  refine ba_istore (lv' := [(4, .int 0), (3, .int (-1)), (0, .ref (w.1 0)), (1, .int a1), (2, .int a2)]) V dX6_pinAt_3 (by decide) rfl ?_
  obtain ⟨o, ho, h⟩ := ba_bnd_some h
  refine ba_sub [2, 3, 4, 1, 0] rfl (ym_pinAt_l5 V (o := o) (fun x812 e => ?_) 1000 (-1) 0 ho)
  subst e
  try dsimp only at h
  refine ba_iload_n V dX6_pinAt_55 0 rfl ?_
  exact RT _ _ _ dX6_pinAt_56 (Option.some.inj h)
def xm_aside (a0 : Int32) (a1 : Int32) : Option (Int32) :=
  ba_bnd (xm_isColumn (a0 + a1)) fun v813 =>
  if v813 = 0 then
    some a0
  else
    some (a0 + a1)
set_option maxHeartbeats 4000000 in
set_option maxRecDepth 100000 in
theorem ym_aside {w : ba_W} (hj : ba_inj ba_tM w) (l : Launch) {σ : ba_St} {a0 : Int32} {a1 : Int32} {o : Int32} (h : xm_aside a0 a1 = some o) : ba_CI ba_tM w l yX6_aside cX6_aside 2 (some .int) rm_m_aside [.int a0, .int a1] σ (o, σ) := by
  refine ba_metI (lv := [(0, .int a0), (1, .int a1)]) l hj (by decide +kernel) ⟨Nat.le_of_ble_eq_true rfl, rfl⟩ ?_
  intro X V RT
  replace RT := fun pc lv v D e => RT pc lv v σ D (congrArg (fun q => (q, σ)) e)
  unfold xm_aside at h
  refine ba_iload_n V dX6_aside_0 0 rfl ?_
  refine ba_iload_n V dX6_aside_1 1 rfl ?_
  refine ba_iadd V dX6_aside_2 ?_
  obtain ⟨v813, hc, h⟩ := ba_bnd_some h
  refine ba_callSI (As := [.int (a0 + a1)]) (st := []) V dX6_aside_3 kcX6_190 (fun l => ym_isColumn V.inj l hc) ⟨rfl, rfl⟩ ⟨rfl, rfl, Nat.le_of_ble_eq_true rfl, Nat.le_of_ble_eq_true rfl⟩ (Nat.le_of_ble_eq_true rfl) ?_
  refine ba_if_eq V dX6_aside_6 rfl h (fun h => ?_) (fun h => ?_)
  · refine ba_iload_n V dX6_aside_15 0 rfl ?_
    exact RT _ _ _ dX6_aside_16 (Option.some.inj h)
  · refine ba_iload_n V dX6_aside_9 0 rfl ?_
    refine ba_iload_n V dX6_aside_10 1 rfl ?_
    refine ba_iadd V dX6_aside_11 ?_
    refine ba_goto V dX6_aside_12 rfl ?_
    exact RT _ _ _ dX6_aside_16 (Option.some.inj h)
def xm_goesTo_j63 (s : ba_St) (q0 : Int32) (q1 : Int32) : Option (Int32) :=
  ba_bnd (xm_aside q1 q0) fun v815 =>
  some v815
set_option maxHeartbeats 4000000 in
set_option maxRecDepth 100000 in
theorem ym_goesTo_j63 {w : ba_W} {X : ba_X} (V : ba_V ba_tM w 5 X cX6_goesTo RX6 rm_m_goesTo) {s : ba_St} {q0 : Int32} {q1 : Int32} {o : Int32} (RT : ∀ (pc : Nat) (lv : List (Nat × Value)) (v : Int32) , decode cX6_goesTo pc = .ok (.ireturn, 1) → v = o → ba_G ba_tM w 5 X s pc lv [.int v]) (h : xm_goesTo_j63 s q0 q1 = some o) : ba_G ba_tM w 5 X s 63 [] [.int q0, .int q1] := by
  unfold xm_goesTo_j63 at h
  obtain ⟨v815, hc, h⟩ := ba_bnd_some h
  refine ba_callSI (As := [.int q1, .int q0]) (st := []) V dX6_goesTo_63 kcX6_210 (fun l => ym_aside V.inj l hc) ⟨rfl, rfl⟩ ⟨rfl, rfl, Nat.le_of_ble_eq_true rfl, Nat.le_of_ble_eq_true rfl⟩ (Nat.le_of_ble_eq_true rfl) ?_
  exact RT _ _ _ dX6_goesTo_66 (Option.some.inj h)
def xm_goesTo_j49 (s : ba_St) (z3 : Int32) (q0 : Int32) : Option (Int32) :=
  if q0 = 1 then
    xm_goesTo_j63 s 1 z3
  else
    xm_goesTo_j63 s (-1) z3
set_option maxHeartbeats 4000000 in
set_option maxRecDepth 100000 in
theorem ym_goesTo_j49 {w : ba_W} {X : ba_X} (V : ba_V ba_tM w 5 X cX6_goesTo RX6 rm_m_goesTo) {s : ba_St} {z3 : Int32} {q0 : Int32} {o : Int32} (RT : ∀ (pc : Nat) (lv : List (Nat × Value)) (v : Int32) , decode cX6_goesTo pc = .ok (.ireturn, 1) → v = o → ba_G ba_tM w 5 X s pc lv [.int v]) (h : xm_goesTo_j49 s z3 q0 = some o) : ba_G ba_tM w 5 X s 49 [(3, .int z3)] [.int q0] := by
  unfold xm_goesTo_j49 at h
  refine ba_istore (lv' := [(4, .int q0), (3, .int z3)]) V dX6_goesTo_49 (by decide) rfl ?_
  refine ba_iload_n V dX6_goesTo_51 1 rfl ?_
  refine ba_iload V dX6_goesTo_52 0 rfl ?_
  refine ba_iconst V dX6_goesTo_54 ba_c1 ?_
  refine ba_icmp_ne V dX6_goesTo_55 rfl h (fun h => ?_) (fun h => ?_)
  · refine ba_iconst V dX6_goesTo_58 ba_c1 ?_
    refine ba_goto V dX6_goesTo_59 rfl ?_
    exact ba_sub [] rfl (ym_goesTo_j63 V RT h)
  · refine ba_iconst V dX6_goesTo_62 ba_cm1 ?_
    exact ba_sub [] rfl (ym_goesTo_j63 V RT h)
def xm_goesTo (s : ba_St) (a1 : Int32) (a2 : Int32) : Option (Int32) :=
  ba_grd (ba_inb a1 12) <|
  ba_lt (s.1 12 (ba_ix a1)) fun x814 =>
  if a2 = (-1) then
    some x814
  else
    ba_grd (ba_inb a2 12) <|
    if (s.1 16 (ba_ix a2)) = 3 then
      some x814
    else
      ba_grd (ba_inb a2 12) <|
      if (s.1 16 (ba_ix a2)) = 2 then
        ba_grd (ba_inb a2 12) <|
        xm_goesTo_j49 s x814 (s.1 17 (ba_ix a2))
      else
        ba_grd (ba_inb a2 12) <|
        xm_goesTo_j49 s x814 (s.1 16 (ba_ix a2))
set_option maxHeartbeats 4000000 in
set_option maxRecDepth 100000 in
theorem ym_goesTo {w : ba_W} (hj : ba_inj ba_tM w) (l : Launch) {s : ba_St} {a1 : Int32} {a2 : Int32} {o : Int32} (h : xm_goesTo s a1 a2 = some o) : ba_CI ba_tM w l yX6_goesTo cX6_goesTo 5 (some .int) rm_m_goesTo [.ref (w.1 0), .int a1, .int a2] s (o, s) := by
  refine ba_metI (lv := [(0, .ref (w.1 0)), (1, .int a1), (2, .int a2)]) l hj (by decide +kernel) ⟨Nat.le_of_ble_eq_true rfl, rfl⟩ ?_
  intro X V RT
  replace RT := fun pc lv v D e => RT pc lv v s D (congrArg (fun q => (q, s)) e)
  unfold xm_goesTo at h
  refine ba_aload_n V dX6_goesTo_0 0 rfl ?_
  refine ba_getR V dX6_goesTo_1 kfX6_43 ba_sModel rfl ?_
  refine ba_iload_n V dX6_goesTo_4 1 rfl ?_
  refine ba_iald V dX6_goesTo_5 ba_sM_12 h (fun h => ?_)
  refine ba_letI h (fun x814 h => ?_)
  refine ba_istore_n (lv' := [(3, .int x814), (0, .ref (w.1 0)), (1, .int a1), (2, .int a2)]) V dX6_goesTo_6 (by decide) rfl ?_
  refine ba_iload_n V dX6_goesTo_7 3 rfl ?_
  refine ba_iconst V dX6_goesTo_8 ba_cm1 ?_
  refine ba_icmp_eq V dX6_goesTo_9 rfl h (fun h => ?_) (fun h => ?_)
  · refine ba_iload_n V dX6_goesTo_22 0 rfl ?_
    exact RT _ _ _ dX6_goesTo_23 (Option.some.inj h)
  · refine ba_aload_n V dX6_goesTo_12 1 rfl ?_
    refine ba_getR V dX6_goesTo_13 kfX6_55 ba_sModel rfl ?_
    refine ba_iload_n V dX6_goesTo_16 3 rfl ?_
    refine ba_iald V dX6_goesTo_17 ba_sM_16 h (fun h => ?_)
    refine ba_iconst V dX6_goesTo_18 ba_c3 ?_
    refine ba_icmp_ne V dX6_goesTo_19 rfl h (fun h => ?_) (fun h => ?_)
    · refine ba_iload_n V dX6_goesTo_22 0 rfl ?_
      exact RT _ _ _ dX6_goesTo_23 (Option.some.inj h)
    · refine ba_aload_n V dX6_goesTo_24 1 rfl ?_
      refine ba_getR V dX6_goesTo_25 kfX6_55 ba_sModel rfl ?_
      refine ba_iload_n V dX6_goesTo_28 3 rfl ?_
      refine ba_iald V dX6_goesTo_29 ba_sM_16 h (fun h => ?_)
      refine ba_iconst V dX6_goesTo_30 ba_c2 ?_
      refine ba_icmp_ne V dX6_goesTo_31 rfl h (fun h => ?_) (fun h => ?_)
      · refine ba_aload_n V dX6_goesTo_34 1 rfl ?_
        refine ba_getR V dX6_goesTo_35 kfX6_58 ba_sModel rfl ?_
        refine ba_iload_n V dX6_goesTo_38 3 rfl ?_
        refine ba_iald V dX6_goesTo_39 ba_sM_17 h (fun h => ?_)
        refine ba_goto V dX6_goesTo_40 rfl ?_
        exact ba_sub [0] rfl (ym_goesTo_j49 V RT h)
      · refine ba_aload_n V dX6_goesTo_43 1 rfl ?_
        refine ba_getR V dX6_goesTo_44 kfX6_55 ba_sModel rfl ?_
        refine ba_iload_n V dX6_goesTo_47 3 rfl ?_
        refine ba_iald V dX6_goesTo_48 ba_sM_16 h (fun h => ?_)
        exact ba_sub [0] rfl (ym_goesTo_j49 V RT h)
def xm_ending_j105 (s : ba_St) (q0 : Int32) (q1 : Int32) (q2 : Int32) : Option (ba_St) :=
  ba_grd (ba_inb q2 9) <|
  ba_lt (ba_w s 19 (ba_ix q2) (q1 + q0)) fun s820 =>
  some s820
set_option maxHeartbeats 4000000 in
set_option maxRecDepth 100000 in
theorem ym_ending_j105 {w : ba_W} {X : ba_X} (V : ba_V ba_tM w 5 X cX6_ending RX6 rm_m_ending) {s : ba_St} {q0 : Int32} {q1 : Int32} {q2 : Int32} {o : ba_St} (RT : ∀ (pc : Nat) (lv : List (Nat × Value)) (s : ba_St), decode cX6_ending pc = .ok (.return_, 1) → s = o → ba_G ba_tM w 5 X s pc lv []) (h : xm_ending_j105 s q0 q1 q2 = some o) : ba_G ba_tM w 5 X s 105 [] [.int q0, .int q1, .int q2, .ref (w.1 19)] := by
  unfold xm_ending_j105 at h
  refine ba_iadd V dX6_ending_105 ?_
  refine ba_iast V dX6_ending_106 ba_sM_19 h (fun s820 h => ?_)
  exact RT _ _ _ dX6_ending_107 (Option.some.inj h)
def xm_ending_j86 (s : ba_St) (z3 : Int32) (z4 : Int32) (q0 : Int32) (q1 : Int32) (q2 : Int32) : Option (ba_St) :=
  ba_grd (ba_inb q2 9) <|
  ba_lt (ba_w s 18 (ba_ix q2) (q1 + q0)) fun s819 =>
  ba_grd (ba_inb z3 9) <|
  if z4 = 0 then
    xm_ending_j105 s819 0 (s819.1 19 (ba_ix z3)) z3
  else
    xm_ending_j105 s819 1 (s819.1 19 (ba_ix z3)) z3
set_option maxHeartbeats 4000000 in
set_option maxRecDepth 100000 in
theorem ym_ending_j86 {w : ba_W} {X : ba_X} (V : ba_V ba_tM w 5 X cX6_ending RX6 rm_m_ending) {s : ba_St} {z3 : Int32} {z4 : Int32} {q0 : Int32} {q1 : Int32} {q2 : Int32} {o : ba_St} (RT : ∀ (pc : Nat) (lv : List (Nat × Value)) (s : ba_St), decode cX6_ending pc = .ok (.return_, 1) → s = o → ba_G ba_tM w 5 X s pc lv []) (h : xm_ending_j86 s z3 z4 q0 q1 q2 = some o) : ba_G ba_tM w 5 X s 86 [(0, .ref (w.1 0)), (3, .int z3), (4, .int z4)] [.int q0, .int q1, .int q2, .ref (w.1 18)] := by
  unfold xm_ending_j86 at h
  refine ba_iadd V dX6_ending_86 ?_
  refine ba_iast V dX6_ending_87 ba_sM_18 h (fun s819 h => ?_)
  refine ba_aload_n V dX6_ending_88 0 rfl ?_
  refine ba_getR V dX6_ending_89 kfX6_64 ba_sModel rfl ?_
  refine ba_iload_n V dX6_ending_92 1 rfl ?_
  refine ba_dup2 V dX6_ending_93 rfl rfl ?_
  refine ba_iald V dX6_ending_94 ba_sM_19 h (fun h => ?_)
  refine ba_iload V dX6_ending_95 2 rfl ?_
  refine ba_if_eq V dX6_ending_97 rfl h (fun h => ?_) (fun h => ?_)
  · refine ba_iconst V dX6_ending_104 ba_c0 ?_
    exact ba_sub [] rfl (ym_ending_j105 V RT h)
  · refine ba_iconst V dX6_ending_100 ba_c1 ?_
    refine ba_goto V dX6_ending_101 rfl ?_
    exact ba_sub [] rfl (ym_ending_j105 V RT h)
def xm_ending_j67 (s : ba_St) (z3 : Int32) (z4 : Int32) (q0 : Int32) (q1 : Int32) (q2 : Int32) : Option (ba_St) :=
  ba_grd (ba_inb q2 12) <|
  ba_lt (ba_w s 13 (ba_ix q2) (q1 + q0)) fun s818 =>
  ba_grd (ba_inb z3 9) <|
  if z4 = 0 then
    xm_ending_j86 s818 z3 z4 0 (s818.1 18 (ba_ix z3)) z3
  else
    xm_ending_j86 s818 z3 z4 1 (s818.1 18 (ba_ix z3)) z3
set_option maxHeartbeats 4000000 in
set_option maxRecDepth 100000 in
theorem ym_ending_j67 {w : ba_W} {X : ba_X} (V : ba_V ba_tM w 5 X cX6_ending RX6 rm_m_ending) {s : ba_St} {z3 : Int32} {z4 : Int32} {q0 : Int32} {q1 : Int32} {q2 : Int32} {o : ba_St} (RT : ∀ (pc : Nat) (lv : List (Nat × Value)) (s : ba_St), decode cX6_ending pc = .ok (.return_, 1) → s = o → ba_G ba_tM w 5 X s pc lv []) (h : xm_ending_j67 s z3 z4 q0 q1 q2 = some o) : ba_G ba_tM w 5 X s 67 [(0, .ref (w.1 0)), (3, .int z3), (4, .int z4)] [.int q0, .int q1, .int q2, .ref (w.1 13)] := by
  unfold xm_ending_j67 at h
  refine ba_iadd V dX6_ending_67 ?_
  refine ba_iast V dX6_ending_68 ba_sM_13 h (fun s818 h => ?_)
  refine ba_aload_n V dX6_ending_69 0 rfl ?_
  refine ba_getR V dX6_ending_70 kfX6_61 ba_sModel rfl ?_
  refine ba_iload_n V dX6_ending_73 1 rfl ?_
  refine ba_dup2 V dX6_ending_74 rfl rfl ?_
  refine ba_iald V dX6_ending_75 ba_sM_18 h (fun h => ?_)
  refine ba_iload V dX6_ending_76 2 rfl ?_
  refine ba_if_eq V dX6_ending_78 rfl h (fun h => ?_) (fun h => ?_)
  · refine ba_iconst V dX6_ending_85 ba_c0 ?_
    exact ba_sub [0, 1, 2] rfl (ym_ending_j86 V RT h)
  · refine ba_iconst V dX6_ending_81 ba_c1 ?_
    refine ba_goto V dX6_ending_82 rfl ?_
    exact ba_sub [0, 1, 2] rfl (ym_ending_j86 V RT h)
def xm_ending_j37 (s : ba_St) (z1 : Int32) (z2 : Int32) (z3 : Int32) (z4 : Int32) (q0 : Int32) (q1 : Int32) : Option (ba_St) :=
  ba_grd (ba_inb q1 12) <|
  ba_lt (ba_w s 11 (ba_ix q1) q0) fun s816 =>
  ba_grd (ba_inb z2 12) <|
  ba_lt (ba_w s816 14 (ba_ix z2) z1) fun s817 =>
  ba_grd (ba_inb z2 12) <|
  if z4 = 0 then
    xm_ending_j67 s817 z3 z4 0 (s817.1 13 (ba_ix z2)) z2
  else
    ba_grd (ba_inb z3 9) <|
    xm_ending_j67 s817 z3 z4 (s817.1 8 (ba_ix z3)) (s817.1 13 (ba_ix z2)) z2
set_option maxHeartbeats 4000000 in
set_option maxRecDepth 100000 in
theorem ym_ending_j37 {w : ba_W} {X : ba_X} (V : ba_V ba_tM w 5 X cX6_ending RX6 rm_m_ending) {s : ba_St} {z1 : Int32} {z2 : Int32} {z3 : Int32} {z4 : Int32} {q0 : Int32} {q1 : Int32} {o : ba_St} (RT : ∀ (pc : Nat) (lv : List (Nat × Value)) (s : ba_St), decode cX6_ending pc = .ok (.return_, 1) → s = o → ba_G ba_tM w 5 X s pc lv []) (h : xm_ending_j37 s z1 z2 z3 z4 q0 q1 = some o) : ba_G ba_tM w 5 X s 37 [(0, .ref (w.1 0)), (1, .int z1), (2, .int z2), (3, .int z3), (4, .int z4)] [.int q0, .int q1, .ref (w.1 11)] := by
  unfold xm_ending_j37 at h
  refine ba_iast V dX6_ending_37 ba_sM_11 h (fun s816 h => ?_)
  refine ba_aload_n V dX6_ending_38 0 rfl ?_
  refine ba_getR V dX6_ending_39 kfX6_49 ba_sModel rfl ?_
  refine ba_iload_n V dX6_ending_42 2 rfl ?_
  refine ba_iload_n V dX6_ending_43 1 rfl ?_
  refine ba_iast V dX6_ending_44 ba_sM_14 h (fun s817 h => ?_)
  refine ba_aload_n V dX6_ending_45 0 rfl ?_
  refine ba_getR V dX6_ending_46 kfX6_46 ba_sModel rfl ?_
  refine ba_iload_n V dX6_ending_49 2 rfl ?_
  refine ba_dup2 V dX6_ending_50 rfl rfl ?_
  refine ba_iald V dX6_ending_51 ba_sM_13 h (fun h => ?_)
  refine ba_iload V dX6_ending_52 4 rfl ?_
  refine ba_if_eq V dX6_ending_54 rfl h (fun h => ?_) (fun h => ?_)
  · refine ba_iconst V dX6_ending_66 ba_c0 ?_
    exact ba_sub [0, 3, 4] rfl (ym_ending_j67 V RT h)
  · refine ba_aload_n V dX6_ending_57 0 rfl ?_
    refine ba_getR V dX6_ending_58 kfX6_31 ba_sModel rfl ?_
    refine ba_iload_n V dX6_ending_61 3 rfl ?_
    refine ba_iald V dX6_ending_62 ba_sM_8 h (fun h => ?_)
    refine ba_goto V dX6_ending_63 rfl ?_
    exact ba_sub [0, 3, 4] rfl (ym_ending_j67 V RT h)
def xm_ending_j18 (s : ba_St) (z1 : Int32) (z2 : Int32) (z3 : Int32) (q0 : Int32) : Option (ba_St) :=
  if q0 = 0 then
    xm_ending_j37 s z1 z2 z3 q0 9 z2
  else
    xm_ending_j37 s z1 z2 z3 q0 8 z2
set_option maxHeartbeats 4000000 in
set_option maxRecDepth 100000 in
theorem ym_ending_j18 {w : ba_W} {X : ba_X} (V : ba_V ba_tM w 5 X cX6_ending RX6 rm_m_ending) {s : ba_St} {z1 : Int32} {z2 : Int32} {z3 : Int32} {q0 : Int32} {o : ba_St} (RT : ∀ (pc : Nat) (lv : List (Nat × Value)) (s : ba_St), decode cX6_ending pc = .ok (.return_, 1) → s = o → ba_G ba_tM w 5 X s pc lv []) (h : xm_ending_j18 s z1 z2 z3 q0 = some o) : ba_G ba_tM w 5 X s 18 [(0, .ref (w.1 0)), (1, .int z1), (2, .int z2), (3, .int z3)] [.int q0] := by
  unfold xm_ending_j18 at h
  refine ba_istore (lv' := [(4, .int q0), (0, .ref (w.1 0)), (1, .int z1), (2, .int z2), (3, .int z3)]) V dX6_ending_18 (by decide) rfl ?_
  refine ba_aload_n V dX6_ending_20 1 rfl ?_
  refine ba_getR V dX6_ending_21 kfX6_40 ba_sModel rfl ?_
  refine ba_iload_n V dX6_ending_24 3 rfl ?_
  refine ba_iload V dX6_ending_25 0 rfl ?_
  refine ba_if_eq V dX6_ending_27 rfl h (fun h => ?_) (fun h => ?_)
  · refine ba_bipush V dX6_ending_35 ba_c9b ?_
    exact ba_sub [1, 2, 3, 4, 0] rfl (ym_ending_j37 V RT h)
  · refine ba_bipush V dX6_ending_30 ba_c8b ?_
    refine ba_goto V dX6_ending_32 rfl ?_
    exact ba_sub [1, 2, 3, 4, 0] rfl (ym_ending_j37 V RT h)
def xm_ending (s : ba_St) (a1 : Int32) (a2 : Int32) (a3 : Int32) : Option (ba_St) :=
  ba_grd (ba_inb a3 9) <|
  if (s.1 0 12) ≤ (s.1 18 (ba_ix a3)) then
    xm_ending_j18 s a1 a2 a3 0
  else
    xm_ending_j18 s a1 a2 a3 1
set_option maxHeartbeats 4000000 in
set_option maxRecDepth 100000 in
theorem ym_ending {w : ba_W} (hj : ba_inj ba_tM w) (l : Launch) {s : ba_St} {a1 : Int32} {a2 : Int32} {a3 : Int32} {o : ba_St} (h : xm_ending s a1 a2 a3 = some o) : ba_CV ba_tM w l yX6_ending cX6_ending 5 none rm_m_ending [.ref (w.1 0), .int a1, .int a2, .int a3] s o := by
  refine ba_metV (lv := [(0, .ref (w.1 0)), (1, .int a1), (2, .int a2), (3, .int a3)]) l hj (by decide +kernel) ⟨Nat.le_of_ble_eq_true rfl, rfl⟩ ?_
  intro X V RT
  unfold xm_ending at h
  refine ba_aload_n V dX6_ending_0 0 rfl ?_
  refine ba_getR V dX6_ending_1 kfX6_61 ba_sModel rfl ?_
  refine ba_iload_n V dX6_ending_4 3 rfl ?_
  refine ba_iald V dX6_ending_5 ba_sM_18 h (fun h => ?_)
  refine ba_aload_n V dX6_ending_6 0 rfl ?_
  refine ba_getI V dX6_ending_7 kfX6_82 ba_sModel rfl ?_
  refine ba_icmp_ge V dX6_ending_10 rfl h (fun h => ?_) (fun h => ?_)
  · refine ba_iconst V dX6_ending_17 ba_c0 ?_
    exact ba_sub [0, 1, 2, 3] rfl (ym_ending_j18 V RT h)
  · refine ba_iconst V dX6_ending_13 ba_c1 ?_
    refine ba_goto V dX6_ending_14 rfl ?_
    exact ba_sub [0, 1, 2, 3] rfl (ym_ending_j18 V RT h)
def xm_falls_j139 (s : ba_St) (z1 : Int32) (z2 : Int32) (z4 : Int32) : Option (ba_St) :=
  ba_grd (ba_inb z2 12) <|
  ba_lt (ba_w s 12 (ba_ix z2) z4) fun s823 =>
  ba_grd (ba_inb z2 12) <|
  if (s823.1 11 (ba_ix z2)) = 7 then
    ba_bnd (xm_ending s823 z1 z2 z4) fun s824 =>
    some s824
  else
    ba_grd (ba_inb z2 12) <|
    ba_grd (ba_inb z2 12) <|
    ba_lt (ba_w s823 11 (ba_ix z2) ((s823.1 11 (ba_ix z2)) + 1)) fun s825 =>
    some s825
set_option maxHeartbeats 4000000 in
set_option maxRecDepth 100000 in
theorem ym_falls_j139 {w : ba_W} {X : ba_X} (V : ba_V ba_tM w 5 X cX6_falls RX6 rm_m_falls) {s : ba_St} {z1 : Int32} {z2 : Int32} {z4 : Int32} {o : ba_St} (RT : ∀ (pc : Nat) (lv : List (Nat × Value)) (s : ba_St), decode cX6_falls pc = .ok (.return_, 1) → s = o → ba_G ba_tM w 5 X s pc lv []) (h : xm_falls_j139 s z1 z2 z4 = some o) : ba_G ba_tM w 5 X s 139 [(0, .ref (w.1 0)), (1, .int z1), (2, .int z2), (4, .int z4)] [] := by
  unfold xm_falls_j139 at h
  refine ba_aload_n V dX6_falls_139 0 rfl ?_
  refine ba_getR V dX6_falls_140 kfX6_43 ba_sModel rfl ?_
  refine ba_iload_n V dX6_falls_143 2 rfl ?_
  refine ba_iload V dX6_falls_144 3 rfl ?_
  refine ba_iast V dX6_falls_146 ba_sM_12 h (fun s823 h => ?_)
  refine ba_aload_n V dX6_falls_147 0 rfl ?_
  refine ba_getR V dX6_falls_148 kfX6_40 ba_sModel rfl ?_
  refine ba_iload_n V dX6_falls_151 2 rfl ?_
  refine ba_iald V dX6_falls_152 ba_sM_11 h (fun h => ?_)
  refine ba_bipush V dX6_falls_153 ba_c7b ?_
  refine ba_icmp_ne V dX6_falls_155 rfl h (fun h => ?_) (fun h => ?_)
  · refine ba_aload_n V dX6_falls_158 0 rfl ?_
    refine ba_iload_n V dX6_falls_159 1 rfl ?_
    refine ba_iload_n V dX6_falls_160 2 rfl ?_
    refine ba_iload V dX6_falls_161 3 rfl ?_
    obtain ⟨s824, hc, h⟩ := ba_bnd_some h
    refine ba_callVV (As := [.int z1, .int z2, .int z4]) (st := []) V dX6_falls_163 kcX6_222 ba_sModel (fun l => ym_ending V.inj l hc) ⟨rfl, rfl⟩ ⟨rfl, rfl, Nat.le_of_ble_eq_true rfl, Nat.le_of_ble_eq_true rfl⟩ (Nat.le_of_ble_eq_true rfl) ?_
    refine ba_goto V dX6_falls_166 rfl ?_
    exact RT _ _ _ dX6_falls_179 (Option.some.inj h)
  · refine ba_aload_n V dX6_falls_169 0 rfl ?_
    refine ba_getR V dX6_falls_170 kfX6_40 ba_sModel rfl ?_
    refine ba_iload_n V dX6_falls_173 2 rfl ?_
    refine ba_dup2 V dX6_falls_174 rfl rfl ?_
    refine ba_iald V dX6_falls_175 ba_sM_11 h (fun h => ?_)
    refine ba_iconst V dX6_falls_176 ba_c1 ?_
    refine ba_iadd V dX6_falls_177 ?_
    refine ba_iast V dX6_falls_178 ba_sM_11 h (fun s825 h => ?_)
    exact RT _ _ _ dX6_falls_179 (Option.some.inj h)
def xm_falls_j104 (s : ba_St) (z1 : Int32) (z2 : Int32) (z3 : Int32) (z4 : Int32) : Option (ba_St) :=
  if z3 = (-1) then
    xm_falls_j139 s z1 z2 z4
  else
    ba_grd (ba_inb z3 12) <|
    if (s.1 16 (ba_ix z3)) = 3 then
      ba_lt (ba_w s 0 28 ((s.1 0 28) + 1)) fun s826 =>
      ba_grd (ba_inb z2 12) <|
      ba_grd (ba_inb z2 12) <|
      ba_lt (ba_w s826 13 (ba_ix z2) ((s826.1 13 (ba_ix z2)) + 2)) fun s827 =>
      xm_falls_j139 s827 z1 z2 z4
    else
      xm_falls_j139 s z1 z2 z4
set_option maxHeartbeats 4000000 in
set_option maxRecDepth 100000 in
theorem ym_falls_j104 {w : ba_W} {X : ba_X} (V : ba_V ba_tM w 5 X cX6_falls RX6 rm_m_falls) {s : ba_St} {z1 : Int32} {z2 : Int32} {z3 : Int32} {z4 : Int32} {o : ba_St} (RT : ∀ (pc : Nat) (lv : List (Nat × Value)) (s : ba_St), decode cX6_falls pc = .ok (.return_, 1) → s = o → ba_G ba_tM w 5 X s pc lv []) (h : xm_falls_j104 s z1 z2 z3 z4 = some o) : ba_G ba_tM w 5 X s 104 [(0, .ref (w.1 0)), (1, .int z1), (2, .int z2), (3, .int z3), (4, .int z4)] [] := by
  unfold xm_falls_j104 at h
  refine ba_iload_n V dX6_falls_104 3 rfl ?_
  refine ba_iconst V dX6_falls_105 ba_cm1 ?_
  refine ba_icmp_eq V dX6_falls_106 rfl h (fun h => ?_) (fun h => ?_)
  · exact ba_sub [0, 1, 2, 4] rfl (ym_falls_j139 V RT h)
  · refine ba_aload_n V dX6_falls_109 0 rfl ?_
    refine ba_getR V dX6_falls_110 kfX6_55 ba_sModel rfl ?_
    refine ba_iload_n V dX6_falls_113 3 rfl ?_
    refine ba_iald V dX6_falls_114 ba_sM_16 h (fun h => ?_)
    refine ba_iconst V dX6_falls_115 ba_c3 ?_
    refine ba_icmp_ne V dX6_falls_116 rfl h (fun h => ?_) (fun h => ?_)
    · refine ba_aload_n V dX6_falls_119 0 rfl ?_
      refine ba_dup V dX6_falls_120 rfl ?_
      refine ba_getI V dX6_falls_121 kfX6_219 ba_sModel rfl ?_
      refine ba_iconst V dX6_falls_124 ba_c1 ?_
      refine ba_iadd V dX6_falls_125 ?_
      refine ba_putI V dX6_falls_126 kfX6_219 ba_sModel rfl h (fun s826 h => ?_)
      refine ba_aload_n V dX6_falls_129 0 rfl ?_
      refine ba_getR V dX6_falls_130 kfX6_46 ba_sModel rfl ?_
      refine ba_iload_n V dX6_falls_133 2 rfl ?_
      refine ba_dup2 V dX6_falls_134 rfl rfl ?_
      refine ba_iald V dX6_falls_135 ba_sM_13 h (fun h => ?_)
      refine ba_iconst V dX6_falls_136 ba_c2 ?_
      refine ba_iadd V dX6_falls_137 ?_
      refine ba_iast V dX6_falls_138 ba_sM_13 h (fun s827 h => ?_)
      exact ba_sub [0, 1, 2, 4] rfl (ym_falls_j139 V RT h)
    · exact ba_sub [0, 1, 2, 4] rfl (ym_falls_j139 V RT h)
def xm_falls_j75 (s : ba_St) (z1 : Int32) (z2 : Int32) (z3 : Int32) (z4 : Int32) : Option (ba_St) :=
  if z3 = (-1) then
    xm_falls_j104 s z1 z2 z3 z4
  else
    ba_grd (ba_inb z3 12) <|
    if (s.1 16 (ba_ix z3)) = 2 then
      ba_grd (ba_inb z3 12) <|
      ba_grd (ba_inb z3 12) <|
      ba_lt (ba_w s 17 (ba_ix z3) (1 - (s.1 17 (ba_ix z3)))) fun s828 =>
      xm_falls_j104 s828 z1 z2 z3 z4
    else
      xm_falls_j104 s z1 z2 z3 z4
set_option maxHeartbeats 4000000 in
set_option maxRecDepth 100000 in
theorem ym_falls_j75 {w : ba_W} {X : ba_X} (V : ba_V ba_tM w 5 X cX6_falls RX6 rm_m_falls) {s : ba_St} {z1 : Int32} {z2 : Int32} {z3 : Int32} {z4 : Int32} {o : ba_St} (RT : ∀ (pc : Nat) (lv : List (Nat × Value)) (s : ba_St), decode cX6_falls pc = .ok (.return_, 1) → s = o → ba_G ba_tM w 5 X s pc lv []) (h : xm_falls_j75 s z1 z2 z3 z4 = some o) : ba_G ba_tM w 5 X s 75 [(0, .ref (w.1 0)), (1, .int z1), (2, .int z2), (3, .int z3), (4, .int z4)] [] := by
  unfold xm_falls_j75 at h
  refine ba_iload_n V dX6_falls_75 3 rfl ?_
  refine ba_iconst V dX6_falls_76 ba_cm1 ?_
  refine ba_icmp_eq V dX6_falls_77 rfl h (fun h => ?_) (fun h => ?_)
  · exact ba_sub [0, 1, 2, 3, 4] rfl (ym_falls_j104 V RT h)
  · refine ba_aload_n V dX6_falls_80 0 rfl ?_
    refine ba_getR V dX6_falls_81 kfX6_55 ba_sModel rfl ?_
    refine ba_iload_n V dX6_falls_84 3 rfl ?_
    refine ba_iald V dX6_falls_85 ba_sM_16 h (fun h => ?_)
    refine ba_iconst V dX6_falls_86 ba_c2 ?_
    refine ba_icmp_ne V dX6_falls_87 rfl h (fun h => ?_) (fun h => ?_)
    · refine ba_aload_n V dX6_falls_90 0 rfl ?_
      refine ba_getR V dX6_falls_91 kfX6_58 ba_sModel rfl ?_
      refine ba_iload_n V dX6_falls_94 3 rfl ?_
      refine ba_iconst V dX6_falls_95 ba_c1 ?_
      refine ba_aload_n V dX6_falls_96 0 rfl ?_
      refine ba_getR V dX6_falls_97 kfX6_58 ba_sModel rfl ?_
      refine ba_iload_n V dX6_falls_100 3 rfl ?_
      refine ba_iald V dX6_falls_101 ba_sM_17 h (fun h => ?_)
      refine ba_isub V dX6_falls_102 ?_
      refine ba_iast V dX6_falls_103 ba_sM_17 h (fun s828 h => ?_)
      exact ba_sub [0, 1, 2, 3, 4] rfl (ym_falls_j104 V RT h)
    · exact ba_sub [0, 1, 2, 3, 4] rfl (ym_falls_j104 V RT h)
def xm_falls (s : ba_St) (a1 : Int32) (a2 : Int32) : Option (ba_St) :=
  ba_grd (ba_inb a2 12) <|
  ba_grd (ba_inb a2 12) <|
  ba_bnd (xm_pinAt s (s.1 11 (ba_ix a2)) (s.1 12 (ba_ix a2))) fun v821 =>
  ba_bnd (xm_goesTo s a2 v821) fun v822 =>
  ba_grd (ba_inb a2 12) <|
  if 7 ≤ (s.1 11 (ba_ix a2)) then
    xm_falls_j75 s a1 a2 v821 v822
  else
    ba_grd (ba_inb a2 12) <|
    ba_bnd (xm_whoAt s ((s.1 11 (ba_ix a2)) + 1) v822) fun v829 =>
    if v829 = (-1) then
      xm_falls_j75 s a1 a2 v821 v822
    else
      ba_grd (ba_inb a2 12) <|
      ba_grd (ba_inb a2 12) <|
      ba_lt (ba_w s 15 (ba_ix a2) ((s.1 15 (ba_ix a2)) + 1)) fun s830 =>
      ba_grd (ba_inb a1 24) <|
      ba_grd (ba_inb a1 24) <|
      ba_lt (ba_w s830 20 (ba_ix a1) ((s830.1 20 (ba_ix a1)) + 1)) fun s831 =>
      some s831
set_option maxHeartbeats 4000000 in
set_option maxRecDepth 100000 in
theorem ym_falls {w : ba_W} (hj : ba_inj ba_tM w) (l : Launch) {s : ba_St} {a1 : Int32} {a2 : Int32} {o : ba_St} (h : xm_falls s a1 a2 = some o) : ba_CV ba_tM w l yX6_falls cX6_falls 5 none rm_m_falls [.ref (w.1 0), .int a1, .int a2] s o := by
  refine ba_metV (lv := [(0, .ref (w.1 0)), (1, .int a1), (2, .int a2)]) l hj (by decide +kernel) ⟨Nat.le_of_ble_eq_true rfl, rfl⟩ ?_
  intro X V RT
  unfold xm_falls at h
  refine ba_aload_n V dX6_falls_0 0 rfl ?_
  refine ba_aload_n V dX6_falls_1 0 rfl ?_
  refine ba_getR V dX6_falls_2 kfX6_40 ba_sModel rfl ?_
  refine ba_iload_n V dX6_falls_5 2 rfl ?_
  refine ba_iald V dX6_falls_6 ba_sM_11 h (fun h => ?_)
  refine ba_aload_n V dX6_falls_7 0 rfl ?_
  refine ba_getR V dX6_falls_8 kfX6_43 ba_sModel rfl ?_
  refine ba_iload_n V dX6_falls_11 2 rfl ?_
  refine ba_iald V dX6_falls_12 ba_sM_12 h (fun h => ?_)
  obtain ⟨v821, hc, h⟩ := ba_bnd_some h
  refine ba_callVI (As := [.int (s.1 11 (ba_ix a2)), .int (s.1 12 (ba_ix a2))]) (st := []) V dX6_falls_13 kcX6_213 ba_sModel (fun l => ym_pinAt V.inj l hc) ⟨rfl, rfl⟩ ⟨rfl, rfl, Nat.le_of_ble_eq_true rfl, Nat.le_of_ble_eq_true rfl⟩ (Nat.le_of_ble_eq_true rfl) ?_
  refine ba_istore_n (lv' := [(3, .int v821), (0, .ref (w.1 0)), (1, .int a1), (2, .int a2)]) V dX6_falls_16 (by decide) rfl ?_
  refine ba_aload_n V dX6_falls_17 1 rfl ?_
  refine ba_iload_n V dX6_falls_18 3 rfl ?_
  refine ba_iload_n V dX6_falls_19 0 rfl ?_
  obtain ⟨v822, hc, h⟩ := ba_bnd_some h
  refine ba_callVI (As := [.int a2, .int v821]) (st := []) V dX6_falls_20 kcX6_216 ba_sModel (fun l => ym_goesTo V.inj l hc) ⟨rfl, rfl⟩ ⟨rfl, rfl, Nat.le_of_ble_eq_true rfl, Nat.le_of_ble_eq_true rfl⟩ (Nat.le_of_ble_eq_true rfl) ?_
  refine ba_istore (lv' := [(4, .int v822), (3, .int v821), (0, .ref (w.1 0)), (1, .int a1), (2, .int a2)]) V dX6_falls_23 (by decide) rfl ?_
  refine ba_aload_n V dX6_falls_25 2 rfl ?_
  refine ba_getR V dX6_falls_26 kfX6_40 ba_sModel rfl ?_
  refine ba_iload_n V dX6_falls_29 4 rfl ?_
  refine ba_iald V dX6_falls_30 ba_sM_11 h (fun h => ?_)
  refine ba_bipush V dX6_falls_31 ba_c7b ?_
  refine ba_icmp_ge V dX6_falls_33 rfl h (fun h => ?_) (fun h => ?_)
  · exact ba_sub [2, 3, 4, 1, 0] rfl (ym_falls_j75 V RT h)
  · refine ba_aload_n V dX6_falls_36 2 rfl ?_
    refine ba_aload_n V dX6_falls_37 2 rfl ?_
    refine ba_getR V dX6_falls_38 kfX6_40 ba_sModel rfl ?_
    refine ba_iload_n V dX6_falls_41 4 rfl ?_
    refine ba_iald V dX6_falls_42 ba_sM_11 h (fun h => ?_)
    refine ba_iconst V dX6_falls_43 ba_c1 ?_
    refine ba_iadd V dX6_falls_44 ?_
    refine ba_iload V dX6_falls_45 0 rfl ?_
    obtain ⟨v829, hc, h⟩ := ba_bnd_some h
    refine ba_callVI (As := [.int ((s.1 11 (ba_ix a2)) + 1), .int v822]) (st := []) V dX6_falls_47 kcX6_187 ba_sModel (fun l => ym_whoAt V.inj l hc) ⟨rfl, rfl⟩ ⟨rfl, rfl, Nat.le_of_ble_eq_true rfl, Nat.le_of_ble_eq_true rfl⟩ (Nat.le_of_ble_eq_true rfl) ?_
    refine ba_iconst V dX6_falls_50 ba_cm1 ?_
    refine ba_icmp_eq V dX6_falls_51 rfl h (fun h => ?_) (fun h => ?_)
    · exact ba_sub [2, 3, 4, 1, 0] rfl (ym_falls_j75 V RT h)
    · refine ba_aload_n V dX6_falls_54 2 rfl ?_
      refine ba_getR V dX6_falls_55 kfX6_52 ba_sModel rfl ?_
      refine ba_iload_n V dX6_falls_58 4 rfl ?_
      refine ba_dup2 V dX6_falls_59 rfl rfl ?_
      refine ba_iald V dX6_falls_60 ba_sM_15 h (fun h => ?_)
      refine ba_iconst V dX6_falls_61 ba_c1 ?_
      refine ba_iadd V dX6_falls_62 ?_
      refine ba_iast V dX6_falls_63 ba_sM_15 h (fun s830 h => ?_)
      refine ba_aload_n V dX6_falls_64 2 rfl ?_
      refine ba_getR V dX6_falls_65 kfX6_67 ba_sModel rfl ?_
      refine ba_iload_n V dX6_falls_68 3 rfl ?_
      refine ba_dup2 V dX6_falls_69 rfl rfl ?_
      refine ba_iald V dX6_falls_70 ba_sM_20 h (fun h => ?_)
      refine ba_iconst V dX6_falls_71 ba_c1 ?_
      refine ba_iadd V dX6_falls_72 ?_
      refine ba_iast V dX6_falls_73 ba_sM_20 h (fun s831 h => ?_)
      exact RT _ _ _ dX6_falls_74 (Option.some.inj h)
def xm_passes_l24 (z1 : Int32) (z3 : Int32) (k : (ba_St × Int32 × Int32) → Option (ba_St × Int32)) (a : (ba_St × Int32 × Int32)) : Option (ba_St × Int32) :=
  match a with
  | (s, z2, z4) =>
    if (s.1 0 10) ≤ z4 then
      some (s, z2)
    else
      ba_grd (ba_inb z4 12) <|
      if (s.1 11 (ba_ix z4)) = z3 then
        ba_bnd (xm_isIn z2 z4) fun v834 =>
        if v834 = 0 then
          ba_lt (z2 ||| (ba_fishl 1 z4)) fun x835 =>
          ba_bnd (xm_falls s z1 z4) fun s836 =>
          ba_lt (z4 + 1) fun x837 =>
          k (s836, x835, x837)
        else
          ba_lt (z4 + 1) fun x838 =>
          k (s, z2, x838)
      else
        ba_lt (z4 + 1) fun x839 =>
        k (s, z2, x839)
set_option maxHeartbeats 4000000 in
set_option maxRecDepth 100000 in
theorem ym_passes_l24 {w : ba_W} {X : ba_X} (V : ba_V ba_tM w 5 X cX6_passes RX6 rm_m_passes) {z1 : Int32} {z3 : Int32} {o : ba_St × Int32} (EX : ∀ (s : ba_St) (z2 : Int32), (s, z2) = o → ba_G ba_tM w 5 X s 73 [(0, .ref (w.1 0)), (1, .int z1), (2, .int z2), (3, .int z3)] []) : ∀ (n : Nat) (s : ba_St) (z2 : Int32) (z4 : Int32), ba_fix (xm_passes_l24 z1 z3) n (s, z2, z4) = some o → ba_G ba_tM w 5 X s 24 [(0, .ref (w.1 0)), (1, .int z1), (2, .int z2), (3, .int z3), (4, .int z4)] [] := by
  intro n s z2 z4 h
  refine ba_loop (P := fun a => ba_G ba_tM w 5 X a.1 24 [(0, .ref (w.1 0)), (1, .int z1), (2, .int a.2.1), (3, .int z3), (4, .int a.2.2)] []) ?_ n (s, z2, z4) h
  intro k hk0 a h
  obtain ⟨s, z2, z4⟩ := a
  have hk : ∀ (s : ba_St) (z2 : Int32) (z4 : Int32), k (s, z2, z4) = some o → ba_G ba_tM w 5 X s 24 [(0, .ref (w.1 0)), (1, .int z1), (2, .int z2), (3, .int z3), (4, .int z4)] [] := fun s z2 z4 e => hk0 (s, z2, z4) e
  unfold xm_passes_l24 at h
  try dsimp only at h ⊢
  refine ba_iload V dX6_passes_24 4 rfl ?_
  refine ba_aload_n V dX6_passes_26 0 rfl ?_
  refine ba_getI V dX6_passes_27 kfX6_143 ba_sModel rfl ?_
  refine ba_icmp_ge V dX6_passes_30 rfl h (fun h => ?_) (fun h => ?_)
  · exact ba_sub [0, 1, 2, 3] rfl (EX _ _ (Option.some.inj h))
  · refine ba_aload_n V dX6_passes_33 0 rfl ?_
    refine ba_getR V dX6_passes_34 kfX6_40 ba_sModel rfl ?_
    refine ba_iload V dX6_passes_37 4 rfl ?_
    refine ba_iald V dX6_passes_39 ba_sM_11 h (fun h => ?_)
    refine ba_iload_n V dX6_passes_40 3 rfl ?_
    refine ba_icmp_ne V dX6_passes_41 rfl h (fun h => ?_) (fun h => ?_)
    · refine ba_iload_n V dX6_passes_44 2 rfl ?_
      refine ba_iload V dX6_passes_45 4 rfl ?_
      obtain ⟨v834, hc, h⟩ := ba_bnd_some h
      refine ba_callSI (As := [.int z2, .int z4]) (st := []) V dX6_passes_47 kcX6_196 (fun l => ym_isIn V.inj l hc) ⟨rfl, rfl⟩ ⟨rfl, rfl, Nat.le_of_ble_eq_true rfl, Nat.le_of_ble_eq_true rfl⟩ (Nat.le_of_ble_eq_true rfl) ?_
      refine ba_if_ne V dX6_passes_50 rfl h (fun h => ?_) (fun h => ?_)
      · refine ba_iload_n V dX6_passes_53 2 rfl ?_
        refine ba_iconst V dX6_passes_54 ba_c1 ?_
        refine ba_iload V dX6_passes_55 4 rfl ?_
        refine ba_ishl V dX6_passes_57 ?_
        refine ba_ior V dX6_passes_58 ?_
        refine ba_letI h (fun x835 h => ?_)
        refine ba_istore_n (lv' := [(2, .int x835), (0, .ref (w.1 0)), (1, .int z1), (3, .int z3), (4, .int z4)]) V dX6_passes_59 (by decide) rfl ?_
        refine ba_aload_n V dX6_passes_60 1 rfl ?_
        refine ba_iload_n V dX6_passes_61 2 rfl ?_
        refine ba_iload V dX6_passes_62 4 rfl ?_
        obtain ⟨s836, hc, h⟩ := ba_bnd_some h
        refine ba_callVV (As := [.int z1, .int z4]) (st := []) V dX6_passes_64 kcX6_229 ba_sModel (fun l => ym_falls V.inj l hc) ⟨rfl, rfl⟩ ⟨rfl, rfl, Nat.le_of_ble_eq_true rfl, Nat.le_of_ble_eq_true rfl⟩ (Nat.le_of_ble_eq_true rfl) ?_
        refine ba_iinc V dX6_passes_67 4 rfl ba_c1 (by decide) h (fun x837 h => ⟨[(4, .int x837), (2, .int x835), (0, .ref (w.1 0)), (1, .int z1), (3, .int z3)], rfl, ?_⟩)
        refine ba_goto V dX6_passes_70 rfl ?_
        exact ba_sub [2, 3, 1, 4, 0] rfl (hk _ _ _ h)
      · refine ba_iinc V dX6_passes_67 4 rfl ba_c1 (by decide) h (fun x838 h => ⟨[(4, .int x838), (0, .ref (w.1 0)), (1, .int z1), (2, .int z2), (3, .int z3)], rfl, ?_⟩)
        refine ba_goto V dX6_passes_70 rfl ?_
        exact ba_sub [1, 2, 3, 4, 0] rfl (hk _ _ _ h)
    · refine ba_iinc V dX6_passes_67 4 rfl ba_c1 (by decide) h (fun x839 h => ⟨[(4, .int x839), (0, .ref (w.1 0)), (1, .int z1), (2, .int z2), (3, .int z3)], rfl, ?_⟩)
      refine ba_goto V dX6_passes_70 rfl ?_
      exact ba_sub [1, 2, 3, 4, 0] rfl (hk _ _ _ h)
def xm_passes_l17 (z1 : Int32) (k : (ba_St × Int32 × Int32) → Option (ba_St)) (a : (ba_St × Int32 × Int32)) : Option (ba_St) :=
  match a with
  | (s, z2, z3) =>
    if z3 < 0 then
      some s
    else
      ba_bnd (ba_fix (xm_passes_l24 z1 z3) 1000 (s, z2, 0)) fun o => match o with
      | (s840, x841) =>
        ba_lt (z3 + (-1)) fun x842 =>
        k (s840, x841, x842)
set_option maxHeartbeats 4000000 in
set_option maxRecDepth 100000 in
theorem ym_passes_l17 {w : ba_W} {X : ba_X} (V : ba_V ba_tM w 5 X cX6_passes RX6 rm_m_passes) {z1 : Int32} {o : ba_St} (EX : ∀ (s : ba_St) , s = o → ba_G ba_tM w 5 X s 79 [(0, .ref (w.1 0)), (1, .int z1)] []) : ∀ (n : Nat) (s : ba_St) (z2 : Int32) (z3 : Int32), ba_fix (xm_passes_l17 z1) n (s, z2, z3) = some o → ba_G ba_tM w 5 X s 17 [(0, .ref (w.1 0)), (1, .int z1), (2, .int z2), (3, .int z3)] [] := by
  intro n s z2 z3 h
  refine ba_loop (P := fun a => ba_G ba_tM w 5 X a.1 17 [(0, .ref (w.1 0)), (1, .int z1), (2, .int a.2.1), (3, .int a.2.2)] []) ?_ n (s, z2, z3) h
  intro k hk0 a h
  obtain ⟨s, z2, z3⟩ := a
  have hk : ∀ (s : ba_St) (z2 : Int32) (z3 : Int32), k (s, z2, z3) = some o → ba_G ba_tM w 5 X s 17 [(0, .ref (w.1 0)), (1, .int z1), (2, .int z2), (3, .int z3)] [] := fun s z2 z3 e => hk0 (s, z2, z3) e
  unfold xm_passes_l17 at h
  try dsimp only at h ⊢
  refine ba_iload_n V dX6_passes_17 3 rfl ?_
  refine ba_if_lt V dX6_passes_18 rfl h (fun h => ?_) (fun h => ?_)
  · exact ba_sub [0, 1] rfl (EX _ (Option.some.inj h))
  · refine ba_iconst V dX6_passes_21 ba_c0 ?_
    refine ba_istore (lv' := [(4, .int 0), (0, .ref (w.1 0)), (1, .int z1), (2, .int z2), (3, .int z3)]) V dX6_passes_22 (by decide) rfl ?_
    obtain ⟨o, ho, h⟩ := ba_bnd_some h
    refine ba_sub [1, 2, 3, 4, 0] rfl (ym_passes_l24 V (o := o) (fun s840 x841 e => ?_) 1000 s z2 0 ho)
    subst e
    try dsimp only at h
    refine ba_iinc V dX6_passes_73 3 rfl ba_cm1 (by decide) h (fun x842 h => ⟨[(3, .int x842), (0, .ref (w.1 0)), (1, .int z1), (2, .int x841)], rfl, ?_⟩)
    refine ba_goto V dX6_passes_76 rfl ?_
    exact ba_sub [1, 2, 3, 0] rfl (hk _ _ _ h)
def xm_passes_l81 (z1 : Int32) (k : (ba_St × Int32) → Option (ba_St)) (a : (ba_St × Int32)) : Option (ba_St) :=
  match a with
  | (s, z3) =>
    if (s.1 0 10) ≤ z3 then
      some s
    else
      ba_grd (ba_inb ((2 * z3) + 1) 24) <|
      ba_lt ((s.1 9 (ba_ix ((2 * z3) + 1))) - 1) fun x844 =>
      ba_grd (ba_inb z3 12) <|
      if (s.1 11 (ba_ix z3)) = (-1) then
        ba_grd (ba_inb (2 * z3) 24) <|
        if z1 < (s.1 9 (ba_ix (2 * z3))) then
          ba_lt (z3 + 1) fun x845 =>
          k (s, x845)
        else
          ba_bnd (xm_whoAt s 0 x844) fun v846 =>
          if v846 = (-1) then
            ba_grd (ba_inb z3 12) <|
            ba_lt (ba_w s 11 (ba_ix z3) 0) fun s847 =>
            ba_grd (ba_inb z3 12) <|
            ba_lt (ba_w s847 12 (ba_ix z3) x844) fun s848 =>
            ba_lt (z3 + 1) fun x849 =>
            k (s848, x849)
          else
            ba_lt (z3 + 1) fun x850 =>
            k (s, x850)
      else
        ba_lt (z3 + 1) fun x851 =>
        k (s, x851)
set_option maxHeartbeats 4000000 in
set_option maxRecDepth 100000 in
theorem ym_passes_l81 {w : ba_W} {X : ba_X} (V : ba_V ba_tM w 5 X cX6_passes RX6 rm_m_passes) {z1 : Int32} {o : ba_St} (EX : ∀ (s : ba_St) , s = o → ba_G ba_tM w 5 X s 157 [(0, .ref (w.1 0)), (1, .int z1)] []) : ∀ (n : Nat) (s : ba_St) (z3 : Int32), ba_fix (xm_passes_l81 z1) n (s, z3) = some o → ba_G ba_tM w 5 X s 81 [(0, .ref (w.1 0)), (1, .int z1), (3, .int z3)] [] := by
  intro n s z3 h
  refine ba_loop (P := fun a => ba_G ba_tM w 5 X a.1 81 [(0, .ref (w.1 0)), (1, .int z1), (3, .int a.2)] []) ?_ n (s, z3) h
  intro k hk0 a h
  obtain ⟨s, z3⟩ := a
  have hk : ∀ (s : ba_St) (z3 : Int32), k (s, z3) = some o → ba_G ba_tM w 5 X s 81 [(0, .ref (w.1 0)), (1, .int z1), (3, .int z3)] [] := fun s z3 e => hk0 (s, z3) e
  unfold xm_passes_l81 at h
  try dsimp only at h ⊢
  refine ba_iload_n V dX6_passes_81 2 rfl ?_
  refine ba_aload_n V dX6_passes_82 0 rfl ?_
  refine ba_getI V dX6_passes_83 kfX6_143 ba_sModel rfl ?_
  refine ba_icmp_ge V dX6_passes_86 rfl h (fun h => ?_) (fun h => ?_)
  · exact ba_sub [0, 1] rfl (EX _ (Option.some.inj h))
  · refine ba_aload_n V dX6_passes_89 0 rfl ?_
    refine ba_getR V dX6_passes_90 kfX6_34 ba_sModel rfl ?_
    refine ba_iconst V dX6_passes_93 ba_c2 ?_
    refine ba_iload_n V dX6_passes_94 2 rfl ?_
    refine ba_imul V dX6_passes_95 ?_
    refine ba_iconst V dX6_passes_96 ba_c1 ?_
    refine ba_iadd V dX6_passes_97 ?_
    refine ba_iald V dX6_passes_98 ba_sM_9 h (fun h => ?_)
    refine ba_iconst V dX6_passes_99 ba_c1 ?_
    refine ba_isub V dX6_passes_100 ?_
    refine ba_letI h (fun x844 h => ?_)
    refine ba_istore (lv' := [(4, .int x844), (0, .ref (w.1 0)), (1, .int z1), (3, .int z3)]) V dX6_passes_101 (by decide) rfl ?_
    refine ba_aload_n V dX6_passes_103 1 rfl ?_
    refine ba_getR V dX6_passes_104 kfX6_40 ba_sModel rfl ?_
    refine ba_iload_n V dX6_passes_107 3 rfl ?_
    refine ba_iald V dX6_passes_108 ba_sM_11 h (fun h => ?_)
    refine ba_iconst V dX6_passes_109 ba_cm1 ?_
    refine ba_icmp_ne V dX6_passes_110 rfl h (fun h => ?_) (fun h => ?_)
    · refine ba_iload_n V dX6_passes_113 2 rfl ?_
      refine ba_aload_n V dX6_passes_114 1 rfl ?_
      refine ba_getR V dX6_passes_115 kfX6_34 ba_sModel rfl ?_
      refine ba_iconst V dX6_passes_118 ba_c2 ?_
      refine ba_iload_n V dX6_passes_119 3 rfl ?_
      refine ba_imul V dX6_passes_120 ?_
      refine ba_iald V dX6_passes_121 ba_sM_9 h (fun h => ?_)
      refine ba_icmp_lt V dX6_passes_122 rfl h (fun h => ?_) (fun h => ?_)
      · refine ba_iinc V dX6_passes_151 3 rfl ba_c1 (by decide) h (fun x845 h => ⟨[(3, .int x845), (4, .int x844), (0, .ref (w.1 0)), (1, .int z1)], rfl, ?_⟩)
        refine ba_goto V dX6_passes_154 rfl ?_
        exact ba_sub [2, 3, 0] rfl (hk _ _ h)
      · refine ba_aload_n V dX6_passes_125 1 rfl ?_
        refine ba_iconst V dX6_passes_126 ba_c0 ?_
        refine ba_iload V dX6_passes_127 0 rfl ?_
        obtain ⟨v846, hc, h⟩ := ba_bnd_some h
        refine ba_callVI (As := [.int 0, .int x844]) (st := []) V dX6_passes_129 kcX6_187 ba_sModel (fun l => ym_whoAt V.inj l hc) ⟨rfl, rfl⟩ ⟨rfl, rfl, Nat.le_of_ble_eq_true rfl, Nat.le_of_ble_eq_true rfl⟩ (Nat.le_of_ble_eq_true rfl) ?_
        refine ba_iconst V dX6_passes_132 ba_cm1 ?_
        refine ba_icmp_ne V dX6_passes_133 rfl h (fun h => ?_) (fun h => ?_)
        · refine ba_aload_n V dX6_passes_136 1 rfl ?_
          refine ba_getR V dX6_passes_137 kfX6_40 ba_sModel rfl ?_
          refine ba_iload_n V dX6_passes_140 3 rfl ?_
          refine ba_iconst V dX6_passes_141 ba_c0 ?_
          refine ba_iast V dX6_passes_142 ba_sM_11 h (fun s847 h => ?_)
          refine ba_aload_n V dX6_passes_143 1 rfl ?_
          refine ba_getR V dX6_passes_144 kfX6_43 ba_sModel rfl ?_
          refine ba_iload_n V dX6_passes_147 3 rfl ?_
          refine ba_iload V dX6_passes_148 0 rfl ?_
          refine ba_iast V dX6_passes_150 ba_sM_12 h (fun s848 h => ?_)
          refine ba_iinc V dX6_passes_151 3 rfl ba_c1 (by decide) h (fun x849 h => ⟨[(3, .int x849), (4, .int x844), (0, .ref (w.1 0)), (1, .int z1)], rfl, ?_⟩)
          refine ba_goto V dX6_passes_154 rfl ?_
          exact ba_sub [2, 3, 0] rfl (hk _ _ h)
        · refine ba_iinc V dX6_passes_151 3 rfl ba_c1 (by decide) h (fun x850 h => ⟨[(3, .int x850), (4, .int x844), (0, .ref (w.1 0)), (1, .int z1)], rfl, ?_⟩)
          refine ba_goto V dX6_passes_154 rfl ?_
          exact ba_sub [2, 3, 0] rfl (hk _ _ h)
    · refine ba_iinc V dX6_passes_151 3 rfl ba_c1 (by decide) h (fun x851 h => ⟨[(3, .int x851), (4, .int x844), (0, .ref (w.1 0)), (1, .int z1)], rfl, ?_⟩)
      refine ba_goto V dX6_passes_154 rfl ?_
      exact ba_sub [2, 3, 0] rfl (hk _ _ h)
def xm_passes_l159 (z1 : Int32) (k : (ba_St × Int32) → Option (ba_St)) (a : (ba_St × Int32)) : Option (ba_St) :=
  match a with
  | (s, z3) =>
    if (s.1 0 10) ≤ z3 then
      some s
    else
      ba_grd (ba_inb z3 12) <|
      ba_grd (ba_inb ((12 * z1) + z3) 288) <|
      ba_lt (ba_w s 21 (ba_ix ((12 * z1) + z3)) (s.1 11 (ba_ix z3))) fun s853 =>
      ba_grd (ba_inb z3 12) <|
      ba_grd (ba_inb ((12 * z1) + z3) 288) <|
      ba_lt (ba_w s853 22 (ba_ix ((12 * z1) + z3)) (s853.1 12 (ba_ix z3))) fun s854 =>
      ba_lt (z3 + 1) fun x855 =>
      k (s854, x855)
set_option maxHeartbeats 4000000 in
set_option maxRecDepth 100000 in
theorem ym_passes_l159 {w : ba_W} {X : ba_X} (V : ba_V ba_tM w 5 X cX6_passes RX6 rm_m_passes) {z1 : Int32} {o : ba_St} (EX : ∀ (s : ba_St) , s = o → ba_G ba_tM w 5 X s 207 [] []) : ∀ (n : Nat) (s : ba_St) (z3 : Int32), ba_fix (xm_passes_l159 z1) n (s, z3) = some o → ba_G ba_tM w 5 X s 159 [(0, .ref (w.1 0)), (1, .int z1), (3, .int z3)] [] := by
  intro n s z3 h
  refine ba_loop (P := fun a => ba_G ba_tM w 5 X a.1 159 [(0, .ref (w.1 0)), (1, .int z1), (3, .int a.2)] []) ?_ n (s, z3) h
  intro k hk0 a h
  obtain ⟨s, z3⟩ := a
  have hk : ∀ (s : ba_St) (z3 : Int32), k (s, z3) = some o → ba_G ba_tM w 5 X s 159 [(0, .ref (w.1 0)), (1, .int z1), (3, .int z3)] [] := fun s z3 e => hk0 (s, z3) e
  unfold xm_passes_l159 at h
  try dsimp only at h ⊢
  refine ba_iload_n V dX6_passes_159 2 rfl ?_
  refine ba_aload_n V dX6_passes_160 0 rfl ?_
  refine ba_getI V dX6_passes_161 kfX6_143 ba_sModel rfl ?_
  refine ba_icmp_ge V dX6_passes_164 rfl h (fun h => ?_) (fun h => ?_)
  · exact ba_sub [] rfl (EX _ (Option.some.inj h))
  · refine ba_aload_n V dX6_passes_167 0 rfl ?_
    refine ba_getR V dX6_passes_168 kfX6_70 ba_sModel rfl ?_
    refine ba_bipush V dX6_passes_171 ba_c12b ?_
    refine ba_iload_n V dX6_passes_173 1 rfl ?_
    refine ba_imul V dX6_passes_174 ?_
    refine ba_iload_n V dX6_passes_175 2 rfl ?_
    refine ba_iadd V dX6_passes_176 ?_
    refine ba_aload_n V dX6_passes_177 0 rfl ?_
    refine ba_getR V dX6_passes_178 kfX6_40 ba_sModel rfl ?_
    refine ba_iload_n V dX6_passes_181 2 rfl ?_
    refine ba_iald V dX6_passes_182 ba_sM_11 h (fun h => ?_)
    refine ba_iast V dX6_passes_183 ba_sM_21 h (fun s853 h => ?_)
    refine ba_aload_n V dX6_passes_184 0 rfl ?_
    refine ba_getR V dX6_passes_185 kfX6_73 ba_sModel rfl ?_
    refine ba_bipush V dX6_passes_188 ba_c12b ?_
    refine ba_iload_n V dX6_passes_190 1 rfl ?_
    refine ba_imul V dX6_passes_191 ?_
    refine ba_iload_n V dX6_passes_192 2 rfl ?_
    refine ba_iadd V dX6_passes_193 ?_
    refine ba_aload_n V dX6_passes_194 0 rfl ?_
    refine ba_getR V dX6_passes_195 kfX6_43 ba_sModel rfl ?_
    refine ba_iload_n V dX6_passes_198 2 rfl ?_
    refine ba_iald V dX6_passes_199 ba_sM_12 h (fun h => ?_)
    refine ba_iast V dX6_passes_200 ba_sM_22 h (fun s854 h => ?_)
    refine ba_iinc V dX6_passes_201 2 rfl ba_c1 (by decide) h (fun x855 h => ⟨[(3, .int x855), (0, .ref (w.1 0)), (1, .int z1)], rfl, ?_⟩)
    refine ba_goto V dX6_passes_204 rfl ?_
    exact ba_sub [1, 2, 0] rfl (hk _ _ h)
def xm_passes (s : ba_St) (a1 : Int32) : Option (ba_St) :=
  ba_grd (ba_inb a1 24) <|
  ba_lt (ba_w s 20 (ba_ix a1) 0) fun s832 =>
  ba_bnd (xm_happens s832 a1) fun s833 =>
  ba_bnd (ba_fix (xm_passes_l17 a1) 1000 (s833, 0, 7)) fun s843 =>
    ba_bnd (ba_fix (xm_passes_l81 a1) 1000 (s843, 0)) fun s852 =>
      ba_bnd (ba_fix (xm_passes_l159 a1) 1000 (s852, 0)) fun s856 =>
        some s856
set_option maxHeartbeats 4000000 in
set_option maxRecDepth 100000 in
theorem ym_passes {w : ba_W} (hj : ba_inj ba_tM w) (l : Launch) {s : ba_St} {a1 : Int32} {o : ba_St} (h : xm_passes s a1 = some o) : ba_CV ba_tM w l yX6_passes cX6_passes 5 none rm_m_passes [.ref (w.1 0), .int a1] s o := by
  refine ba_metV (lv := [(0, .ref (w.1 0)), (1, .int a1)]) l hj (by decide +kernel) ⟨Nat.le_of_ble_eq_true rfl, rfl⟩ ?_
  intro X V RT
  unfold xm_passes at h
  refine ba_aload_n V dX6_passes_0 0 rfl ?_
  refine ba_getR V dX6_passes_1 kfX6_67 ba_sModel rfl ?_
  refine ba_iload_n V dX6_passes_4 1 rfl ?_
  refine ba_iconst V dX6_passes_5 ba_c0 ?_
  refine ba_iast V dX6_passes_6 ba_sM_20 h (fun s832 h => ?_)
  refine ba_aload_n V dX6_passes_7 0 rfl ?_
  refine ba_iload_n V dX6_passes_8 1 rfl ?_
  obtain ⟨s833, hc, h⟩ := ba_bnd_some h
  refine ba_callVV (As := [.int a1]) (st := []) V dX6_passes_9 kcX6_226 ba_sModel (fun l => ym_happens V.inj l hc) ⟨rfl, rfl⟩ ⟨rfl, rfl, Nat.le_of_ble_eq_true rfl, Nat.le_of_ble_eq_true rfl⟩ (Nat.le_of_ble_eq_true rfl) ?_
  refine ba_iconst V dX6_passes_12 ba_c0 ?_
  refine ba_istore_n (lv' := [(2, .int 0), (0, .ref (w.1 0)), (1, .int a1)]) V dX6_passes_13 (by decide) rfl ?_
  refine ba_bipush V dX6_passes_14 ba_c7b ?_
  refine ba_istore_n (lv' := [(3, .int 7), (2, .int 0), (0, .ref (w.1 0)), (1, .int a1)]) V dX6_passes_16 (by decide) rfl ?_
  obtain ⟨o, ho, h⟩ := ba_bnd_some h
  refine ba_sub [2, 3, 1, 0] rfl (ym_passes_l17 V (o := o) (fun s843 e => ?_) 1000 s833 0 7 ho)
  subst e
  try dsimp only at h
  refine ba_iconst V dX6_passes_79 ba_c0 ?_
  refine ba_istore_n (lv' := [(3, .int 0), (0, .ref (w.1 0)), (1, .int a1)]) V dX6_passes_80 (by decide) rfl ?_
  obtain ⟨o, ho, h⟩ := ba_bnd_some h
  refine ba_sub [1, 2, 0] rfl (ym_passes_l81 V (o := o) (fun s852 e => ?_) 1000 s843 0 ho)
  subst e
  try dsimp only at h
  refine ba_iconst V dX6_passes_157 ba_c0 ?_
  refine ba_istore_n (lv' := [(3, .int 0), (0, .ref (w.1 0)), (1, .int a1)]) V dX6_passes_158 (by decide) rfl ?_
  obtain ⟨o, ho, h⟩ := ba_bnd_some h
  refine ba_sub [1, 2, 0] rfl (ym_passes_l159 V (o := o) (fun s856 e => ?_) 1000 s852 0 ho)
  subst e
  try dsimp only at h
  exact RT _ _ _ dX6_passes_207 (Option.some.inj h)
def xm_lives_l2 (k : (ba_St × Int32) → Option (ba_St)) (a : (ba_St × Int32)) : Option (ba_St) :=
  match a with
  | (s, z1) =>
    if 12 ≤ z1 then
      some s
    else
      ba_grd (ba_inb z1 12) <|
      ba_lt (ba_w s 11 (ba_ix z1) (-1)) fun s857 =>
      ba_grd (ba_inb z1 12) <|
      ba_lt (ba_w s857 12 (ba_ix z1) (-1)) fun s858 =>
      ba_grd (ba_inb z1 12) <|
      ba_lt (ba_w s858 13 (ba_ix z1) 0) fun s859 =>
      ba_grd (ba_inb z1 12) <|
      ba_lt (ba_w s859 14 (ba_ix z1) (-1)) fun s860 =>
      ba_grd (ba_inb z1 12) <|
      ba_lt (ba_w s860 15 (ba_ix z1) 0) fun s861 =>
      ba_grd (ba_inb z1 12) <|
      ba_lt (ba_w s861 17 (ba_ix z1) 0) fun s862 =>
      ba_grd (ba_inb ((3 * z1) + 2) 36) <|
      ba_grd (ba_inb z1 12) <|
      ba_lt (ba_w s862 16 (ba_ix z1) (s862.1 7 (ba_ix ((3 * z1) + 2)))) fun s863 =>
      ba_lt (z1 + 1) fun x864 =>
      k (s863, x864)
set_option maxHeartbeats 4000000 in
set_option maxRecDepth 100000 in
theorem ym_lives_l2 {w : ba_W} {X : ba_X} (V : ba_V ba_tM w 2 X cX6_lives RX6 rm_m_lives) {o : ba_St} (EX : ∀ (s : ba_St) , s = o → ba_G ba_tM w 2 X s 72 [(0, .ref (w.1 0))] []) : ∀ (n : Nat) (s : ba_St) (z1 : Int32), ba_fix (xm_lives_l2) n (s, z1) = some o → ba_G ba_tM w 2 X s 2 [(0, .ref (w.1 0)), (1, .int z1)] [] := by
  intro n s z1 h
  refine ba_loop (P := fun a => ba_G ba_tM w 2 X a.1 2 [(0, .ref (w.1 0)), (1, .int a.2)] []) ?_ n (s, z1) h
  intro k hk0 a h
  obtain ⟨s, z1⟩ := a
  have hk : ∀ (s : ba_St) (z1 : Int32), k (s, z1) = some o → ba_G ba_tM w 2 X s 2 [(0, .ref (w.1 0)), (1, .int z1)] [] := fun s z1 e => hk0 (s, z1) e
  unfold xm_lives_l2 at h
  try dsimp only at h ⊢
  refine ba_iload_n V dX6_lives_2 1 rfl ?_
  refine ba_bipush V dX6_lives_3 ba_c12b ?_
  refine ba_icmp_ge V dX6_lives_5 rfl h (fun h => ?_) (fun h => ?_)
  · exact ba_sub [0] rfl (EX _ (Option.some.inj h))
  · refine ba_aload_n V dX6_lives_8 0 rfl ?_
    refine ba_getR V dX6_lives_9 kfX6_40 ba_sModel rfl ?_
    refine ba_iload_n V dX6_lives_12 1 rfl ?_
    refine ba_iconst V dX6_lives_13 ba_cm1 ?_
    refine ba_iast V dX6_lives_14 ba_sM_11 h (fun s857 h => ?_)
    refine ba_aload_n V dX6_lives_15 0 rfl ?_
    refine ba_getR V dX6_lives_16 kfX6_43 ba_sModel rfl ?_
    refine ba_iload_n V dX6_lives_19 1 rfl ?_
    refine ba_iconst V dX6_lives_20 ba_cm1 ?_
    refine ba_iast V dX6_lives_21 ba_sM_12 h (fun s858 h => ?_)
    refine ba_aload_n V dX6_lives_22 0 rfl ?_
    refine ba_getR V dX6_lives_23 kfX6_46 ba_sModel rfl ?_
    refine ba_iload_n V dX6_lives_26 1 rfl ?_
    refine ba_iconst V dX6_lives_27 ba_c0 ?_
    refine ba_iast V dX6_lives_28 ba_sM_13 h (fun s859 h => ?_)
    refine ba_aload_n V dX6_lives_29 0 rfl ?_
    refine ba_getR V dX6_lives_30 kfX6_49 ba_sModel rfl ?_
    refine ba_iload_n V dX6_lives_33 1 rfl ?_
    refine ba_iconst V dX6_lives_34 ba_cm1 ?_
    refine ba_iast V dX6_lives_35 ba_sM_14 h (fun s860 h => ?_)
    refine ba_aload_n V dX6_lives_36 0 rfl ?_
    refine ba_getR V dX6_lives_37 kfX6_52 ba_sModel rfl ?_
    refine ba_iload_n V dX6_lives_40 1 rfl ?_
    refine ba_iconst V dX6_lives_41 ba_c0 ?_
    refine ba_iast V dX6_lives_42 ba_sM_15 h (fun s861 h => ?_)
    refine ba_aload_n V dX6_lives_43 0 rfl ?_
    refine ba_getR V dX6_lives_44 kfX6_58 ba_sModel rfl ?_
    refine ba_iload_n V dX6_lives_47 1 rfl ?_
    refine ba_iconst V dX6_lives_48 ba_c0 ?_
    refine ba_iast V dX6_lives_49 ba_sM_17 h (fun s862 h => ?_)
    refine ba_aload_n V dX6_lives_50 0 rfl ?_
    refine ba_getR V dX6_lives_51 kfX6_55 ba_sModel rfl ?_
    refine ba_iload_n V dX6_lives_54 1 rfl ?_
    refine ba_aload_n V dX6_lives_55 0 rfl ?_
    refine ba_getR V dX6_lives_56 kfX6_28 ba_sModel rfl ?_
    refine ba_iconst V dX6_lives_59 ba_c3 ?_
    refine ba_iload_n V dX6_lives_60 1 rfl ?_
    refine ba_imul V dX6_lives_61 ?_
    refine ba_iconst V dX6_lives_62 ba_c2 ?_
    refine ba_iadd V dX6_lives_63 ?_
    refine ba_iald V dX6_lives_64 ba_sM_7 h (fun h => ?_)
    refine ba_iast V dX6_lives_65 ba_sM_16 h (fun s863 h => ?_)
    refine ba_iinc V dX6_lives_66 1 rfl ba_c1 (by decide) h (fun x864 h => ⟨[(1, .int x864), (0, .ref (w.1 0))], rfl, ?_⟩)
    refine ba_goto V dX6_lives_69 rfl ?_
    exact ba_sub [1, 0] rfl (hk _ _ h)
def xm_lives_l74 (k : (ba_St × Int32) → Option (ba_St)) (a : (ba_St × Int32)) : Option (ba_St) :=
  match a with
  | (s, z1) =>
    if 9 ≤ z1 then
      some s
    else
      ba_grd (ba_inb z1 9) <|
      ba_lt (ba_w s 18 (ba_ix z1) 0) fun s866 =>
      ba_grd (ba_inb z1 9) <|
      ba_lt (ba_w s866 19 (ba_ix z1) 0) fun s867 =>
      ba_lt (z1 + 1) fun x868 =>
      k (s867, x868)
set_option maxHeartbeats 4000000 in
set_option maxRecDepth 100000 in
theorem ym_lives_l74 {w : ba_W} {X : ba_X} (V : ba_V ba_tM w 2 X cX6_lives RX6 rm_m_lives) {o : ba_St} (EX : ∀ (s : ba_St) , s = o → ba_G ba_tM w 2 X s 100 [(0, .ref (w.1 0))] []) : ∀ (n : Nat) (s : ba_St) (z1 : Int32), ba_fix (xm_lives_l74) n (s, z1) = some o → ba_G ba_tM w 2 X s 74 [(0, .ref (w.1 0)), (1, .int z1)] [] := by
  intro n s z1 h
  refine ba_loop (P := fun a => ba_G ba_tM w 2 X a.1 74 [(0, .ref (w.1 0)), (1, .int a.2)] []) ?_ n (s, z1) h
  intro k hk0 a h
  obtain ⟨s, z1⟩ := a
  have hk : ∀ (s : ba_St) (z1 : Int32), k (s, z1) = some o → ba_G ba_tM w 2 X s 74 [(0, .ref (w.1 0)), (1, .int z1)] [] := fun s z1 e => hk0 (s, z1) e
  unfold xm_lives_l74 at h
  try dsimp only at h ⊢
  refine ba_iload_n V dX6_lives_74 1 rfl ?_
  refine ba_bipush V dX6_lives_75 ba_c9b ?_
  refine ba_icmp_ge V dX6_lives_77 rfl h (fun h => ?_) (fun h => ?_)
  · exact ba_sub [0] rfl (EX _ (Option.some.inj h))
  · refine ba_aload_n V dX6_lives_80 0 rfl ?_
    refine ba_getR V dX6_lives_81 kfX6_61 ba_sModel rfl ?_
    refine ba_iload_n V dX6_lives_84 1 rfl ?_
    refine ba_iconst V dX6_lives_85 ba_c0 ?_
    refine ba_iast V dX6_lives_86 ba_sM_18 h (fun s866 h => ?_)
    refine ba_aload_n V dX6_lives_87 0 rfl ?_
    refine ba_getR V dX6_lives_88 kfX6_64 ba_sModel rfl ?_
    refine ba_iload_n V dX6_lives_91 1 rfl ?_
    refine ba_iconst V dX6_lives_92 ba_c0 ?_
    refine ba_iast V dX6_lives_93 ba_sM_19 h (fun s867 h => ?_)
    refine ba_iinc V dX6_lives_94 1 rfl ba_c1 (by decide) h (fun x868 h => ⟨[(1, .int x868), (0, .ref (w.1 0))], rfl, ?_⟩)
    refine ba_goto V dX6_lives_97 rfl ?_
    exact ba_sub [1, 0] rfl (hk _ _ h)
def xm_lives_l107 (k : (ba_St × Int32) → Option (ba_St)) (a : (ba_St × Int32)) : Option (ba_St) :=
  match a with
  | (s, z1) =>
    if 24 ≤ z1 then
      some s
    else
      ba_bnd (xm_passes s z1) fun s871 =>
      ba_lt (z1 + 1) fun x872 =>
      k (s871, x872)
set_option maxHeartbeats 4000000 in
set_option maxRecDepth 100000 in
theorem ym_lives_l107 {w : ba_W} {X : ba_X} (V : ba_V ba_tM w 2 X cX6_lives RX6 rm_m_lives) {o : ba_St} (EX : ∀ (s : ba_St) , s = o → ba_G ba_tM w 2 X s 124 [] []) : ∀ (n : Nat) (s : ba_St) (z1 : Int32), ba_fix (xm_lives_l107) n (s, z1) = some o → ba_G ba_tM w 2 X s 107 [(0, .ref (w.1 0)), (1, .int z1)] [] := by
  intro n s z1 h
  refine ba_loop (P := fun a => ba_G ba_tM w 2 X a.1 107 [(0, .ref (w.1 0)), (1, .int a.2)] []) ?_ n (s, z1) h
  intro k hk0 a h
  obtain ⟨s, z1⟩ := a
  have hk : ∀ (s : ba_St) (z1 : Int32), k (s, z1) = some o → ba_G ba_tM w 2 X s 107 [(0, .ref (w.1 0)), (1, .int z1)] [] := fun s z1 e => hk0 (s, z1) e
  unfold xm_lives_l107 at h
  try dsimp only at h ⊢
  refine ba_iload_n V dX6_lives_107 1 rfl ?_
  refine ba_bipush V dX6_lives_108 ba_c24b ?_
  refine ba_icmp_ge V dX6_lives_110 rfl h (fun h => ?_) (fun h => ?_)
  · exact ba_sub [] rfl (EX _ (Option.some.inj h))
  · refine ba_aload_n V dX6_lives_113 0 rfl ?_
    refine ba_iload_n V dX6_lives_114 1 rfl ?_
    obtain ⟨s871, hc, h⟩ := ba_bnd_some h
    refine ba_callVV (As := [.int z1]) (st := []) V dX6_lives_115 kcX6_233 ba_sModel (fun l => ym_passes V.inj l hc) ⟨rfl, rfl⟩ ⟨rfl, rfl, Nat.le_of_ble_eq_true rfl, Nat.le_of_ble_eq_true rfl⟩ (Nat.le_of_ble_eq_true rfl) ?_
    refine ba_iinc V dX6_lives_118 1 rfl ba_c1 (by decide) h (fun x872 h => ⟨[(1, .int x872), (0, .ref (w.1 0))], rfl, ?_⟩)
    refine ba_goto V dX6_lives_121 rfl ?_
    exact ba_sub [1, 0] rfl (hk _ _ h)
def xm_lives (s : ba_St) : Option (ba_St) :=
  ba_bnd (ba_fix (xm_lives_l2) 1000 (s, 0)) fun s865 =>
    ba_bnd (ba_fix (xm_lives_l74) 1000 (s865, 0)) fun s869 =>
      ba_lt (ba_w s869 0 28 0) fun s870 =>
      ba_bnd (ba_fix (xm_lives_l107) 1000 (s870, 0)) fun s873 =>
        some s873
set_option maxHeartbeats 4000000 in
set_option maxRecDepth 100000 in
theorem ym_lives {w : ba_W} (hj : ba_inj ba_tM w) (l : Launch) {s : ba_St} {o : ba_St} (h : xm_lives s = some o) : ba_CV ba_tM w l yX6_lives cX6_lives 2 none rm_m_lives [.ref (w.1 0)] s o := by
  refine ba_metV (lv := [(0, .ref (w.1 0))]) l hj (by decide +kernel) ⟨Nat.le_of_ble_eq_true rfl, rfl⟩ ?_
  intro X V RT
  unfold xm_lives at h
  refine ba_iconst V dX6_lives_0 ba_c0 ?_
  refine ba_istore_n (lv' := [(1, .int 0), (0, .ref (w.1 0))]) V dX6_lives_1 (by decide) rfl ?_
  obtain ⟨o, ho, h⟩ := ba_bnd_some h
  refine ba_sub [1, 0] rfl (ym_lives_l2 V (o := o) (fun s865 e => ?_) 1000 s 0 ho)
  subst e
  try dsimp only at h
  refine ba_iconst V dX6_lives_72 ba_c0 ?_
  refine ba_istore_n (lv' := [(1, .int 0), (0, .ref (w.1 0))]) V dX6_lives_73 (by decide) rfl ?_
  obtain ⟨o, ho, h⟩ := ba_bnd_some h
  refine ba_sub [1, 0] rfl (ym_lives_l74 V (o := o) (fun s869 e => ?_) 1000 s865 0 ho)
  subst e
  try dsimp only at h
  refine ba_aload_n V dX6_lives_100 0 rfl ?_
  refine ba_iconst V dX6_lives_101 ba_c0 ?_
  refine ba_putI V dX6_lives_102 kfX6_219 ba_sModel rfl h (fun s870 h => ?_)
  refine ba_iconst V dX6_lives_105 ba_c0 ?_
  refine ba_istore_n (lv' := [(1, .int 0), (0, .ref (w.1 0))]) V dX6_lives_106 (by decide) rfl ?_
  obtain ⟨o, ho, h⟩ := ba_bnd_some h
  refine ba_sub [1, 0] rfl (ym_lives_l107 V (o := o) (fun s873 e => ?_) 1000 s870 0 ho)
  subst e
  try dsimp only at h
  exact RT _ _ _ dX6_lives_124 (Option.some.inj h)
def xm_find (s : ba_St) : Option (ba_St) :=
  ba_bn2 (xm_readsPins s) fun v874 s875 =>
  ba_bn2 (xm_readsCups s875) fun v876 s877 =>
  ba_bn2 (xm_readsBalls s877) fun v878 s879 =>
  ba_bnd (xm_lives s879) fun s880 =>
  some s880
set_option maxHeartbeats 4000000 in
set_option maxRecDepth 100000 in
theorem ym_find {w : ba_W} (hj : ba_inj ba_tM w) (l : Launch) {s : ba_St} {o : ba_St} (h : xm_find s = some o) : ba_CV ba_tM w l yX6_find cX6_find 1 none rm_m_find [.ref (w.1 0)] s o := by
  refine ba_metV (lv := [(0, .ref (w.1 0))]) l hj (by decide +kernel) ⟨Nat.le_of_ble_eq_true rfl, rfl⟩ ?_
  intro X V RT
  unfold xm_find at h
  refine ba_aload_n V dX6_find_0 0 rfl ?_
  obtain ⟨v874, s875, hc, h⟩ := ba_bn2_some h
  refine ba_callVI (As := []) (st := []) V dX6_find_1 kcX6_149 ba_sModel (fun l => ym_readsPins V.inj l hc) ⟨rfl, rfl⟩ ⟨rfl, rfl, Nat.le_of_ble_eq_true rfl, Nat.le_of_ble_eq_true rfl⟩ (Nat.le_of_ble_eq_true rfl) ?_
  refine ba_pop V dX6_find_4 rfl ?_
  refine ba_aload_n V dX6_find_5 0 rfl ?_
  obtain ⟨v876, s877, hc, h⟩ := ba_bn2_some h
  refine ba_callVI (As := []) (st := []) V dX6_find_6 kcX6_153 ba_sModel (fun l => ym_readsCups V.inj l hc) ⟨rfl, rfl⟩ ⟨rfl, rfl, Nat.le_of_ble_eq_true rfl, Nat.le_of_ble_eq_true rfl⟩ (Nat.le_of_ble_eq_true rfl) ?_
  refine ba_pop V dX6_find_9 rfl ?_
  refine ba_aload_n V dX6_find_10 0 rfl ?_
  obtain ⟨v878, s879, hc, h⟩ := ba_bn2_some h
  refine ba_callVI (As := []) (st := []) V dX6_find_11 kcX6_156 ba_sModel (fun l => ym_readsBalls V.inj l hc) ⟨rfl, rfl⟩ ⟨rfl, rfl, Nat.le_of_ble_eq_true rfl, Nat.le_of_ble_eq_true rfl⟩ (Nat.le_of_ble_eq_true rfl) ?_
  refine ba_pop V dX6_find_14 rfl ?_
  refine ba_aload_n V dX6_find_15 0 rfl ?_
  obtain ⟨s880, hc, h⟩ := ba_bnd_some h
  refine ba_callVV (As := []) (st := []) V dX6_find_16 kcX6_236 ba_sModel (fun l => ym_lives V.inj l hc) ⟨rfl, rfl⟩ ⟨rfl, rfl, Nat.le_of_ble_eq_true rfl, Nat.le_of_ble_eq_true rfl⟩ (Nat.le_of_ble_eq_true rfl) ?_
  exact RT _ _ _ dX6_find_19 (Option.some.inj h)
def xm_cupBy (s : ba_St) (a1 : Int32) (a2 : Int32) : Option (Int32) :=
  if a2 = 0 then
    ba_grd (ba_inb a1 9) <|
    some (s.1 8 (ba_ix a1))
  else
    if a2 = 1 then
      ba_grd (ba_inb a1 9) <|
      some (s.1 18 (ba_ix a1))
    else
      ba_grd (ba_inb a1 9) <|
      some (s.1 19 (ba_ix a1))
set_option maxHeartbeats 4000000 in
set_option maxRecDepth 100000 in
theorem ym_cupBy {w : ba_W} (hj : ba_inj ba_tM w) (l : Launch) {s : ba_St} {a1 : Int32} {a2 : Int32} {o : Int32} (h : xm_cupBy s a1 a2 = some o) : ba_CI ba_tM w l yX6_cupBy cX6_cupBy 3 (some .int) rm_m_cupBy [.ref (w.1 0), .int a1, .int a2] s (o, s) := by
  refine ba_metI (lv := [(0, .ref (w.1 0)), (1, .int a1), (2, .int a2)]) l hj (by decide +kernel) ⟨Nat.le_of_ble_eq_true rfl, rfl⟩ ?_
  intro X V RT
  replace RT := fun pc lv v D e => RT pc lv v s D (congrArg (fun q => (q, s)) e)
  unfold xm_cupBy at h
  refine ba_iload_n V dX6_cupBy_0 2 rfl ?_
  refine ba_if_ne V dX6_cupBy_1 rfl h (fun h => ?_) (fun h => ?_)
  · refine ba_aload_n V dX6_cupBy_4 0 rfl ?_
    refine ba_getR V dX6_cupBy_5 kfX6_31 ba_sModel rfl ?_
    refine ba_iload_n V dX6_cupBy_8 1 rfl ?_
    refine ba_iald V dX6_cupBy_9 ba_sM_8 h (fun h => ?_)
    refine ba_goto V dX6_cupBy_10 rfl ?_
    exact RT _ _ _ dX6_cupBy_33 (Option.some.inj h)
  · refine ba_iload_n V dX6_cupBy_13 2 rfl ?_
    refine ba_iconst V dX6_cupBy_14 ba_c1 ?_
    refine ba_icmp_ne V dX6_cupBy_15 rfl h (fun h => ?_) (fun h => ?_)
    · refine ba_aload_n V dX6_cupBy_18 0 rfl ?_
      refine ba_getR V dX6_cupBy_19 kfX6_61 ba_sModel rfl ?_
      refine ba_iload_n V dX6_cupBy_22 1 rfl ?_
      refine ba_iald V dX6_cupBy_23 ba_sM_18 h (fun h => ?_)
      refine ba_goto V dX6_cupBy_24 rfl ?_
      exact RT _ _ _ dX6_cupBy_33 (Option.some.inj h)
    · refine ba_aload_n V dX6_cupBy_27 0 rfl ?_
      refine ba_getR V dX6_cupBy_28 kfX6_64 ba_sModel rfl ?_
      refine ba_iload_n V dX6_cupBy_31 1 rfl ?_
      refine ba_iald V dX6_cupBy_32 ba_sM_19 h (fun h => ?_)
      exact RT _ _ _ dX6_cupBy_33 (Option.some.inj h)
def xm_cup_j32 (s : ba_St) : Option (Int32 × ba_St) :=
  some ((-2), s)
set_option maxHeartbeats 4000000 in
set_option maxRecDepth 100000 in
theorem ym_cup_j32 {w : ba_W} {X : ba_X} (V : ba_V ba_tM w 3 X cX6_cup RX6 rm_m_cup) {s : ba_St} {o : Int32 × ba_St} (RT : ∀ (pc : Nat) (lv : List (Nat × Value)) (v : Int32) (s : ba_St), decode cX6_cup pc = .ok (.ireturn, 1) → (v, s) = o → ba_G ba_tM w 3 X s pc lv [.int v]) (h : xm_cup_j32 s = some o) : ba_G ba_tM w 3 X s 32 [] [] := by
  unfold xm_cup_j32 at h
  refine ba_bipush V dX6_cup_32 ba_cm2b ?_
  exact RT _ _ _ _ dX6_cup_34 (Option.some.inj h)
def xm_cup (s : ba_St) (a1 : Int32) (a2 : Int32) : Option (Int32 × ba_St) :=
  ba_bnd (xm_find s) fun s881 =>
  ba_bnd (xm_isColumn a1) fun v882 =>
  if v882 = 0 then
    xm_cup_j32 s881
  else
    ba_bnd (xm_in (Int32.toInt64 a2) 0 2) fun v883 =>
    if v883 = 0 then
      xm_cup_j32 s881
    else
      ba_bnd (xm_cupBy s881 a1 a2) fun v884 =>
      some (v884, s881)
set_option maxHeartbeats 4000000 in
set_option maxRecDepth 100000 in
theorem ym_cup {w : ba_W} (hj : ba_inj ba_tM w) (l : Launch) {s : ba_St} {a1 : Int32} {a2 : Int32} {o : Int32 × ba_St} (h : xm_cup s a1 a2 = some o) : ba_CI ba_tM w l yX6_cup cX6_cup 3 (some .int) rm_m_cup [.ref (w.1 0), .int a1, .int a2] s o := by
  refine ba_metI (lv := [(0, .ref (w.1 0)), (1, .int a1), (2, .int a2)]) l hj (by decide +kernel) ⟨Nat.le_of_ble_eq_true rfl, rfl⟩ ?_
  intro X V RT
  unfold xm_cup at h
  refine ba_aload_n V dX6_cup_0 0 rfl ?_
  obtain ⟨s881, hc, h⟩ := ba_bnd_some h
  refine ba_callVV (As := []) (st := []) V dX6_cup_1 kcX6_239 ba_sModel (fun l => ym_find V.inj l hc) ⟨rfl, rfl⟩ ⟨rfl, rfl, Nat.le_of_ble_eq_true rfl, Nat.le_of_ble_eq_true rfl⟩ (Nat.le_of_ble_eq_true rfl) ?_
  refine ba_iload_n V dX6_cup_4 1 rfl ?_
  obtain ⟨v882, hc, h⟩ := ba_bnd_some h
  refine ba_callSI (As := [.int a1]) (st := []) V dX6_cup_5 kcX6_190 (fun l => ym_isColumn V.inj l hc) ⟨rfl, rfl⟩ ⟨rfl, rfl, Nat.le_of_ble_eq_true rfl, Nat.le_of_ble_eq_true rfl⟩ (Nat.le_of_ble_eq_true rfl) ?_
  refine ba_if_eq V dX6_cup_8 rfl h (fun h => ?_) (fun h => ?_)
  · exact ba_sub [] rfl (ym_cup_j32 V RT h)
  · refine ba_iload_n V dX6_cup_11 2 rfl ?_
    refine ba_i2l V dX6_cup_12 ?_
    refine ba_lconst V dX6_cup_13 rfl ?_
    refine ba_ldc2 V dX6_cup_14 kkX6_101 ?_
    obtain ⟨v883, hc, h⟩ := ba_bnd_some h
    refine ba_callSI (As := [.long (Int32.toInt64 a2), .long 0, .long 2]) (st := []) V dX6_cup_17 kcX6_88 (fun l => ym_in V.inj l hc) ⟨rfl, rfl⟩ ⟨rfl, rfl, Nat.le_of_ble_eq_true rfl, Nat.le_of_ble_eq_true rfl⟩ (Nat.le_of_ble_eq_true rfl) ?_
    refine ba_if_eq V dX6_cup_20 rfl h (fun h => ?_) (fun h => ?_)
    · exact ba_sub [] rfl (ym_cup_j32 V RT h)
    · refine ba_aload_n V dX6_cup_23 0 rfl ?_
      refine ba_iload_n V dX6_cup_24 1 rfl ?_
      refine ba_iload_n V dX6_cup_25 2 rfl ?_
      obtain ⟨v884, hc, h⟩ := ba_bnd_some h
      refine ba_callVI (As := [.int a1, .int a2]) (st := []) V dX6_cup_26 kcX6_242 ba_sModel (fun l => ym_cupBy V.inj l hc) ⟨rfl, rfl⟩ ⟨rfl, rfl, Nat.le_of_ble_eq_true rfl, Nat.le_of_ble_eq_true rfl⟩ (Nat.le_of_ble_eq_true rfl) ?_
      refine ba_goto V dX6_cup_29 rfl ?_
      exact RT _ _ _ _ dX6_cup_34 (Option.some.inj h)
def xm_atBy (s : ba_St) (a1 : Int32) (a2 : Int32) (a3 : Int32) : Option (Int32) :=
  if a3 = 0 then
    ba_grd (ba_inb ((12 * a1) + a2) 288) <|
    some (s.1 21 (ba_ix ((12 * a1) + a2)))
  else
    ba_grd (ba_inb ((12 * a1) + a2) 288) <|
    some (s.1 22 (ba_ix ((12 * a1) + a2)))
set_option maxHeartbeats 4000000 in
set_option maxRecDepth 100000 in
theorem ym_atBy {w : ba_W} (hj : ba_inj ba_tM w) (l : Launch) {s : ba_St} {a1 : Int32} {a2 : Int32} {a3 : Int32} {o : Int32} (h : xm_atBy s a1 a2 a3 = some o) : ba_CI ba_tM w l yX6_atBy cX6_atBy 4 (some .int) rm_m_atBy [.ref (w.1 0), .int a1, .int a2, .int a3] s (o, s) := by
  refine ba_metI (lv := [(0, .ref (w.1 0)), (1, .int a1), (2, .int a2), (3, .int a3)]) l hj (by decide +kernel) ⟨Nat.le_of_ble_eq_true rfl, rfl⟩ ?_
  intro X V RT
  replace RT := fun pc lv v D e => RT pc lv v s D (congrArg (fun q => (q, s)) e)
  unfold xm_atBy at h
  refine ba_iload_n V dX6_atBy_0 3 rfl ?_
  refine ba_if_ne V dX6_atBy_1 rfl h (fun h => ?_) (fun h => ?_)
  · refine ba_aload_n V dX6_atBy_4 0 rfl ?_
    refine ba_getR V dX6_atBy_5 kfX6_70 ba_sModel rfl ?_
    refine ba_bipush V dX6_atBy_8 ba_c12b ?_
    refine ba_iload_n V dX6_atBy_10 1 rfl ?_
    refine ba_imul V dX6_atBy_11 ?_
    refine ba_iload_n V dX6_atBy_12 2 rfl ?_
    refine ba_iadd V dX6_atBy_13 ?_
    refine ba_iald V dX6_atBy_14 ba_sM_21 h (fun h => ?_)
    refine ba_goto V dX6_atBy_15 rfl ?_
    exact RT _ _ _ dX6_atBy_29 (Option.some.inj h)
  · refine ba_aload_n V dX6_atBy_18 0 rfl ?_
    refine ba_getR V dX6_atBy_19 kfX6_73 ba_sModel rfl ?_
    refine ba_bipush V dX6_atBy_22 ba_c12b ?_
    refine ba_iload_n V dX6_atBy_24 1 rfl ?_
    refine ba_imul V dX6_atBy_25 ?_
    refine ba_iload_n V dX6_atBy_26 2 rfl ?_
    refine ba_iadd V dX6_atBy_27 ?_
    refine ba_iald V dX6_atBy_28 ba_sM_22 h (fun h => ?_)
    exact RT _ _ _ dX6_atBy_29 (Option.some.inj h)
def xm_at_j36 (s : ba_St) : Option (Int32 × ba_St) :=
  some ((-2), s)
set_option maxHeartbeats 4000000 in
set_option maxRecDepth 100000 in
theorem ym_at_j36 {w : ba_W} {X : ba_X} (V : ba_V ba_tM w 4 X cX6_at RX6 rm_m_at) {s : ba_St} {o : Int32 × ba_St} (RT : ∀ (pc : Nat) (lv : List (Nat × Value)) (v : Int32) (s : ba_St), decode cX6_at pc = .ok (.ireturn, 1) → (v, s) = o → ba_G ba_tM w 4 X s pc lv [.int v]) (h : xm_at_j36 s = some o) : ba_G ba_tM w 4 X s 36 [] [] := by
  unfold xm_at_j36 at h
  refine ba_bipush V dX6_at_36 ba_cm2b ?_
  exact RT _ _ _ _ dX6_at_38 (Option.some.inj h)
def xm_at (s : ba_St) (a1 : Int32) (a2 : Int32) (a3 : Int32) : Option (Int32 × ba_St) :=
  ba_bnd (xm_find s) fun s885 =>
  ba_bnd (xm_isTick a1) fun v886 =>
  if v886 = 0 then
    xm_at_j36 s885
  else
    ba_bnd (xm_isBall s885 a2) fun v887 =>
    if v887 = 0 then
      xm_at_j36 s885
    else
      ba_bnd (xm_isTwo a3) fun v888 =>
      if v888 = 0 then
        xm_at_j36 s885
      else
        ba_bnd (xm_atBy s885 a1 a2 a3) fun v889 =>
        some (v889, s885)
set_option maxHeartbeats 4000000 in
set_option maxRecDepth 100000 in
theorem ym_at {w : ba_W} (hj : ba_inj ba_tM w) (l : Launch) {s : ba_St} {a1 : Int32} {a2 : Int32} {a3 : Int32} {o : Int32 × ba_St} (h : xm_at s a1 a2 a3 = some o) : ba_CI ba_tM w l yX6_at cX6_at 4 (some .int) rm_m_at [.ref (w.1 0), .int a1, .int a2, .int a3] s o := by
  refine ba_metI (lv := [(0, .ref (w.1 0)), (1, .int a1), (2, .int a2), (3, .int a3)]) l hj (by decide +kernel) ⟨Nat.le_of_ble_eq_true rfl, rfl⟩ ?_
  intro X V RT
  unfold xm_at at h
  refine ba_aload_n V dX6_at_0 0 rfl ?_
  obtain ⟨s885, hc, h⟩ := ba_bnd_some h
  refine ba_callVV (As := []) (st := []) V dX6_at_1 kcX6_239 ba_sModel (fun l => ym_find V.inj l hc) ⟨rfl, rfl⟩ ⟨rfl, rfl, Nat.le_of_ble_eq_true rfl, Nat.le_of_ble_eq_true rfl⟩ (Nat.le_of_ble_eq_true rfl) ?_
  refine ba_iload_n V dX6_at_4 1 rfl ?_
  obtain ⟨v886, hc, h⟩ := ba_bnd_some h
  refine ba_callSI (As := [.int a1]) (st := []) V dX6_at_5 kcX6_177 (fun l => ym_isTick V.inj l hc) ⟨rfl, rfl⟩ ⟨rfl, rfl, Nat.le_of_ble_eq_true rfl, Nat.le_of_ble_eq_true rfl⟩ (Nat.le_of_ble_eq_true rfl) ?_
  refine ba_if_eq V dX6_at_8 rfl h (fun h => ?_) (fun h => ?_)
  · exact ba_sub [] rfl (ym_at_j36 V RT h)
  · refine ba_aload_n V dX6_at_11 0 rfl ?_
    refine ba_iload_n V dX6_at_12 2 rfl ?_
    obtain ⟨v887, hc, h⟩ := ba_bnd_some h
    refine ba_callVI (As := [.int a2]) (st := []) V dX6_at_13 kcX6_169 ba_sModel (fun l => ym_isBall V.inj l hc) ⟨rfl, rfl⟩ ⟨rfl, rfl, Nat.le_of_ble_eq_true rfl, Nat.le_of_ble_eq_true rfl⟩ (Nat.le_of_ble_eq_true rfl) ?_
    refine ba_if_eq V dX6_at_16 rfl h (fun h => ?_) (fun h => ?_)
    · exact ba_sub [] rfl (ym_at_j36 V RT h)
    · refine ba_iload_n V dX6_at_19 3 rfl ?_
      obtain ⟨v888, hc, h⟩ := ba_bnd_some h
      refine ba_callSI (As := [.int a3]) (st := []) V dX6_at_20 kcX6_172 (fun l => ym_isTwo V.inj l hc) ⟨rfl, rfl⟩ ⟨rfl, rfl, Nat.le_of_ble_eq_true rfl, Nat.le_of_ble_eq_true rfl⟩ (Nat.le_of_ble_eq_true rfl) ?_
      refine ba_if_eq V dX6_at_23 rfl h (fun h => ?_) (fun h => ?_)
      · exact ba_sub [] rfl (ym_at_j36 V RT h)
      · refine ba_aload_n V dX6_at_26 0 rfl ?_
        refine ba_iload_n V dX6_at_27 1 rfl ?_
        refine ba_iload_n V dX6_at_28 2 rfl ?_
        refine ba_iload_n V dX6_at_29 3 rfl ?_
        obtain ⟨v889, hc, h⟩ := ba_bnd_some h
        refine ba_callVI (As := [.int a1, .int a2, .int a3]) (st := []) V dX6_at_30 kcX6_245 ba_sModel (fun l => ym_atBy V.inj l hc) ⟨rfl, rfl⟩ ⟨rfl, rfl, Nat.le_of_ble_eq_true rfl, Nat.le_of_ble_eq_true rfl⟩ (Nat.le_of_ble_eq_true rfl) ?_
        refine ba_goto V dX6_at_33 rfl ?_
        exact RT _ _ _ _ dX6_at_38 (Option.some.inj h)
def xm_seesBy_j52_6 (k : (Int32 × Int32) → Option (Int32)) (s : ba_St) (z1 : Int32) (z2 : Int32) (z3 : Int32) (z4 : Int32) (z5 : Int32) : Option (Int32) :=
  ba_lt (z5 + 1) fun x891 =>
  k (z4, x891)
set_option maxHeartbeats 4000000 in
set_option maxRecDepth 100000 in
theorem ym_seesBy_j52_6 {w : ba_W} {X : ba_X} (V : ba_V ba_tM w 6 X cX6_seesBy RX6 rm_m_seesBy) {s : ba_St} {z1 : Int32} {z2 : Int32} {z3 : Int32} {z4 : Int32} {z5 : Int32} {o : Int32} {k : (Int32 × Int32) → Option (Int32)} (hk : ∀ (z4 : Int32) (z5 : Int32), k (z4, z5) = some o → ba_G ba_tM w 6 X s 6 [(0, .ref (w.1 0)), (1, .int z1), (2, .int z2), (3, .int z3), (4, .int z4), (5, .int z5)] []) (EX : ∀ (z4 : Int32), z4 = o → ba_G ba_tM w 6 X s 62 [(4, .int z4)] []) (h : xm_seesBy_j52_6 k s z1 z2 z3 z4 z5 = some o) : ba_G ba_tM w 6 X s 52 [(0, .ref (w.1 0)), (1, .int z1), (2, .int z2), (3, .int z3), (4, .int z4), (5, .int z5)] [] := by
  unfold xm_seesBy_j52_6 at h
  refine ba_iload V dX6_seesBy_52 4 rfl ?_
  refine ba_istore (lv' := [(4, .int z4), (0, .ref (w.1 0)), (1, .int z1), (2, .int z2), (3, .int z3), (5, .int z5)]) V dX6_seesBy_54 (by decide) rfl ?_
  refine ba_iinc V dX6_seesBy_56 5 rfl ba_c1 (by decide) h (fun x891 h => ⟨[(5, .int x891), (4, .int z4), (0, .ref (w.1 0)), (1, .int z1), (2, .int z2), (3, .int z3)], rfl, ?_⟩)
  refine ba_goto V dX6_seesBy_59 rfl ?_
  exact ba_sub [2, 3, 4, 5, 1, 0] rfl (hk _ _ h)
def xm_seesBy_l6 (s : ba_St) (z1 : Int32) (z2 : Int32) (z3 : Int32) (k : (Int32 × Int32) → Option (Int32)) (a : (Int32 × Int32)) : Option (Int32) :=
  match a with
  | (z4, z5) =>
    if (s.1 0 10) ≤ z5 then
      some z4
    else
      ba_grd (ba_inb ((12 * z1) + z5) 288) <|
      if (s.1 21 (ba_ix ((12 * z1) + z5))) = z2 then
        ba_grd (ba_inb ((12 * z1) + z5) 288) <|
        if (s.1 22 (ba_ix ((12 * z1) + z5))) = z3 then
          ba_lt (z5 + 1) fun x890 =>
          k (z5, x890)
        else
          xm_seesBy_j52_6 k s z1 z2 z3 z4 z5
      else
        xm_seesBy_j52_6 k s z1 z2 z3 z4 z5
set_option maxHeartbeats 4000000 in
set_option maxRecDepth 100000 in
theorem ym_seesBy_l6 {w : ba_W} {X : ba_X} (V : ba_V ba_tM w 6 X cX6_seesBy RX6 rm_m_seesBy) {s : ba_St} {z1 : Int32} {z2 : Int32} {z3 : Int32} {o : Int32} (EX : ∀ (z4 : Int32), z4 = o → ba_G ba_tM w 6 X s 62 [(4, .int z4)] []) : ∀ (n : Nat) (z4 : Int32) (z5 : Int32), ba_fix (xm_seesBy_l6 s z1 z2 z3) n (z4, z5) = some o → ba_G ba_tM w 6 X s 6 [(0, .ref (w.1 0)), (1, .int z1), (2, .int z2), (3, .int z3), (4, .int z4), (5, .int z5)] [] := by
  intro n z4 z5 h
  refine ba_loop (P := fun a => ba_G ba_tM w 6 X s 6 [(0, .ref (w.1 0)), (1, .int z1), (2, .int z2), (3, .int z3), (4, .int a.1), (5, .int a.2)] []) ?_ n (z4, z5) h
  intro k hk0 a h
  obtain ⟨z4, z5⟩ := a
  have hk : ∀ (z4 : Int32) (z5 : Int32), k (z4, z5) = some o → ba_G ba_tM w 6 X s 6 [(0, .ref (w.1 0)), (1, .int z1), (2, .int z2), (3, .int z3), (4, .int z4), (5, .int z5)] [] := fun z4 z5 e => hk0 (z4, z5) e
  unfold xm_seesBy_l6 at h
  try dsimp only at h ⊢
  refine ba_iload V dX6_seesBy_6 5 rfl ?_
  refine ba_aload_n V dX6_seesBy_8 0 rfl ?_
  refine ba_getI V dX6_seesBy_9 kfX6_143 ba_sModel rfl ?_
  refine ba_icmp_ge V dX6_seesBy_12 rfl h (fun h => ?_) (fun h => ?_)
  · exact ba_sub [4] rfl (EX _ (Option.some.inj h))
  · refine ba_aload_n V dX6_seesBy_15 0 rfl ?_
    refine ba_getR V dX6_seesBy_16 kfX6_70 ba_sModel rfl ?_
    refine ba_bipush V dX6_seesBy_19 ba_c12b ?_
    refine ba_iload_n V dX6_seesBy_21 1 rfl ?_
    refine ba_imul V dX6_seesBy_22 ?_
    refine ba_iload V dX6_seesBy_23 5 rfl ?_
    refine ba_iadd V dX6_seesBy_25 ?_
    refine ba_iald V dX6_seesBy_26 ba_sM_21 h (fun h => ?_)
    refine ba_iload_n V dX6_seesBy_27 2 rfl ?_
    refine ba_icmp_ne V dX6_seesBy_28 rfl h (fun h => ?_) (fun h => ?_)
    · refine ba_aload_n V dX6_seesBy_31 0 rfl ?_
      refine ba_getR V dX6_seesBy_32 kfX6_73 ba_sModel rfl ?_
      refine ba_bipush V dX6_seesBy_35 ba_c12b ?_
      refine ba_iload_n V dX6_seesBy_37 1 rfl ?_
      refine ba_imul V dX6_seesBy_38 ?_
      refine ba_iload V dX6_seesBy_39 5 rfl ?_
      refine ba_iadd V dX6_seesBy_41 ?_
      refine ba_iald V dX6_seesBy_42 ba_sM_22 h (fun h => ?_)
      refine ba_iload_n V dX6_seesBy_43 3 rfl ?_
      refine ba_icmp_ne V dX6_seesBy_44 rfl h (fun h => ?_) (fun h => ?_)
      · refine ba_iload V dX6_seesBy_47 5 rfl ?_
        refine ba_goto V dX6_seesBy_49 rfl ?_
        refine ba_istore (lv' := [(4, .int z5), (0, .ref (w.1 0)), (1, .int z1), (2, .int z2), (3, .int z3), (5, .int z5)]) V dX6_seesBy_54 (by decide) rfl ?_
        refine ba_iinc V dX6_seesBy_56 5 rfl ba_c1 (by decide) h (fun x890 h => ⟨[(5, .int x890), (4, .int z5), (0, .ref (w.1 0)), (1, .int z1), (2, .int z2), (3, .int z3)], rfl, ?_⟩)
        refine ba_goto V dX6_seesBy_59 rfl ?_
        exact ba_sub [2, 3, 4, 5, 1, 0] rfl (hk _ _ h)
      · exact ba_sub [0, 1, 2, 3, 4, 5] rfl (ym_seesBy_j52_6 V hk EX h)
    · exact ba_sub [0, 1, 2, 3, 4, 5] rfl (ym_seesBy_j52_6 V hk EX h)
def xm_seesBy (s : ba_St) (a1 : Int32) (a2 : Int32) (a3 : Int32) : Option (Int32) :=
  ba_bnd (ba_fix (xm_seesBy_l6 s a1 a2 a3) 1000 ((-1), 0)) fun x892 =>
    some x892
set_option maxHeartbeats 4000000 in
set_option maxRecDepth 100000 in
theorem ym_seesBy {w : ba_W} (hj : ba_inj ba_tM w) (l : Launch) {s : ba_St} {a1 : Int32} {a2 : Int32} {a3 : Int32} {o : Int32} (h : xm_seesBy s a1 a2 a3 = some o) : ba_CI ba_tM w l yX6_seesBy cX6_seesBy 6 (some .int) rm_m_seesBy [.ref (w.1 0), .int a1, .int a2, .int a3] s (o, s) := by
  refine ba_metI (lv := [(0, .ref (w.1 0)), (1, .int a1), (2, .int a2), (3, .int a3)]) l hj (by decide +kernel) ⟨Nat.le_of_ble_eq_true rfl, rfl⟩ ?_
  intro X V RT
  replace RT := fun pc lv v D e => RT pc lv v s D (congrArg (fun q => (q, s)) e)
  unfold xm_seesBy at h
  refine ba_iconst V dX6_seesBy_0 ba_cm1 ?_
  refine ba_istore (lv' := [(4, .int (-1)), (0, .ref (w.1 0)), (1, .int a1), (2, .int a2), (3, .int a3)]) V dX6_seesBy_1 (by decide) rfl ?_
  refine ba_iconst V dX6_seesBy_3 ba_c0 ?_
  refine ba_istore (lv' := [(5, .int 0), (4, .int (-1)), (0, .ref (w.1 0)), (1, .int a1), (2, .int a2), (3, .int a3)]) V dX6_seesBy_4 (by decide) rfl ?_
  obtain ⟨o, ho, h⟩ := ba_bnd_some h
  refine ba_sub [2, 3, 4, 5, 1, 0] rfl (ym_seesBy_l6 V (o := o) (fun x892 e => ?_) 1000 (-1) 0 ho)
  subst e
  try dsimp only at h
  refine ba_iload V dX6_seesBy_62 0 rfl ?_
  exact RT _ _ _ dX6_seesBy_64 (Option.some.inj h)
def xm_sees_j40 (s : ba_St) : Option (Int32 × ba_St) :=
  some ((-2), s)
set_option maxHeartbeats 4000000 in
set_option maxRecDepth 100000 in
theorem ym_sees_j40 {w : ba_W} {X : ba_X} (V : ba_V ba_tM w 4 X cX6_sees RX6 rm_m_sees) {s : ba_St} {o : Int32 × ba_St} (RT : ∀ (pc : Nat) (lv : List (Nat × Value)) (v : Int32) (s : ba_St), decode cX6_sees pc = .ok (.ireturn, 1) → (v, s) = o → ba_G ba_tM w 4 X s pc lv [.int v]) (h : xm_sees_j40 s = some o) : ba_G ba_tM w 4 X s 40 [] [] := by
  unfold xm_sees_j40 at h
  refine ba_bipush V dX6_sees_40 ba_cm2b ?_
  exact RT _ _ _ _ dX6_sees_42 (Option.some.inj h)
def xm_sees (s : ba_St) (a1 : Int32) (a2 : Int32) (a3 : Int32) : Option (Int32 × ba_St) :=
  ba_bnd (xm_find s) fun s893 =>
  ba_bnd (xm_isTick a1) fun v894 =>
  if v894 = 0 then
    xm_sees_j40 s893
  else
    ba_bnd (xm_in (Int32.toInt64 a2) 0 7) fun v895 =>
    if v895 = 0 then
      xm_sees_j40 s893
    else
      ba_bnd (xm_isColumn a3) fun v896 =>
      if v896 = 0 then
        xm_sees_j40 s893
      else
        ba_bnd (xm_seesBy s893 a1 a2 a3) fun v897 =>
        some (v897, s893)
set_option maxHeartbeats 4000000 in
set_option maxRecDepth 100000 in
theorem ym_sees {w : ba_W} (hj : ba_inj ba_tM w) (l : Launch) {s : ba_St} {a1 : Int32} {a2 : Int32} {a3 : Int32} {o : Int32 × ba_St} (h : xm_sees s a1 a2 a3 = some o) : ba_CI ba_tM w l yX6_sees cX6_sees 4 (some .int) rm_m_sees [.ref (w.1 0), .int a1, .int a2, .int a3] s o := by
  refine ba_metI (lv := [(0, .ref (w.1 0)), (1, .int a1), (2, .int a2), (3, .int a3)]) l hj (by decide +kernel) ⟨Nat.le_of_ble_eq_true rfl, rfl⟩ ?_
  intro X V RT
  unfold xm_sees at h
  refine ba_aload_n V dX6_sees_0 0 rfl ?_
  obtain ⟨s893, hc, h⟩ := ba_bnd_some h
  refine ba_callVV (As := []) (st := []) V dX6_sees_1 kcX6_239 ba_sModel (fun l => ym_find V.inj l hc) ⟨rfl, rfl⟩ ⟨rfl, rfl, Nat.le_of_ble_eq_true rfl, Nat.le_of_ble_eq_true rfl⟩ (Nat.le_of_ble_eq_true rfl) ?_
  refine ba_iload_n V dX6_sees_4 1 rfl ?_
  obtain ⟨v894, hc, h⟩ := ba_bnd_some h
  refine ba_callSI (As := [.int a1]) (st := []) V dX6_sees_5 kcX6_177 (fun l => ym_isTick V.inj l hc) ⟨rfl, rfl⟩ ⟨rfl, rfl, Nat.le_of_ble_eq_true rfl, Nat.le_of_ble_eq_true rfl⟩ (Nat.le_of_ble_eq_true rfl) ?_
  refine ba_if_eq V dX6_sees_8 rfl h (fun h => ?_) (fun h => ?_)
  · exact ba_sub [] rfl (ym_sees_j40 V RT h)
  · refine ba_iload_n V dX6_sees_11 2 rfl ?_
    refine ba_i2l V dX6_sees_12 ?_
    refine ba_lconst V dX6_sees_13 rfl ?_
    refine ba_ldc2 V dX6_sees_14 kkX6_248 ?_
    obtain ⟨v895, hc, h⟩ := ba_bnd_some h
    refine ba_callSI (As := [.long (Int32.toInt64 a2), .long 0, .long 7]) (st := []) V dX6_sees_17 kcX6_88 (fun l => ym_in V.inj l hc) ⟨rfl, rfl⟩ ⟨rfl, rfl, Nat.le_of_ble_eq_true rfl, Nat.le_of_ble_eq_true rfl⟩ (Nat.le_of_ble_eq_true rfl) ?_
    refine ba_if_eq V dX6_sees_20 rfl h (fun h => ?_) (fun h => ?_)
    · exact ba_sub [] rfl (ym_sees_j40 V RT h)
    · refine ba_iload_n V dX6_sees_23 3 rfl ?_
      obtain ⟨v896, hc, h⟩ := ba_bnd_some h
      refine ba_callSI (As := [.int a3]) (st := []) V dX6_sees_24 kcX6_190 (fun l => ym_isColumn V.inj l hc) ⟨rfl, rfl⟩ ⟨rfl, rfl, Nat.le_of_ble_eq_true rfl, Nat.le_of_ble_eq_true rfl⟩ (Nat.le_of_ble_eq_true rfl) ?_
      refine ba_if_eq V dX6_sees_27 rfl h (fun h => ?_) (fun h => ?_)
      · exact ba_sub [] rfl (ym_sees_j40 V RT h)
      · refine ba_aload_n V dX6_sees_30 0 rfl ?_
        refine ba_iload_n V dX6_sees_31 1 rfl ?_
        refine ba_iload_n V dX6_sees_32 2 rfl ?_
        refine ba_iload_n V dX6_sees_33 3 rfl ?_
        obtain ⟨v897, hc, h⟩ := ba_bnd_some h
        refine ba_callVI (As := [.int a1, .int a2, .int a3]) (st := []) V dX6_sees_34 kcX6_250 ba_sModel (fun l => ym_seesBy V.inj l hc) ⟨rfl, rfl⟩ ⟨rfl, rfl, Nat.le_of_ble_eq_true rfl, Nat.le_of_ble_eq_true rfl⟩ (Nat.le_of_ble_eq_true rfl) ?_
        refine ba_goto V dX6_sees_37 rfl ?_
        exact RT _ _ _ _ dX6_sees_42 (Option.some.inj h)
def xm_endsBy (s : ba_St) (a1 : Int32) (a2 : Int32) : Option (Int32) :=
  if a2 = 0 then
    ba_grd (ba_inb a1 12) <|
    some (s.1 13 (ba_ix a1))
  else
    if a2 = 1 then
      ba_grd (ba_inb a1 12) <|
      some (s.1 14 (ba_ix a1))
    else
      ba_grd (ba_inb a1 12) <|
      some (s.1 15 (ba_ix a1))
set_option maxHeartbeats 4000000 in
set_option maxRecDepth 100000 in
theorem ym_endsBy {w : ba_W} (hj : ba_inj ba_tM w) (l : Launch) {s : ba_St} {a1 : Int32} {a2 : Int32} {o : Int32} (h : xm_endsBy s a1 a2 = some o) : ba_CI ba_tM w l yX6_endsBy cX6_endsBy 3 (some .int) rm_m_endsBy [.ref (w.1 0), .int a1, .int a2] s (o, s) := by
  refine ba_metI (lv := [(0, .ref (w.1 0)), (1, .int a1), (2, .int a2)]) l hj (by decide +kernel) ⟨Nat.le_of_ble_eq_true rfl, rfl⟩ ?_
  intro X V RT
  replace RT := fun pc lv v D e => RT pc lv v s D (congrArg (fun q => (q, s)) e)
  unfold xm_endsBy at h
  refine ba_iload_n V dX6_endsBy_0 2 rfl ?_
  refine ba_if_ne V dX6_endsBy_1 rfl h (fun h => ?_) (fun h => ?_)
  · refine ba_aload_n V dX6_endsBy_4 0 rfl ?_
    refine ba_getR V dX6_endsBy_5 kfX6_46 ba_sModel rfl ?_
    refine ba_iload_n V dX6_endsBy_8 1 rfl ?_
    refine ba_iald V dX6_endsBy_9 ba_sM_13 h (fun h => ?_)
    refine ba_goto V dX6_endsBy_10 rfl ?_
    exact RT _ _ _ dX6_endsBy_33 (Option.some.inj h)
  · refine ba_iload_n V dX6_endsBy_13 2 rfl ?_
    refine ba_iconst V dX6_endsBy_14 ba_c1 ?_
    refine ba_icmp_ne V dX6_endsBy_15 rfl h (fun h => ?_) (fun h => ?_)
    · refine ba_aload_n V dX6_endsBy_18 0 rfl ?_
      refine ba_getR V dX6_endsBy_19 kfX6_49 ba_sModel rfl ?_
      refine ba_iload_n V dX6_endsBy_22 1 rfl ?_
      refine ba_iald V dX6_endsBy_23 ba_sM_14 h (fun h => ?_)
      refine ba_goto V dX6_endsBy_24 rfl ?_
      exact RT _ _ _ dX6_endsBy_33 (Option.some.inj h)
    · refine ba_aload_n V dX6_endsBy_27 0 rfl ?_
      refine ba_getR V dX6_endsBy_28 kfX6_52 ba_sModel rfl ?_
      refine ba_iload_n V dX6_endsBy_31 1 rfl ?_
      refine ba_iald V dX6_endsBy_32 ba_sM_15 h (fun h => ?_)
      exact RT _ _ _ dX6_endsBy_33 (Option.some.inj h)
def xm_ends_j33 (s : ba_St) : Option (Int32 × ba_St) :=
  some ((-2), s)
set_option maxHeartbeats 4000000 in
set_option maxRecDepth 100000 in
theorem ym_ends_j33 {w : ba_W} {X : ba_X} (V : ba_V ba_tM w 3 X cX6_ends RX6 rm_m_ends) {s : ba_St} {o : Int32 × ba_St} (RT : ∀ (pc : Nat) (lv : List (Nat × Value)) (v : Int32) (s : ba_St), decode cX6_ends pc = .ok (.ireturn, 1) → (v, s) = o → ba_G ba_tM w 3 X s pc lv [.int v]) (h : xm_ends_j33 s = some o) : ba_G ba_tM w 3 X s 33 [] [] := by
  unfold xm_ends_j33 at h
  refine ba_bipush V dX6_ends_33 ba_cm2b ?_
  exact RT _ _ _ _ dX6_ends_35 (Option.some.inj h)
def xm_ends (s : ba_St) (a1 : Int32) (a2 : Int32) : Option (Int32 × ba_St) :=
  ba_bnd (xm_find s) fun s898 =>
  ba_bnd (xm_isBall s898 a1) fun v899 =>
  if v899 = 0 then
    xm_ends_j33 s898
  else
    ba_bnd (xm_in (Int32.toInt64 a2) 0 2) fun v900 =>
    if v900 = 0 then
      xm_ends_j33 s898
    else
      ba_bnd (xm_endsBy s898 a1 a2) fun v901 =>
      some (v901, s898)
set_option maxHeartbeats 4000000 in
set_option maxRecDepth 100000 in
theorem ym_ends {w : ba_W} (hj : ba_inj ba_tM w) (l : Launch) {s : ba_St} {a1 : Int32} {a2 : Int32} {o : Int32 × ba_St} (h : xm_ends s a1 a2 = some o) : ba_CI ba_tM w l yX6_ends cX6_ends 3 (some .int) rm_m_ends [.ref (w.1 0), .int a1, .int a2] s o := by
  refine ba_metI (lv := [(0, .ref (w.1 0)), (1, .int a1), (2, .int a2)]) l hj (by decide +kernel) ⟨Nat.le_of_ble_eq_true rfl, rfl⟩ ?_
  intro X V RT
  unfold xm_ends at h
  refine ba_aload_n V dX6_ends_0 0 rfl ?_
  obtain ⟨s898, hc, h⟩ := ba_bnd_some h
  refine ba_callVV (As := []) (st := []) V dX6_ends_1 kcX6_239 ba_sModel (fun l => ym_find V.inj l hc) ⟨rfl, rfl⟩ ⟨rfl, rfl, Nat.le_of_ble_eq_true rfl, Nat.le_of_ble_eq_true rfl⟩ (Nat.le_of_ble_eq_true rfl) ?_
  refine ba_aload_n V dX6_ends_4 0 rfl ?_
  refine ba_iload_n V dX6_ends_5 1 rfl ?_
  obtain ⟨v899, hc, h⟩ := ba_bnd_some h
  refine ba_callVI (As := [.int a1]) (st := []) V dX6_ends_6 kcX6_169 ba_sModel (fun l => ym_isBall V.inj l hc) ⟨rfl, rfl⟩ ⟨rfl, rfl, Nat.le_of_ble_eq_true rfl, Nat.le_of_ble_eq_true rfl⟩ (Nat.le_of_ble_eq_true rfl) ?_
  refine ba_if_eq V dX6_ends_9 rfl h (fun h => ?_) (fun h => ?_)
  · exact ba_sub [] rfl (ym_ends_j33 V RT h)
  · refine ba_iload_n V dX6_ends_12 2 rfl ?_
    refine ba_i2l V dX6_ends_13 ?_
    refine ba_lconst V dX6_ends_14 rfl ?_
    refine ba_ldc2 V dX6_ends_15 kkX6_101 ?_
    obtain ⟨v900, hc, h⟩ := ba_bnd_some h
    refine ba_callSI (As := [.long (Int32.toInt64 a2), .long 0, .long 2]) (st := []) V dX6_ends_18 kcX6_88 (fun l => ym_in V.inj l hc) ⟨rfl, rfl⟩ ⟨rfl, rfl, Nat.le_of_ble_eq_true rfl, Nat.le_of_ble_eq_true rfl⟩ (Nat.le_of_ble_eq_true rfl) ?_
    refine ba_if_eq V dX6_ends_21 rfl h (fun h => ?_) (fun h => ?_)
    · exact ba_sub [] rfl (ym_ends_j33 V RT h)
    · refine ba_aload_n V dX6_ends_24 0 rfl ?_
      refine ba_iload_n V dX6_ends_25 1 rfl ?_
      refine ba_iload_n V dX6_ends_26 2 rfl ?_
      obtain ⟨v901, hc, h⟩ := ba_bnd_some h
      refine ba_callVI (As := [.int a1, .int a2]) (st := []) V dX6_ends_27 kcX6_253 ba_sModel (fun l => ym_endsBy V.inj l hc) ⟨rfl, rfl⟩ ⟨rfl, rfl, Nat.le_of_ble_eq_true rfl, Nat.le_of_ble_eq_true rfl⟩ (Nat.le_of_ble_eq_true rfl) ?_
      refine ba_goto V dX6_ends_30 rfl ?_
      exact RT _ _ _ _ dX6_ends_35 (Option.some.inj h)
def xm_score_l4 (s : ba_St) (k : (Int32 × Int32) → Option (Int32)) (a : (Int32 × Int32)) : Option (Int32) :=
  match a with
  | (z1, z2) =>
    if (s.1 0 10) ≤ z2 then
      some z1
    else
      ba_grd (ba_inb z2 12) <|
      ba_lt (z1 + (s.1 13 (ba_ix z2))) fun x902 =>
      ba_lt (z2 + 1) fun x903 =>
      k (x902, x903)
set_option maxHeartbeats 4000000 in
set_option maxRecDepth 100000 in
theorem ym_score_l4 {w : ba_W} {X : ba_X} (V : ba_V ba_tM w 3 X cX6_score RX6 rm_m_score) {s : ba_St} {o : Int32} (EX : ∀ (z1 : Int32), z1 = o → ba_G ba_tM w 3 X s 27 [(1, .int z1)] []) : ∀ (n : Nat) (z1 : Int32) (z2 : Int32), ba_fix (xm_score_l4 s) n (z1, z2) = some o → ba_G ba_tM w 3 X s 4 [(0, .ref (w.1 0)), (1, .int z1), (2, .int z2)] [] := by
  intro n z1 z2 h
  refine ba_loop (P := fun a => ba_G ba_tM w 3 X s 4 [(0, .ref (w.1 0)), (1, .int a.1), (2, .int a.2)] []) ?_ n (z1, z2) h
  intro k hk0 a h
  obtain ⟨z1, z2⟩ := a
  have hk : ∀ (z1 : Int32) (z2 : Int32), k (z1, z2) = some o → ba_G ba_tM w 3 X s 4 [(0, .ref (w.1 0)), (1, .int z1), (2, .int z2)] [] := fun z1 z2 e => hk0 (z1, z2) e
  unfold xm_score_l4 at h
  try dsimp only at h ⊢
  refine ba_iload_n V dX6_score_4 2 rfl ?_
  refine ba_aload_n V dX6_score_5 0 rfl ?_
  refine ba_getI V dX6_score_6 kfX6_143 ba_sModel rfl ?_
  refine ba_icmp_ge V dX6_score_9 rfl h (fun h => ?_) (fun h => ?_)
  · exact ba_sub [1] rfl (EX _ (Option.some.inj h))
  · refine ba_iload_n V dX6_score_12 1 rfl ?_
    refine ba_aload_n V dX6_score_13 0 rfl ?_
    refine ba_getR V dX6_score_14 kfX6_46 ba_sModel rfl ?_
    refine ba_iload_n V dX6_score_17 2 rfl ?_
    refine ba_iald V dX6_score_18 ba_sM_13 h (fun h => ?_)
    refine ba_iadd V dX6_score_19 ?_
    refine ba_letI h (fun x902 h => ?_)
    refine ba_istore_n (lv' := [(1, .int x902), (0, .ref (w.1 0)), (2, .int z2)]) V dX6_score_20 (by decide) rfl ?_
    refine ba_iinc V dX6_score_21 2 rfl ba_c1 (by decide) h (fun x903 h => ⟨[(2, .int x903), (1, .int x902), (0, .ref (w.1 0))], rfl, ?_⟩)
    refine ba_goto V dX6_score_24 rfl ?_
    exact ba_sub [2, 1, 0] rfl (hk _ _ h)
def xm_score (s : ba_St) : Option (Int32) :=
  ba_bnd (ba_fix (xm_score_l4 s) 1000 (0, 0)) fun x904 =>
    some x904
set_option maxHeartbeats 4000000 in
set_option maxRecDepth 100000 in
theorem ym_score {w : ba_W} (hj : ba_inj ba_tM w) (l : Launch) {s : ba_St} {o : Int32} (h : xm_score s = some o) : ba_CI ba_tM w l yX6_score cX6_score 3 (some .int) rm_m_score [.ref (w.1 0)] s (o, s) := by
  refine ba_metI (lv := [(0, .ref (w.1 0))]) l hj (by decide +kernel) ⟨Nat.le_of_ble_eq_true rfl, rfl⟩ ?_
  intro X V RT
  replace RT := fun pc lv v D e => RT pc lv v s D (congrArg (fun q => (q, s)) e)
  unfold xm_score at h
  refine ba_iconst V dX6_score_0 ba_c0 ?_
  refine ba_istore_n (lv' := [(1, .int 0), (0, .ref (w.1 0))]) V dX6_score_1 (by decide) rfl ?_
  refine ba_iconst V dX6_score_2 ba_c0 ?_
  refine ba_istore_n (lv' := [(2, .int 0), (1, .int 0), (0, .ref (w.1 0))]) V dX6_score_3 (by decide) rfl ?_
  obtain ⟨o, ho, h⟩ := ba_bnd_some h
  refine ba_sub [2, 1, 0] rfl (ym_score_l4 V (o := o) (fun x904 e => ?_) 1000 0 0 ho)
  subst e
  try dsimp only at h
  refine ba_iload_n V dX6_score_27 0 rfl ?_
  exact RT _ _ _ dX6_score_28 (Option.some.inj h)
def xm_manyIn_j28_4 (k : (Int32 × Int32) → Option (Int32)) (s : ba_St) (z1 : Int32) (z3 : Int32) (q0 : Int32) (q1 : Int32) : Option (Int32) :=
  ba_lt (q1 + q0) fun x905 =>
  ba_lt (z3 + 1) fun x906 =>
  k (x905, x906)
set_option maxHeartbeats 4000000 in
set_option maxRecDepth 100000 in
theorem ym_manyIn_j28_4 {w : ba_W} {X : ba_X} (V : ba_V ba_tM w 4 X cX6_manyIn RX6 rm_m_manyIn) {s : ba_St} {z1 : Int32} {z3 : Int32} {q0 : Int32} {q1 : Int32} {o : Int32} {k : (Int32 × Int32) → Option (Int32)} (hk : ∀ (z2 : Int32) (z3 : Int32), k (z2, z3) = some o → ba_G ba_tM w 4 X s 4 [(0, .ref (w.1 0)), (1, .int z1), (2, .int z2), (3, .int z3)] []) (EX : ∀ (z2 : Int32), z2 = o → ba_G ba_tM w 4 X s 36 [(2, .int z2)] []) (h : xm_manyIn_j28_4 k s z1 z3 q0 q1 = some o) : ba_G ba_tM w 4 X s 28 [(0, .ref (w.1 0)), (1, .int z1), (3, .int z3)] [.int q0, .int q1] := by
  unfold xm_manyIn_j28_4 at h
  refine ba_iadd V dX6_manyIn_28 ?_
  refine ba_letI h (fun x905 h => ?_)
  refine ba_istore_n (lv' := [(2, .int x905), (0, .ref (w.1 0)), (1, .int z1), (3, .int z3)]) V dX6_manyIn_29 (by decide) rfl ?_
  refine ba_iinc V dX6_manyIn_30 3 rfl ba_c1 (by decide) h (fun x906 h => ⟨[(3, .int x906), (2, .int x905), (0, .ref (w.1 0)), (1, .int z1)], rfl, ?_⟩)
  refine ba_goto V dX6_manyIn_33 rfl ?_
  exact ba_sub [2, 3, 1, 0] rfl (hk _ _ h)
def xm_manyIn_l4 (s : ba_St) (z1 : Int32) (k : (Int32 × Int32) → Option (Int32)) (a : (Int32 × Int32)) : Option (Int32) :=
  match a with
  | (z2, z3) =>
    if (s.1 0 10) ≤ z3 then
      some z2
    else
      ba_grd (ba_inb z3 12) <|
      if (s.1 11 (ba_ix z3)) = z1 then
        xm_manyIn_j28_4 k s z1 z3 1 z2
      else
        xm_manyIn_j28_4 k s z1 z3 0 z2
set_option maxHeartbeats 4000000 in
set_option maxRecDepth 100000 in
theorem ym_manyIn_l4 {w : ba_W} {X : ba_X} (V : ba_V ba_tM w 4 X cX6_manyIn RX6 rm_m_manyIn) {s : ba_St} {z1 : Int32} {o : Int32} (EX : ∀ (z2 : Int32), z2 = o → ba_G ba_tM w 4 X s 36 [(2, .int z2)] []) : ∀ (n : Nat) (z2 : Int32) (z3 : Int32), ba_fix (xm_manyIn_l4 s z1) n (z2, z3) = some o → ba_G ba_tM w 4 X s 4 [(0, .ref (w.1 0)), (1, .int z1), (2, .int z2), (3, .int z3)] [] := by
  intro n z2 z3 h
  refine ba_loop (P := fun a => ba_G ba_tM w 4 X s 4 [(0, .ref (w.1 0)), (1, .int z1), (2, .int a.1), (3, .int a.2)] []) ?_ n (z2, z3) h
  intro k hk0 a h
  obtain ⟨z2, z3⟩ := a
  have hk : ∀ (z2 : Int32) (z3 : Int32), k (z2, z3) = some o → ba_G ba_tM w 4 X s 4 [(0, .ref (w.1 0)), (1, .int z1), (2, .int z2), (3, .int z3)] [] := fun z2 z3 e => hk0 (z2, z3) e
  unfold xm_manyIn_l4 at h
  try dsimp only at h ⊢
  refine ba_iload_n V dX6_manyIn_4 3 rfl ?_
  refine ba_aload_n V dX6_manyIn_5 0 rfl ?_
  refine ba_getI V dX6_manyIn_6 kfX6_143 ba_sModel rfl ?_
  refine ba_icmp_ge V dX6_manyIn_9 rfl h (fun h => ?_) (fun h => ?_)
  · exact ba_sub [2] rfl (EX _ (Option.some.inj h))
  · refine ba_iload_n V dX6_manyIn_12 2 rfl ?_
    refine ba_aload_n V dX6_manyIn_13 0 rfl ?_
    refine ba_getR V dX6_manyIn_14 kfX6_40 ba_sModel rfl ?_
    refine ba_iload_n V dX6_manyIn_17 3 rfl ?_
    refine ba_iald V dX6_manyIn_18 ba_sM_11 h (fun h => ?_)
    refine ba_iload_n V dX6_manyIn_19 1 rfl ?_
    refine ba_icmp_ne V dX6_manyIn_20 rfl h (fun h => ?_) (fun h => ?_)
    · refine ba_iconst V dX6_manyIn_23 ba_c1 ?_
      refine ba_goto V dX6_manyIn_24 rfl ?_
      exact ba_sub [0, 1, 3] rfl (ym_manyIn_j28_4 V hk EX h)
    · refine ba_iconst V dX6_manyIn_27 ba_c0 ?_
      exact ba_sub [0, 1, 3] rfl (ym_manyIn_j28_4 V hk EX h)
def xm_manyIn (s : ba_St) (a1 : Int32) : Option (Int32) :=
  ba_bnd (ba_fix (xm_manyIn_l4 s a1) 1000 (0, 0)) fun x907 =>
    some x907
set_option maxHeartbeats 4000000 in
set_option maxRecDepth 100000 in
theorem ym_manyIn {w : ba_W} (hj : ba_inj ba_tM w) (l : Launch) {s : ba_St} {a1 : Int32} {o : Int32} (h : xm_manyIn s a1 = some o) : ba_CI ba_tM w l yX6_manyIn cX6_manyIn 4 (some .int) rm_m_manyIn [.ref (w.1 0), .int a1] s (o, s) := by
  refine ba_metI (lv := [(0, .ref (w.1 0)), (1, .int a1)]) l hj (by decide +kernel) ⟨Nat.le_of_ble_eq_true rfl, rfl⟩ ?_
  intro X V RT
  replace RT := fun pc lv v D e => RT pc lv v s D (congrArg (fun q => (q, s)) e)
  unfold xm_manyIn at h
  refine ba_iconst V dX6_manyIn_0 ba_c0 ?_
  refine ba_istore_n (lv' := [(2, .int 0), (0, .ref (w.1 0)), (1, .int a1)]) V dX6_manyIn_1 (by decide) rfl ?_
  refine ba_iconst V dX6_manyIn_2 ba_c0 ?_
  refine ba_istore_n (lv' := [(3, .int 0), (2, .int 0), (0, .ref (w.1 0)), (1, .int a1)]) V dX6_manyIn_3 (by decide) rfl ?_
  obtain ⟨o, ho, h⟩ := ba_bnd_some h
  refine ba_sub [2, 3, 1, 0] rfl (ym_manyIn_l4 V (o := o) (fun x907 e => ?_) 1000 0 0 ho)
  subst e
  try dsimp only at h
  refine ba_iload_n V dX6_manyIn_36 0 rfl ?_
  exact RT _ _ _ dX6_manyIn_37 (Option.some.inj h)
def xm_sumBy (s : ba_St) (a1 : Int32) : Option (Int32) :=
  if a1 = 0 then
    ba_bnd (xm_score s) fun v908 =>
    some v908
  else
    if a1 = 1 then
      some (s.1 0 28)
    else
      ba_bnd (xm_manyIn s 9) fun v909 =>
      some v909
set_option maxHeartbeats 4000000 in
set_option maxRecDepth 100000 in
theorem ym_sumBy {w : ba_W} (hj : ba_inj ba_tM w) (l : Launch) {s : ba_St} {a1 : Int32} {o : Int32} (h : xm_sumBy s a1 = some o) : ba_CI ba_tM w l yX6_sumBy cX6_sumBy 2 (some .int) rm_m_sumBy [.ref (w.1 0), .int a1] s (o, s) := by
  refine ba_metI (lv := [(0, .ref (w.1 0)), (1, .int a1)]) l hj (by decide +kernel) ⟨Nat.le_of_ble_eq_true rfl, rfl⟩ ?_
  intro X V RT
  replace RT := fun pc lv v D e => RT pc lv v s D (congrArg (fun q => (q, s)) e)
  unfold xm_sumBy at h
  refine ba_iload_n V dX6_sumBy_0 1 rfl ?_
  refine ba_if_ne V dX6_sumBy_1 rfl h (fun h => ?_) (fun h => ?_)
  · refine ba_aload_n V dX6_sumBy_4 0 rfl ?_
    obtain ⟨v908, hc, h⟩ := ba_bnd_some h
    refine ba_callVI (As := []) (st := []) V dX6_sumBy_5 kcX6_256 ba_sModel (fun l => ym_score V.inj l hc) ⟨rfl, rfl⟩ ⟨rfl, rfl, Nat.le_of_ble_eq_true rfl, Nat.le_of_ble_eq_true rfl⟩ (Nat.le_of_ble_eq_true rfl) ?_
    refine ba_goto V dX6_sumBy_8 rfl ?_
    exact RT _ _ _ dX6_sumBy_29 (Option.some.inj h)
  · refine ba_iload_n V dX6_sumBy_11 1 rfl ?_
    refine ba_iconst V dX6_sumBy_12 ba_c1 ?_
    refine ba_icmp_ne V dX6_sumBy_13 rfl h (fun h => ?_) (fun h => ?_)
    · refine ba_aload_n V dX6_sumBy_16 0 rfl ?_
      refine ba_getI V dX6_sumBy_17 kfX6_219 ba_sModel rfl ?_
      refine ba_goto V dX6_sumBy_20 rfl ?_
      exact RT _ _ _ dX6_sumBy_29 (Option.some.inj h)
    · refine ba_aload_n V dX6_sumBy_23 0 rfl ?_
      refine ba_bipush V dX6_sumBy_24 ba_c9b ?_
      obtain ⟨v909, hc, h⟩ := ba_bnd_some h
      refine ba_callVI (As := [.int 9]) (st := []) V dX6_sumBy_26 kcX6_259 ba_sModel (fun l => ym_manyIn V.inj l hc) ⟨rfl, rfl⟩ ⟨rfl, rfl, Nat.le_of_ble_eq_true rfl, Nat.le_of_ble_eq_true rfl⟩ (Nat.le_of_ble_eq_true rfl) ?_
      exact RT _ _ _ dX6_sumBy_29 (Option.some.inj h)
def xm_sum (s : ba_St) (a1 : Int32) : Option (Int32 × ba_St) :=
  ba_bnd (xm_find s) fun s910 =>
  ba_bnd (xm_in (Int32.toInt64 a1) 0 2) fun v911 =>
  if v911 = 0 then
    some ((-2), s910)
  else
    ba_bnd (xm_sumBy s910 a1) fun v912 =>
    some (v912, s910)
set_option maxHeartbeats 4000000 in
set_option maxRecDepth 100000 in
theorem ym_sum {w : ba_W} (hj : ba_inj ba_tM w) (l : Launch) {s : ba_St} {a1 : Int32} {o : Int32 × ba_St} (h : xm_sum s a1 = some o) : ba_CI ba_tM w l yX6_sum cX6_sum 2 (some .int) rm_m_sum [.ref (w.1 0), .int a1] s o := by
  refine ba_metI (lv := [(0, .ref (w.1 0)), (1, .int a1)]) l hj (by decide +kernel) ⟨Nat.le_of_ble_eq_true rfl, rfl⟩ ?_
  intro X V RT
  unfold xm_sum at h
  refine ba_aload_n V dX6_sum_0 0 rfl ?_
  obtain ⟨s910, hc, h⟩ := ba_bnd_some h
  refine ba_callVV (As := []) (st := []) V dX6_sum_1 kcX6_239 ba_sModel (fun l => ym_find V.inj l hc) ⟨rfl, rfl⟩ ⟨rfl, rfl, Nat.le_of_ble_eq_true rfl, Nat.le_of_ble_eq_true rfl⟩ (Nat.le_of_ble_eq_true rfl) ?_
  refine ba_iload_n V dX6_sum_4 1 rfl ?_
  refine ba_i2l V dX6_sum_5 ?_
  refine ba_lconst V dX6_sum_6 rfl ?_
  refine ba_ldc2 V dX6_sum_7 kkX6_101 ?_
  obtain ⟨v911, hc, h⟩ := ba_bnd_some h
  refine ba_callSI (As := [.long (Int32.toInt64 a1), .long 0, .long 2]) (st := []) V dX6_sum_10 kcX6_88 (fun l => ym_in V.inj l hc) ⟨rfl, rfl⟩ ⟨rfl, rfl, Nat.le_of_ble_eq_true rfl, Nat.le_of_ble_eq_true rfl⟩ (Nat.le_of_ble_eq_true rfl) ?_
  refine ba_if_eq V dX6_sum_13 rfl h (fun h => ?_) (fun h => ?_)
  · refine ba_bipush V dX6_sum_24 ba_cm2b ?_
    exact RT _ _ _ _ dX6_sum_26 (Option.some.inj h)
  · refine ba_aload_n V dX6_sum_16 0 rfl ?_
    refine ba_iload_n V dX6_sum_17 1 rfl ?_
    obtain ⟨v912, hc, h⟩ := ba_bnd_some h
    refine ba_callVI (As := [.int a1]) (st := []) V dX6_sum_18 kcX6_262 ba_sModel (fun l => ym_sumBy V.inj l hc) ⟨rfl, rfl⟩ ⟨rfl, rfl, Nat.le_of_ble_eq_true rfl, Nat.le_of_ble_eq_true rfl⟩ (Nat.le_of_ble_eq_true rfl) ?_
    refine ba_goto V dX6_sum_21 rfl ?_
    exact RT _ _ _ _ dX6_sum_26 (Option.some.inj h)
def xm_lateNow_j30_4 (k : (Int32 × Int32) → Option (Int32)) (s : ba_St) (z2 : Int32) (q0 : Int32) (q1 : Int32) : Option (Int32) :=
  ba_lt (q1 ||| q0) fun x913 =>
  ba_lt (z2 + 1) fun x914 =>
  k (x913, x914)
set_option maxHeartbeats 4000000 in
set_option maxRecDepth 100000 in
theorem ym_lateNow_j30_4 {w : ba_W} {X : ba_X} (V : ba_V ba_tM w 3 X cX6_lateNow RX6 rm_m_lateNow) {s : ba_St} {z2 : Int32} {q0 : Int32} {q1 : Int32} {o : Int32} {k : (Int32 × Int32) → Option (Int32)} (hk : ∀ (z1 : Int32) (z2 : Int32), k (z1, z2) = some o → ba_G ba_tM w 3 X s 4 [(0, .ref (w.1 0)), (1, .int z1), (2, .int z2)] []) (EX : ∀ (z1 : Int32), z1 = o → ba_G ba_tM w 3 X s 38 [(1, .int z1)] []) (h : xm_lateNow_j30_4 k s z2 q0 q1 = some o) : ba_G ba_tM w 3 X s 30 [(0, .ref (w.1 0)), (2, .int z2)] [.int q0, .int q1] := by
  unfold xm_lateNow_j30_4 at h
  refine ba_ior V dX6_lateNow_30 ?_
  refine ba_letI h (fun x913 h => ?_)
  refine ba_istore_n (lv' := [(1, .int x913), (0, .ref (w.1 0)), (2, .int z2)]) V dX6_lateNow_31 (by decide) rfl ?_
  refine ba_iinc V dX6_lateNow_32 2 rfl ba_c1 (by decide) h (fun x914 h => ⟨[(2, .int x914), (1, .int x913), (0, .ref (w.1 0))], rfl, ?_⟩)
  refine ba_goto V dX6_lateNow_35 rfl ?_
  exact ba_sub [2, 1, 0] rfl (hk _ _ h)
def xm_lateNow_l4 (s : ba_St) (k : (Int32 × Int32) → Option (Int32)) (a : (Int32 × Int32)) : Option (Int32) :=
  match a with
  | (z1, z2) =>
    if (s.1 0 10) ≤ z2 then
      some z1
    else
      ba_grd (ba_inb z2 12) <|
      if (s.1 14 (ba_ix z2)) = (-1) then
        xm_lateNow_j30_4 k s z2 (ba_fishl 1 z2) z1
      else
        xm_lateNow_j30_4 k s z2 0 z1
set_option maxHeartbeats 4000000 in
set_option maxRecDepth 100000 in
theorem ym_lateNow_l4 {w : ba_W} {X : ba_X} (V : ba_V ba_tM w 3 X cX6_lateNow RX6 rm_m_lateNow) {s : ba_St} {o : Int32} (EX : ∀ (z1 : Int32), z1 = o → ba_G ba_tM w 3 X s 38 [(1, .int z1)] []) : ∀ (n : Nat) (z1 : Int32) (z2 : Int32), ba_fix (xm_lateNow_l4 s) n (z1, z2) = some o → ba_G ba_tM w 3 X s 4 [(0, .ref (w.1 0)), (1, .int z1), (2, .int z2)] [] := by
  intro n z1 z2 h
  refine ba_loop (P := fun a => ba_G ba_tM w 3 X s 4 [(0, .ref (w.1 0)), (1, .int a.1), (2, .int a.2)] []) ?_ n (z1, z2) h
  intro k hk0 a h
  obtain ⟨z1, z2⟩ := a
  have hk : ∀ (z1 : Int32) (z2 : Int32), k (z1, z2) = some o → ba_G ba_tM w 3 X s 4 [(0, .ref (w.1 0)), (1, .int z1), (2, .int z2)] [] := fun z1 z2 e => hk0 (z1, z2) e
  unfold xm_lateNow_l4 at h
  try dsimp only at h ⊢
  refine ba_iload_n V dX6_lateNow_4 2 rfl ?_
  refine ba_aload_n V dX6_lateNow_5 0 rfl ?_
  refine ba_getI V dX6_lateNow_6 kfX6_143 ba_sModel rfl ?_
  refine ba_icmp_ge V dX6_lateNow_9 rfl h (fun h => ?_) (fun h => ?_)
  · exact ba_sub [1] rfl (EX _ (Option.some.inj h))
  · refine ba_iload_n V dX6_lateNow_12 1 rfl ?_
    refine ba_aload_n V dX6_lateNow_13 0 rfl ?_
    refine ba_getR V dX6_lateNow_14 kfX6_49 ba_sModel rfl ?_
    refine ba_iload_n V dX6_lateNow_17 2 rfl ?_
    refine ba_iald V dX6_lateNow_18 ba_sM_14 h (fun h => ?_)
    refine ba_iconst V dX6_lateNow_19 ba_cm1 ?_
    refine ba_icmp_ne V dX6_lateNow_20 rfl h (fun h => ?_) (fun h => ?_)
    · refine ba_iconst V dX6_lateNow_23 ba_c1 ?_
      refine ba_iload_n V dX6_lateNow_24 2 rfl ?_
      refine ba_ishl V dX6_lateNow_25 ?_
      refine ba_goto V dX6_lateNow_26 rfl ?_
      exact ba_sub [0, 2] rfl (ym_lateNow_j30_4 V hk EX h)
    · refine ba_iconst V dX6_lateNow_29 ba_c0 ?_
      exact ba_sub [0, 2] rfl (ym_lateNow_j30_4 V hk EX h)
def xm_lateNow (s : ba_St) : Option (Int32) :=
  ba_bnd (ba_fix (xm_lateNow_l4 s) 1000 (0, 0)) fun x915 =>
    some x915
set_option maxHeartbeats 4000000 in
set_option maxRecDepth 100000 in
theorem ym_lateNow {w : ba_W} (hj : ba_inj ba_tM w) (l : Launch) {s : ba_St} {o : Int32} (h : xm_lateNow s = some o) : ba_CI ba_tM w l yX6_lateNow cX6_lateNow 3 (some .int) rm_m_lateNow [.ref (w.1 0)] s (o, s) := by
  refine ba_metI (lv := [(0, .ref (w.1 0))]) l hj (by decide +kernel) ⟨Nat.le_of_ble_eq_true rfl, rfl⟩ ?_
  intro X V RT
  replace RT := fun pc lv v D e => RT pc lv v s D (congrArg (fun q => (q, s)) e)
  unfold xm_lateNow at h
  refine ba_iconst V dX6_lateNow_0 ba_c0 ?_
  refine ba_istore_n (lv' := [(1, .int 0), (0, .ref (w.1 0))]) V dX6_lateNow_1 (by decide) rfl ?_
  refine ba_iconst V dX6_lateNow_2 ba_c0 ?_
  refine ba_istore_n (lv' := [(2, .int 0), (1, .int 0), (0, .ref (w.1 0))]) V dX6_lateNow_3 (by decide) rfl ?_
  obtain ⟨o, ho, h⟩ := ba_bnd_some h
  refine ba_sub [2, 1, 0] rfl (ym_lateNow_l4 V (o := o) (fun x915 e => ?_) 1000 0 0 ho)
  subst e
  try dsimp only at h
  refine ba_iload_n V dX6_lateNow_38 0 rfl ?_
  exact RT _ _ _ dX6_lateNow_39 (Option.some.inj h)
def xm_late (s : ba_St) : Option (Int32 × ba_St) :=
  ba_bnd (xm_find s) fun s916 =>
  ba_bnd (xm_lateNow s916) fun v917 =>
  some (v917, s916)
set_option maxHeartbeats 4000000 in
set_option maxRecDepth 100000 in
theorem ym_late {w : ba_W} (hj : ba_inj ba_tM w) (l : Launch) {s : ba_St} {o : Int32 × ba_St} (h : xm_late s = some o) : ba_CI ba_tM w l yX6_late cX6_late 1 (some .int) rm_m_late [.ref (w.1 0)] s o := by
  refine ba_metI (lv := [(0, .ref (w.1 0))]) l hj (by decide +kernel) ⟨Nat.le_of_ble_eq_true rfl, rfl⟩ ?_
  intro X V RT
  unfold xm_late at h
  refine ba_aload_n V dX6_late_0 0 rfl ?_
  obtain ⟨s916, hc, h⟩ := ba_bnd_some h
  refine ba_callVV (As := []) (st := []) V dX6_late_1 kcX6_239 ba_sModel (fun l => ym_find V.inj l hc) ⟨rfl, rfl⟩ ⟨rfl, rfl, Nat.le_of_ble_eq_true rfl, Nat.le_of_ble_eq_true rfl⟩ (Nat.le_of_ble_eq_true rfl) ?_
  refine ba_aload_n V dX6_late_4 0 rfl ?_
  obtain ⟨v917, hc, h⟩ := ba_bnd_some h
  refine ba_callVI (As := []) (st := []) V dX6_late_5 kcX6_265 ba_sModel (fun l => ym_lateNow V.inj l hc) ⟨rfl, rfl⟩ ⟨rfl, rfl, Nat.le_of_ble_eq_true rfl, Nat.le_of_ble_eq_true rfl⟩ (Nat.le_of_ble_eq_true rfl) ?_
  exact RT _ _ _ _ dX6_late_8 (Option.some.inj h)
def xm_bestNow_j29_6 (k : (Int32 × Int32 × Int32) → Option (Int32)) (s : ba_St) (z2 : Int32) (z3 : Int32) (q0 : Int32) : Option (Int32) :=
  ba_grd (ba_inb z3 12) <|
  ba_bnd (xm_greater (s.1 13 (ba_ix z3)) z2) fun v918 =>
  ba_lt (z3 + 1) fun x919 =>
  k (q0, v918, x919)
set_option maxHeartbeats 4000000 in
set_option maxRecDepth 100000 in
theorem ym_bestNow_j29_6 {w : ba_W} {X : ba_X} (V : ba_V ba_tM w 4 X cX6_bestNow RX6 rm_m_bestNow) {s : ba_St} {z2 : Int32} {z3 : Int32} {q0 : Int32} {o : Int32} {k : (Int32 × Int32 × Int32) → Option (Int32)} (hk : ∀ (z1 : Int32) (z2 : Int32) (z3 : Int32), k (z1, z2, z3) = some o → ba_G ba_tM w 4 X s 6 [(0, .ref (w.1 0)), (1, .int z1), (2, .int z2), (3, .int z3)] []) (EX : ∀ (z1 : Int32), z1 = o → ba_G ba_tM w 4 X s 47 [(1, .int z1)] []) (h : xm_bestNow_j29_6 k s z2 z3 q0 = some o) : ba_G ba_tM w 4 X s 29 [(0, .ref (w.1 0)), (2, .int z2), (3, .int z3)] [.int q0] := by
  unfold xm_bestNow_j29_6 at h
  refine ba_istore_n (lv' := [(1, .int q0), (0, .ref (w.1 0)), (2, .int z2), (3, .int z3)]) V dX6_bestNow_29 (by decide) rfl ?_
  refine ba_aload_n V dX6_bestNow_30 1 rfl ?_
  refine ba_getR V dX6_bestNow_31 kfX6_46 ba_sModel rfl ?_
  refine ba_iload_n V dX6_bestNow_34 3 rfl ?_
  refine ba_iald V dX6_bestNow_35 ba_sM_13 h (fun h => ?_)
  refine ba_iload_n V dX6_bestNow_36 2 rfl ?_
  obtain ⟨v918, hc, h⟩ := ba_bnd_some h
  refine ba_callSI (As := [.int (s.1 13 (ba_ix z3)), .int z2]) (st := []) V dX6_bestNow_37 kcX6_268 (fun l => ym_greater V.inj l hc) ⟨rfl, rfl⟩ ⟨rfl, rfl, Nat.le_of_ble_eq_true rfl, Nat.le_of_ble_eq_true rfl⟩ (Nat.le_of_ble_eq_true rfl) ?_
  refine ba_istore_n (lv' := [(2, .int v918), (1, .int q0), (0, .ref (w.1 0)), (3, .int z3)]) V dX6_bestNow_40 (by decide) rfl ?_
  refine ba_iinc V dX6_bestNow_41 3 rfl ba_c1 (by decide) h (fun x919 h => ⟨[(3, .int x919), (2, .int v918), (1, .int q0), (0, .ref (w.1 0))], rfl, ?_⟩)
  refine ba_goto V dX6_bestNow_44 rfl ?_
  exact ba_sub [3, 2, 1, 0] rfl (hk _ _ _ h)
def xm_bestNow_l6 (s : ba_St) (k : (Int32 × Int32 × Int32) → Option (Int32)) (a : (Int32 × Int32 × Int32)) : Option (Int32) :=
  match a with
  | (z1, z2, z3) =>
    if (s.1 0 10) ≤ z3 then
      some z1
    else
      ba_grd (ba_inb z3 12) <|
      if (s.1 13 (ba_ix z3)) ≤ z2 then
        xm_bestNow_j29_6 k s z2 z3 z1
      else
        xm_bestNow_j29_6 k s z2 z3 z3
set_option maxHeartbeats 4000000 in
set_option maxRecDepth 100000 in
theorem ym_bestNow_l6 {w : ba_W} {X : ba_X} (V : ba_V ba_tM w 4 X cX6_bestNow RX6 rm_m_bestNow) {s : ba_St} {o : Int32} (EX : ∀ (z1 : Int32), z1 = o → ba_G ba_tM w 4 X s 47 [(1, .int z1)] []) : ∀ (n : Nat) (z1 : Int32) (z2 : Int32) (z3 : Int32), ba_fix (xm_bestNow_l6 s) n (z1, z2, z3) = some o → ba_G ba_tM w 4 X s 6 [(0, .ref (w.1 0)), (1, .int z1), (2, .int z2), (3, .int z3)] [] := by
  intro n z1 z2 z3 h
  refine ba_loop (P := fun a => ba_G ba_tM w 4 X s 6 [(0, .ref (w.1 0)), (1, .int a.1), (2, .int a.2.1), (3, .int a.2.2)] []) ?_ n (z1, z2, z3) h
  intro k hk0 a h
  obtain ⟨z1, z2, z3⟩ := a
  have hk : ∀ (z1 : Int32) (z2 : Int32) (z3 : Int32), k (z1, z2, z3) = some o → ba_G ba_tM w 4 X s 6 [(0, .ref (w.1 0)), (1, .int z1), (2, .int z2), (3, .int z3)] [] := fun z1 z2 z3 e => hk0 (z1, z2, z3) e
  unfold xm_bestNow_l6 at h
  try dsimp only at h ⊢
  refine ba_iload_n V dX6_bestNow_6 3 rfl ?_
  refine ba_aload_n V dX6_bestNow_7 0 rfl ?_
  refine ba_getI V dX6_bestNow_8 kfX6_143 ba_sModel rfl ?_
  refine ba_icmp_ge V dX6_bestNow_11 rfl h (fun h => ?_) (fun h => ?_)
  · exact ba_sub [1] rfl (EX _ (Option.some.inj h))
  · refine ba_aload_n V dX6_bestNow_14 0 rfl ?_
    refine ba_getR V dX6_bestNow_15 kfX6_46 ba_sModel rfl ?_
    refine ba_iload_n V dX6_bestNow_18 3 rfl ?_
    refine ba_iald V dX6_bestNow_19 ba_sM_13 h (fun h => ?_)
    refine ba_iload_n V dX6_bestNow_20 2 rfl ?_
    refine ba_icmp_le V dX6_bestNow_21 rfl h (fun h => ?_) (fun h => ?_)
    · refine ba_iload_n V dX6_bestNow_28 1 rfl ?_
      exact ba_sub [0, 2, 3] rfl (ym_bestNow_j29_6 V hk EX h)
    · refine ba_iload_n V dX6_bestNow_24 3 rfl ?_
      refine ba_goto V dX6_bestNow_25 rfl ?_
      exact ba_sub [0, 2, 3] rfl (ym_bestNow_j29_6 V hk EX h)
def xm_bestNow (s : ba_St) : Option (Int32) :=
  ba_bnd (ba_fix (xm_bestNow_l6 s) 1000 ((-1), 0, 0)) fun x920 =>
    some x920
set_option maxHeartbeats 4000000 in
set_option maxRecDepth 100000 in
theorem ym_bestNow {w : ba_W} (hj : ba_inj ba_tM w) (l : Launch) {s : ba_St} {o : Int32} (h : xm_bestNow s = some o) : ba_CI ba_tM w l yX6_bestNow cX6_bestNow 4 (some .int) rm_m_bestNow [.ref (w.1 0)] s (o, s) := by
  refine ba_metI (lv := [(0, .ref (w.1 0))]) l hj (by decide +kernel) ⟨Nat.le_of_ble_eq_true rfl, rfl⟩ ?_
  intro X V RT
  replace RT := fun pc lv v D e => RT pc lv v s D (congrArg (fun q => (q, s)) e)
  unfold xm_bestNow at h
  refine ba_iconst V dX6_bestNow_0 ba_cm1 ?_
  refine ba_istore_n (lv' := [(1, .int (-1)), (0, .ref (w.1 0))]) V dX6_bestNow_1 (by decide) rfl ?_
  refine ba_iconst V dX6_bestNow_2 ba_c0 ?_
  refine ba_istore_n (lv' := [(2, .int 0), (1, .int (-1)), (0, .ref (w.1 0))]) V dX6_bestNow_3 (by decide) rfl ?_
  refine ba_iconst V dX6_bestNow_4 ba_c0 ?_
  refine ba_istore_n (lv' := [(3, .int 0), (2, .int 0), (1, .int (-1)), (0, .ref (w.1 0))]) V dX6_bestNow_5 (by decide) rfl ?_
  obtain ⟨o, ho, h⟩ := ba_bnd_some h
  refine ba_sub [3, 2, 1, 0] rfl (ym_bestNow_l6 V (o := o) (fun x920 e => ?_) 1000 (-1) 0 0 ho)
  subst e
  try dsimp only at h
  refine ba_iload_n V dX6_bestNow_47 0 rfl ?_
  exact RT _ _ _ dX6_bestNow_48 (Option.some.inj h)
def xm_best (s : ba_St) : Option (Int32 × ba_St) :=
  ba_bnd (xm_find s) fun s921 =>
  ba_bnd (xm_bestNow s921) fun v922 =>
  some (v922, s921)
set_option maxHeartbeats 4000000 in
set_option maxRecDepth 100000 in
theorem ym_best {w : ba_W} (hj : ba_inj ba_tM w) (l : Launch) {s : ba_St} {o : Int32 × ba_St} (h : xm_best s = some o) : ba_CI ba_tM w l yX6_best cX6_best 1 (some .int) rm_m_best [.ref (w.1 0)] s o := by
  refine ba_metI (lv := [(0, .ref (w.1 0))]) l hj (by decide +kernel) ⟨Nat.le_of_ble_eq_true rfl, rfl⟩ ?_
  intro X V RT
  unfold xm_best at h
  refine ba_aload_n V dX6_best_0 0 rfl ?_
  obtain ⟨s921, hc, h⟩ := ba_bnd_some h
  refine ba_callVV (As := []) (st := []) V dX6_best_1 kcX6_239 ba_sModel (fun l => ym_find V.inj l hc) ⟨rfl, rfl⟩ ⟨rfl, rfl, Nat.le_of_ble_eq_true rfl, Nat.le_of_ble_eq_true rfl⟩ (Nat.le_of_ble_eq_true rfl) ?_
  refine ba_aload_n V dX6_best_4 0 rfl ?_
  obtain ⟨v922, hc, h⟩ := ba_bnd_some h
  refine ba_callVI (As := []) (st := []) V dX6_best_5 kcX6_271 ba_sModel (fun l => ym_bestNow V.inj l hc) ⟨rfl, rfl⟩ ⟨rfl, rfl, Nat.le_of_ble_eq_true rfl, Nat.le_of_ble_eq_true rfl⟩ (Nat.le_of_ble_eq_true rfl) ?_
  exact RT _ _ _ _ dX6_best_8 (Option.some.inj h)
def xm_jamBy_l4 (s : ba_St) (z1 : Int32) (k : (Int32 × Int32) → Option (Int32)) (a : (Int32 × Int32)) : Option (Int32) :=
  match a with
  | (z2, z3) =>
    if 24 ≤ z3 then
      some z2
    else
      ba_grd (ba_inb z3 24) <|
      ba_grd (ba_inb z2 24) <|
      if (s.1 20 (ba_ix z3)) ≤ (s.1 20 (ba_ix z2)) then
        ba_lt (z3 + 1) fun x923 =>
        k (z2, x923)
      else
        ba_lt (z3 + 1) fun x924 =>
        k (z3, x924)
set_option maxHeartbeats 4000000 in
set_option maxRecDepth 100000 in
theorem ym_jamBy_l4 {w : ba_W} {X : ba_X} (V : ba_V ba_tM w 4 X cX6_jamBy RX6 rm_m_jamBy) {s : ba_St} {z1 : Int32} {o : Int32} (EX : ∀ (z2 : Int32), z2 = o → ba_G ba_tM w 4 X s 37 [(0, .ref (w.1 0)), (1, .int z1), (2, .int z2)] []) : ∀ (n : Nat) (z2 : Int32) (z3 : Int32), ba_fix (xm_jamBy_l4 s z1) n (z2, z3) = some o → ba_G ba_tM w 4 X s 4 [(0, .ref (w.1 0)), (1, .int z1), (2, .int z2), (3, .int z3)] [] := by
  intro n z2 z3 h
  refine ba_loop (P := fun a => ba_G ba_tM w 4 X s 4 [(0, .ref (w.1 0)), (1, .int z1), (2, .int a.1), (3, .int a.2)] []) ?_ n (z2, z3) h
  intro k hk0 a h
  obtain ⟨z2, z3⟩ := a
  have hk : ∀ (z2 : Int32) (z3 : Int32), k (z2, z3) = some o → ba_G ba_tM w 4 X s 4 [(0, .ref (w.1 0)), (1, .int z1), (2, .int z2), (3, .int z3)] [] := fun z2 z3 e => hk0 (z2, z3) e
  unfold xm_jamBy_l4 at h
  try dsimp only at h ⊢
  refine ba_iload_n V dX6_jamBy_4 3 rfl ?_
  refine ba_bipush V dX6_jamBy_5 ba_c24b ?_
  refine ba_icmp_ge V dX6_jamBy_7 rfl h (fun h => ?_) (fun h => ?_)
  · exact ba_sub [0, 1, 2] rfl (EX _ (Option.some.inj h))
  · refine ba_aload_n V dX6_jamBy_10 0 rfl ?_
    refine ba_getR V dX6_jamBy_11 kfX6_67 ba_sModel rfl ?_
    refine ba_iload_n V dX6_jamBy_14 3 rfl ?_
    refine ba_iald V dX6_jamBy_15 ba_sM_20 h (fun h => ?_)
    refine ba_aload_n V dX6_jamBy_16 0 rfl ?_
    refine ba_getR V dX6_jamBy_17 kfX6_67 ba_sModel rfl ?_
    refine ba_iload_n V dX6_jamBy_20 2 rfl ?_
    refine ba_iald V dX6_jamBy_21 ba_sM_20 h (fun h => ?_)
    refine ba_icmp_le V dX6_jamBy_22 rfl h (fun h => ?_) (fun h => ?_)
    · refine ba_iload_n V dX6_jamBy_29 2 rfl ?_
      refine ba_istore_n (lv' := [(2, .int z2), (0, .ref (w.1 0)), (1, .int z1), (3, .int z3)]) V dX6_jamBy_30 (by decide) rfl ?_
      refine ba_iinc V dX6_jamBy_31 3 rfl ba_c1 (by decide) h (fun x923 h => ⟨[(3, .int x923), (2, .int z2), (0, .ref (w.1 0)), (1, .int z1)], rfl, ?_⟩)
      refine ba_goto V dX6_jamBy_34 rfl ?_
      exact ba_sub [2, 3, 1, 0] rfl (hk _ _ h)
    · refine ba_iload_n V dX6_jamBy_25 3 rfl ?_
      refine ba_goto V dX6_jamBy_26 rfl ?_
      refine ba_istore_n (lv' := [(2, .int z3), (0, .ref (w.1 0)), (1, .int z1), (3, .int z3)]) V dX6_jamBy_30 (by decide) rfl ?_
      refine ba_iinc V dX6_jamBy_31 3 rfl ba_c1 (by decide) h (fun x924 h => ⟨[(3, .int x924), (2, .int z3), (0, .ref (w.1 0)), (1, .int z1)], rfl, ?_⟩)
      refine ba_goto V dX6_jamBy_34 rfl ?_
      exact ba_sub [2, 3, 1, 0] rfl (hk _ _ h)
def xm_jamBy (s : ba_St) (a1 : Int32) : Option (Int32) :=
  ba_bnd (ba_fix (xm_jamBy_l4 s a1) 1000 (0, 1)) fun x925 =>
    if a1 = 0 then
      some x925
    else
      ba_grd (ba_inb x925 24) <|
      some (s.1 20 (ba_ix x925))
set_option maxHeartbeats 4000000 in
set_option maxRecDepth 100000 in
theorem ym_jamBy {w : ba_W} (hj : ba_inj ba_tM w) (l : Launch) {s : ba_St} {a1 : Int32} {o : Int32} (h : xm_jamBy s a1 = some o) : ba_CI ba_tM w l yX6_jamBy cX6_jamBy 4 (some .int) rm_m_jamBy [.ref (w.1 0), .int a1] s (o, s) := by
  refine ba_metI (lv := [(0, .ref (w.1 0)), (1, .int a1)]) l hj (by decide +kernel) ⟨Nat.le_of_ble_eq_true rfl, rfl⟩ ?_
  intro X V RT
  replace RT := fun pc lv v D e => RT pc lv v s D (congrArg (fun q => (q, s)) e)
  unfold xm_jamBy at h
  refine ba_iconst V dX6_jamBy_0 ba_c0 ?_
  refine ba_istore_n (lv' := [(2, .int 0), (0, .ref (w.1 0)), (1, .int a1)]) V dX6_jamBy_1 (by decide) rfl ?_
  refine ba_iconst V dX6_jamBy_2 ba_c1 ?_
  refine ba_istore_n (lv' := [(3, .int 1), (2, .int 0), (0, .ref (w.1 0)), (1, .int a1)]) V dX6_jamBy_3 (by decide) rfl ?_
  obtain ⟨o, ho, h⟩ := ba_bnd_some h
  refine ba_sub [2, 3, 1, 0] rfl (ym_jamBy_l4 V (o := o) (fun x925 e => ?_) 1000 0 1 ho)
  subst e
  try dsimp only at h
  refine ba_iload_n V dX6_jamBy_37 1 rfl ?_
  refine ba_if_ne V dX6_jamBy_38 rfl h (fun h => ?_) (fun h => ?_)
  · refine ba_iload_n V dX6_jamBy_41 2 rfl ?_
    refine ba_goto V dX6_jamBy_42 rfl ?_
    exact RT _ _ _ dX6_jamBy_51 (Option.some.inj h)
  · refine ba_aload_n V dX6_jamBy_45 0 rfl ?_
    refine ba_getR V dX6_jamBy_46 kfX6_67 ba_sModel rfl ?_
    refine ba_iload_n V dX6_jamBy_49 2 rfl ?_
    refine ba_iald V dX6_jamBy_50 ba_sM_20 h (fun h => ?_)
    exact RT _ _ _ dX6_jamBy_51 (Option.some.inj h)
def xm_jam (s : ba_St) (a1 : Int32) : Option (Int32 × ba_St) :=
  ba_bnd (xm_find s) fun s926 =>
  ba_bnd (xm_isTwo a1) fun v927 =>
  if v927 = 0 then
    some ((-2), s926)
  else
    ba_bnd (xm_jamBy s926 a1) fun v928 =>
    some (v928, s926)
set_option maxHeartbeats 4000000 in
set_option maxRecDepth 100000 in
theorem ym_jam {w : ba_W} (hj : ba_inj ba_tM w) (l : Launch) {s : ba_St} {a1 : Int32} {o : Int32 × ba_St} (h : xm_jam s a1 = some o) : ba_CI ba_tM w l yX6_jam cX6_jam 2 (some .int) rm_m_jam [.ref (w.1 0), .int a1] s o := by
  refine ba_metI (lv := [(0, .ref (w.1 0)), (1, .int a1)]) l hj (by decide +kernel) ⟨Nat.le_of_ble_eq_true rfl, rfl⟩ ?_
  intro X V RT
  unfold xm_jam at h
  refine ba_aload_n V dX6_jam_0 0 rfl ?_
  obtain ⟨s926, hc, h⟩ := ba_bnd_some h
  refine ba_callVV (As := []) (st := []) V dX6_jam_1 kcX6_239 ba_sModel (fun l => ym_find V.inj l hc) ⟨rfl, rfl⟩ ⟨rfl, rfl, Nat.le_of_ble_eq_true rfl, Nat.le_of_ble_eq_true rfl⟩ (Nat.le_of_ble_eq_true rfl) ?_
  refine ba_iload_n V dX6_jam_4 1 rfl ?_
  obtain ⟨v927, hc, h⟩ := ba_bnd_some h
  refine ba_callSI (As := [.int a1]) (st := []) V dX6_jam_5 kcX6_172 (fun l => ym_isTwo V.inj l hc) ⟨rfl, rfl⟩ ⟨rfl, rfl, Nat.le_of_ble_eq_true rfl, Nat.le_of_ble_eq_true rfl⟩ (Nat.le_of_ble_eq_true rfl) ?_
  refine ba_if_eq V dX6_jam_8 rfl h (fun h => ?_) (fun h => ?_)
  · refine ba_bipush V dX6_jam_19 ba_cm2b ?_
    exact RT _ _ _ _ dX6_jam_21 (Option.some.inj h)
  · refine ba_aload_n V dX6_jam_11 0 rfl ?_
    refine ba_iload_n V dX6_jam_12 1 rfl ?_
    obtain ⟨v928, hc, h⟩ := ba_bnd_some h
    refine ba_callVI (As := [.int a1]) (st := []) V dX6_jam_13 kcX6_274 ba_sModel (fun l => ym_jamBy V.inj l hc) ⟨rfl, rfl⟩ ⟨rfl, rfl, Nat.le_of_ble_eq_true rfl, Nat.le_of_ble_eq_true rfl⟩ (Nat.le_of_ble_eq_true rfl) ?_
    refine ba_goto V dX6_jam_16 rfl ?_
    exact RT _ _ _ _ dX6_jam_21 (Option.some.inj h)
def xm_ballBetter_j55_17 (k : (ba_St × Int32 × Int32 × Int32) → Option (ba_St × Int32 × Int32)) (s : ba_St) (z1 : Int32) (z3 : Int32) (z4 : Int32) (z5 : Int32) (z7 : Int32) (z8 : Int32) (z9 : Int32) (q0 : Int32) : Option (ba_St × Int32 × Int32) :=
  ba_bnd (xm_greater z9 z7) fun v933 =>
  ba_lt (z8 + 1) fun x934 =>
  k (s, q0, v933, x934)
set_option maxHeartbeats 4000000 in
set_option maxRecDepth 100000 in
theorem ym_ballBetter_j55_17 {w : ba_W} {X : ba_X} (V : ba_V ba_tM w 10 X cX6_ballBetter RX6 rm_m_ballBetter) {s : ba_St} {z1 : Int32} {z3 : Int32} {z4 : Int32} {z5 : Int32} {z7 : Int32} {z8 : Int32} {z9 : Int32} {q0 : Int32} {o : ba_St × Int32 × Int32} {k : (ba_St × Int32 × Int32 × Int32) → Option (ba_St × Int32 × Int32)} (hk : ∀ (s : ba_St) (z6 : Int32) (z7 : Int32) (z8 : Int32), k (s, z6, z7, z8) = some o → ba_G ba_tM w 10 X s 17 [(0, .ref (w.1 0)), (1, .int z1), (3, .int z3), (4, .int z4), (5, .int z5), (6, .int z6), (7, .int z7), (8, .int z8)] []) (EX : ∀ (s : ba_St) (z6 : Int32) (z7 : Int32), (s, z6, z7) = o → ba_G ba_tM w 10 X s 72 [(0, .ref (w.1 0)), (1, .int z1), (4, .int z4), (5, .int z5), (6, .int z6), (7, .int z7)] []) (h : xm_ballBetter_j55_17 k s z1 z3 z4 z5 z7 z8 z9 q0 = some o) : ba_G ba_tM w 10 X s 55 [(0, .ref (w.1 0)), (1, .int z1), (3, .int z3), (4, .int z4), (5, .int z5), (7, .int z7), (8, .int z8), (9, .int z9)] [.int q0] := by
  unfold xm_ballBetter_j55_17 at h
  refine ba_istore (lv' := [(6, .int q0), (0, .ref (w.1 0)), (1, .int z1), (3, .int z3), (4, .int z4), (5, .int z5), (7, .int z7), (8, .int z8), (9, .int z9)]) V dX6_ballBetter_55 (by decide) rfl ?_
  refine ba_iload V dX6_ballBetter_57 8 rfl ?_
  refine ba_iload V dX6_ballBetter_59 6 rfl ?_
  obtain ⟨v933, hc, h⟩ := ba_bnd_some h
  refine ba_callSI (As := [.int z9, .int z7]) (st := []) V dX6_ballBetter_61 kcX6_268 (fun l => ym_greater V.inj l hc) ⟨rfl, rfl⟩ ⟨rfl, rfl, Nat.le_of_ble_eq_true rfl, Nat.le_of_ble_eq_true rfl⟩ (Nat.le_of_ble_eq_true rfl) ?_
  refine ba_istore (lv' := [(7, .int v933), (6, .int q0), (0, .ref (w.1 0)), (1, .int z1), (3, .int z3), (4, .int z4), (5, .int z5), (8, .int z8), (9, .int z9)]) V dX6_ballBetter_64 (by decide) rfl ?_
  refine ba_iinc V dX6_ballBetter_66 7 rfl ba_c1 (by decide) h (fun x934 h => ⟨[(8, .int x934), (7, .int v933), (6, .int q0), (0, .ref (w.1 0)), (1, .int z1), (3, .int z3), (4, .int z4), (5, .int z5), (9, .int z9)], rfl, ?_⟩)
  refine ba_goto V dX6_ballBetter_69 rfl ?_
  exact ba_sub [3, 4, 5, 6, 7, 2, 1, 0] rfl (hk _ _ _ _ h)
def xm_ballBetter_l17 (z1 : Int32) (z3 : Int32) (z4 : Int32) (z5 : Int32) (k : (ba_St × Int32 × Int32 × Int32) → Option (ba_St × Int32 × Int32)) (a : (ba_St × Int32 × Int32 × Int32)) : Option (ba_St × Int32 × Int32) :=
  match a with
  | (s, z6, z7, z8) =>
    if z3 ≤ z8 then
      some (s, z6, z7)
    else
      ba_grd (ba_inb z1 24) <|
      ba_lt (ba_w s 9 (ba_ix z1) z8) fun s930 =>
      ba_bnd (xm_lives s930) fun s931 =>
      ba_bnd (xm_score s931) fun v932 =>
      if v932 ≤ z7 then
        xm_ballBetter_j55_17 k s931 z1 z3 z4 z5 z7 z8 v932 z6
      else
        xm_ballBetter_j55_17 k s931 z1 z3 z4 z5 z7 z8 v932 z8
set_option maxHeartbeats 4000000 in
set_option maxRecDepth 100000 in
theorem ym_ballBetter_l17 {w : ba_W} {X : ba_X} (V : ba_V ba_tM w 10 X cX6_ballBetter RX6 rm_m_ballBetter) {z1 : Int32} {z3 : Int32} {z4 : Int32} {z5 : Int32} {o : ba_St × Int32 × Int32} (EX : ∀ (s : ba_St) (z6 : Int32) (z7 : Int32), (s, z6, z7) = o → ba_G ba_tM w 10 X s 72 [(0, .ref (w.1 0)), (1, .int z1), (4, .int z4), (5, .int z5), (6, .int z6), (7, .int z7)] []) : ∀ (n : Nat) (s : ba_St) (z6 : Int32) (z7 : Int32) (z8 : Int32), ba_fix (xm_ballBetter_l17 z1 z3 z4 z5) n (s, z6, z7, z8) = some o → ba_G ba_tM w 10 X s 17 [(0, .ref (w.1 0)), (1, .int z1), (3, .int z3), (4, .int z4), (5, .int z5), (6, .int z6), (7, .int z7), (8, .int z8)] [] := by
  intro n s z6 z7 z8 h
  refine ba_loop (P := fun a => ba_G ba_tM w 10 X a.1 17 [(0, .ref (w.1 0)), (1, .int z1), (3, .int z3), (4, .int z4), (5, .int z5), (6, .int a.2.1), (7, .int a.2.2.1), (8, .int a.2.2.2)] []) ?_ n (s, z6, z7, z8) h
  intro k hk0 a h
  obtain ⟨s, z6, z7, z8⟩ := a
  have hk : ∀ (s : ba_St) (z6 : Int32) (z7 : Int32) (z8 : Int32), k (s, z6, z7, z8) = some o → ba_G ba_tM w 10 X s 17 [(0, .ref (w.1 0)), (1, .int z1), (3, .int z3), (4, .int z4), (5, .int z5), (6, .int z6), (7, .int z7), (8, .int z8)] [] := fun s z6 z7 z8 e => hk0 (s, z6, z7, z8) e
  unfold xm_ballBetter_l17 at h
  try dsimp only at h ⊢
  refine ba_iload V dX6_ballBetter_17 7 rfl ?_
  refine ba_iload_n V dX6_ballBetter_19 2 rfl ?_
  refine ba_icmp_ge V dX6_ballBetter_20 rfl h (fun h => ?_) (fun h => ?_)
  · exact ba_sub [0, 1, 3, 4, 5, 6] rfl (EX _ _ _ (Option.some.inj h))
  · refine ba_aload_n V dX6_ballBetter_23 0 rfl ?_
    refine ba_getR V dX6_ballBetter_24 kfX6_34 ba_sModel rfl ?_
    refine ba_iload_n V dX6_ballBetter_27 1 rfl ?_
    refine ba_iload V dX6_ballBetter_28 7 rfl ?_
    refine ba_iast V dX6_ballBetter_30 ba_sM_9 h (fun s930 h => ?_)
    refine ba_aload_n V dX6_ballBetter_31 0 rfl ?_
    obtain ⟨s931, hc, h⟩ := ba_bnd_some h
    refine ba_callVV (As := []) (st := []) V dX6_ballBetter_32 kcX6_236 ba_sModel (fun l => ym_lives V.inj l hc) ⟨rfl, rfl⟩ ⟨rfl, rfl, Nat.le_of_ble_eq_true rfl, Nat.le_of_ble_eq_true rfl⟩ (Nat.le_of_ble_eq_true rfl) ?_
    refine ba_aload_n V dX6_ballBetter_35 0 rfl ?_
    obtain ⟨v932, hc, h⟩ := ba_bnd_some h
    refine ba_callVI (As := []) (st := []) V dX6_ballBetter_36 kcX6_256 ba_sModel (fun l => ym_score V.inj l hc) ⟨rfl, rfl⟩ ⟨rfl, rfl, Nat.le_of_ble_eq_true rfl, Nat.le_of_ble_eq_true rfl⟩ (Nat.le_of_ble_eq_true rfl) ?_
    refine ba_istore (lv' := [(9, .int v932), (0, .ref (w.1 0)), (1, .int z1), (3, .int z3), (4, .int z4), (5, .int z5), (6, .int z6), (7, .int z7), (8, .int z8)]) V dX6_ballBetter_39 (by decide) rfl ?_
    refine ba_iload V dX6_ballBetter_41 0 rfl ?_
    refine ba_iload V dX6_ballBetter_43 7 rfl ?_
    refine ba_icmp_le V dX6_ballBetter_45 rfl h (fun h => ?_) (fun h => ?_)
    · refine ba_iload V dX6_ballBetter_53 6 rfl ?_
      exact ba_sub [1, 2, 3, 4, 5, 7, 8, 0] rfl (ym_ballBetter_j55_17 V hk EX h)
    · refine ba_iload V dX6_ballBetter_48 8 rfl ?_
      refine ba_goto V dX6_ballBetter_50 rfl ?_
      exact ba_sub [1, 2, 3, 4, 5, 7, 8, 0] rfl (ym_ballBetter_j55_17 V hk EX h)
def xm_ballBetter (s : ba_St) (a1 : Int32) (a2 : Int32) (a3 : Int32) (a4 : Int32) : Option (Int32 × ba_St) :=
  ba_grd (ba_inb a1 24) <|
  ba_lt (s.1 9 (ba_ix a1)) fun x929 =>
  ba_bnd (ba_fix (xm_ballBetter_l17 a1 a3 a4 x929) 1000 (s, (-1), (-1), a2)) fun o => match o with
  | (s935, x936, x937) =>
    ba_grd (ba_inb a1 24) <|
    ba_lt (ba_w s935 9 (ba_ix a1) x929) fun s938 =>
    if a4 = 0 then
      some (x936, s938)
    else
      some (x937, s938)
set_option maxHeartbeats 4000000 in
set_option maxRecDepth 100000 in
theorem ym_ballBetter {w : ba_W} (hj : ba_inj ba_tM w) (l : Launch) {s : ba_St} {a1 : Int32} {a2 : Int32} {a3 : Int32} {a4 : Int32} {o : Int32 × ba_St} (h : xm_ballBetter s a1 a2 a3 a4 = some o) : ba_CI ba_tM w l yX6_ballBetter cX6_ballBetter 10 (some .int) rm_m_ballBetter [.ref (w.1 0), .int a1, .int a2, .int a3, .int a4] s o := by
  refine ba_metI (lv := [(0, .ref (w.1 0)), (1, .int a1), (2, .int a2), (3, .int a3), (4, .int a4)]) l hj (by decide +kernel) ⟨Nat.le_of_ble_eq_true rfl, rfl⟩ ?_
  intro X V RT
  unfold xm_ballBetter at h
  refine ba_aload_n V dX6_ballBetter_0 0 rfl ?_
  refine ba_getR V dX6_ballBetter_1 kfX6_34 ba_sModel rfl ?_
  refine ba_iload_n V dX6_ballBetter_4 1 rfl ?_
  refine ba_iald V dX6_ballBetter_5 ba_sM_9 h (fun h => ?_)
  refine ba_letI h (fun x929 h => ?_)
  refine ba_istore (lv' := [(5, .int x929), (0, .ref (w.1 0)), (1, .int a1), (2, .int a2), (3, .int a3), (4, .int a4)]) V dX6_ballBetter_6 (by decide) rfl ?_
  refine ba_iconst V dX6_ballBetter_8 ba_cm1 ?_
  refine ba_istore (lv' := [(6, .int (-1)), (5, .int x929), (0, .ref (w.1 0)), (1, .int a1), (2, .int a2), (3, .int a3), (4, .int a4)]) V dX6_ballBetter_9 (by decide) rfl ?_
  refine ba_iconst V dX6_ballBetter_11 ba_cm1 ?_
  refine ba_istore (lv' := [(7, .int (-1)), (6, .int (-1)), (5, .int x929), (0, .ref (w.1 0)), (1, .int a1), (2, .int a2), (3, .int a3), (4, .int a4)]) V dX6_ballBetter_12 (by decide) rfl ?_
  refine ba_iload_n V dX6_ballBetter_14 5 rfl ?_
  refine ba_istore (lv' := [(8, .int a2), (7, .int (-1)), (6, .int (-1)), (5, .int x929), (0, .ref (w.1 0)), (1, .int a1), (2, .int a2), (3, .int a3), (4, .int a4)]) V dX6_ballBetter_15 (by decide) rfl ?_
  obtain ⟨o, ho, h⟩ := ba_bnd_some h
  refine ba_sub [4, 5, 7, 8, 3, 2, 1, 0] rfl (ym_ballBetter_l17 V (o := o) (fun s935 x936 x937 e => ?_) 1000 s (-1) (-1) a2 ho)
  subst e
  try dsimp only at h
  refine ba_aload_n V dX6_ballBetter_72 0 rfl ?_
  refine ba_getR V dX6_ballBetter_73 kfX6_34 ba_sModel rfl ?_
  refine ba_iload_n V dX6_ballBetter_76 1 rfl ?_
  refine ba_iload V dX6_ballBetter_77 3 rfl ?_
  refine ba_iast V dX6_ballBetter_79 ba_sM_9 h (fun s938 h => ?_)
  refine ba_iload V dX6_ballBetter_80 2 rfl ?_
  refine ba_if_ne V dX6_ballBetter_82 rfl h (fun h => ?_) (fun h => ?_)
  · refine ba_iload V dX6_ballBetter_85 4 rfl ?_
    refine ba_goto V dX6_ballBetter_87 rfl ?_
    exact RT _ _ _ _ dX6_ballBetter_92 (Option.some.inj h)
  · refine ba_iload V dX6_ballBetter_90 5 rfl ?_
    exact RT _ _ _ _ dX6_ballBetter_92 (Option.some.inj h)
