/-! ===== facts, by program ===== -/
theorem ba_mem {w : Cond} {i : Nat} (h : lw_tbl[i]? = some w) (g : goodWord w = true) : w ∈ ba_tb := List.mem_filter.mpr ⟨List.mem_of_getElem? h, g⟩
theorem ba_cm10b : (Int8.ofInt (-10)).toInt32 = (-10) := by decide +kernel
theorem ba_cm2b : (Int8.ofInt (-2)).toInt32 = (-2) := by decide +kernel
theorem ba_cm3b : (Int8.ofInt (-3)).toInt32 = (-3) := by decide +kernel
theorem ba_cm4b : (Int8.ofInt (-4)).toInt32 = (-4) := by decide +kernel
theorem ba_cm9b : (Int8.ofInt (-9)).toInt32 = (-9) := by decide +kernel
theorem ba_c10b : (Int8.ofInt 10).toInt32 = 10 := by decide +kernel
theorem ba_c108b : (Int8.ofInt 108).toInt32 = 108 := by decide +kernel
theorem ba_c114b : (Int8.ofInt 114).toInt32 = 114 := by decide +kernel
theorem ba_c116b : (Int8.ofInt 116).toInt32 = 116 := by decide +kernel
theorem ba_c12b : (Int8.ofInt 12).toInt32 = 12 := by decide +kernel
theorem ba_c13b : (Int8.ofInt 13).toInt32 = 13 := by decide +kernel
theorem ba_c16b : (Int8.ofInt 16).toInt32 = 16 := by decide +kernel
theorem ba_c17b : (Int8.ofInt 17).toInt32 = 17 := by decide +kernel
theorem ba_c23b : (Int8.ofInt 23).toInt32 = 23 := by decide +kernel
theorem ba_c24b : (Int8.ofInt 24).toInt32 = 24 := by decide +kernel
theorem ba_c32b : (Int8.ofInt 32).toInt32 = 32 := by decide +kernel
theorem ba_c35b : (Int8.ofInt 35).toInt32 = 35 := by decide +kernel
theorem ba_c36b : (Int8.ofInt 36).toInt32 = 36 := by decide +kernel
theorem ba_c47b : (Int8.ofInt 47).toInt32 = 47 := by decide +kernel
theorem ba_c48b : (Int8.ofInt 48).toInt32 = 48 := by decide +kernel
theorem ba_c49b : (Int8.ofInt 49).toInt32 = 49 := by decide +kernel
theorem ba_c59b : (Int8.ofInt 59).toInt32 = 59 := by decide +kernel
theorem ba_c6b : (Int8.ofInt 6).toInt32 = 6 := by decide +kernel
theorem ba_c60b : (Int8.ofInt 60).toInt32 = 60 := by decide +kernel
theorem ba_c63b : (Int8.ofInt 63).toInt32 = 63 := by decide +kernel
theorem ba_c7b : (Int8.ofInt 7).toInt32 = 7 := by decide +kernel
theorem ba_c72b : (Int8.ofInt 72).toInt32 = 72 := by decide +kernel
theorem ba_c8b : (Int8.ofInt 8).toInt32 = 8 := by decide +kernel
theorem ba_c81b : (Int8.ofInt 81).toInt32 = 81 := by decide +kernel
theorem ba_c9b : (Int8.ofInt 9).toInt32 = 9 := by decide +kernel
theorem ba_c96b : (Int8.ofInt 96).toInt32 = 96 := by decide +kernel
theorem ba_c97b : (Int8.ofInt 97).toInt32 = 97 := by decide +kernel
theorem ba_c98b : (Int8.ofInt 98).toInt32 = 98 := by decide +kernel
theorem ba_c12345s : (Int16.ofInt 12345).toInt32 = 12345 := by decide +kernel
theorem ba_c256s : (Int16.ofInt 256).toInt32 = 256 := by decide +kernel
theorem ba_c288s : (Int16.ofInt 288).toInt32 = 288 := by decide +kernel
theorem ba_cm1 : Int32.ofInt (-1) = (-1) := by decide +kernel
theorem ba_cm10 : Int32.ofInt (-10) = (-10) := by decide +kernel
theorem ba_cm2 : Int32.ofInt (-2) = (-2) := by decide +kernel
theorem ba_cm3 : Int32.ofInt (-3) = (-3) := by decide +kernel
theorem ba_cm4 : Int32.ofInt (-4) = (-4) := by decide +kernel
theorem ba_cm9 : Int32.ofInt (-9) = (-9) := by decide +kernel
theorem ba_c0 : Int32.ofInt 0 = 0 := by decide +kernel
theorem ba_c1 : Int32.ofInt 1 = 1 := by decide +kernel
theorem ba_c10 : Int32.ofInt 10 = 10 := by decide +kernel
theorem ba_c108 : Int32.ofInt 108 = 108 := by decide +kernel
theorem ba_c114 : Int32.ofInt 114 = 114 := by decide +kernel
theorem ba_c116 : Int32.ofInt 116 = 116 := by decide +kernel
theorem ba_c12 : Int32.ofInt 12 = 12 := by decide +kernel
theorem ba_c12345 : Int32.ofInt 12345 = 12345 := by decide +kernel
theorem ba_c13 : Int32.ofInt 13 = 13 := by decide +kernel
theorem ba_c16 : Int32.ofInt 16 = 16 := by decide +kernel
theorem ba_c17 : Int32.ofInt 17 = 17 := by decide +kernel
theorem ba_c2 : Int32.ofInt 2 = 2 := by decide +kernel
theorem ba_c23 : Int32.ofInt 23 = 23 := by decide +kernel
theorem ba_c24 : Int32.ofInt 24 = 24 := by decide +kernel
theorem ba_c256 : Int32.ofInt 256 = 256 := by decide +kernel
theorem ba_c288 : Int32.ofInt 288 = 288 := by decide +kernel
theorem ba_c3 : Int32.ofInt 3 = 3 := by decide +kernel
theorem ba_c32 : Int32.ofInt 32 = 32 := by decide +kernel
theorem ba_c35 : Int32.ofInt 35 = 35 := by decide +kernel
theorem ba_c36 : Int32.ofInt 36 = 36 := by decide +kernel
theorem ba_c4 : Int32.ofInt 4 = 4 := by decide +kernel
theorem ba_c47 : Int32.ofInt 47 = 47 := by decide +kernel
theorem ba_c48 : Int32.ofInt 48 = 48 := by decide +kernel
theorem ba_c49 : Int32.ofInt 49 = 49 := by decide +kernel
theorem ba_c5 : Int32.ofInt 5 = 5 := by decide +kernel
theorem ba_c59 : Int32.ofInt 59 = 59 := by decide +kernel
theorem ba_c6 : Int32.ofInt 6 = 6 := by decide +kernel
theorem ba_c60 : Int32.ofInt 60 = 60 := by decide +kernel
theorem ba_c63 : Int32.ofInt 63 = 63 := by decide +kernel
theorem ba_c7 : Int32.ofInt 7 = 7 := by decide +kernel
theorem ba_c72 : Int32.ofInt 72 = 72 := by decide +kernel
theorem ba_c8 : Int32.ofInt 8 = 8 := by decide +kernel
theorem ba_c81 : Int32.ofInt 81 = 81 := by decide +kernel
theorem ba_c9 : Int32.ofInt 9 = 9 := by decide +kernel
theorem ba_c96 : Int32.ofInt 96 = 96 := by decide +kernel
theorem ba_c97 : Int32.ofInt 97 = 97 := by decide +kernel
theorem ba_c98 : Int32.ofInt 98 = 98 := by decide +kernel
def ba_tl (b : Nat) : Nat := if b = 17 then 47 else if b = 19 then 9 else 35
abbrev ba_cl : List vw_C := [(RX0, TX0, 10), (RX1, TX1, 19), (RX2, TX2, 4), (RX3, TX3, 2), (RX4, TX4, 2), (RX5, TX5, 19), (RX6, TX6, 33)]
abbrev ba_at : List FieldType := [.int, .long, .object "Bagatelle$Text", .object "Bagatelle$Sheet"]
def ba_shC : List ba_Shp := [.inl (5, [some 1, some 2, some 3, some 31, some 46, some 12, some 14, none, none, none, none, none, none, none, none, none, none, some 15, some 16]),
  .inr (.inr (.inr (2, 3, 17, 2))),
  .inr (.inl 3),
  .inl (0, [some 4, some 5, some 6, none, some 7, some 8, some 9, none, none, some 10]),
  .inr (.inl 12),
  .inr (.inl 12),
  .inr (.inl 72),
  .inr (.inl 9),
  .inr (.inl 12),
  .inr (.inl 12),
  .inl (3, [some (10 + 1), none]),
  .inr (.inl 32),
  .inl (3, [some (12 + 1), none]),
  .inr (.inl 32),
  .inr (.inr (.inr (3, 4, 23, 2))),
  .inr (.inl 256),
  .inr (.inr (.inl 432)),
  .inl (4, [some (17 + 1), none]),
  .inr (.inl 47),
  .inl (4, [some (19 + 1), none]),
  .inr (.inl 9),
  .inl (4, [some (21 + 1), none]),
  .inr (.inl 35),
  .inl (2, [some (23 + 1), none, none, none]),
  .inr (.inl 60),
  .inl (2, [some (25 + 1), none, none, none]),
  .inr (.inl 60),
  .inl (2, [some (27 + 1), none, none, none]),
  .inr (.inl 60),
  .inl (2, [some (29 + 1), none, none, none]),
  .inr (.inl 60),
  .inl (1, [some 3, some (31 + 1), some (31 + 2), some (31 + 3), none, none, some (31 + 4), some (31 + 5), some (31 + 6), some (31 + 7), none, some (31 + 8), some (31 + 9), some (31 + 10), some (31 + 11), some (31 + 12), some (31 + 13), some (31 + 14), none]),
  .inr (.inl 12),
  .inr (.inl 12),
  .inr (.inl 12),
  .inr (.inl 12),
  .inr (.inl 72),
  .inr (.inl 8),
  .inr (.inl 12),
  .inr (.inl 288),
  .inr (.inl 9),
  .inr (.inl 9),
  .inr (.inl 12),
  .inr (.inl 12),
  .inr (.inl 12),
  .inr (.inl 24),
  .inl (1, [some 3, some (46 + 1), some (46 + 2), some (46 + 3), none, none, some (46 + 4), some (46 + 5), some (46 + 6), some (46 + 7), none, some (46 + 8), some (46 + 9), some (46 + 10), some (46 + 11), some (46 + 12), some (46 + 13), some (46 + 14), none]),
  .inr (.inl 12),
  .inr (.inl 12),
  .inr (.inl 12),
  .inr (.inl 12),
  .inr (.inl 72),
  .inr (.inl 8),
  .inr (.inl 12),
  .inr (.inl 288),
  .inr (.inl 9),
  .inr (.inl 9),
  .inr (.inl 12),
  .inr (.inl 12),
  .inr (.inl 12),
  .inr (.inl 24)]
def ba_shM : List ba_Shp := [.inl (6, [some 1, some 2, some 3, some 4, none, some 5, some 6, none, some 7, some 8, none, some 9, none, none, some 10, none, some 11, some 12, some 13, some 14, some 15, some 16, some 17, some 18, some 19, some 20, some 21, some 22, none, none, some 23, some 24, none]),
  .inr (.inl 4),
  .inr (.inl 4),
  .inr (.inl 240),
  .inr (.inl 60),
  .inr (.inl 144),
  .inr (.inl 3),
  .inr (.inl 36),
  .inr (.inl 9),
  .inr (.inl 24),
  .inr (.inl 24),
  .inr (.inl 12),
  .inr (.inl 12),
  .inr (.inl 12),
  .inr (.inl 12),
  .inr (.inl 12),
  .inr (.inl 12),
  .inr (.inl 12),
  .inr (.inl 9),
  .inr (.inl 9),
  .inr (.inl 24),
  .inr (.inl 288),
  .inr (.inl 288),
  .inr (.inl 32),
  .inr (.inl 2880)]
def ba_tC : ba_T := (fun k => ba_shC.getD k (.inr (.inl 0)), 61, ba_cl, ba_at, [("Bagatelle", "TEXT_LIMITS", [47, 9, 35]), ("Bagatelle", "LEAST_CHOICE", [1, 0, 0]), ("Bagatelle", "GREATEST_CHOICE", [9, 23, 3]), ("Bagatelle", "DIGEST_TICKS", [0, 6, 13, 23])], [Cond.methodLinkNest RX4 23 yX5_within "Bagatelle", Cond.methodLinkNest RX2 32 yX5_within "Bagatelle"])
def ba_tM : ba_T := (fun k => ba_shM.getD k (.inr (.inl 0)), 25, ba_cl, ba_at, [], [])
theorem ba_okC : ba_ok ba_tC := ⟨rfl, rfl⟩
theorem ba_okM : ba_ok ba_tM := ⟨rfl, rfl⟩
theorem ba_sBag : ba_Sh ba_tC 0 (.inl (5, [some 1, some 2, some 3, some 31, some 46, some 12, some 14, none, none, none, none, none, none, none, none, none, none, some 15, some 16])) := ⟨Nat.le_of_ble_eq_true rfl, rfl⟩
theorem ba_sC_1 : ba_Sh ba_tC 1 (.inr (.inr (.inr (2, 3, 17, 2)))) ∧ ba_tC.2.2.2.1[2]? = some (.object "Bagatelle$Text") := ⟨⟨Nat.le_of_ble_eq_true rfl, rfl⟩, rfl⟩
theorem ba_sC_2 : ba_Sh ba_tC 2 (.inr (.inl 3)) ∧ ba_ok ba_tC := ⟨⟨Nat.le_of_ble_eq_true rfl, rfl⟩, ba_okC⟩
theorem ba_sC_14 : ba_Sh ba_tC 14 (.inr (.inr (.inr (3, 4, 23, 2)))) ∧ ba_tC.2.2.2.1[3]? = some (.object "Bagatelle$Sheet") := ⟨⟨Nat.le_of_ble_eq_true rfl, rfl⟩, rfl⟩
theorem ba_sC_15 : ba_Sh ba_tC 15 (.inr (.inl 256)) ∧ ba_ok ba_tC := ⟨⟨Nat.le_of_ble_eq_true rfl, rfl⟩, ba_okC⟩
theorem ba_sC_16 : ba_Sh ba_tC 16 (.inr (.inr (.inl 432))) ∧ ba_ok ba_tC := ⟨⟨Nat.le_of_ble_eq_true rfl, rfl⟩, ba_okC⟩
theorem ba_sBoard : ba_Sh ba_tC 3 (.inl (0, [some 4, some 5, some 6, none, some 7, some 8, some 9, none, none, some 10])) := ⟨Nat.le_of_ble_eq_true rfl, rfl⟩
theorem ba_sC_4 : ba_Sh ba_tC 4 (.inr (.inl 12)) ∧ ba_ok ba_tC := ⟨⟨Nat.le_of_ble_eq_true rfl, rfl⟩, ba_okC⟩
theorem ba_sC_5 : ba_Sh ba_tC 5 (.inr (.inl 12)) ∧ ba_ok ba_tC := ⟨⟨Nat.le_of_ble_eq_true rfl, rfl⟩, ba_okC⟩
theorem ba_sC_6 : ba_Sh ba_tC 6 (.inr (.inl 72)) ∧ ba_ok ba_tC := ⟨⟨Nat.le_of_ble_eq_true rfl, rfl⟩, ba_okC⟩
theorem ba_sC_7 : ba_Sh ba_tC 7 (.inr (.inl 9)) ∧ ba_ok ba_tC := ⟨⟨Nat.le_of_ble_eq_true rfl, rfl⟩, ba_okC⟩
theorem ba_sC_8 : ba_Sh ba_tC 8 (.inr (.inl 12)) ∧ ba_ok ba_tC := ⟨⟨Nat.le_of_ble_eq_true rfl, rfl⟩, ba_okC⟩
theorem ba_sC_9 : ba_Sh ba_tC 9 (.inr (.inl 12)) ∧ ba_ok ba_tC := ⟨⟨Nat.le_of_ble_eq_true rfl, rfl⟩, ba_okC⟩
def ba_isCourse (b : Nat) : Prop := b = 31 ∨ b = 46
theorem ba_isCourse_31 : ba_isCourse 31 := Or.inl rfl
theorem ba_isCourse_46 : ba_isCourse 46 := Or.inr (rfl)
theorem ba_sCourse {b : Nat} (hb : ba_isCourse b) : ba_Sh ba_tC b (.inl (1, [some 3, some (b + 1), some (b + 2), some (b + 3), none, none, some (b + 4), some (b + 5), some (b + 6), some (b + 7), none, some (b + 8), some (b + 9), some (b + 10), some (b + 11), some (b + 12), some (b + 13), some (b + 14), none])) := by
  rcases hb with rfl | rfl <;> exact ⟨Nat.le_of_ble_eq_true rfl, rfl⟩
theorem ba_sCourse_1 {b : Nat} (hb : ba_isCourse b) : ba_Sh ba_tC (b + 1) (.inr (.inl 12)) ∧ ba_ok ba_tC := by
  rcases hb with rfl | rfl <;> exact ⟨⟨Nat.le_of_ble_eq_true rfl, rfl⟩, ba_okC⟩
theorem ba_sCourse_2 {b : Nat} (hb : ba_isCourse b) : ba_Sh ba_tC (b + 2) (.inr (.inl 12)) ∧ ba_ok ba_tC := by
  rcases hb with rfl | rfl <;> exact ⟨⟨Nat.le_of_ble_eq_true rfl, rfl⟩, ba_okC⟩
theorem ba_sCourse_3 {b : Nat} (hb : ba_isCourse b) : ba_Sh ba_tC (b + 3) (.inr (.inl 12)) ∧ ba_ok ba_tC := by
  rcases hb with rfl | rfl <;> exact ⟨⟨Nat.le_of_ble_eq_true rfl, rfl⟩, ba_okC⟩
theorem ba_sCourse_4 {b : Nat} (hb : ba_isCourse b) : ba_Sh ba_tC (b + 4) (.inr (.inl 12)) ∧ ba_ok ba_tC := by
  rcases hb with rfl | rfl <;> exact ⟨⟨Nat.le_of_ble_eq_true rfl, rfl⟩, ba_okC⟩
theorem ba_sCourse_5 {b : Nat} (hb : ba_isCourse b) : ba_Sh ba_tC (b + 5) (.inr (.inl 72)) ∧ ba_ok ba_tC := by
  rcases hb with rfl | rfl <;> exact ⟨⟨Nat.le_of_ble_eq_true rfl, rfl⟩, ba_okC⟩
theorem ba_sCourse_6 {b : Nat} (hb : ba_isCourse b) : ba_Sh ba_tC (b + 6) (.inr (.inl 8)) ∧ ba_ok ba_tC := by
  rcases hb with rfl | rfl <;> exact ⟨⟨Nat.le_of_ble_eq_true rfl, rfl⟩, ba_okC⟩
theorem ba_sCourse_7 {b : Nat} (hb : ba_isCourse b) : ba_Sh ba_tC (b + 7) (.inr (.inl 12)) ∧ ba_ok ba_tC := by
  rcases hb with rfl | rfl <;> exact ⟨⟨Nat.le_of_ble_eq_true rfl, rfl⟩, ba_okC⟩
theorem ba_sCourse_8 {b : Nat} (hb : ba_isCourse b) : ba_Sh ba_tC (b + 8) (.inr (.inl 288)) ∧ ba_ok ba_tC := by
  rcases hb with rfl | rfl <;> exact ⟨⟨Nat.le_of_ble_eq_true rfl, rfl⟩, ba_okC⟩
theorem ba_sCourse_9 {b : Nat} (hb : ba_isCourse b) : ba_Sh ba_tC (b + 9) (.inr (.inl 9)) ∧ ba_ok ba_tC := by
  rcases hb with rfl | rfl <;> exact ⟨⟨Nat.le_of_ble_eq_true rfl, rfl⟩, ba_okC⟩
theorem ba_sCourse_10 {b : Nat} (hb : ba_isCourse b) : ba_Sh ba_tC (b + 10) (.inr (.inl 9)) ∧ ba_ok ba_tC := by
  rcases hb with rfl | rfl <;> exact ⟨⟨Nat.le_of_ble_eq_true rfl, rfl⟩, ba_okC⟩
theorem ba_sCourse_11 {b : Nat} (hb : ba_isCourse b) : ba_Sh ba_tC (b + 11) (.inr (.inl 12)) ∧ ba_ok ba_tC := by
  rcases hb with rfl | rfl <;> exact ⟨⟨Nat.le_of_ble_eq_true rfl, rfl⟩, ba_okC⟩
theorem ba_sCourse_12 {b : Nat} (hb : ba_isCourse b) : ba_Sh ba_tC (b + 12) (.inr (.inl 12)) ∧ ba_ok ba_tC := by
  rcases hb with rfl | rfl <;> exact ⟨⟨Nat.le_of_ble_eq_true rfl, rfl⟩, ba_okC⟩
theorem ba_sCourse_13 {b : Nat} (hb : ba_isCourse b) : ba_Sh ba_tC (b + 13) (.inr (.inl 12)) ∧ ba_ok ba_tC := by
  rcases hb with rfl | rfl <;> exact ⟨⟨Nat.le_of_ble_eq_true rfl, rfl⟩, ba_okC⟩
theorem ba_sCourse_14 {b : Nat} (hb : ba_isCourse b) : ba_Sh ba_tC (b + 14) (.inr (.inl 24)) ∧ ba_ok ba_tC := by
  rcases hb with rfl | rfl <;> exact ⟨⟨Nat.le_of_ble_eq_true rfl, rfl⟩, ba_okC⟩
def ba_isSlips (b : Nat) : Prop := b = 10 ∨ b = 12
theorem ba_isSlips_10 : ba_isSlips 10 := Or.inl rfl
theorem ba_isSlips_12 : ba_isSlips 12 := Or.inr (rfl)
theorem ba_sSlips {b : Nat} (hb : ba_isSlips b) : ba_Sh ba_tC b (.inl (3, [some (b + 1), none])) := by
  rcases hb with rfl | rfl <;> exact ⟨Nat.le_of_ble_eq_true rfl, rfl⟩
theorem ba_sSlips_1 {b : Nat} (hb : ba_isSlips b) : ba_Sh ba_tC (b + 1) (.inr (.inl 32)) ∧ ba_ok ba_tC := by
  rcases hb with rfl | rfl <;> exact ⟨⟨Nat.le_of_ble_eq_true rfl, rfl⟩, ba_okC⟩
def ba_isText (b : Nat) : Prop := b = 17 ∨ b = 19 ∨ b = 21
theorem ba_isText_17 : ba_isText 17 := Or.inl rfl
theorem ba_isText_19 : ba_isText 19 := Or.inr (Or.inl rfl)
theorem ba_isText_21 : ba_isText 21 := Or.inr (Or.inr (rfl))
theorem ba_sText {b : Nat} (hb : ba_isText b) : ba_Sh ba_tC b (.inl (4, [some (b + 1), none])) := by
  rcases hb with rfl | rfl | rfl <;> exact ⟨Nat.le_of_ble_eq_true rfl, rfl⟩
theorem ba_sText_1 {b : Nat} (hb : ba_isText b) : ba_Sh ba_tC (b + 1) (.inr (.inl (ba_tl b))) ∧ ba_ok ba_tC := by
  rcases hb with rfl | rfl | rfl <;> exact ⟨⟨Nat.le_of_ble_eq_true rfl, rfl⟩, ba_okC⟩
def ba_isSheet (b : Nat) : Prop := b = 23 ∨ b = 25 ∨ b = 27 ∨ b = 29
theorem ba_isSheet_23 : ba_isSheet 23 := Or.inl rfl
theorem ba_isSheet_25 : ba_isSheet 25 := Or.inr (Or.inl rfl)
theorem ba_isSheet_27 : ba_isSheet 27 := Or.inr (Or.inr (Or.inl rfl))
theorem ba_isSheet_29 : ba_isSheet 29 := Or.inr (Or.inr (Or.inr (rfl)))
theorem ba_sSheet {b : Nat} (hb : ba_isSheet b) : ba_Sh ba_tC b (.inl (2, [some (b + 1), none, none, none])) := by
  rcases hb with rfl | rfl | rfl | rfl <;> exact ⟨Nat.le_of_ble_eq_true rfl, rfl⟩
theorem ba_sSheet_1 {b : Nat} (hb : ba_isSheet b) : ba_Sh ba_tC (b + 1) (.inr (.inl 60)) ∧ ba_ok ba_tC := by
  rcases hb with rfl | rfl | rfl | rfl <;> exact ⟨⟨Nat.le_of_ble_eq_true rfl, rfl⟩, ba_okC⟩
theorem ba_sModel : ba_Sh ba_tM 0 (.inl (6, [some 1, some 2, some 3, some 4, none, some 5, some 6, none, some 7, some 8, none, some 9, none, none, some 10, none, some 11, some 12, some 13, some 14, some 15, some 16, some 17, some 18, some 19, some 20, some 21, some 22, none, none, some 23, some 24, none])) := ⟨Nat.le_of_ble_eq_true rfl, rfl⟩
theorem ba_sM_1 : ba_Sh ba_tM 1 (.inr (.inl 4)) ∧ ba_ok ba_tM := ⟨⟨Nat.le_of_ble_eq_true rfl, rfl⟩, ba_okM⟩
theorem ba_sM_2 : ba_Sh ba_tM 2 (.inr (.inl 4)) ∧ ba_ok ba_tM := ⟨⟨Nat.le_of_ble_eq_true rfl, rfl⟩, ba_okM⟩
theorem ba_sM_3 : ba_Sh ba_tM 3 (.inr (.inl 240)) ∧ ba_ok ba_tM := ⟨⟨Nat.le_of_ble_eq_true rfl, rfl⟩, ba_okM⟩
theorem ba_sM_4 : ba_Sh ba_tM 4 (.inr (.inl 60)) ∧ ba_ok ba_tM := ⟨⟨Nat.le_of_ble_eq_true rfl, rfl⟩, ba_okM⟩
theorem ba_sM_5 : ba_Sh ba_tM 5 (.inr (.inl 144)) ∧ ba_ok ba_tM := ⟨⟨Nat.le_of_ble_eq_true rfl, rfl⟩, ba_okM⟩
theorem ba_sM_6 : ba_Sh ba_tM 6 (.inr (.inl 3)) ∧ ba_ok ba_tM := ⟨⟨Nat.le_of_ble_eq_true rfl, rfl⟩, ba_okM⟩
theorem ba_sM_7 : ba_Sh ba_tM 7 (.inr (.inl 36)) ∧ ba_ok ba_tM := ⟨⟨Nat.le_of_ble_eq_true rfl, rfl⟩, ba_okM⟩
theorem ba_sM_8 : ba_Sh ba_tM 8 (.inr (.inl 9)) ∧ ba_ok ba_tM := ⟨⟨Nat.le_of_ble_eq_true rfl, rfl⟩, ba_okM⟩
theorem ba_sM_9 : ba_Sh ba_tM 9 (.inr (.inl 24)) ∧ ba_ok ba_tM := ⟨⟨Nat.le_of_ble_eq_true rfl, rfl⟩, ba_okM⟩
theorem ba_sM_10 : ba_Sh ba_tM 10 (.inr (.inl 24)) ∧ ba_ok ba_tM := ⟨⟨Nat.le_of_ble_eq_true rfl, rfl⟩, ba_okM⟩
theorem ba_sM_11 : ba_Sh ba_tM 11 (.inr (.inl 12)) ∧ ba_ok ba_tM := ⟨⟨Nat.le_of_ble_eq_true rfl, rfl⟩, ba_okM⟩
theorem ba_sM_12 : ba_Sh ba_tM 12 (.inr (.inl 12)) ∧ ba_ok ba_tM := ⟨⟨Nat.le_of_ble_eq_true rfl, rfl⟩, ba_okM⟩
theorem ba_sM_13 : ba_Sh ba_tM 13 (.inr (.inl 12)) ∧ ba_ok ba_tM := ⟨⟨Nat.le_of_ble_eq_true rfl, rfl⟩, ba_okM⟩
theorem ba_sM_14 : ba_Sh ba_tM 14 (.inr (.inl 12)) ∧ ba_ok ba_tM := ⟨⟨Nat.le_of_ble_eq_true rfl, rfl⟩, ba_okM⟩
theorem ba_sM_15 : ba_Sh ba_tM 15 (.inr (.inl 12)) ∧ ba_ok ba_tM := ⟨⟨Nat.le_of_ble_eq_true rfl, rfl⟩, ba_okM⟩
theorem ba_sM_16 : ba_Sh ba_tM 16 (.inr (.inl 12)) ∧ ba_ok ba_tM := ⟨⟨Nat.le_of_ble_eq_true rfl, rfl⟩, ba_okM⟩
theorem ba_sM_17 : ba_Sh ba_tM 17 (.inr (.inl 12)) ∧ ba_ok ba_tM := ⟨⟨Nat.le_of_ble_eq_true rfl, rfl⟩, ba_okM⟩
theorem ba_sM_18 : ba_Sh ba_tM 18 (.inr (.inl 9)) ∧ ba_ok ba_tM := ⟨⟨Nat.le_of_ble_eq_true rfl, rfl⟩, ba_okM⟩
theorem ba_sM_19 : ba_Sh ba_tM 19 (.inr (.inl 9)) ∧ ba_ok ba_tM := ⟨⟨Nat.le_of_ble_eq_true rfl, rfl⟩, ba_okM⟩
theorem ba_sM_20 : ba_Sh ba_tM 20 (.inr (.inl 24)) ∧ ba_ok ba_tM := ⟨⟨Nat.le_of_ble_eq_true rfl, rfl⟩, ba_okM⟩
theorem ba_sM_21 : ba_Sh ba_tM 21 (.inr (.inl 288)) ∧ ba_ok ba_tM := ⟨⟨Nat.le_of_ble_eq_true rfl, rfl⟩, ba_okM⟩
theorem ba_sM_22 : ba_Sh ba_tM 22 (.inr (.inl 288)) ∧ ba_ok ba_tM := ⟨⟨Nat.le_of_ble_eq_true rfl, rfl⟩, ba_okM⟩
theorem ba_sM_23 : ba_Sh ba_tM 23 (.inr (.inl 32)) ∧ ba_ok ba_tM := ⟨⟨Nat.le_of_ble_eq_true rfl, rfl⟩, ba_okM⟩
theorem ba_sM_24 : ba_Sh ba_tM 24 (.inr (.inl 2880)) ∧ ba_ok ba_tM := ⟨⟨Nat.le_of_ble_eq_true rfl, rfl⟩, ba_okM⟩
theorem ba_elText {i : Int32} (h : ba_inb i 3 = true) : ba_isText (17 + 2 * ba_ix i) := by
  unfold ba_inb at h
  simp only [Bool.and_eq_true, decide_eq_true_eq] at h
  obtain ⟨q, hq⟩ : ∃ q, q = ba_ix i := ⟨_, rfl⟩
  have h2 : q < 3 := by rw [hq]; exact h.2
  rw [← hq]
  rcases (show q = 0 ∨ q = 1 ∨ q = 2 by omega) with rfl | rfl | rfl <;> simp [ba_isText]
theorem ba_elSheet {i : Int32} (h : ba_inb i 4 = true) : ba_isSheet (23 + 2 * ba_ix i) := by
  unfold ba_inb at h
  simp only [Bool.and_eq_true, decide_eq_true_eq] at h
  obtain ⟨q, hq⟩ : ∃ q, q = ba_ix i := ⟨_, rfl⟩
  have h2 : q < 4 := by rw [hq]; exact h.2
  rw [← hq]
  rcases (show q = 0 ∨ q = 1 ∨ q = 2 ∨ q = 3 by omega) with rfl | rfl | rfl | rfl <;> simp [ba_isSheet]
theorem ba_sf0 : ba_tC.2.2.2.2.1[0]? = some ("Bagatelle", "TEXT_LIMITS", [47, 9, 35]) := rfl
theorem ba_sf1 : ba_tC.2.2.2.2.1[1]? = some ("Bagatelle", "LEAST_CHOICE", [1, 0, 0]) := rfl
theorem ba_sf2 : ba_tC.2.2.2.2.1[2]? = some ("Bagatelle", "GREATEST_CHOICE", [9, 23, 3]) := rfl
theorem ba_sf3 : ba_tC.2.2.2.2.1[3]? = some ("Bagatelle", "DIGEST_TICKS", [0, 6, 13, 23]) := rfl
theorem kw_261 : Cond.fieldLink "Bagatelle$Text" 9 "Bagatelle$Text" "size" "I" ∈ ba_tb := ba_mem (i := 261) (by decide +kernel) (by decide +kernel)
theorem kw_260 : Cond.fieldLink "Bagatelle$Text" 15 "Bagatelle$Text" "bytes" "[I" ∈ ba_tb := ba_mem (i := 260) (by decide +kernel) (by decide +kernel)
theorem kw_132 : Cond.fieldLink "Bagatelle$Board" 21 "Bagatelle$Board" "pinCount" "I" ∈ ba_tb := ba_mem (i := 132) (by decide +kernel) (by decide +kernel)
theorem kw_130 : Cond.fieldLink "Bagatelle$Board" 18 "Bagatelle$Board" "pinIn" "[I" ∈ ba_tb := ba_mem (i := 130) (by decide +kernel) (by decide +kernel)
theorem kw_124 : Cond.code yJ7_fill_53178 cJ7_fill_53178 4 none ∈ ba_tb := ba_mem (i := 124) (by decide +kernel) (by decide +kernel)
theorem kw_81 : Cond.initialized "java/util/Arrays" ∈ ba_tb := ba_mem (i := 81) (by decide +kernel) (by decide +kernel)
theorem kw_122 : Cond.methodLink "Bagatelle$Board" 47 yJ7_fill_53178 ∈ ba_tb := ba_mem (i := 122) (by decide +kernel) (by decide +kernel)
theorem kw_123 : Cond.static yJ7_fill_53178 ∈ ba_tb := ba_mem (i := 123) (by decide +kernel) (by decide +kernel)
theorem kw_384 : Cond.code yX4_byteAt cX4_byteAt 2 (some .int) ∈ ba_tb := ba_mem (i := 384) (by decide +kernel) (by decide +kernel)
theorem kw_83 : Cond.initialized "Bagatelle$Text" ∈ ba_tb := ba_mem (i := 83) (by decide +kernel) (by decide +kernel)
theorem kw_381 : Cond.methodLink "Bagatelle$Text" 19 yX4_byteAt ∈ ba_tb := ba_mem (i := 381) (by decide +kernel) (by decide +kernel)
theorem kw_382 : Cond.instanceMethod yX4_byteAt ∈ ba_tb := ba_mem (i := 382) (by decide +kernel) (by decide +kernel)
theorem kw_383 : Cond.selects "Bagatelle$Text" yX4_byteAt yX4_byteAt ∈ ba_tb := ba_mem (i := 383) (by decide +kernel) (by decide +kernel)
theorem kw_356 : Cond.code yX5_within cX5_within 2 (some .boolean) ∈ ba_tb := ba_mem (i := 356) (by decide +kernel) (by decide +kernel)
theorem kw_78 : Cond.initialized "Bagatelle" ∈ ba_tb := ba_mem (i := 78) (by decide +kernel) (by decide +kernel)
theorem kw_355 : Cond.static yX5_within ∈ ba_tb := ba_mem (i := 355) (by decide +kernel) (by decide +kernel)
theorem kw_125 : Cond.fieldLink "Bagatelle$Board" 9 "Bagatelle$Board" "pinCells" "[I" ∈ ba_tb := ba_mem (i := 125) (by decide +kernel) (by decide +kernel)
theorem kw_127 : Cond.fieldLink "Bagatelle$Board" 15 "Bagatelle$Board" "pinSorts" "[I" ∈ ba_tb := ba_mem (i := 127) (by decide +kernel) (by decide +kernel)
theorem kw_263 : Cond.fieldLink "Bagatelle$Board" 63 "Bagatelle$Text" "size" "I" ∈ ba_tb := ba_mem (i := 263) (by decide +kernel) (by decide +kernel)
theorem kw_380 : Cond.code yX4_countedFrom cX4_countedFrom 5 (some .int) ∈ ba_tb := ba_mem (i := 380) (by decide +kernel) (by decide +kernel)
theorem kw_377 : Cond.methodLink "Bagatelle$Board" 66 yX4_countedFrom ∈ ba_tb := ba_mem (i := 377) (by decide +kernel) (by decide +kernel)
theorem kw_378 : Cond.instanceMethod yX4_countedFrom ∈ ba_tb := ba_mem (i := 378) (by decide +kernel) (by decide +kernel)
theorem kw_379 : Cond.selects "Bagatelle$Text" yX4_countedFrom yX4_countedFrom ∈ ba_tb := ba_mem (i := 379) (by decide +kernel) (by decide +kernel)
theorem kw_386 : Cond.methodLink "Bagatelle$Board" 70 yX4_byteAt ∈ ba_tb := ba_mem (i := 386) (by decide +kernel) (by decide +kernel)
theorem kw_389 : Cond.code yX0_sortOf cX0_sortOf 1 (some .int) ∈ ba_tb := ba_mem (i := 389) (by decide +kernel) (by decide +kernel)
theorem kw_79 : Cond.initialized "Bagatelle$Board" ∈ ba_tb := ba_mem (i := 79) (by decide +kernel) (by decide +kernel)
theorem kw_387 : Cond.methodLink "Bagatelle$Board" 74 yX0_sortOf ∈ ba_tb := ba_mem (i := 387) (by decide +kernel) (by decide +kernel)
theorem kw_388 : Cond.static yX0_sortOf ∈ ba_tb := ba_mem (i := 388) (by decide +kernel) (by decide +kernel)
theorem kw_393 : Cond.code yX0_addPin cX0_addPin 3 none ∈ ba_tb := ba_mem (i := 393) (by decide +kernel) (by decide +kernel)
theorem kw_390 : Cond.methodLink "Bagatelle$Board" 77 yX0_addPin ∈ ba_tb := ba_mem (i := 390) (by decide +kernel) (by decide +kernel)
theorem kw_392 : Cond.instanceMethod yX0_addPin ∈ ba_tb := ba_mem (i := 392) (by decide +kernel) (by decide +kernel)
theorem kw_3 : Cond.selects RX0 yX0_addPin yX0_addPin ∈ ba_tb := ba_mem (i := 3) (by decide +kernel) (by decide +kernel)
theorem kw_372 : Cond.code yX0_clearPins cX0_clearPins 1 none ∈ ba_tb := ba_mem (i := 372) (by decide +kernel) (by decide +kernel)
theorem kw_369 : Cond.methodLink "Bagatelle$Board" 56 yX0_clearPins ∈ ba_tb := ba_mem (i := 369) (by decide +kernel) (by decide +kernel)
theorem kw_371 : Cond.instanceMethod yX0_clearPins ∈ ba_tb := ba_mem (i := 371) (by decide +kernel) (by decide +kernel)
theorem kw_1 : Cond.selects RX0 yX0_clearPins yX0_clearPins ∈ ba_tb := ba_mem (i := 1) (by decide +kernel) (by decide +kernel)
theorem kw_376 : Cond.code yX0_scanPins cX0_scanPins 7 (some .int) ∈ ba_tb := ba_mem (i := 376) (by decide +kernel) (by decide +kernel)
theorem kw_373 : Cond.methodLink "Bagatelle$Board" 59 yX0_scanPins ∈ ba_tb := ba_mem (i := 373) (by decide +kernel) (by decide +kernel)
theorem kw_375 : Cond.instanceMethod yX0_scanPins ∈ ba_tb := ba_mem (i := 375) (by decide +kernel) (by decide +kernel)
theorem kw_2 : Cond.selects RX0 yX0_scanPins yX0_scanPins ∈ ba_tb := ba_mem (i := 2) (by decide +kernel) (by decide +kernel)
theorem kw_135 : Cond.fieldLink "Bagatelle$Board" 25 "Bagatelle$Board" "worths" "[I" ∈ ba_tb := ba_mem (i := 135) (by decide +kernel) (by decide +kernel)
theorem kw_138 : Cond.fieldLink "Bagatelle$Board" 28 "Bagatelle$Board" "ballTicks" "[I" ∈ ba_tb := ba_mem (i := 138) (by decide +kernel) (by decide +kernel)
theorem kw_141 : Cond.fieldLink "Bagatelle$Board" 31 "Bagatelle$Board" "ballHards" "[I" ∈ ba_tb := ba_mem (i := 141) (by decide +kernel) (by decide +kernel)
theorem kw_144 : Cond.fieldLink "Bagatelle$Board" 34 "Bagatelle$Board" "ballCount" "I" ∈ ba_tb := ba_mem (i := 144) (by decide +kernel) (by decide +kernel)
theorem kw_405 : Cond.code yX0_scanBalls cX0_scanBalls 6 (some .int) ∈ ba_tb := ba_mem (i := 405) (by decide +kernel) (by decide +kernel)
theorem kw_402 : Cond.methodLink "Bagatelle$Board" 81 yX0_scanBalls ∈ ba_tb := ba_mem (i := 402) (by decide +kernel) (by decide +kernel)
theorem kw_404 : Cond.instanceMethod yX0_scanBalls ∈ ba_tb := ba_mem (i := 404) (by decide +kernel) (by decide +kernel)
theorem kw_4 : Cond.selects RX0 yX0_scanBalls yX0_scanBalls ∈ ba_tb := ba_mem (i := 4) (by decide +kernel) (by decide +kernel)
theorem kw_300 : Cond.fieldLink "Bagatelle" 55 "Bagatelle" "toldIsRun" "Z" ∈ ba_tb := ba_mem (i := 300) (by decide +kernel) (by decide +kernel)
theorem kw_301 : Cond.fieldLink "Bagatelle" 59 "Bagatelle" "searched" "I" ∈ ba_tb := ba_mem (i := 301) (by decide +kernel) (by decide +kernel)
theorem kw_304 : Cond.fieldLink "Bagatelle" 68 "Bagatelle" "sparesKnown" "Z" ∈ ba_tb := ba_mem (i := 304) (by decide +kernel) (by decide +kernel)
theorem kw_308 : Cond.fieldLink "Bagatelle" 80 "Bagatelle" "bringersKnown" "Z" ∈ ba_tb := ba_mem (i := 308) (by decide +kernel) (by decide +kernel)
theorem kw_293 : Cond.fieldLink "Bagatelle" 15 "Bagatelle" "faults" "[I" ∈ ba_tb := ba_mem (i := 293) (by decide +kernel) (by decide +kernel)
theorem kw_294 : Cond.fieldLink "Bagatelle" 22 "Bagatelle" "board" "LBagatelle$Board;" ∈ ba_tb := ba_mem (i := 294) (by decide +kernel) (by decide +kernel)
theorem kw_292 : Cond.fieldLink "Bagatelle" 11 "Bagatelle" "texts" "[LBagatelle$Text;" ∈ ba_tb := ba_mem (i := 292) (by decide +kernel) (by decide +kernel)
theorem kw_368 : Cond.code yX0_takePins cX0_takePins 3 (some .int) ∈ ba_tb := ba_mem (i := 368) (by decide +kernel) (by decide +kernel)
theorem kw_365 : Cond.methodLink "Bagatelle" 371 yX0_takePins ∈ ba_tb := ba_mem (i := 365) (by decide +kernel) (by decide +kernel)
theorem kw_366 : Cond.instanceMethod yX0_takePins ∈ ba_tb := ba_mem (i := 366) (by decide +kernel) (by decide +kernel)
theorem kw_367 : Cond.selects "Bagatelle$Board" yX0_takePins yX0_takePins ∈ ba_tb := ba_mem (i := 367) (by decide +kernel) (by decide +kernel)
theorem kw_409 : Cond.code yX5_forgetResults cX5_forgetResults 1 none ∈ ba_tb := ba_mem (i := 409) (by decide +kernel) (by decide +kernel)
theorem kw_406 : Cond.methodLink "Bagatelle" 144 yX5_forgetResults ∈ ba_tb := ba_mem (i := 406) (by decide +kernel) (by decide +kernel)
theorem kw_408 : Cond.instanceMethod yX5_forgetResults ∈ ba_tb := ba_mem (i := 408) (by decide +kernel) (by decide +kernel)
theorem kw_5 : Cond.selects RX5 yX5_forgetResults yX5_forgetResults ∈ ba_tb := ba_mem (i := 5) (by decide +kernel) (by decide +kernel)
theorem kw_397 : Cond.code yX0_takeCups cX0_takeCups 4 (some .int) ∈ ba_tb := ba_mem (i := 397) (by decide +kernel) (by decide +kernel)
theorem kw_394 : Cond.methodLink "Bagatelle" 375 yX0_takeCups ∈ ba_tb := ba_mem (i := 394) (by decide +kernel) (by decide +kernel)
theorem kw_395 : Cond.instanceMethod yX0_takeCups ∈ ba_tb := ba_mem (i := 395) (by decide +kernel) (by decide +kernel)
theorem kw_396 : Cond.selects "Bagatelle$Board" yX0_takeCups yX0_takeCups ∈ ba_tb := ba_mem (i := 396) (by decide +kernel) (by decide +kernel)
theorem kw_401 : Cond.code yX0_takeBalls cX0_takeBalls 3 (some .int) ∈ ba_tb := ba_mem (i := 401) (by decide +kernel) (by decide +kernel)
theorem kw_398 : Cond.methodLink "Bagatelle" 378 yX0_takeBalls ∈ ba_tb := ba_mem (i := 398) (by decide +kernel) (by decide +kernel)
theorem kw_399 : Cond.instanceMethod yX0_takeBalls ∈ ba_tb := ba_mem (i := 399) (by decide +kernel) (by decide +kernel)
theorem kw_400 : Cond.selects "Bagatelle$Board" yX0_takeBalls yX0_takeBalls ∈ ba_tb := ba_mem (i := 400) (by decide +kernel) (by decide +kernel)
theorem kw_354 : Cond.methodLink "Bagatelle" 97 yX5_within ∈ ba_tb := ba_mem (i := 354) (by decide +kernel) (by decide +kernel)
theorem kw_360 : Cond.code yX4_append cX4_append 2 (some .boolean) ∈ ba_tb := ba_mem (i := 360) (by decide +kernel) (by decide +kernel)
theorem kw_357 : Cond.methodLink "Bagatelle" 101 yX4_append ∈ ba_tb := ba_mem (i := 357) (by decide +kernel) (by decide +kernel)
theorem kw_358 : Cond.instanceMethod yX4_append ∈ ba_tb := ba_mem (i := 358) (by decide +kernel) (by decide +kernel)
theorem kw_359 : Cond.selects "Bagatelle$Text" yX4_append yX4_append ∈ ba_tb := ba_mem (i := 359) (by decide +kernel) (by decide +kernel)
theorem kw_364 : Cond.code yX5_parse cX5_parse 2 none ∈ ba_tb := ba_mem (i := 364) (by decide +kernel) (by decide +kernel)
theorem kw_361 : Cond.methodLink "Bagatelle" 105 yX5_parse ∈ ba_tb := ba_mem (i := 361) (by decide +kernel) (by decide +kernel)
theorem kw_363 : Cond.instanceMethod yX5_parse ∈ ba_tb := ba_mem (i := 363) (by decide +kernel) (by decide +kernel)
theorem kw_0 : Cond.selects RX5 yX5_parse yX5_parse ∈ ba_tb := ba_mem (i := 0) (by decide +kernel) (by decide +kernel)
theorem kw_262 : Cond.fieldLink "Bagatelle" 108 "Bagatelle$Text" "size" "I" ∈ ba_tb := ba_mem (i := 262) (by decide +kernel) (by decide +kernel)
theorem kw_133 : Cond.fieldLink "Bagatelle" 111 "Bagatelle$Board" "pinCount" "I" ∈ ba_tb := ba_mem (i := 133) (by decide +kernel) (by decide +kernel)
theorem kw_126 : Cond.fieldLink "Bagatelle" 114 "Bagatelle$Board" "pinCells" "[I" ∈ ba_tb := ba_mem (i := 126) (by decide +kernel) (by decide +kernel)
theorem kw_129 : Cond.fieldLink "Bagatelle" 117 "Bagatelle$Board" "pinSorts" "[I" ∈ ba_tb := ba_mem (i := 129) (by decide +kernel) (by decide +kernel)
theorem kw_150 : Cond.fieldLink "Bagatelle$Board" 43 "Bagatelle$Board" "events" "LBagatelle$Slips;" ∈ ba_tb := ba_mem (i := 150) (by decide +kernel) (by decide +kernel)
theorem kw_113 : Cond.fieldLink "Bagatelle$Board" 53 "Bagatelle$Slips" "size" "I" ∈ ba_tb := ba_mem (i := 113) (by decide +kernel) (by decide +kernel)
theorem kw_180 : Cond.fieldLink "Bagatelle$Course" 67 "Bagatelle$Course" "board" "LBagatelle$Board;" ∈ ba_tb := ba_mem (i := 180) (by decide +kernel) (by decide +kernel)
theorem kw_128 : Cond.fieldLink "Bagatelle$Course" 71 "Bagatelle$Board" "pinSorts" "[I" ∈ ba_tb := ba_mem (i := 128) (by decide +kernel) (by decide +kernel)
theorem kw_181 : Cond.fieldLink "Bagatelle$Course" 9 "Bagatelle$Course" "sorts" "[I" ∈ ba_tb := ba_mem (i := 181) (by decide +kernel) (by decide +kernel)
theorem kw_438 : Cond.methodLink "Bagatelle$Course" 76 arraycopyName ∈ ba_tb := ba_mem (i := 438) (by decide +kernel) (by decide +kernel)
theorem kw_440 : Cond.native arraycopyName ∈ ba_tb := ba_mem (i := 440) (by decide +kernel) (by decide +kernel)
theorem kw_439 : Cond.static arraycopyName ∈ ba_tb := ba_mem (i := 439) (by decide +kernel) (by decide +kernel)
theorem kw_86 : Cond.initialized "java/lang/System" ∈ ba_tb := ba_mem (i := 86) (by decide +kernel) (by decide +kernel)
theorem kw_139 : Cond.fieldLink "Bagatelle$Course" 82 "Bagatelle$Board" "ballTicks" "[I" ∈ ba_tb := ba_mem (i := 139) (by decide +kernel) (by decide +kernel)
theorem kw_182 : Cond.fieldLink "Bagatelle$Course" 15 "Bagatelle$Course" "ticks" "[I" ∈ ba_tb := ba_mem (i := 182) (by decide +kernel) (by decide +kernel)
theorem kw_142 : Cond.fieldLink "Bagatelle$Course" 85 "Bagatelle$Board" "ballHards" "[I" ∈ ba_tb := ba_mem (i := 142) (by decide +kernel) (by decide +kernel)
theorem kw_184 : Cond.fieldLink "Bagatelle$Course" 18 "Bagatelle$Course" "hards" "[I" ∈ ba_tb := ba_mem (i := 184) (by decide +kernel) (by decide +kernel)
theorem kw_145 : Cond.fieldLink "Bagatelle$Course" 88 "Bagatelle$Board" "ballCount" "I" ∈ ba_tb := ba_mem (i := 145) (by decide +kernel) (by decide +kernel)
theorem kw_186 : Cond.fieldLink "Bagatelle$Course" 21 "Bagatelle$Course" "ballCount" "I" ∈ ba_tb := ba_mem (i := 186) (by decide +kernel) (by decide +kernel)
theorem kw_444 : Cond.code yX0_allEvents cX0_allEvents 1 (some .int) ∈ ba_tb := ba_mem (i := 444) (by decide +kernel) (by decide +kernel)
theorem kw_441 : Cond.methodLink "Bagatelle$Course" 89 yX0_allEvents ∈ ba_tb := ba_mem (i := 441) (by decide +kernel) (by decide +kernel)
theorem kw_442 : Cond.instanceMethod yX0_allEvents ∈ ba_tb := ba_mem (i := 442) (by decide +kernel) (by decide +kernel)
theorem kw_443 : Cond.selects "Bagatelle$Board" yX0_allEvents yX0_allEvents ∈ ba_tb := ba_mem (i := 443) (by decide +kernel) (by decide +kernel)
theorem kw_188 : Cond.fieldLink "Bagatelle$Course" 25 "Bagatelle$Course" "kept" "I" ∈ ba_tb := ba_mem (i := 188) (by decide +kernel) (by decide +kernel)
theorem kw_190 : Cond.fieldLink "Bagatelle$Course" 28 "Bagatelle$Course" "ways" "[I" ∈ ba_tb := ba_mem (i := 190) (by decide +kernel) (by decide +kernel)
theorem kw_191 : Cond.fieldLink "Bagatelle$Course" 31 "Bagatelle$Course" "ballOn" "[I" ∈ ba_tb := ba_mem (i := 191) (by decide +kernel) (by decide +kernel)
theorem kw_453 : Cond.methodLink "Bagatelle$Course" 107 yJ7_fill_53178 ∈ ba_tb := ba_mem (i := 453) (by decide +kernel) (by decide +kernel)
theorem kw_192 : Cond.fieldLink "Bagatelle$Course" 34 "Bagatelle$Course" "ballsInRow" "[I" ∈ ba_tb := ba_mem (i := 192) (by decide +kernel) (by decide +kernel)
theorem kw_193 : Cond.fieldLink "Bagatelle$Course" 37 "Bagatelle$Course" "place" "[I" ∈ ba_tb := ba_mem (i := 193) (by decide +kernel) (by decide +kernel)
theorem kw_194 : Cond.fieldLink "Bagatelle$Course" 40 "Bagatelle$Course" "waiting" "I" ∈ ba_tb := ba_mem (i := 194) (by decide +kernel) (by decide +kernel)
theorem kw_196 : Cond.fieldLink "Bagatelle$Course" 46 "Bagatelle$Course" "inCup" "[I" ∈ ba_tb := ba_mem (i := 196) (by decide +kernel) (by decide +kernel)
theorem kw_198 : Cond.fieldLink "Bagatelle$Course" 49 "Bagatelle$Course" "fellIn" "[I" ∈ ba_tb := ba_mem (i := 198) (by decide +kernel) (by decide +kernel)
theorem kw_200 : Cond.fieldLink "Bagatelle$Course" 52 "Bagatelle$Course" "brings" "[I" ∈ ba_tb := ba_mem (i := 200) (by decide +kernel) (by decide +kernel)
theorem kw_202 : Cond.fieldLink "Bagatelle$Course" 55 "Bagatelle$Course" "endTicks" "[I" ∈ ba_tb := ba_mem (i := 202) (by decide +kernel) (by decide +kernel)
theorem kw_204 : Cond.fieldLink "Bagatelle$Course" 58 "Bagatelle$Course" "heldTimes" "[I" ∈ ba_tb := ba_mem (i := 204) (by decide +kernel) (by decide +kernel)
theorem kw_206 : Cond.fieldLink "Bagatelle$Course" 61 "Bagatelle$Course" "heldIn" "[I" ∈ ba_tb := ba_mem (i := 206) (by decide +kernel) (by decide +kernel)
theorem kw_208 : Cond.fieldLink "Bagatelle$Course" 64 "Bagatelle$Course" "rings" "I" ∈ ba_tb := ba_mem (i := 208) (by decide +kernel) (by decide +kernel)
theorem kw_111 : Cond.fieldLink "Bagatelle$Slips" 11 "Bagatelle$Slips" "numbers" "[I" ∈ ba_tb := ba_mem (i := 111) (by decide +kernel) (by decide +kernel)
theorem kw_151 : Cond.fieldLink "Bagatelle$Course" 113 "Bagatelle$Board" "events" "LBagatelle$Slips;" ∈ ba_tb := ba_mem (i := 151) (by decide +kernel) (by decide +kernel)
theorem kw_114 : Cond.fieldLink "Bagatelle$Course" 117 "Bagatelle$Slips" "size" "I" ∈ ba_tb := ba_mem (i := 114) (by decide +kernel) (by decide +kernel)
theorem kw_461 : Cond.code yX3_number cX3_number 3 (some .int) ∈ ba_tb := ba_mem (i := 461) (by decide +kernel) (by decide +kernel)
theorem kw_80 : Cond.initialized "Bagatelle$Slips" ∈ ba_tb := ba_mem (i := 80) (by decide +kernel) (by decide +kernel)
theorem kw_458 : Cond.methodLink "Bagatelle$Course" 122 yX3_number ∈ ba_tb := ba_mem (i := 458) (by decide +kernel) (by decide +kernel)
theorem kw_459 : Cond.instanceMethod yX3_number ∈ ba_tb := ba_mem (i := 459) (by decide +kernel) (by decide +kernel)
theorem kw_460 : Cond.selects "Bagatelle$Slips" yX3_number yX3_number ∈ ba_tb := ba_mem (i := 460) (by decide +kernel) (by decide +kernel)
theorem kw_465 : Cond.code yX1_tilt cX1_tilt 8 none ∈ ba_tb := ba_mem (i := 465) (by decide +kernel) (by decide +kernel)
theorem kw_82 : Cond.initialized "Bagatelle$Course" ∈ ba_tb := ba_mem (i := 82) (by decide +kernel) (by decide +kernel)
theorem kw_462 : Cond.methodLink "Bagatelle$Course" 126 yX1_tilt ∈ ba_tb := ba_mem (i := 462) (by decide +kernel) (by decide +kernel)
theorem kw_464 : Cond.instanceMethod yX1_tilt ∈ ba_tb := ba_mem (i := 464) (by decide +kernel) (by decide +kernel)
theorem kw_9 : Cond.selects RX1 yX1_tilt yX1_tilt ∈ ba_tb := ba_mem (i := 9) (by decide +kernel) (by decide +kernel)
theorem kw_134 : Cond.fieldLink "Bagatelle$Course" 130 "Bagatelle$Board" "pinCount" "I" ∈ ba_tb := ba_mem (i := 134) (by decide +kernel) (by decide +kernel)
theorem kw_149 : Cond.fieldLink "Bagatelle$Course" 149 "Bagatelle$Board" "room" "I" ∈ ba_tb := ba_mem (i := 149) (by decide +kernel) (by decide +kernel)
theorem kw_137 : Cond.fieldLink "Bagatelle$Course" 152 "Bagatelle$Board" "worths" "[I" ∈ ba_tb := ba_mem (i := 137) (by decide +kernel) (by decide +kernel)
theorem kw_131 : Cond.fieldLink "Bagatelle$Course" 133 "Bagatelle$Board" "pinIn" "[I" ∈ ba_tb := ba_mem (i := 131) (by decide +kernel) (by decide +kernel)
theorem kw_473 : Cond.code yX1_columnFrom cX1_columnFrom 4 (some .int) ∈ ba_tb := ba_mem (i := 473) (by decide +kernel) (by decide +kernel)
theorem kw_470 : Cond.methodLink "Bagatelle$Course" 136 yX1_columnFrom ∈ ba_tb := ba_mem (i := 470) (by decide +kernel) (by decide +kernel)
theorem kw_472 : Cond.instanceMethod yX1_columnFrom ∈ ba_tb := ba_mem (i := 472) (by decide +kernel) (by decide +kernel)
theorem kw_11 : Cond.selects RX1 yX1_columnFrom yX1_columnFrom ∈ ba_tb := ba_mem (i := 11) (by decide +kernel) (by decide +kernel)
theorem kw_477 : Cond.code yX1_pass cX1_pass 3 none ∈ ba_tb := ba_mem (i := 477) (by decide +kernel) (by decide +kernel)
theorem kw_474 : Cond.methodLink "Bagatelle$Course" 139 yX1_pass ∈ ba_tb := ba_mem (i := 474) (by decide +kernel) (by decide +kernel)
theorem kw_476 : Cond.instanceMethod yX1_pass ∈ ba_tb := ba_mem (i := 476) (by decide +kernel) (by decide +kernel)
theorem kw_12 : Cond.selects RX1 yX1_pass yX1_pass ∈ ba_tb := ba_mem (i := 12) (by decide +kernel) (by decide +kernel)
theorem kw_485 : Cond.code yX1_drop cX1_drop 4 none ∈ ba_tb := ba_mem (i := 485) (by decide +kernel) (by decide +kernel)
theorem kw_482 : Cond.methodLink "Bagatelle$Course" 146 yX1_drop ∈ ba_tb := ba_mem (i := 482) (by decide +kernel) (by decide +kernel)
theorem kw_484 : Cond.instanceMethod yX1_drop ∈ ba_tb := ba_mem (i := 484) (by decide +kernel) (by decide +kernel)
theorem kw_14 : Cond.selects RX1 yX1_drop yX1_drop ∈ ba_tb := ba_mem (i := 14) (by decide +kernel) (by decide +kernel)
theorem kw_481 : Cond.code yX1_settle cX1_settle 4 none ∈ ba_tb := ba_mem (i := 481) (by decide +kernel) (by decide +kernel)
theorem kw_478 : Cond.methodLink "Bagatelle$Course" 142 yX1_settle ∈ ba_tb := ba_mem (i := 478) (by decide +kernel) (by decide +kernel)
theorem kw_480 : Cond.instanceMethod yX1_settle ∈ ba_tb := ba_mem (i := 480) (by decide +kernel) (by decide +kernel)
theorem kw_13 : Cond.selects RX1 yX1_settle yX1_settle ∈ ba_tb := ba_mem (i := 13) (by decide +kernel) (by decide +kernel)
theorem kw_452 : Cond.code yX1_begin cX1_begin 2 none ∈ ba_tb := ba_mem (i := 452) (by decide +kernel) (by decide +kernel)
theorem kw_449 : Cond.methodLink "Bagatelle$Course" 93 yX1_begin ∈ ba_tb := ba_mem (i := 449) (by decide +kernel) (by decide +kernel)
theorem kw_451 : Cond.instanceMethod yX1_begin ∈ ba_tb := ba_mem (i := 451) (by decide +kernel) (by decide +kernel)
theorem kw_7 : Cond.selects RX1 yX1_begin yX1_begin ∈ ba_tb := ba_mem (i := 7) (by decide +kernel) (by decide +kernel)
theorem kw_469 : Cond.code yX1_fallFrom cX1_fallFrom 9 none ∈ ba_tb := ba_mem (i := 469) (by decide +kernel) (by decide +kernel)
theorem kw_466 : Cond.methodLink "Bagatelle$Course" 100 yX1_fallFrom ∈ ba_tb := ba_mem (i := 466) (by decide +kernel) (by decide +kernel)
theorem kw_468 : Cond.instanceMethod yX1_fallFrom ∈ ba_tb := ba_mem (i := 468) (by decide +kernel) (by decide +kernel)
theorem kw_10 : Cond.selects RX1 yX1_fallFrom yX1_fallFrom ∈ ba_tb := ba_mem (i := 10) (by decide +kernel) (by decide +kernel)
theorem kw_195 : Cond.fieldLink "Bagatelle$Course" 43 "Bagatelle$Course" "places" "[I" ∈ ba_tb := ba_mem (i := 195) (by decide +kernel) (by decide +kernel)
theorem kw_489 : Cond.code yX1_letIn cX1_letIn 4 none ∈ ba_tb := ba_mem (i := 489) (by decide +kernel) (by decide +kernel)
theorem kw_486 : Cond.methodLink "Bagatelle$Course" 104 yX1_letIn ∈ ba_tb := ba_mem (i := 486) (by decide +kernel) (by decide +kernel)
theorem kw_488 : Cond.instanceMethod yX1_letIn ∈ ba_tb := ba_mem (i := 488) (by decide +kernel) (by decide +kernel)
theorem kw_15 : Cond.selects RX1 yX1_letIn yX1_letIn ∈ ba_tb := ba_mem (i := 15) (by decide +kernel) (by decide +kernel)
theorem kw_457 : Cond.code yX1_doEvents cX1_doEvents 6 none ∈ ba_tb := ba_mem (i := 457) (by decide +kernel) (by decide +kernel)
theorem kw_454 : Cond.methodLink "Bagatelle$Course" 96 yX1_doEvents ∈ ba_tb := ba_mem (i := 454) (by decide +kernel) (by decide +kernel)
theorem kw_456 : Cond.instanceMethod yX1_doEvents ∈ ba_tb := ba_mem (i := 456) (by decide +kernel) (by decide +kernel)
theorem kw_8 : Cond.selects RX1 yX1_doEvents yX1_doEvents ∈ ba_tb := ba_mem (i := 8) (by decide +kernel) (by decide +kernel)
theorem kw_295 : Cond.fieldLink "Bagatelle" 31 "Bagatelle" "told" "LBagatelle$Course;" ∈ ba_tb := ba_mem (i := 295) (by decide +kernel) (by decide +kernel)
theorem kw_437 : Cond.code yX1_takeTold cX1_takeTold 1 none ∈ ba_tb := ba_mem (i := 437) (by decide +kernel) (by decide +kernel)
theorem kw_434 : Cond.methodLink "Bagatelle" 215 yX1_takeTold ∈ ba_tb := ba_mem (i := 434) (by decide +kernel) (by decide +kernel)
theorem kw_435 : Cond.instanceMethod yX1_takeTold ∈ ba_tb := ba_mem (i := 435) (by decide +kernel) (by decide +kernel)
theorem kw_436 : Cond.selects "Bagatelle$Course" yX1_takeTold yX1_takeTold ∈ ba_tb := ba_mem (i := 436) (by decide +kernel) (by decide +kernel)
theorem kw_448 : Cond.code yX1_run cX1_run 3 none ∈ ba_tb := ba_mem (i := 448) (by decide +kernel) (by decide +kernel)
theorem kw_445 : Cond.methodLink "Bagatelle" 221 yX1_run ∈ ba_tb := ba_mem (i := 445) (by decide +kernel) (by decide +kernel)
theorem kw_446 : Cond.instanceMethod yX1_run ∈ ba_tb := ba_mem (i := 446) (by decide +kernel) (by decide +kernel)
theorem kw_447 : Cond.selects "Bagatelle$Course" yX1_run yX1_run ∈ ba_tb := ba_mem (i := 447) (by decide +kernel) (by decide +kernel)
theorem kw_136 : Cond.fieldLink "Bagatelle" 120 "Bagatelle$Board" "worths" "[I" ∈ ba_tb := ba_mem (i := 136) (by decide +kernel) (by decide +kernel)
theorem kw_433 : Cond.code yX5_runTold cX5_runTold 1 none ∈ ba_tb := ba_mem (i := 433) (by decide +kernel) (by decide +kernel)
theorem kw_430 : Cond.methodLink "Bagatelle" 123 yX5_runTold ∈ ba_tb := ba_mem (i := 430) (by decide +kernel) (by decide +kernel)
theorem kw_432 : Cond.instanceMethod yX5_runTold ∈ ba_tb := ba_mem (i := 432) (by decide +kernel) (by decide +kernel)
theorem kw_6 : Cond.selects RX5 yX5_runTold yX5_runTold ∈ ba_tb := ba_mem (i := 6) (by decide +kernel) (by decide +kernel)
theorem kw_197 : Cond.fieldLink "Bagatelle" 126 "Bagatelle$Course" "inCup" "[I" ∈ ba_tb := ba_mem (i := 197) (by decide +kernel) (by decide +kernel)
theorem kw_199 : Cond.fieldLink "Bagatelle" 129 "Bagatelle$Course" "fellIn" "[I" ∈ ba_tb := ba_mem (i := 199) (by decide +kernel) (by decide +kernel)
theorem kw_146 : Cond.fieldLink "Bagatelle" 132 "Bagatelle$Board" "ballCount" "I" ∈ ba_tb := ba_mem (i := 146) (by decide +kernel) (by decide +kernel)
theorem kw_140 : Cond.fieldLink "Bagatelle" 135 "Bagatelle$Board" "ballTicks" "[I" ∈ ba_tb := ba_mem (i := 140) (by decide +kernel) (by decide +kernel)
theorem kw_143 : Cond.fieldLink "Bagatelle" 138 "Bagatelle$Board" "ballHards" "[I" ∈ ba_tb := ba_mem (i := 143) (by decide +kernel) (by decide +kernel)
theorem kw_148 : Cond.fieldLink "Bagatelle" 141 "Bagatelle$Board" "room" "I" ∈ ba_tb := ba_mem (i := 148) (by decide +kernel) (by decide +kernel)
theorem kw_112 : Cond.fieldLink "Bagatelle$Slips" 15 "Bagatelle$Slips" "size" "I" ∈ ba_tb := ba_mem (i := 112) (by decide +kernel) (by decide +kernel)
theorem kw_508 : Cond.code yX3_isFull cX3_isFull 1 (some .boolean) ∈ ba_tb := ba_mem (i := 508) (by decide +kernel) (by decide +kernel)
theorem kw_513 : Cond.methodLink "Bagatelle$Slips" 19 yX3_isFull ∈ ba_tb := ba_mem (i := 513) (by decide +kernel) (by decide +kernel)
theorem kw_506 : Cond.instanceMethod yX3_isFull ∈ ba_tb := ba_mem (i := 506) (by decide +kernel) (by decide +kernel)
theorem kw_507 : Cond.selects "Bagatelle$Slips" yX3_isFull yX3_isFull ∈ ba_tb := ba_mem (i := 507) (by decide +kernel) (by decide +kernel)
theorem kw_504 : Cond.code yX5_isEvent cX5_isEvent 3 (some .boolean) ∈ ba_tb := ba_mem (i := 504) (by decide +kernel) (by decide +kernel)
theorem kw_502 : Cond.methodLink "Bagatelle" 147 yX5_isEvent ∈ ba_tb := ba_mem (i := 502) (by decide +kernel) (by decide +kernel)
theorem kw_503 : Cond.static yX5_isEvent ∈ ba_tb := ba_mem (i := 503) (by decide +kernel) (by decide +kernel)
theorem kw_152 : Cond.fieldLink "Bagatelle" 151 "Bagatelle$Board" "events" "LBagatelle$Slips;" ∈ ba_tb := ba_mem (i := 152) (by decide +kernel) (by decide +kernel)
theorem kw_505 : Cond.methodLink "Bagatelle" 154 yX3_isFull ∈ ba_tb := ba_mem (i := 505) (by decide +kernel) (by decide +kernel)
theorem kw_512 : Cond.code yX3_append cX3_append 6 none ∈ ba_tb := ba_mem (i := 512) (by decide +kernel) (by decide +kernel)
theorem kw_509 : Cond.methodLink "Bagatelle" 158 yX3_append ∈ ba_tb := ba_mem (i := 509) (by decide +kernel) (by decide +kernel)
theorem kw_510 : Cond.instanceMethod yX3_append ∈ ba_tb := ba_mem (i := 510) (by decide +kernel) (by decide +kernel)
theorem kw_511 : Cond.selects "Bagatelle$Slips" yX3_append yX3_append ∈ ba_tb := ba_mem (i := 511) (by decide +kernel) (by decide +kernel)
theorem kw_115 : Cond.fieldLink "Bagatelle" 161 "Bagatelle$Slips" "size" "I" ∈ ba_tb := ba_mem (i := 115) (by decide +kernel) (by decide +kernel)
theorem kw_299 : Cond.fieldLink "Bagatelle" 51 "Bagatelle" "finding" "I" ∈ ba_tb := ba_mem (i := 299) (by decide +kernel) (by decide +kernel)
theorem kw_298 : Cond.fieldLink "Bagatelle" 47 "Bagatelle" "sheets" "[LBagatelle$Sheet;" ∈ ba_tb := ba_mem (i := 298) (by decide +kernel) (by decide +kernel)
theorem kw_282 : Cond.fieldLink "Bagatelle" 162 "Bagatelle$Sheet" "isLost" "Z" ∈ ba_tb := ba_mem (i := 282) (by decide +kernel) (by decide +kernel)
theorem kw_276 : Cond.fieldLink "Bagatelle" 169 "Bagatelle$Sheet" "items" "[I" ∈ ba_tb := ba_mem (i := 276) (by decide +kernel) (by decide +kernel)
theorem kw_280 : Cond.fieldLink "Bagatelle" 172 "Bagatelle$Sheet" "size" "I" ∈ ba_tb := ba_mem (i := 280) (by decide +kernel) (by decide +kernel)
theorem kw_501 : Cond.code yX5_event cX5_event 4 (some .int) ∈ ba_tb := ba_mem (i := 501) (by decide +kernel) (by decide +kernel)
theorem kw_526 : Cond.methodLink "Bagatelle" 173 yX5_event ∈ ba_tb := ba_mem (i := 526) (by decide +kernel) (by decide +kernel)
theorem kw_499 : Cond.instanceMethod yX5_event ∈ ba_tb := ba_mem (i := 499) (by decide +kernel) (by decide +kernel)
theorem kw_500 : Cond.selects "Bagatelle" yX5_event yX5_event ∈ ba_tb := ba_mem (i := 500) (by decide +kernel) (by decide +kernel)
theorem kw_525 : Cond.code yX5_found cX5_found 2 (some .int) ∈ ba_tb := ba_mem (i := 525) (by decide +kernel) (by decide +kernel)
theorem kw_522 : Cond.methodLink "Bagatelle" 165 yX5_found ∈ ba_tb := ba_mem (i := 522) (by decide +kernel) (by decide +kernel)
theorem kw_524 : Cond.instanceMethod yX5_found ∈ ba_tb := ba_mem (i := 524) (by decide +kernel) (by decide +kernel)
theorem kw_16 : Cond.selects RX5 yX5_found yX5_found ∈ ba_tb := ba_mem (i := 16) (by decide +kernel) (by decide +kernel)
theorem kw_534 : Cond.code yX1_rowOf cX1_rowOf 4 (some .int) ∈ ba_tb := ba_mem (i := 534) (by decide +kernel) (by decide +kernel)
theorem kw_531 : Cond.methodLink "Bagatelle" 177 yX1_rowOf ∈ ba_tb := ba_mem (i := 531) (by decide +kernel) (by decide +kernel)
theorem kw_532 : Cond.instanceMethod yX1_rowOf ∈ ba_tb := ba_mem (i := 532) (by decide +kernel) (by decide +kernel)
theorem kw_533 : Cond.selects "Bagatelle$Course" yX1_rowOf yX1_rowOf ∈ ba_tb := ba_mem (i := 533) (by decide +kernel) (by decide +kernel)
theorem kw_538 : Cond.code yX1_columnOf cX1_columnOf 4 (some .int) ∈ ba_tb := ba_mem (i := 538) (by decide +kernel) (by decide +kernel)
theorem kw_535 : Cond.methodLink "Bagatelle" 181 yX1_columnOf ∈ ba_tb := ba_mem (i := 535) (by decide +kernel) (by decide +kernel)
theorem kw_536 : Cond.instanceMethod yX1_columnOf ∈ ba_tb := ba_mem (i := 536) (by decide +kernel) (by decide +kernel)
theorem kw_537 : Cond.selects "Bagatelle$Course" yX1_columnOf yX1_columnOf ∈ ba_tb := ba_mem (i := 537) (by decide +kernel) (by decide +kernel)
theorem kw_546 : Cond.code yX1_ballIn cX1_ballIn 4 (some .int) ∈ ba_tb := ba_mem (i := 546) (by decide +kernel) (by decide +kernel)
theorem kw_543 : Cond.methodLink "Bagatelle" 184 yX1_ballIn ∈ ba_tb := ba_mem (i := 543) (by decide +kernel) (by decide +kernel)
theorem kw_544 : Cond.instanceMethod yX1_ballIn ∈ ba_tb := ba_mem (i := 544) (by decide +kernel) (by decide +kernel)
theorem kw_545 : Cond.selects "Bagatelle$Course" yX1_ballIn yX1_ballIn ∈ ba_tb := ba_mem (i := 545) (by decide +kernel) (by decide +kernel)
theorem kw_201 : Cond.fieldLink "Bagatelle" 187 "Bagatelle$Course" "brings" "[I" ∈ ba_tb := ba_mem (i := 201) (by decide +kernel) (by decide +kernel)
theorem kw_203 : Cond.fieldLink "Bagatelle" 190 "Bagatelle$Course" "endTicks" "[I" ∈ ba_tb := ba_mem (i := 203) (by decide +kernel) (by decide +kernel)
theorem kw_205 : Cond.fieldLink "Bagatelle" 193 "Bagatelle$Course" "heldTimes" "[I" ∈ ba_tb := ba_mem (i := 205) (by decide +kernel) (by decide +kernel)
theorem kw_558 : Cond.code yX1_score cX1_score 3 (some .int) ∈ ba_tb := ba_mem (i := 558) (by decide +kernel) (by decide +kernel)
theorem kw_555 : Cond.methodLink "Bagatelle" 196 yX1_score ∈ ba_tb := ba_mem (i := 555) (by decide +kernel) (by decide +kernel)
theorem kw_556 : Cond.instanceMethod yX1_score ∈ ba_tb := ba_mem (i := 556) (by decide +kernel) (by decide +kernel)
theorem kw_557 : Cond.selects "Bagatelle$Course" yX1_score yX1_score ∈ ba_tb := ba_mem (i := 557) (by decide +kernel) (by decide +kernel)
theorem kw_209 : Cond.fieldLink "Bagatelle" 200 "Bagatelle$Course" "rings" "I" ∈ ba_tb := ba_mem (i := 209) (by decide +kernel) (by decide +kernel)
theorem kw_562 : Cond.code yX1_lost cX1_lost 3 (some .int) ∈ ba_tb := ba_mem (i := 562) (by decide +kernel) (by decide +kernel)
theorem kw_559 : Cond.methodLink "Bagatelle" 203 yX1_lost ∈ ba_tb := ba_mem (i := 559) (by decide +kernel) (by decide +kernel)
theorem kw_560 : Cond.instanceMethod yX1_lost ∈ ba_tb := ba_mem (i := 560) (by decide +kernel) (by decide +kernel)
theorem kw_561 : Cond.selects "Bagatelle$Course" yX1_lost yX1_lost ∈ ba_tb := ba_mem (i := 561) (by decide +kernel) (by decide +kernel)
theorem kw_207 : Cond.fieldLink "Bagatelle" 206 "Bagatelle$Course" "heldIn" "[I" ∈ ba_tb := ba_mem (i := 207) (by decide +kernel) (by decide +kernel)
theorem kw_302 : Cond.fieldLink "Bagatelle" 62 "Bagatelle" "chosen" "I" ∈ ba_tb := ba_mem (i := 302) (by decide +kernel) (by decide +kernel)
theorem kw_303 : Cond.fieldLink "Bagatelle" 65 "Bagatelle" "chosenScore" "I" ∈ ba_tb := ba_mem (i := 303) (by decide +kernel) (by decide +kernel)
theorem kw_296 : Cond.fieldLink "Bagatelle" 35 "Bagatelle" "tried" "LBagatelle$Course;" ∈ ba_tb := ba_mem (i := 296) (by decide +kernel) (by decide +kernel)
theorem kw_583 : Cond.fieldLink "Bagatelle" 381 "Bagatelle" "LEAST_CHOICE" "[I" ∈ ba_tb := ba_mem (i := 583) (by decide +kernel) (by decide +kernel)
theorem kw_585 : Cond.fieldLink "Bagatelle" 384 "Bagatelle" "GREATEST_CHOICE" "[I" ∈ ba_tb := ba_mem (i := 585) (by decide +kernel) (by decide +kernel)
theorem kw_590 : Cond.code yX1_choose cX1_choose 4 none ∈ ba_tb := ba_mem (i := 590) (by decide +kernel) (by decide +kernel)
theorem kw_587 : Cond.methodLink "Bagatelle" 387 yX1_choose ∈ ba_tb := ba_mem (i := 587) (by decide +kernel) (by decide +kernel)
theorem kw_588 : Cond.instanceMethod yX1_choose ∈ ba_tb := ba_mem (i := 588) (by decide +kernel) (by decide +kernel)
theorem kw_589 : Cond.selects "Bagatelle$Course" yX1_choose yX1_choose ∈ ba_tb := ba_mem (i := 589) (by decide +kernel) (by decide +kernel)
theorem kw_582 : Cond.code yX5_bestChoice cX5_bestChoice 7 (some .int) ∈ ba_tb := ba_mem (i := 582) (by decide +kernel) (by decide +kernel)
theorem kw_579 : Cond.methodLink "Bagatelle" 209 yX5_bestChoice ∈ ba_tb := ba_mem (i := 579) (by decide +kernel) (by decide +kernel)
theorem kw_581 : Cond.instanceMethod yX5_bestChoice ∈ ba_tb := ba_mem (i := 581) (by decide +kernel) (by decide +kernel)
theorem kw_17 : Cond.selects RX5 yX5_bestChoice yX5_bestChoice ∈ ba_tb := ba_mem (i := 17) (by decide +kernel) (by decide +kernel)
theorem kw_611 : Cond.methodLink "Bagatelle" 394 yX0_allEvents ∈ ba_tb := ba_mem (i := 611) (by decide +kernel) (by decide +kernel)
theorem kw_189 : Cond.fieldLink "Bagatelle" 218 "Bagatelle$Course" "kept" "I" ∈ ba_tb := ba_mem (i := 189) (by decide +kernel) (by decide +kernel)
theorem kw_305 : Cond.fieldLink "Bagatelle" 71 "Bagatelle" "spareCount" "I" ∈ ba_tb := ba_mem (i := 305) (by decide +kernel) (by decide +kernel)
theorem kw_306 : Cond.fieldLink "Bagatelle" 74 "Bagatelle" "firstSpare" "I" ∈ ba_tb := ba_mem (i := 306) (by decide +kernel) (by decide +kernel)
theorem kw_307 : Cond.fieldLink "Bagatelle" 77 "Bagatelle" "secondSpare" "I" ∈ ba_tb := ba_mem (i := 307) (by decide +kernel) (by decide +kernel)
theorem kw_610 : Cond.code yX5_losesNoneWithout cX5_losesNoneWithout 2 (some .boolean) ∈ ba_tb := ba_mem (i := 610) (by decide +kernel) (by decide +kernel)
theorem kw_607 : Cond.methodLink "Bagatelle" 391 yX5_losesNoneWithout ∈ ba_tb := ba_mem (i := 607) (by decide +kernel) (by decide +kernel)
theorem kw_609 : Cond.instanceMethod yX5_losesNoneWithout ∈ ba_tb := ba_mem (i := 609) (by decide +kernel) (by decide +kernel)
theorem kw_19 : Cond.selects RX5 yX5_losesNoneWithout yX5_losesNoneWithout ∈ ba_tb := ba_mem (i := 19) (by decide +kernel) (by decide +kernel)
theorem kw_606 : Cond.code yX5_findSpares cX5_findSpares 4 none ∈ ba_tb := ba_mem (i := 606) (by decide +kernel) (by decide +kernel)
theorem kw_603 : Cond.methodLink "Bagatelle" 212 yX5_findSpares ∈ ba_tb := ba_mem (i := 603) (by decide +kernel) (by decide +kernel)
theorem kw_605 : Cond.instanceMethod yX5_findSpares ∈ ba_tb := ba_mem (i := 605) (by decide +kernel) (by decide +kernel)
theorem kw_18 : Cond.selects RX5 yX5_findSpares yX5_findSpares ∈ ba_tb := ba_mem (i := 18) (by decide +kernel) (by decide +kernel)
theorem kw_297 : Cond.fieldLink "Bagatelle" 41 "Bagatelle" "sights" "LBagatelle$Slips;" ∈ ba_tb := ba_mem (i := 297) (by decide +kernel) (by decide +kernel)
theorem kw_628 : Cond.methodLink "Bagatelle$Course" 155 yX1_ballIn ∈ ba_tb := ba_mem (i := 628) (by decide +kernel) (by decide +kernel)
theorem kw_627 : Cond.code yX1_agrees cX1_agrees 5 (some .boolean) ∈ ba_tb := ba_mem (i := 627) (by decide +kernel) (by decide +kernel)
theorem kw_624 : Cond.methodLink "Bagatelle" 224 yX1_agrees ∈ ba_tb := ba_mem (i := 624) (by decide +kernel) (by decide +kernel)
theorem kw_625 : Cond.instanceMethod yX1_agrees ∈ ba_tb := ba_mem (i := 625) (by decide +kernel) (by decide +kernel)
theorem kw_626 : Cond.selects "Bagatelle$Course" yX1_agrees yX1_agrees ∈ ba_tb := ba_mem (i := 626) (by decide +kernel) (by decide +kernel)
theorem kw_636 : Cond.code yX5_agreeing cX5_agreeing 5 (some .int) ∈ ba_tb := ba_mem (i := 636) (by decide +kernel) (by decide +kernel)
theorem kw_633 : Cond.methodLink "Bagatelle" 228 yX5_agreeing ∈ ba_tb := ba_mem (i := 633) (by decide +kernel) (by decide +kernel)
theorem kw_635 : Cond.instanceMethod yX5_agreeing ∈ ba_tb := ba_mem (i := 635) (by decide +kernel) (by decide +kernel)
theorem kw_20 : Cond.selects RX5 yX5_agreeing yX5_agreeing ∈ ba_tb := ba_mem (i := 20) (by decide +kernel) (by decide +kernel)
theorem kw_310 : Cond.fieldLink "Bagatelle" 86 "Bagatelle" "marks" "[J" ∈ ba_tb := ba_mem (i := 310) (by decide +kernel) (by decide +kernel)
theorem kw_652 : Cond.code yX1_mark cX1_mark 6 (some .long) ∈ ba_tb := ba_mem (i := 652) (by decide +kernel) (by decide +kernel)
theorem kw_649 : Cond.methodLink "Bagatelle" 397 yX1_mark ∈ ba_tb := ba_mem (i := 649) (by decide +kernel) (by decide +kernel)
theorem kw_650 : Cond.instanceMethod yX1_mark ∈ ba_tb := ba_mem (i := 650) (by decide +kernel) (by decide +kernel)
theorem kw_651 : Cond.selects "Bagatelle$Course" yX1_mark yX1_mark ∈ ba_tb := ba_mem (i := 651) (by decide +kernel) (by decide +kernel)
theorem kw_657 : Cond.methodLink "Bagatelle" 400 Lib.Math.max.name ∈ ba_tb := ba_mem (i := 657) (by decide +kernel) (by decide +kernel)
theorem kw_658 : Cond.static Lib.Math.max.name ∈ ba_tb := ba_mem (i := 658) (by decide +kernel) (by decide +kernel)
theorem kw_87 : Cond.initialized "java/lang/Math" ∈ ba_tb := ba_mem (i := 87) (by decide +kernel) (by decide +kernel)
theorem kw_659 : Cond.code Lib.Math.max.name Lib.Math.max.code 2 (some .int) ∈ ba_tb := ba_mem (i := 659) (by decide +kernel) (by decide +kernel)
theorem kw_648 : Cond.code yX5_markForces cX5_markForces 5 (some .int) ∈ ba_tb := ba_mem (i := 648) (by decide +kernel) (by decide +kernel)
theorem kw_645 : Cond.methodLink "Bagatelle" 231 yX5_markForces ∈ ba_tb := ba_mem (i := 645) (by decide +kernel) (by decide +kernel)
theorem kw_647 : Cond.instanceMethod yX5_markForces ∈ ba_tb := ba_mem (i := 647) (by decide +kernel) (by decide +kernel)
theorem kw_21 : Cond.selects RX5 yX5_markForces yX5_markForces ∈ ba_tb := ba_mem (i := 21) (by decide +kernel) (by decide +kernel)
theorem kw_656 : Cond.code yX5_largestGroup cX5_largestGroup 9 (some .int) ∈ ba_tb := ba_mem (i := 656) (by decide +kernel) (by decide +kernel)
theorem kw_653 : Cond.methodLink "Bagatelle" 234 yX5_largestGroup ∈ ba_tb := ba_mem (i := 653) (by decide +kernel) (by decide +kernel)
theorem kw_655 : Cond.instanceMethod yX5_largestGroup ∈ ba_tb := ba_mem (i := 655) (by decide +kernel) (by decide +kernel)
theorem kw_22 : Cond.selects RX5 yX5_largestGroup yX5_largestGroup ∈ ba_tb := ba_mem (i := 22) (by decide +kernel) (by decide +kernel)
theorem kw_309 : Cond.fieldLink "Bagatelle" 83 "Bagatelle" "bringers" "[I" ∈ ba_tb := ba_mem (i := 309) (by decide +kernel) (by decide +kernel)
theorem kw_672 : Cond.code yX1_bringing cX1_bringing 3 (some .int) ∈ ba_tb := ba_mem (i := 672) (by decide +kernel) (by decide +kernel)
theorem kw_669 : Cond.methodLink "Bagatelle" 403 yX1_bringing ∈ ba_tb := ba_mem (i := 669) (by decide +kernel) (by decide +kernel)
theorem kw_670 : Cond.instanceMethod yX1_bringing ∈ ba_tb := ba_mem (i := 670) (by decide +kernel) (by decide +kernel)
theorem kw_671 : Cond.selects "Bagatelle$Course" yX1_bringing yX1_bringing ∈ ba_tb := ba_mem (i := 671) (by decide +kernel) (by decide +kernel)
theorem kw_664 : Cond.constantLong "Bagatelle" 237 (-9223372036854775806) ∈ ba_tb := ba_mem (i := 664) (by decide +kernel) (by decide +kernel)
theorem kw_668 : Cond.code yX5_findBringers cX5_findBringers 2 none ∈ ba_tb := ba_mem (i := 668) (by decide +kernel) (by decide +kernel)
theorem kw_665 : Cond.methodLink "Bagatelle" 239 yX5_findBringers ∈ ba_tb := ba_mem (i := 665) (by decide +kernel) (by decide +kernel)
theorem kw_667 : Cond.instanceMethod yX5_findBringers ∈ ba_tb := ba_mem (i := 667) (by decide +kernel) (by decide +kernel)
theorem kw_23 : Cond.selects RX5 yX5_findBringers yX5_findBringers ∈ ba_tb := ba_mem (i := 23) (by decide +kernel) (by decide +kernel)
theorem kw_676 : Cond.code yX5_weight cX5_weight 6 (some .long) ∈ ba_tb := ba_mem (i := 676) (by decide +kernel) (by decide +kernel)
theorem kw_673 : Cond.methodLink "Bagatelle" 242 yX5_weight ∈ ba_tb := ba_mem (i := 673) (by decide +kernel) (by decide +kernel)
theorem kw_675 : Cond.instanceMethod yX5_weight ∈ ba_tb := ba_mem (i := 675) (by decide +kernel) (by decide +kernel)
theorem kw_24 : Cond.selects RX5 yX5_weight yX5_weight ∈ ba_tb := ba_mem (i := 24) (by decide +kernel) (by decide +kernel)
theorem kw_677 : Cond.constantLong "Bagatelle" 246 2 ∈ ba_tb := ba_mem (i := 677) (by decide +kernel) (by decide +kernel)
theorem kw_685 : Cond.constant "Bagatelle" 370 1103515245 ∈ ba_tb := ba_mem (i := 685) (by decide +kernel) (by decide +kernel)
theorem kw_187 : Cond.fieldLink "Bagatelle" 248 "Bagatelle$Course" "ballCount" "I" ∈ ba_tb := ba_mem (i := 187) (by decide +kernel) (by decide +kernel)
theorem kw_684 : Cond.code yX5_nextSeed cX5_nextSeed 1 (some .int) ∈ ba_tb := ba_mem (i := 684) (by decide +kernel) (by decide +kernel)
theorem kw_682 : Cond.methodLink "Bagatelle" 249 yX5_nextSeed ∈ ba_tb := ba_mem (i := 682) (by decide +kernel) (by decide +kernel)
theorem kw_683 : Cond.static yX5_nextSeed ∈ ba_tb := ba_mem (i := 683) (by decide +kernel) (by decide +kernel)
theorem kw_183 : Cond.fieldLink "Bagatelle" 252 "Bagatelle$Course" "ticks" "[I" ∈ ba_tb := ba_mem (i := 183) (by decide +kernel) (by decide +kernel)
theorem kw_185 : Cond.fieldLink "Bagatelle" 255 "Bagatelle$Course" "hards" "[I" ∈ ba_tb := ba_mem (i := 185) (by decide +kernel) (by decide +kernel)
theorem kw_277 : Cond.fieldLink "Bagatelle$Sheet" 15 "Bagatelle$Sheet" "form" "I" ∈ ba_tb := ba_mem (i := 277) (by decide +kernel) (by decide +kernel)
theorem kw_279 : Cond.fieldLink "Bagatelle$Sheet" 19 "Bagatelle$Sheet" "size" "I" ∈ ba_tb := ba_mem (i := 279) (by decide +kernel) (by decide +kernel)
theorem kw_281 : Cond.fieldLink "Bagatelle$Sheet" 22 "Bagatelle$Sheet" "isLost" "Z" ∈ ba_tb := ba_mem (i := 281) (by decide +kernel) (by decide +kernel)
theorem kw_275 : Cond.fieldLink "Bagatelle$Sheet" 9 "Bagatelle$Sheet" "items" "[I" ∈ ba_tb := ba_mem (i := 275) (by decide +kernel) (by decide +kernel)
theorem kw_694 : Cond.methodLink "Bagatelle$Sheet" 26 yJ7_fill_53178 ∈ ba_tb := ba_mem (i := 694) (by decide +kernel) (by decide +kernel)
theorem kw_693 : Cond.code yX2_renew cX2_renew 3 none ∈ ba_tb := ba_mem (i := 693) (by decide +kernel) (by decide +kernel)
theorem kw_84 : Cond.initialized "Bagatelle$Sheet" ∈ ba_tb := ba_mem (i := 84) (by decide +kernel) (by decide +kernel)
theorem kw_690 : Cond.methodLink "Bagatelle" 258 yX2_renew ∈ ba_tb := ba_mem (i := 690) (by decide +kernel) (by decide +kernel)
theorem kw_691 : Cond.instanceMethod yX2_renew ∈ ba_tb := ba_mem (i := 691) (by decide +kernel) (by decide +kernel)
theorem kw_692 : Cond.selects "Bagatelle$Sheet" yX2_renew yX2_renew ∈ ba_tb := ba_mem (i := 692) (by decide +kernel) (by decide +kernel)
theorem kw_706 : Cond.code yX2_findingFor cX2_findingFor 3 (some .int) ∈ ba_tb := ba_mem (i := 706) (by decide +kernel) (by decide +kernel)
theorem kw_703 : Cond.methodLink "Bagatelle" 262 yX2_findingFor ∈ ba_tb := ba_mem (i := 703) (by decide +kernel) (by decide +kernel)
theorem kw_704 : Cond.instanceMethod yX2_findingFor ∈ ba_tb := ba_mem (i := 704) (by decide +kernel) (by decide +kernel)
theorem kw_705 : Cond.selects "Bagatelle$Sheet" yX2_findingFor yX2_findingFor ∈ ba_tb := ba_mem (i := 705) (by decide +kernel) (by decide +kernel)
theorem kw_711 : Cond.code yX2_put cX2_put 3 none ∈ ba_tb := ba_mem (i := 711) (by decide +kernel) (by decide +kernel)
theorem kw_708 : Cond.methodLink "Bagatelle" 265 yX2_put ∈ ba_tb := ba_mem (i := 708) (by decide +kernel) (by decide +kernel)
theorem kw_709 : Cond.instanceMethod yX2_put ∈ ba_tb := ba_mem (i := 709) (by decide +kernel) (by decide +kernel)
theorem kw_710 : Cond.selects "Bagatelle$Sheet" yX2_put yX2_put ∈ ba_tb := ba_mem (i := 710) (by decide +kernel) (by decide +kernel)
theorem kw_716 : Cond.constant "Bagatelle" 268 (-2147483648) ∈ ba_tb := ba_mem (i := 716) (by decide +kernel) (by decide +kernel)
theorem kw_278 : Cond.fieldLink "Bagatelle" 269 "Bagatelle$Sheet" "form" "I" ∈ ba_tb := ba_mem (i := 278) (by decide +kernel) (by decide +kernel)
theorem kw_724 : Cond.code yX2_hasItems cX2_hasItems 3 (some .boolean) ∈ ba_tb := ba_mem (i := 724) (by decide +kernel) (by decide +kernel)
theorem kw_721 : Cond.methodLink "Bagatelle" 272 yX2_hasItems ∈ ba_tb := ba_mem (i := 721) (by decide +kernel) (by decide +kernel)
theorem kw_722 : Cond.instanceMethod yX2_hasItems ∈ ba_tb := ba_mem (i := 722) (by decide +kernel) (by decide +kernel)
theorem kw_723 : Cond.selects "Bagatelle$Sheet" yX2_hasItems yX2_hasItems ∈ ba_tb := ba_mem (i := 723) (by decide +kernel) (by decide +kernel)
theorem kw_725 : Cond.methodLink "Bagatelle" 275 arraycopyName ∈ ba_tb := ba_mem (i := 725) (by decide +kernel) (by decide +kernel)
theorem kw_730 : Cond.methodLink "Bagatelle" 281 Lib.Math.min.name ∈ ba_tb := ba_mem (i := 730) (by decide +kernel) (by decide +kernel)
theorem kw_731 : Cond.static Lib.Math.min.name ∈ ba_tb := ba_mem (i := 731) (by decide +kernel) (by decide +kernel)
theorem kw_732 : Cond.code Lib.Math.min.name Lib.Math.min.code 2 (some .int) ∈ ba_tb := ba_mem (i := 732) (by decide +kernel) (by decide +kernel)
theorem kw_744 : Cond.code yJ6_bitCount_0f7a4 cJ6_bitCount_0f7a4 1 (some .int) ∈ ba_tb := ba_mem (i := 744) (by decide +kernel) (by decide +kernel)
theorem kw_88 : Cond.initialized "java/lang/Integer" ∈ ba_tb := ba_mem (i := 88) (by decide +kernel) (by decide +kernel)
theorem kw_742 : Cond.methodLink "Bagatelle$Course" 158 yJ6_bitCount_0f7a4 ∈ ba_tb := ba_mem (i := 742) (by decide +kernel) (by decide +kernel)
theorem kw_743 : Cond.static yJ6_bitCount_0f7a4 ∈ ba_tb := ba_mem (i := 743) (by decide +kernel) (by decide +kernel)
theorem kw_554 : Cond.code yX5_sum cX5_sum 2 (some .int) ∈ ba_tb := ba_mem (i := 554) (by decide +kernel) (by decide +kernel)
theorem kw_737 : Cond.methodLink "Bagatelle" 286 yX5_sum ∈ ba_tb := ba_mem (i := 737) (by decide +kernel) (by decide +kernel)
theorem kw_552 : Cond.instanceMethod yX5_sum ∈ ba_tb := ba_mem (i := 552) (by decide +kernel) (by decide +kernel)
theorem kw_553 : Cond.selects "Bagatelle" yX5_sum yX5_sum ∈ ba_tb := ba_mem (i := 553) (by decide +kernel) (by decide +kernel)
theorem kw_741 : Cond.code yX1_onBoard cX1_onBoard 3 (some .int) ∈ ba_tb := ba_mem (i := 741) (by decide +kernel) (by decide +kernel)
theorem kw_738 : Cond.methodLink "Bagatelle" 289 yX1_onBoard ∈ ba_tb := ba_mem (i := 738) (by decide +kernel) (by decide +kernel)
theorem kw_739 : Cond.instanceMethod yX1_onBoard ∈ ba_tb := ba_mem (i := 739) (by decide +kernel) (by decide +kernel)
theorem kw_740 : Cond.selects "Bagatelle$Course" yX1_onBoard yX1_onBoard ∈ ba_tb := ba_mem (i := 740) (by decide +kernel) (by decide +kernel)
theorem kw_753 : Cond.constantLong "Bagatelle" 294 31 ∈ ba_tb := ba_mem (i := 753) (by decide +kernel) (by decide +kernel)
theorem kw_425 : Cond.code yX5_pin cX5_pin 3 (some .int) ∈ ba_tb := ba_mem (i := 425) (by decide +kernel) (by decide +kernel)
theorem kw_762 : Cond.methodLink "Bagatelle" 333 yX5_pin ∈ ba_tb := ba_mem (i := 762) (by decide +kernel) (by decide +kernel)
theorem kw_423 : Cond.instanceMethod yX5_pin ∈ ba_tb := ba_mem (i := 423) (by decide +kernel) (by decide +kernel)
theorem kw_424 : Cond.selects "Bagatelle" yX5_pin yX5_pin ∈ ba_tb := ba_mem (i := 424) (by decide +kernel) (by decide +kernel)
theorem kw_598 : Cond.code yX5_bend cX5_bend 3 (some .int) ∈ ba_tb := ba_mem (i := 598) (by decide +kernel) (by decide +kernel)
theorem kw_763 : Cond.methodLink "Bagatelle" 336 yX5_bend ∈ ba_tb := ba_mem (i := 763) (by decide +kernel) (by decide +kernel)
theorem kw_596 : Cond.instanceMethod yX5_bend ∈ ba_tb := ba_mem (i := 596) (by decide +kernel) (by decide +kernel)
theorem kw_597 : Cond.selects "Bagatelle" yX5_bend yX5_bend ∈ ba_tb := ba_mem (i := 597) (by decide +kernel) (by decide +kernel)
theorem kw_640 : Cond.code yX5_kind cX5_kind 2 (some .int) ∈ ba_tb := ba_mem (i := 640) (by decide +kernel) (by decide +kernel)
theorem kw_764 : Cond.methodLink "Bagatelle" 339 yX5_kind ∈ ba_tb := ba_mem (i := 764) (by decide +kernel) (by decide +kernel)
theorem kw_638 : Cond.instanceMethod yX5_kind ∈ ba_tb := ba_mem (i := 638) (by decide +kernel) (by decide +kernel)
theorem kw_639 : Cond.selects "Bagatelle" yX5_kind yX5_kind ∈ ba_tb := ba_mem (i := 639) (by decide +kernel) (by decide +kernel)
theorem kw_493 : Cond.code yX5_ball cX5_ball 3 (some .int) ∈ ba_tb := ba_mem (i := 493) (by decide +kernel) (by decide +kernel)
theorem kw_769 : Cond.methodLink "Bagatelle" 342 yX5_ball ∈ ba_tb := ba_mem (i := 769) (by decide +kernel) (by decide +kernel)
theorem kw_491 : Cond.instanceMethod yX5_ball ∈ ba_tb := ba_mem (i := 491) (by decide +kernel) (by decide +kernel)
theorem kw_492 : Cond.selects "Bagatelle" yX5_ball yX5_ball ∈ ba_tb := ba_mem (i := 492) (by decide +kernel) (by decide +kernel)
theorem kw_770 : Cond.fieldLink "Bagatelle" 345 "Bagatelle" "DIGEST_TICKS" "[I" ∈ ba_tb := ba_mem (i := 770) (by decide +kernel) (by decide +kernel)
theorem kw_530 : Cond.code yX5_at cX5_at 4 (some .int) ∈ ba_tb := ba_mem (i := 530) (by decide +kernel) (by decide +kernel)
theorem kw_772 : Cond.methodLink "Bagatelle" 348 yX5_at ∈ ba_tb := ba_mem (i := 772) (by decide +kernel) (by decide +kernel)
theorem kw_528 : Cond.instanceMethod yX5_at ∈ ba_tb := ba_mem (i := 528) (by decide +kernel) (by decide +kernel)
theorem kw_529 : Cond.selects "Bagatelle" yX5_at yX5_at ∈ ba_tb := ba_mem (i := 529) (by decide +kernel) (by decide +kernel)
theorem kw_550 : Cond.code yX5_ends cX5_ends 3 (some .int) ∈ ba_tb := ba_mem (i := 550) (by decide +kernel) (by decide +kernel)
theorem kw_773 : Cond.methodLink "Bagatelle" 351 yX5_ends ∈ ba_tb := ba_mem (i := 773) (by decide +kernel) (by decide +kernel)
theorem kw_548 : Cond.instanceMethod yX5_ends ∈ ba_tb := ba_mem (i := 548) (by decide +kernel) (by decide +kernel)
theorem kw_549 : Cond.selects "Bagatelle" yX5_ends yX5_ends ∈ ba_tb := ba_mem (i := 549) (by decide +kernel) (by decide +kernel)
theorem kw_578 : Cond.code yX5_shoot cX5_shoot 3 (some .int) ∈ ba_tb := ba_mem (i := 578) (by decide +kernel) (by decide +kernel)
theorem kw_774 : Cond.methodLink "Bagatelle" 354 yX5_shoot ∈ ba_tb := ba_mem (i := 774) (by decide +kernel) (by decide +kernel)
theorem kw_576 : Cond.instanceMethod yX5_shoot ∈ ba_tb := ba_mem (i := 576) (by decide +kernel) (by decide +kernel)
theorem kw_577 : Cond.selects "Bagatelle" yX5_shoot yX5_shoot ∈ ba_tb := ba_mem (i := 577) (by decide +kernel) (by decide +kernel)
theorem kw_594 : Cond.code yX5_time cX5_time 3 (some .int) ∈ ba_tb := ba_mem (i := 594) (by decide +kernel) (by decide +kernel)
theorem kw_775 : Cond.methodLink "Bagatelle" 357 yX5_time ∈ ba_tb := ba_mem (i := 775) (by decide +kernel) (by decide +kernel)
theorem kw_592 : Cond.instanceMethod yX5_time ∈ ba_tb := ba_mem (i := 592) (by decide +kernel) (by decide +kernel)
theorem kw_593 : Cond.selects "Bagatelle" yX5_time yX5_time ∈ ba_tb := ba_mem (i := 593) (by decide +kernel) (by decide +kernel)
theorem kw_632 : Cond.code yX5_forces cX5_forces 2 (some .int) ∈ ba_tb := ba_mem (i := 632) (by decide +kernel) (by decide +kernel)
theorem kw_776 : Cond.methodLink "Bagatelle" 360 yX5_forces ∈ ba_tb := ba_mem (i := 776) (by decide +kernel) (by decide +kernel)
theorem kw_630 : Cond.instanceMethod yX5_forces ∈ ba_tb := ba_mem (i := 630) (by decide +kernel) (by decide +kernel)
theorem kw_631 : Cond.selects "Bagatelle" yX5_forces yX5_forces ∈ ba_tb := ba_mem (i := 631) (by decide +kernel) (by decide +kernel)
theorem kw_644 : Cond.code yX5_ask cX5_ask 7 (some .int) ∈ ba_tb := ba_mem (i := 644) (by decide +kernel) (by decide +kernel)
theorem kw_777 : Cond.methodLink "Bagatelle" 363 yX5_ask ∈ ba_tb := ba_mem (i := 777) (by decide +kernel) (by decide +kernel)
theorem kw_642 : Cond.instanceMethod yX5_ask ∈ ba_tb := ba_mem (i := 642) (by decide +kernel) (by decide +kernel)
theorem kw_643 : Cond.selects "Bagatelle" yX5_ask yX5_ask ∈ ba_tb := ba_mem (i := 643) (by decide +kernel) (by decide +kernel)
theorem kw_663 : Cond.code yX5_chance cX5_chance 9 (some .long) ∈ ba_tb := ba_mem (i := 663) (by decide +kernel) (by decide +kernel)
theorem kw_778 : Cond.methodLink "Bagatelle" 366 yX5_chance ∈ ba_tb := ba_mem (i := 778) (by decide +kernel) (by decide +kernel)
theorem kw_661 : Cond.instanceMethod yX5_chance ∈ ba_tb := ba_mem (i := 661) (by decide +kernel) (by decide +kernel)
theorem kw_662 : Cond.selects "Bagatelle" yX5_chance yX5_chance ∈ ba_tb := ba_mem (i := 662) (by decide +kernel) (by decide +kernel)
theorem kw_752 : Cond.constantLong "Bagatelle" 292 17 ∈ ba_tb := ba_mem (i := 752) (by decide +kernel) (by decide +kernel)
theorem kw_736 : Cond.code yX5_count cX5_count 2 (some .int) ∈ ba_tb := ba_mem (i := 736) (by decide +kernel) (by decide +kernel)
theorem kw_754 : Cond.methodLink "Bagatelle" 296 yX5_count ∈ ba_tb := ba_mem (i := 754) (by decide +kernel) (by decide +kernel)
theorem kw_734 : Cond.instanceMethod yX5_count ∈ ba_tb := ba_mem (i := 734) (by decide +kernel) (by decide +kernel)
theorem kw_735 : Cond.selects "Bagatelle" yX5_count yX5_count ∈ ba_tb := ba_mem (i := 735) (by decide +kernel) (by decide +kernel)
theorem kw_421 : Cond.code yX5_fault cX5_fault 2 (some .int) ∈ ba_tb := ba_mem (i := 421) (by decide +kernel) (by decide +kernel)
theorem kw_755 : Cond.methodLink "Bagatelle" 299 yX5_fault ∈ ba_tb := ba_mem (i := 755) (by decide +kernel) (by decide +kernel)
theorem kw_419 : Cond.instanceMethod yX5_fault ∈ ba_tb := ba_mem (i := 419) (by decide +kernel) (by decide +kernel)
theorem kw_420 : Cond.selects "Bagatelle" yX5_fault yX5_fault ∈ ba_tb := ba_mem (i := 420) (by decide +kernel) (by decide +kernel)
theorem kw_542 : Cond.code yX5_sees cX5_sees 4 (some .int) ∈ ba_tb := ba_mem (i := 542) (by decide +kernel) (by decide +kernel)
theorem kw_756 : Cond.methodLink "Bagatelle" 302 yX5_sees ∈ ba_tb := ba_mem (i := 756) (by decide +kernel) (by decide +kernel)
theorem kw_540 : Cond.instanceMethod yX5_sees ∈ ba_tb := ba_mem (i := 540) (by decide +kernel) (by decide +kernel)
theorem kw_541 : Cond.selects "Bagatelle" yX5_sees yX5_sees ∈ ba_tb := ba_mem (i := 541) (by decide +kernel) (by decide +kernel)
theorem kw_429 : Cond.code yX5_cup cX5_cup 3 (some .int) ∈ ba_tb := ba_mem (i := 429) (by decide +kernel) (by decide +kernel)
theorem kw_757 : Cond.methodLink "Bagatelle" 305 yX5_cup ∈ ba_tb := ba_mem (i := 757) (by decide +kernel) (by decide +kernel)
theorem kw_427 : Cond.instanceMethod yX5_cup ∈ ba_tb := ba_mem (i := 427) (by decide +kernel) (by decide +kernel)
theorem kw_428 : Cond.selects "Bagatelle" yX5_cup yX5_cup ∈ ba_tb := ba_mem (i := 428) (by decide +kernel) (by decide +kernel)
theorem kw_761 : Cond.code yX5_withPin cX5_withPin 7 (some .long) ∈ ba_tb := ba_mem (i := 761) (by decide +kernel) (by decide +kernel)
theorem kw_758 : Cond.methodLink "Bagatelle" 308 yX5_withPin ∈ ba_tb := ba_mem (i := 758) (by decide +kernel) (by decide +kernel)
theorem kw_760 : Cond.instanceMethod yX5_withPin ∈ ba_tb := ba_mem (i := 760) (by decide +kernel) (by decide +kernel)
theorem kw_25 : Cond.selects RX5 yX5_withPin yX5_withPin ∈ ba_tb := ba_mem (i := 25) (by decide +kernel) (by decide +kernel)
theorem kw_768 : Cond.code yX5_withBall cX5_withBall 7 (some .long) ∈ ba_tb := ba_mem (i := 768) (by decide +kernel) (by decide +kernel)
theorem kw_765 : Cond.methodLink "Bagatelle" 312 yX5_withBall ∈ ba_tb := ba_mem (i := 765) (by decide +kernel) (by decide +kernel)
theorem kw_767 : Cond.instanceMethod yX5_withBall ∈ ba_tb := ba_mem (i := 767) (by decide +kernel) (by decide +kernel)
theorem kw_26 : Cond.selects RX5 yX5_withBall yX5_withBall ∈ ba_tb := ba_mem (i := 26) (by decide +kernel) (by decide +kernel)
theorem kw_566 : Cond.code yX5_late cX5_late 3 (some .int) ∈ ba_tb := ba_mem (i := 566) (by decide +kernel) (by decide +kernel)
theorem kw_779 : Cond.methodLink "Bagatelle" 315 yX5_late ∈ ba_tb := ba_mem (i := 779) (by decide +kernel) (by decide +kernel)
theorem kw_564 : Cond.instanceMethod yX5_late ∈ ba_tb := ba_mem (i := 564) (by decide +kernel) (by decide +kernel)
theorem kw_565 : Cond.selects "Bagatelle" yX5_late yX5_late ∈ ba_tb := ba_mem (i := 565) (by decide +kernel) (by decide +kernel)
theorem kw_570 : Cond.code yX5_best cX5_best 4 (some .int) ∈ ba_tb := ba_mem (i := 570) (by decide +kernel) (by decide +kernel)
theorem kw_780 : Cond.methodLink "Bagatelle" 318 yX5_best ∈ ba_tb := ba_mem (i := 780) (by decide +kernel) (by decide +kernel)
theorem kw_568 : Cond.instanceMethod yX5_best ∈ ba_tb := ba_mem (i := 568) (by decide +kernel) (by decide +kernel)
theorem kw_569 : Cond.selects "Bagatelle" yX5_best yX5_best ∈ ba_tb := ba_mem (i := 569) (by decide +kernel) (by decide +kernel)
theorem kw_574 : Cond.code yX5_jam cX5_jam 4 (some .int) ∈ ba_tb := ba_mem (i := 574) (by decide +kernel) (by decide +kernel)
theorem kw_781 : Cond.methodLink "Bagatelle" 321 yX5_jam ∈ ba_tb := ba_mem (i := 781) (by decide +kernel) (by decide +kernel)
theorem kw_572 : Cond.instanceMethod yX5_jam ∈ ba_tb := ba_mem (i := 572) (by decide +kernel) (by decide +kernel)
theorem kw_573 : Cond.selects "Bagatelle" yX5_jam yX5_jam ∈ ba_tb := ba_mem (i := 573) (by decide +kernel) (by decide +kernel)
theorem kw_602 : Cond.code yX5_spare cX5_spare 2 (some .int) ∈ ba_tb := ba_mem (i := 602) (by decide +kernel) (by decide +kernel)
theorem kw_782 : Cond.methodLink "Bagatelle" 324 yX5_spare ∈ ba_tb := ba_mem (i := 782) (by decide +kernel) (by decide +kernel)
theorem kw_600 : Cond.instanceMethod yX5_spare ∈ ba_tb := ba_mem (i := 600) (by decide +kernel) (by decide +kernel)
theorem kw_601 : Cond.selects "Bagatelle" yX5_spare yX5_spare ∈ ba_tb := ba_mem (i := 601) (by decide +kernel) (by decide +kernel)
theorem kw_623 : Cond.code yX5_never cX5_never 4 (some .int) ∈ ba_tb := ba_mem (i := 623) (by decide +kernel) (by decide +kernel)
theorem kw_783 : Cond.methodLink "Bagatelle" 327 yX5_never ∈ ba_tb := ba_mem (i := 783) (by decide +kernel) (by decide +kernel)
theorem kw_621 : Cond.instanceMethod yX5_never ∈ ba_tb := ba_mem (i := 621) (by decide +kernel) (by decide +kernel)
theorem kw_622 : Cond.selects "Bagatelle" yX5_never yX5_never ∈ ba_tb := ba_mem (i := 622) (by decide +kernel) (by decide +kernel)
theorem kw_681 : Cond.code yX5_sundays cX5_sundays 6 (some .int) ∈ ba_tb := ba_mem (i := 681) (by decide +kernel) (by decide +kernel)
theorem kw_784 : Cond.methodLink "Bagatelle" 330 yX5_sundays ∈ ba_tb := ba_mem (i := 784) (by decide +kernel) (by decide +kernel)
theorem kw_679 : Cond.instanceMethod yX5_sundays ∈ ba_tb := ba_mem (i := 679) (by decide +kernel) (by decide +kernel)
theorem kw_680 : Cond.selects "Bagatelle" yX5_sundays yX5_sundays ∈ ba_tb := ba_mem (i := 680) (by decide +kernel) (by decide +kernel)
theorem kw_1269 : Cond.constantLong "BagatelleModel" 86 (-9223372036854775808) ∈ ba_tb := ba_mem (i := 1269) (by decide +kernel) (by decide +kernel)
theorem kw_901 : Cond.code yX6_in cX6_in 6 (some .boolean) ∈ ba_tb := ba_mem (i := 901) (by decide +kernel) (by decide +kernel)
theorem kw_85 : Cond.initialized "BagatelleModel" ∈ ba_tb := ba_mem (i := 85) (by decide +kernel) (by decide +kernel)
theorem kw_899 : Cond.methodLink "BagatelleModel" 88 yX6_in ∈ ba_tb := ba_mem (i := 899) (by decide +kernel) (by decide +kernel)
theorem kw_900 : Cond.static yX6_in ∈ ba_tb := ba_mem (i := 900) (by decide +kernel) (by decide +kernel)
theorem kw_795 : Cond.fieldLink "BagatelleModel" 92 "BagatelleModel" "latest" "I" ∈ ba_tb := ba_mem (i := 795) (by decide +kernel) (by decide +kernel)
theorem kw_898 : Cond.constantLong "BagatelleModel" 95 3 ∈ ba_tb := ba_mem (i := 898) (by decide +kernel) (by decide +kernel)
theorem kw_897 : Cond.code yX6_isSheet cX6_isSheet 1 (some .boolean) ∈ ba_tb := ba_mem (i := 897) (by decide +kernel) (by decide +kernel)
theorem kw_895 : Cond.methodLink "BagatelleModel" 97 yX6_isSheet ∈ ba_tb := ba_mem (i := 895) (by decide +kernel) (by decide +kernel)
theorem kw_896 : Cond.static yX6_isSheet ∈ ba_tb := ba_mem (i := 896) (by decide +kernel) (by decide +kernel)
theorem kw_902 : Cond.constantLong "BagatelleModel" 101 2 ∈ ba_tb := ba_mem (i := 902) (by decide +kernel) (by decide +kernel)
theorem kw_791 : Cond.fieldLink "BagatelleModel" 7 "BagatelleModel" "forms" "[I" ∈ ba_tb := ba_mem (i := 791) (by decide +kernel) (by decide +kernel)
theorem kw_792 : Cond.fieldLink "BagatelleModel" 13 "BagatelleModel" "sizes" "[I" ∈ ba_tb := ba_mem (i := 792) (by decide +kernel) (by decide +kernel)
theorem kw_793 : Cond.fieldLink "BagatelleModel" 16 "BagatelleModel" "items" "[I" ∈ ba_tb := ba_mem (i := 793) (by decide +kernel) (by decide +kernel)
theorem kw_906 : Cond.code yX6_finds cX6_finds 2 (some .int) ∈ ba_tb := ba_mem (i := 906) (by decide +kernel) (by decide +kernel)
theorem kw_903 : Cond.methodLink "BagatelleModel" 103 yX6_finds ∈ ba_tb := ba_mem (i := 903) (by decide +kernel) (by decide +kernel)
theorem kw_905 : Cond.instanceMethod yX6_finds ∈ ba_tb := ba_mem (i := 905) (by decide +kernel) (by decide +kernel)
theorem kw_27 : Cond.selects RX6 yX6_finds yX6_finds ∈ ba_tb := ba_mem (i := 27) (by decide +kernel) (by decide +kernel)
theorem kw_918 : Cond.code yX6_lacks cX6_lacks 4 (some .int) ∈ ba_tb := ba_mem (i := 918) (by decide +kernel) (by decide +kernel)
theorem kw_915 : Cond.methodLink "BagatelleModel" 107 yX6_lacks ∈ ba_tb := ba_mem (i := 915) (by decide +kernel) (by decide +kernel)
theorem kw_917 : Cond.instanceMethod yX6_lacks ∈ ba_tb := ba_mem (i := 917) (by decide +kernel) (by decide +kernel)
theorem kw_28 : Cond.selects RX6 yX6_lacks yX6_lacks ∈ ba_tb := ba_mem (i := 28) (by decide +kernel) (by decide +kernel)
theorem kw_921 : Cond.code yX6_cut cX6_cut 2 (some .int) ∈ ba_tb := ba_mem (i := 921) (by decide +kernel) (by decide +kernel)
theorem kw_919 : Cond.methodLink "BagatelleModel" 111 yX6_cut ∈ ba_tb := ba_mem (i := 919) (by decide +kernel) (by decide +kernel)
theorem kw_920 : Cond.static yX6_cut ∈ ba_tb := ba_mem (i := 920) (by decide +kernel) (by decide +kernel)
theorem kw_926 : Cond.constant "BagatelleModel" 115 (-2147483648) ∈ ba_tb := ba_mem (i := 926) (by decide +kernel) (by decide +kernel)
theorem kw_794 : Cond.fieldLink "BagatelleModel" 19 "BagatelleModel" "moved" "[I" ∈ ba_tb := ba_mem (i := 794) (by decide +kernel) (by decide +kernel)
theorem kw_937 : Cond.code yX6_isText cX6_isText 1 (some .boolean) ∈ ba_tb := ba_mem (i := 937) (by decide +kernel) (by decide +kernel)
theorem kw_935 : Cond.methodLink "BagatelleModel" 116 yX6_isText ∈ ba_tb := ba_mem (i := 935) (by decide +kernel) (by decide +kernel)
theorem kw_936 : Cond.static yX6_isText ∈ ba_tb := ba_mem (i := 936) (by decide +kernel) (by decide +kernel)
theorem kw_938 : Cond.constantLong "BagatelleModel" 119 255 ∈ ba_tb := ba_mem (i := 938) (by decide +kernel) (by decide +kernel)
theorem kw_797 : Cond.fieldLink "BagatelleModel" 25 "BagatelleModel" "typed" "[I" ∈ ba_tb := ba_mem (i := 797) (by decide +kernel) (by decide +kernel)
theorem kw_796 : Cond.fieldLink "BagatelleModel" 22 "BagatelleModel" "bytes" "[I" ∈ ba_tb := ba_mem (i := 796) (by decide +kernel) (by decide +kernel)
theorem kw_964 : Cond.code yX6_figureOf cX6_figureOf 3 (some .int) ∈ ba_tb := ba_mem (i := 964) (by decide +kernel) (by decide +kernel)
theorem kw_962 : Cond.methodLink "BagatelleModel" 121 yX6_figureOf ∈ ba_tb := ba_mem (i := 962) (by decide +kernel) (by decide +kernel)
theorem kw_963 : Cond.static yX6_figureOf ∈ ba_tb := ba_mem (i := 963) (by decide +kernel) (by decide +kernel)
theorem kw_967 : Cond.code yX6_between cX6_between 1 (some .int) ∈ ba_tb := ba_mem (i := 967) (by decide +kernel) (by decide +kernel)
theorem kw_965 : Cond.methodLink "BagatelleModel" 124 yX6_between ∈ ba_tb := ba_mem (i := 965) (by decide +kernel) (by decide +kernel)
theorem kw_966 : Cond.static yX6_between ∈ ba_tb := ba_mem (i := 966) (by decide +kernel) (by decide +kernel)
theorem kw_799 : Cond.fieldLink "BagatelleModel" 28 "BagatelleModel" "pin" "[I" ∈ ba_tb := ba_mem (i := 799) (by decide +kernel) (by decide +kernel)
theorem kw_798 : Cond.fieldLink "BagatelleModel" 127 "BagatelleModel" "pins" "I" ∈ ba_tb := ba_mem (i := 798) (by decide +kernel) (by decide +kernel)
theorem kw_961 : Cond.code yX6_pinOf cX6_pinOf 2 (some .int) ∈ ba_tb := ba_mem (i := 961) (by decide +kernel) (by decide +kernel)
theorem kw_959 : Cond.methodLink "BagatelleModel" 130 yX6_pinOf ∈ ba_tb := ba_mem (i := 959) (by decide +kernel) (by decide +kernel)
theorem kw_960 : Cond.static yX6_pinOf ∈ ba_tb := ba_mem (i := 960) (by decide +kernel) (by decide +kernel)
theorem kw_971 : Cond.code yX6_isTaken cX6_isTaken 4 (some .boolean) ∈ ba_tb := ba_mem (i := 971) (by decide +kernel) (by decide +kernel)
theorem kw_968 : Cond.methodLink "BagatelleModel" 133 yX6_isTaken ∈ ba_tb := ba_mem (i := 968) (by decide +kernel) (by decide +kernel)
theorem kw_970 : Cond.instanceMethod yX6_isTaken ∈ ba_tb := ba_mem (i := 970) (by decide +kernel) (by decide +kernel)
theorem kw_31 : Cond.selects RX6 yX6_isTaken yX6_isTaken ∈ ba_tb := ba_mem (i := 31) (by decide +kernel) (by decide +kernel)
theorem kw_800 : Cond.fieldLink "BagatelleModel" 31 "BagatelleModel" "worth" "[I" ∈ ba_tb := ba_mem (i := 800) (by decide +kernel) (by decide +kernel)
theorem kw_979 : Cond.code yX6_worthless cX6_worthless 2 none ∈ ba_tb := ba_mem (i := 979) (by decide +kernel) (by decide +kernel)
theorem kw_976 : Cond.methodLink "BagatelleModel" 136 yX6_worthless ∈ ba_tb := ba_mem (i := 976) (by decide +kernel) (by decide +kernel)
theorem kw_978 : Cond.instanceMethod yX6_worthless ∈ ba_tb := ba_mem (i := 978) (by decide +kernel) (by decide +kernel)
theorem kw_33 : Cond.selects RX6 yX6_worthless yX6_worthless ∈ ba_tb := ba_mem (i := 33) (by decide +kernel) (by decide +kernel)
theorem kw_987 : Cond.constantLong "BagatelleModel" 139 97 ∈ ba_tb := ba_mem (i := 987) (by decide +kernel) (by decide +kernel)
theorem kw_988 : Cond.constantLong "BagatelleModel" 141 120 ∈ ba_tb := ba_mem (i := 988) (by decide +kernel) (by decide +kernel)
theorem kw_801 : Cond.fieldLink "BagatelleModel" 143 "BagatelleModel" "balls" "I" ∈ ba_tb := ba_mem (i := 801) (by decide +kernel) (by decide +kernel)
theorem kw_986 : Cond.code yX6_ballOf cX6_ballOf 2 (some .int) ∈ ba_tb := ba_mem (i := 986) (by decide +kernel) (by decide +kernel)
theorem kw_984 : Cond.methodLink "BagatelleModel" 146 yX6_ballOf ∈ ba_tb := ba_mem (i := 984) (by decide +kernel) (by decide +kernel)
theorem kw_985 : Cond.static yX6_ballOf ∈ ba_tb := ba_mem (i := 985) (by decide +kernel) (by decide +kernel)
theorem kw_802 : Cond.fieldLink "BagatelleModel" 34 "BagatelleModel" "ball" "[I" ∈ ba_tb := ba_mem (i := 802) (by decide +kernel) (by decide +kernel)
theorem kw_958 : Cond.code yX6_readsPins cX6_readsPins 5 (some .int) ∈ ba_tb := ba_mem (i := 958) (by decide +kernel) (by decide +kernel)
theorem kw_955 : Cond.methodLink "BagatelleModel" 149 yX6_readsPins ∈ ba_tb := ba_mem (i := 955) (by decide +kernel) (by decide +kernel)
theorem kw_957 : Cond.instanceMethod yX6_readsPins ∈ ba_tb := ba_mem (i := 957) (by decide +kernel) (by decide +kernel)
theorem kw_30 : Cond.selects RX6 yX6_readsPins yX6_readsPins ∈ ba_tb := ba_mem (i := 30) (by decide +kernel) (by decide +kernel)
theorem kw_975 : Cond.code yX6_readsCups cX6_readsCups 3 (some .int) ∈ ba_tb := ba_mem (i := 975) (by decide +kernel) (by decide +kernel)
theorem kw_972 : Cond.methodLink "BagatelleModel" 153 yX6_readsCups ∈ ba_tb := ba_mem (i := 972) (by decide +kernel) (by decide +kernel)
theorem kw_974 : Cond.instanceMethod yX6_readsCups ∈ ba_tb := ba_mem (i := 974) (by decide +kernel) (by decide +kernel)
theorem kw_32 : Cond.selects RX6 yX6_readsCups yX6_readsCups ∈ ba_tb := ba_mem (i := 32) (by decide +kernel) (by decide +kernel)
theorem kw_983 : Cond.code yX6_readsBalls cX6_readsBalls 5 (some .int) ∈ ba_tb := ba_mem (i := 983) (by decide +kernel) (by decide +kernel)
theorem kw_980 : Cond.methodLink "BagatelleModel" 156 yX6_readsBalls ∈ ba_tb := ba_mem (i := 980) (by decide +kernel) (by decide +kernel)
theorem kw_982 : Cond.instanceMethod yX6_readsBalls ∈ ba_tb := ba_mem (i := 982) (by decide +kernel) (by decide +kernel)
theorem kw_34 : Cond.selects RX6 yX6_readsBalls yX6_readsBalls ∈ ba_tb := ba_mem (i := 34) (by decide +kernel) (by decide +kernel)
theorem kw_954 : Cond.code yX6_readsText cX6_readsText 2 (some .int) ∈ ba_tb := ba_mem (i := 954) (by decide +kernel) (by decide +kernel)
theorem kw_951 : Cond.methodLink "BagatelleModel" 159 yX6_readsText ∈ ba_tb := ba_mem (i := 951) (by decide +kernel) (by decide +kernel)
theorem kw_953 : Cond.instanceMethod yX6_readsText ∈ ba_tb := ba_mem (i := 953) (by decide +kernel) (by decide +kernel)
theorem kw_29 : Cond.selects RX6 yX6_readsText yX6_readsText ∈ ba_tb := ba_mem (i := 29) (by decide +kernel) (by decide +kernel)
theorem kw_1020 : Cond.constantLong "BagatelleModel" 162 23 ∈ ba_tb := ba_mem (i := 1020) (by decide +kernel) (by decide +kernel)
theorem kw_1065 : Cond.constantLong "BagatelleModel" 164 8 ∈ ba_tb := ba_mem (i := 1065) (by decide +kernel) (by decide +kernel)
theorem kw_996 : Cond.code yX6_isPin cX6_isPin 2 (some .boolean) ∈ ba_tb := ba_mem (i := 996) (by decide +kernel) (by decide +kernel)
theorem kw_993 : Cond.methodLink "BagatelleModel" 166 yX6_isPin ∈ ba_tb := ba_mem (i := 993) (by decide +kernel) (by decide +kernel)
theorem kw_995 : Cond.instanceMethod yX6_isPin ∈ ba_tb := ba_mem (i := 995) (by decide +kernel) (by decide +kernel)
theorem kw_35 : Cond.selects RX6 yX6_isPin yX6_isPin ∈ ba_tb := ba_mem (i := 35) (by decide +kernel) (by decide +kernel)
theorem kw_1004 : Cond.code yX6_isBall cX6_isBall 2 (some .boolean) ∈ ba_tb := ba_mem (i := 1004) (by decide +kernel) (by decide +kernel)
theorem kw_1001 : Cond.methodLink "BagatelleModel" 169 yX6_isBall ∈ ba_tb := ba_mem (i := 1001) (by decide +kernel) (by decide +kernel)
theorem kw_1003 : Cond.instanceMethod yX6_isBall ∈ ba_tb := ba_mem (i := 1003) (by decide +kernel) (by decide +kernel)
theorem kw_36 : Cond.selects RX6 yX6_isBall yX6_isBall ∈ ba_tb := ba_mem (i := 36) (by decide +kernel) (by decide +kernel)
theorem kw_1007 : Cond.code yX6_isTwo cX6_isTwo 1 (some .boolean) ∈ ba_tb := ba_mem (i := 1007) (by decide +kernel) (by decide +kernel)
theorem kw_1005 : Cond.methodLink "BagatelleModel" 172 yX6_isTwo ∈ ba_tb := ba_mem (i := 1005) (by decide +kernel) (by decide +kernel)
theorem kw_1006 : Cond.static yX6_isTwo ∈ ba_tb := ba_mem (i := 1006) (by decide +kernel) (by decide +kernel)
theorem kw_1012 : Cond.constantLong "BagatelleModel" 175 9 ∈ ba_tb := ba_mem (i := 1012) (by decide +kernel) (by decide +kernel)
theorem kw_803 : Cond.fieldLink "BagatelleModel" 82 "BagatelleModel" "room" "I" ∈ ba_tb := ba_mem (i := 803) (by decide +kernel) (by decide +kernel)
theorem kw_1019 : Cond.code yX6_isTick cX6_isTick 1 (some .boolean) ∈ ba_tb := ba_mem (i := 1019) (by decide +kernel) (by decide +kernel)
theorem kw_1017 : Cond.methodLink "BagatelleModel" 177 yX6_isTick ∈ ba_tb := ba_mem (i := 1017) (by decide +kernel) (by decide +kernel)
theorem kw_1018 : Cond.static yX6_isTick ∈ ba_tb := ba_mem (i := 1018) (by decide +kernel) (by decide +kernel)
theorem kw_1021 : Cond.constantLong "BagatelleModel" 180 11 ∈ ba_tb := ba_mem (i := 1021) (by decide +kernel) (by decide +kernel)
theorem kw_804 : Cond.fieldLink "BagatelleModel" 182 "BagatelleModel" "events" "I" ∈ ba_tb := ba_mem (i := 804) (by decide +kernel) (by decide +kernel)
theorem kw_805 : Cond.fieldLink "BagatelleModel" 37 "BagatelleModel" "event" "[I" ∈ ba_tb := ba_mem (i := 805) (by decide +kernel) (by decide +kernel)
theorem kw_1016 : Cond.code yX6_event cX6_event 4 (some .int) ∈ ba_tb := ba_mem (i := 1016) (by decide +kernel) (by decide +kernel)
theorem kw_1030 : Cond.methodLink "BagatelleModel" 185 yX6_event ∈ ba_tb := ba_mem (i := 1030) (by decide +kernel) (by decide +kernel)
theorem kw_1014 : Cond.instanceMethod yX6_event ∈ ba_tb := ba_mem (i := 1014) (by decide +kernel) (by decide +kernel)
theorem kw_1015 : Cond.selects "BagatelleModel" yX6_event yX6_event ∈ ba_tb := ba_mem (i := 1015) (by decide +kernel) (by decide +kernel)
theorem kw_807 : Cond.fieldLink "BagatelleModel" 40 "BagatelleModel" "row" "[I" ∈ ba_tb := ba_mem (i := 807) (by decide +kernel) (by decide +kernel)
theorem kw_808 : Cond.fieldLink "BagatelleModel" 43 "BagatelleModel" "column" "[I" ∈ ba_tb := ba_mem (i := 808) (by decide +kernel) (by decide +kernel)
theorem kw_1061 : Cond.code yX6_whoAt cX6_whoAt 5 (some .int) ∈ ba_tb := ba_mem (i := 1061) (by decide +kernel) (by decide +kernel)
theorem kw_1058 : Cond.methodLink "BagatelleModel" 187 yX6_whoAt ∈ ba_tb := ba_mem (i := 1058) (by decide +kernel) (by decide +kernel)
theorem kw_1060 : Cond.instanceMethod yX6_whoAt ∈ ba_tb := ba_mem (i := 1060) (by decide +kernel) (by decide +kernel)
theorem kw_42 : Cond.selects RX6 yX6_whoAt yX6_whoAt ∈ ba_tb := ba_mem (i := 42) (by decide +kernel) (by decide +kernel)
theorem kw_1064 : Cond.code yX6_isColumn cX6_isColumn 1 (some .boolean) ∈ ba_tb := ba_mem (i := 1064) (by decide +kernel) (by decide +kernel)
theorem kw_1062 : Cond.methodLink "BagatelleModel" 190 yX6_isColumn ∈ ba_tb := ba_mem (i := 1062) (by decide +kernel) (by decide +kernel)
theorem kw_1063 : Cond.static yX6_isColumn ∈ ba_tb := ba_mem (i := 1063) (by decide +kernel) (by decide +kernel)
theorem kw_812 : Cond.fieldLink "BagatelleModel" 55 "BagatelleModel" "leans" "[I" ∈ ba_tb := ba_mem (i := 812) (by decide +kernel) (by decide +kernel)
theorem kw_813 : Cond.fieldLink "BagatelleModel" 58 "BagatelleModel" "next" "[I" ∈ ba_tb := ba_mem (i := 813) (by decide +kernel) (by decide +kernel)
theorem kw_814 : Cond.fieldLink "BagatelleModel" 61 "BagatelleModel" "inside" "[I" ∈ ba_tb := ba_mem (i := 814) (by decide +kernel) (by decide +kernel)
theorem kw_806 : Cond.fieldLink "BagatelleModel" 193 "BagatelleModel" "gone" "I" ∈ ba_tb := ba_mem (i := 806) (by decide +kernel) (by decide +kernel)
theorem kw_1053 : Cond.code yX6_isIn cX6_isIn 2 (some .boolean) ∈ ba_tb := ba_mem (i := 1053) (by decide +kernel) (by decide +kernel)
theorem kw_1051 : Cond.methodLink "BagatelleModel" 196 yX6_isIn ∈ ba_tb := ba_mem (i := 1051) (by decide +kernel) (by decide +kernel)
theorem kw_1052 : Cond.static yX6_isIn ∈ ba_tb := ba_mem (i := 1052) (by decide +kernel) (by decide +kernel)
theorem kw_1057 : Cond.code yX6_tilts cX6_tilts 6 none ∈ ba_tb := ba_mem (i := 1057) (by decide +kernel) (by decide +kernel)
theorem kw_1054 : Cond.methodLink "BagatelleModel" 200 yX6_tilts ∈ ba_tb := ba_mem (i := 1054) (by decide +kernel) (by decide +kernel)
theorem kw_1056 : Cond.instanceMethod yX6_tilts ∈ ba_tb := ba_mem (i := 1056) (by decide +kernel) (by decide +kernel)
theorem kw_41 : Cond.selects RX6 yX6_tilts yX6_tilts ∈ ba_tb := ba_mem (i := 41) (by decide +kernel) (by decide +kernel)
theorem kw_1069 : Cond.code yX6_knocks cX6_knocks 2 none ∈ ba_tb := ba_mem (i := 1069) (by decide +kernel) (by decide +kernel)
theorem kw_1066 : Cond.methodLink "BagatelleModel" 204 yX6_knocks ∈ ba_tb := ba_mem (i := 1066) (by decide +kernel) (by decide +kernel)
theorem kw_1068 : Cond.instanceMethod yX6_knocks ∈ ba_tb := ba_mem (i := 1068) (by decide +kernel) (by decide +kernel)
theorem kw_43 : Cond.selects RX6 yX6_knocks yX6_knocks ∈ ba_tb := ba_mem (i := 43) (by decide +kernel) (by decide +kernel)
theorem kw_1073 : Cond.code yX6_empties cX6_empties 2 none ∈ ba_tb := ba_mem (i := 1073) (by decide +kernel) (by decide +kernel)
theorem kw_1070 : Cond.methodLink "BagatelleModel" 207 yX6_empties ∈ ba_tb := ba_mem (i := 1070) (by decide +kernel) (by decide +kernel)
theorem kw_1072 : Cond.instanceMethod yX6_empties ∈ ba_tb := ba_mem (i := 1072) (by decide +kernel) (by decide +kernel)
theorem kw_44 : Cond.selects RX6 yX6_empties yX6_empties ∈ ba_tb := ba_mem (i := 44) (by decide +kernel) (by decide +kernel)
theorem kw_1088 : Cond.code yX6_aside cX6_aside 2 (some .int) ∈ ba_tb := ba_mem (i := 1088) (by decide +kernel) (by decide +kernel)
theorem kw_1086 : Cond.methodLink "BagatelleModel" 210 yX6_aside ∈ ba_tb := ba_mem (i := 1086) (by decide +kernel) (by decide +kernel)
theorem kw_1087 : Cond.static yX6_aside ∈ ba_tb := ba_mem (i := 1087) (by decide +kernel) (by decide +kernel)
theorem kw_810 : Cond.fieldLink "BagatelleModel" 49 "BagatelleModel" "endIn" "[I" ∈ ba_tb := ba_mem (i := 810) (by decide +kernel) (by decide +kernel)
theorem kw_809 : Cond.fieldLink "BagatelleModel" 46 "BagatelleModel" "brings" "[I" ∈ ba_tb := ba_mem (i := 809) (by decide +kernel) (by decide +kernel)
theorem kw_815 : Cond.fieldLink "BagatelleModel" 64 "BagatelleModel" "ever" "[I" ∈ ba_tb := ba_mem (i := 815) (by decide +kernel) (by decide +kernel)
theorem kw_1081 : Cond.code yX6_pinAt cX6_pinAt 5 (some .int) ∈ ba_tb := ba_mem (i := 1081) (by decide +kernel) (by decide +kernel)
theorem kw_1078 : Cond.methodLink "BagatelleModel" 213 yX6_pinAt ∈ ba_tb := ba_mem (i := 1078) (by decide +kernel) (by decide +kernel)
theorem kw_1080 : Cond.instanceMethod yX6_pinAt ∈ ba_tb := ba_mem (i := 1080) (by decide +kernel) (by decide +kernel)
theorem kw_46 : Cond.selects RX6 yX6_pinAt yX6_pinAt ∈ ba_tb := ba_mem (i := 46) (by decide +kernel) (by decide +kernel)
theorem kw_1085 : Cond.code yX6_goesTo cX6_goesTo 5 (some .int) ∈ ba_tb := ba_mem (i := 1085) (by decide +kernel) (by decide +kernel)
theorem kw_1082 : Cond.methodLink "BagatelleModel" 216 yX6_goesTo ∈ ba_tb := ba_mem (i := 1082) (by decide +kernel) (by decide +kernel)
theorem kw_1084 : Cond.instanceMethod yX6_goesTo ∈ ba_tb := ba_mem (i := 1084) (by decide +kernel) (by decide +kernel)
theorem kw_47 : Cond.selects RX6 yX6_goesTo yX6_goesTo ∈ ba_tb := ba_mem (i := 47) (by decide +kernel) (by decide +kernel)
theorem kw_1092 : Cond.code yX6_ending cX6_ending 5 none ∈ ba_tb := ba_mem (i := 1092) (by decide +kernel) (by decide +kernel)
theorem kw_1089 : Cond.methodLink "BagatelleModel" 222 yX6_ending ∈ ba_tb := ba_mem (i := 1089) (by decide +kernel) (by decide +kernel)
theorem kw_1091 : Cond.instanceMethod yX6_ending ∈ ba_tb := ba_mem (i := 1091) (by decide +kernel) (by decide +kernel)
theorem kw_48 : Cond.selects RX6 yX6_ending yX6_ending ∈ ba_tb := ba_mem (i := 48) (by decide +kernel) (by decide +kernel)
theorem kw_819 : Cond.fieldLink "BagatelleModel" 219 "BagatelleModel" "rings" "I" ∈ ba_tb := ba_mem (i := 819) (by decide +kernel) (by decide +kernel)
theorem kw_811 : Cond.fieldLink "BagatelleModel" 52 "BagatelleModel" "halts" "[I" ∈ ba_tb := ba_mem (i := 811) (by decide +kernel) (by decide +kernel)
theorem kw_816 : Cond.fieldLink "BagatelleModel" 67 "BagatelleModel" "holdsBy" "[I" ∈ ba_tb := ba_mem (i := 816) (by decide +kernel) (by decide +kernel)
theorem kw_1050 : Cond.code yX6_happens cX6_happens 4 none ∈ ba_tb := ba_mem (i := 1050) (by decide +kernel) (by decide +kernel)
theorem kw_1047 : Cond.methodLink "BagatelleModel" 226 yX6_happens ∈ ba_tb := ba_mem (i := 1047) (by decide +kernel) (by decide +kernel)
theorem kw_1049 : Cond.instanceMethod yX6_happens ∈ ba_tb := ba_mem (i := 1049) (by decide +kernel) (by decide +kernel)
theorem kw_40 : Cond.selects RX6 yX6_happens yX6_happens ∈ ba_tb := ba_mem (i := 40) (by decide +kernel) (by decide +kernel)
theorem kw_1077 : Cond.code yX6_falls cX6_falls 5 none ∈ ba_tb := ba_mem (i := 1077) (by decide +kernel) (by decide +kernel)
theorem kw_1074 : Cond.methodLink "BagatelleModel" 229 yX6_falls ∈ ba_tb := ba_mem (i := 1074) (by decide +kernel) (by decide +kernel)
theorem kw_1076 : Cond.instanceMethod yX6_falls ∈ ba_tb := ba_mem (i := 1076) (by decide +kernel) (by decide +kernel)
theorem kw_45 : Cond.selects RX6 yX6_falls yX6_falls ∈ ba_tb := ba_mem (i := 45) (by decide +kernel) (by decide +kernel)
theorem kw_817 : Cond.fieldLink "BagatelleModel" 70 "BagatelleModel" "rowBy" "[I" ∈ ba_tb := ba_mem (i := 817) (by decide +kernel) (by decide +kernel)
theorem kw_818 : Cond.fieldLink "BagatelleModel" 73 "BagatelleModel" "columnBy" "[I" ∈ ba_tb := ba_mem (i := 818) (by decide +kernel) (by decide +kernel)
theorem kw_1046 : Cond.code yX6_passes cX6_passes 5 none ∈ ba_tb := ba_mem (i := 1046) (by decide +kernel) (by decide +kernel)
theorem kw_1043 : Cond.methodLink "BagatelleModel" 233 yX6_passes ∈ ba_tb := ba_mem (i := 1043) (by decide +kernel) (by decide +kernel)
theorem kw_1045 : Cond.instanceMethod yX6_passes ∈ ba_tb := ba_mem (i := 1045) (by decide +kernel) (by decide +kernel)
theorem kw_39 : Cond.selects RX6 yX6_passes yX6_passes ∈ ba_tb := ba_mem (i := 39) (by decide +kernel) (by decide +kernel)
theorem kw_1042 : Cond.code yX6_lives cX6_lives 2 none ∈ ba_tb := ba_mem (i := 1042) (by decide +kernel) (by decide +kernel)
theorem kw_1039 : Cond.methodLink "BagatelleModel" 236 yX6_lives ∈ ba_tb := ba_mem (i := 1039) (by decide +kernel) (by decide +kernel)
theorem kw_1041 : Cond.instanceMethod yX6_lives ∈ ba_tb := ba_mem (i := 1041) (by decide +kernel) (by decide +kernel)
theorem kw_38 : Cond.selects RX6 yX6_lives yX6_lives ∈ ba_tb := ba_mem (i := 38) (by decide +kernel) (by decide +kernel)
theorem kw_1038 : Cond.code yX6_find cX6_find 1 none ∈ ba_tb := ba_mem (i := 1038) (by decide +kernel) (by decide +kernel)
theorem kw_1035 : Cond.methodLink "BagatelleModel" 239 yX6_find ∈ ba_tb := ba_mem (i := 1035) (by decide +kernel) (by decide +kernel)
theorem kw_1037 : Cond.instanceMethod yX6_find ∈ ba_tb := ba_mem (i := 1037) (by decide +kernel) (by decide +kernel)
theorem kw_37 : Cond.selects RX6 yX6_find yX6_find ∈ ba_tb := ba_mem (i := 37) (by decide +kernel) (by decide +kernel)
theorem kw_1096 : Cond.code yX6_cupBy cX6_cupBy 3 (some .int) ∈ ba_tb := ba_mem (i := 1096) (by decide +kernel) (by decide +kernel)
theorem kw_1093 : Cond.methodLink "BagatelleModel" 242 yX6_cupBy ∈ ba_tb := ba_mem (i := 1093) (by decide +kernel) (by decide +kernel)
theorem kw_1095 : Cond.instanceMethod yX6_cupBy ∈ ba_tb := ba_mem (i := 1095) (by decide +kernel) (by decide +kernel)
theorem kw_49 : Cond.selects RX6 yX6_cupBy yX6_cupBy ∈ ba_tb := ba_mem (i := 49) (by decide +kernel) (by decide +kernel)
theorem kw_1104 : Cond.code yX6_atBy cX6_atBy 4 (some .int) ∈ ba_tb := ba_mem (i := 1104) (by decide +kernel) (by decide +kernel)
theorem kw_1101 : Cond.methodLink "BagatelleModel" 245 yX6_atBy ∈ ba_tb := ba_mem (i := 1101) (by decide +kernel) (by decide +kernel)
theorem kw_1103 : Cond.instanceMethod yX6_atBy ∈ ba_tb := ba_mem (i := 1103) (by decide +kernel) (by decide +kernel)
theorem kw_50 : Cond.selects RX6 yX6_atBy yX6_atBy ∈ ba_tb := ba_mem (i := 50) (by decide +kernel) (by decide +kernel)
theorem kw_1109 : Cond.constantLong "BagatelleModel" 248 7 ∈ ba_tb := ba_mem (i := 1109) (by decide +kernel) (by decide +kernel)
theorem kw_1113 : Cond.code yX6_seesBy cX6_seesBy 6 (some .int) ∈ ba_tb := ba_mem (i := 1113) (by decide +kernel) (by decide +kernel)
theorem kw_1110 : Cond.methodLink "BagatelleModel" 250 yX6_seesBy ∈ ba_tb := ba_mem (i := 1110) (by decide +kernel) (by decide +kernel)
theorem kw_1112 : Cond.instanceMethod yX6_seesBy ∈ ba_tb := ba_mem (i := 1112) (by decide +kernel) (by decide +kernel)
theorem kw_51 : Cond.selects RX6 yX6_seesBy yX6_seesBy ∈ ba_tb := ba_mem (i := 51) (by decide +kernel) (by decide +kernel)
theorem kw_1121 : Cond.code yX6_endsBy cX6_endsBy 3 (some .int) ∈ ba_tb := ba_mem (i := 1121) (by decide +kernel) (by decide +kernel)
theorem kw_1118 : Cond.methodLink "BagatelleModel" 253 yX6_endsBy ∈ ba_tb := ba_mem (i := 1118) (by decide +kernel) (by decide +kernel)
theorem kw_1120 : Cond.instanceMethod yX6_endsBy ∈ ba_tb := ba_mem (i := 1120) (by decide +kernel) (by decide +kernel)
theorem kw_52 : Cond.selects RX6 yX6_endsBy yX6_endsBy ∈ ba_tb := ba_mem (i := 52) (by decide +kernel) (by decide +kernel)
theorem kw_1133 : Cond.code yX6_score cX6_score 3 (some .int) ∈ ba_tb := ba_mem (i := 1133) (by decide +kernel) (by decide +kernel)
theorem kw_1130 : Cond.methodLink "BagatelleModel" 256 yX6_score ∈ ba_tb := ba_mem (i := 1130) (by decide +kernel) (by decide +kernel)
theorem kw_1132 : Cond.instanceMethod yX6_score ∈ ba_tb := ba_mem (i := 1132) (by decide +kernel) (by decide +kernel)
theorem kw_54 : Cond.selects RX6 yX6_score yX6_score ∈ ba_tb := ba_mem (i := 54) (by decide +kernel) (by decide +kernel)
theorem kw_1137 : Cond.code yX6_manyIn cX6_manyIn 4 (some .int) ∈ ba_tb := ba_mem (i := 1137) (by decide +kernel) (by decide +kernel)
theorem kw_1134 : Cond.methodLink "BagatelleModel" 259 yX6_manyIn ∈ ba_tb := ba_mem (i := 1134) (by decide +kernel) (by decide +kernel)
theorem kw_1136 : Cond.instanceMethod yX6_manyIn ∈ ba_tb := ba_mem (i := 1136) (by decide +kernel) (by decide +kernel)
theorem kw_55 : Cond.selects RX6 yX6_manyIn yX6_manyIn ∈ ba_tb := ba_mem (i := 55) (by decide +kernel) (by decide +kernel)
theorem kw_1129 : Cond.code yX6_sumBy cX6_sumBy 2 (some .int) ∈ ba_tb := ba_mem (i := 1129) (by decide +kernel) (by decide +kernel)
theorem kw_1126 : Cond.methodLink "BagatelleModel" 262 yX6_sumBy ∈ ba_tb := ba_mem (i := 1126) (by decide +kernel) (by decide +kernel)
theorem kw_1128 : Cond.instanceMethod yX6_sumBy ∈ ba_tb := ba_mem (i := 1128) (by decide +kernel) (by decide +kernel)
theorem kw_53 : Cond.selects RX6 yX6_sumBy yX6_sumBy ∈ ba_tb := ba_mem (i := 53) (by decide +kernel) (by decide +kernel)
theorem kw_1145 : Cond.code yX6_lateNow cX6_lateNow 3 (some .int) ∈ ba_tb := ba_mem (i := 1145) (by decide +kernel) (by decide +kernel)
theorem kw_1142 : Cond.methodLink "BagatelleModel" 265 yX6_lateNow ∈ ba_tb := ba_mem (i := 1142) (by decide +kernel) (by decide +kernel)
theorem kw_1144 : Cond.instanceMethod yX6_lateNow ∈ ba_tb := ba_mem (i := 1144) (by decide +kernel) (by decide +kernel)
theorem kw_56 : Cond.selects RX6 yX6_lateNow yX6_lateNow ∈ ba_tb := ba_mem (i := 56) (by decide +kernel) (by decide +kernel)
theorem kw_1156 : Cond.code yX6_greater cX6_greater 2 (some .int) ∈ ba_tb := ba_mem (i := 1156) (by decide +kernel) (by decide +kernel)
theorem kw_1154 : Cond.methodLink "BagatelleModel" 268 yX6_greater ∈ ba_tb := ba_mem (i := 1154) (by decide +kernel) (by decide +kernel)
theorem kw_1155 : Cond.static yX6_greater ∈ ba_tb := ba_mem (i := 1155) (by decide +kernel) (by decide +kernel)
theorem kw_1153 : Cond.code yX6_bestNow cX6_bestNow 4 (some .int) ∈ ba_tb := ba_mem (i := 1153) (by decide +kernel) (by decide +kernel)
theorem kw_1150 : Cond.methodLink "BagatelleModel" 271 yX6_bestNow ∈ ba_tb := ba_mem (i := 1150) (by decide +kernel) (by decide +kernel)
theorem kw_1152 : Cond.instanceMethod yX6_bestNow ∈ ba_tb := ba_mem (i := 1152) (by decide +kernel) (by decide +kernel)
theorem kw_57 : Cond.selects RX6 yX6_bestNow yX6_bestNow ∈ ba_tb := ba_mem (i := 57) (by decide +kernel) (by decide +kernel)
theorem kw_1164 : Cond.code yX6_jamBy cX6_jamBy 4 (some .int) ∈ ba_tb := ba_mem (i := 1164) (by decide +kernel) (by decide +kernel)
theorem kw_1161 : Cond.methodLink "BagatelleModel" 274 yX6_jamBy ∈ ba_tb := ba_mem (i := 1161) (by decide +kernel) (by decide +kernel)
theorem kw_1163 : Cond.instanceMethod yX6_jamBy ∈ ba_tb := ba_mem (i := 1163) (by decide +kernel) (by decide +kernel)
theorem kw_58 : Cond.selects RX6 yX6_jamBy yX6_jamBy ∈ ba_tb := ba_mem (i := 58) (by decide +kernel) (by decide +kernel)
theorem kw_1172 : Cond.code yX6_ballBetter cX6_ballBetter 10 (some .int) ∈ ba_tb := ba_mem (i := 1172) (by decide +kernel) (by decide +kernel)
theorem kw_1169 : Cond.methodLink "BagatelleModel" 277 yX6_ballBetter ∈ ba_tb := ba_mem (i := 1169) (by decide +kernel) (by decide +kernel)
theorem kw_1171 : Cond.instanceMethod yX6_ballBetter ∈ ba_tb := ba_mem (i := 1171) (by decide +kernel) (by decide +kernel)
theorem kw_59 : Cond.selects RX6 yX6_ballBetter yX6_ballBetter ∈ ba_tb := ba_mem (i := 59) (by decide +kernel) (by decide +kernel)
theorem kw_1184 : Cond.code yX6_bendOf cX6_bendOf 8 (some .int) ∈ ba_tb := ba_mem (i := 1184) (by decide +kernel) (by decide +kernel)
theorem kw_1181 : Cond.methodLink "BagatelleModel" 281 yX6_bendOf ∈ ba_tb := ba_mem (i := 1181) (by decide +kernel) (by decide +kernel)
theorem kw_1183 : Cond.instanceMethod yX6_bendOf ∈ ba_tb := ba_mem (i := 1183) (by decide +kernel) (by decide +kernel)
theorem kw_60 : Cond.selects RX6 yX6_bendOf yX6_bendOf ∈ ba_tb := ba_mem (i := 60) (by decide +kernel) (by decide +kernel)
theorem kw_1197 : Cond.code yX6_isSpared cX6_isSpared 2 (some .boolean) ∈ ba_tb := ba_mem (i := 1197) (by decide +kernel) (by decide +kernel)
theorem kw_1194 : Cond.methodLink "BagatelleModel" 284 yX6_isSpared ∈ ba_tb := ba_mem (i := 1194) (by decide +kernel) (by decide +kernel)
theorem kw_1196 : Cond.instanceMethod yX6_isSpared ∈ ba_tb := ba_mem (i := 1196) (by decide +kernel) (by decide +kernel)
theorem kw_62 : Cond.selects RX6 yX6_isSpared yX6_isSpared ∈ ba_tb := ba_mem (i := 62) (by decide +kernel) (by decide +kernel)
theorem kw_1189 : Cond.constantLong "BagatelleModel" 287 (-1) ∈ ba_tb := ba_mem (i := 1189) (by decide +kernel) (by decide +kernel)
theorem kw_1193 : Cond.code yX6_spareBy cX6_spareBy 4 (some .int) ∈ ba_tb := ba_mem (i := 1193) (by decide +kernel) (by decide +kernel)
theorem kw_1190 : Cond.methodLink "BagatelleModel" 289 yX6_spareBy ∈ ba_tb := ba_mem (i := 1190) (by decide +kernel) (by decide +kernel)
theorem kw_1192 : Cond.instanceMethod yX6_spareBy ∈ ba_tb := ba_mem (i := 1192) (by decide +kernel) (by decide +kernel)
theorem kw_61 : Cond.selects RX6 yX6_spareBy yX6_spareBy ∈ ba_tb := ba_mem (i := 61) (by decide +kernel) (by decide +kernel)
theorem kw_1202 : Cond.constantLong "BagatelleModel" 292 12 ∈ ba_tb := ba_mem (i := 1202) (by decide +kernel) (by decide +kernel)
theorem kw_820 : Cond.fieldLink "BagatelleModel" 294 "BagatelleModel" "sights" "I" ∈ ba_tb := ba_mem (i := 820) (by decide +kernel) (by decide +kernel)
theorem kw_821 : Cond.fieldLink "BagatelleModel" 76 "BagatelleModel" "sight" "[I" ∈ ba_tb := ba_mem (i := 821) (by decide +kernel) (by decide +kernel)
theorem kw_1218 : Cond.code yX6_isSeen cX6_isSeen 4 (some .boolean) ∈ ba_tb := ba_mem (i := 1218) (by decide +kernel) (by decide +kernel)
theorem kw_1215 : Cond.methodLink "BagatelleModel" 297 yX6_isSeen ∈ ba_tb := ba_mem (i := 1215) (by decide +kernel) (by decide +kernel)
theorem kw_1217 : Cond.instanceMethod yX6_isSeen ∈ ba_tb := ba_mem (i := 1217) (by decide +kernel) (by decide +kernel)
theorem kw_64 : Cond.selects RX6 yX6_isSeen yX6_isSeen ∈ ba_tb := ba_mem (i := 64) (by decide +kernel) (by decide +kernel)
theorem kw_1214 : Cond.code yX6_neverNow cX6_neverNow 3 (some .int) ∈ ba_tb := ba_mem (i := 1214) (by decide +kernel) (by decide +kernel)
theorem kw_1211 : Cond.methodLink "BagatelleModel" 301 yX6_neverNow ∈ ba_tb := ba_mem (i := 1211) (by decide +kernel) (by decide +kernel)
theorem kw_1213 : Cond.instanceMethod yX6_neverNow ∈ ba_tb := ba_mem (i := 1213) (by decide +kernel) (by decide +kernel)
theorem kw_63 : Cond.selects RX6 yX6_neverNow yX6_neverNow ∈ ba_tb := ba_mem (i := 63) (by decide +kernel) (by decide +kernel)
theorem kw_822 : Cond.fieldLink "BagatelleModel" 79 "BagatelleModel" "ways" "[I" ∈ ba_tb := ba_mem (i := 822) (by decide +kernel) (by decide +kernel)
theorem kw_1226 : Cond.code yX6_forcesOf cX6_forcesOf 6 (some .int) ∈ ba_tb := ba_mem (i := 1226) (by decide +kernel) (by decide +kernel)
theorem kw_1223 : Cond.methodLink "BagatelleModel" 304 yX6_forcesOf ∈ ba_tb := ba_mem (i := 1223) (by decide +kernel) (by decide +kernel)
theorem kw_1225 : Cond.instanceMethod yX6_forcesOf ∈ ba_tb := ba_mem (i := 1225) (by decide +kernel) (by decide +kernel)
theorem kw_65 : Cond.selects RX6 yX6_forcesOf yX6_forcesOf ∈ ba_tb := ba_mem (i := 65) (by decide +kernel) (by decide +kernel)
theorem kw_1234 : Cond.code yX6_kindOf cX6_kindOf 5 (some .int) ∈ ba_tb := ba_mem (i := 1234) (by decide +kernel) (by decide +kernel)
theorem kw_1231 : Cond.methodLink "BagatelleModel" 307 yX6_kindOf ∈ ba_tb := ba_mem (i := 1231) (by decide +kernel) (by decide +kernel)
theorem kw_1233 : Cond.instanceMethod yX6_kindOf ∈ ba_tb := ba_mem (i := 1233) (by decide +kernel) (by decide +kernel)
theorem kw_66 : Cond.selects RX6 yX6_kindOf yX6_kindOf ∈ ba_tb := ba_mem (i := 66) (by decide +kernel) (by decide +kernel)
theorem kw_1250 : Cond.code yX6_same cX6_same 6 (some .boolean) ∈ ba_tb := ba_mem (i := 1250) (by decide +kernel) (by decide +kernel)
theorem kw_1247 : Cond.methodLink "BagatelleModel" 310 yX6_same ∈ ba_tb := ba_mem (i := 1247) (by decide +kernel) (by decide +kernel)
theorem kw_1249 : Cond.instanceMethod yX6_same ∈ ba_tb := ba_mem (i := 1249) (by decide +kernel) (by decide +kernel)
theorem kw_69 : Cond.selects RX6 yX6_same yX6_same ∈ ba_tb := ba_mem (i := 69) (by decide +kernel) (by decide +kernel)
theorem kw_1246 : Cond.code yX6_alike cX6_alike 7 (some .int) ∈ ba_tb := ba_mem (i := 1246) (by decide +kernel) (by decide +kernel)
theorem kw_1243 : Cond.methodLink "BagatelleModel" 314 yX6_alike ∈ ba_tb := ba_mem (i := 1243) (by decide +kernel) (by decide +kernel)
theorem kw_1245 : Cond.instanceMethod yX6_alike ∈ ba_tb := ba_mem (i := 1245) (by decide +kernel) (by decide +kernel)
theorem kw_68 : Cond.selects RX6 yX6_alike yX6_alike ∈ ba_tb := ba_mem (i := 68) (by decide +kernel) (by decide +kernel)
theorem kw_1253 : Cond.code yX6_lesser cX6_lesser 2 (some .int) ∈ ba_tb := ba_mem (i := 1253) (by decide +kernel) (by decide +kernel)
theorem kw_1251 : Cond.methodLink "BagatelleModel" 317 yX6_lesser ∈ ba_tb := ba_mem (i := 1251) (by decide +kernel) (by decide +kernel)
theorem kw_1252 : Cond.static yX6_lesser ∈ ba_tb := ba_mem (i := 1252) (by decide +kernel) (by decide +kernel)
theorem kw_1242 : Cond.code yX6_askOf cX6_askOf 7 (some .int) ∈ ba_tb := ba_mem (i := 1242) (by decide +kernel) (by decide +kernel)
theorem kw_1239 : Cond.methodLink "BagatelleModel" 320 yX6_askOf ∈ ba_tb := ba_mem (i := 1239) (by decide +kernel) (by decide +kernel)
theorem kw_1241 : Cond.instanceMethod yX6_askOf ∈ ba_tb := ba_mem (i := 1241) (by decide +kernel) (by decide +kernel)
theorem kw_67 : Cond.selects RX6 yX6_askOf yX6_askOf ∈ ba_tb := ba_mem (i := 67) (by decide +kernel) (by decide +kernel)
theorem kw_1265 : Cond.code yX6_part cX6_part 11 (some .long) ∈ ba_tb := ba_mem (i := 1265) (by decide +kernel) (by decide +kernel)
theorem kw_1263 : Cond.methodLink "BagatelleModel" 323 yX6_part ∈ ba_tb := ba_mem (i := 1263) (by decide +kernel) (by decide +kernel)
theorem kw_1264 : Cond.static yX6_part ∈ ba_tb := ba_mem (i := 1264) (by decide +kernel) (by decide +kernel)
theorem kw_1258 : Cond.constantLong "BagatelleModel" 327 16 ∈ ba_tb := ba_mem (i := 1258) (by decide +kernel) (by decide +kernel)
theorem kw_1268 : Cond.code yX6_no cX6_no 1 (some .long) ∈ ba_tb := ba_mem (i := 1268) (by decide +kernel) (by decide +kernel)
theorem kw_1266 : Cond.methodLink "BagatelleModel" 333 yX6_no ∈ ba_tb := ba_mem (i := 1266) (by decide +kernel) (by decide +kernel)
theorem kw_1267 : Cond.static yX6_no ∈ ba_tb := ba_mem (i := 1267) (by decide +kernel) (by decide +kernel)
theorem kw_1262 : Cond.code yX6_chanceOf cX6_chanceOf 10 (some .long) ∈ ba_tb := ba_mem (i := 1262) (by decide +kernel) (by decide +kernel)
theorem kw_1259 : Cond.methodLink "BagatelleModel" 329 yX6_chanceOf ∈ ba_tb := ba_mem (i := 1259) (by decide +kernel) (by decide +kernel)
theorem kw_1261 : Cond.instanceMethod yX6_chanceOf ∈ ba_tb := ba_mem (i := 1261) (by decide +kernel) (by decide +kernel)
theorem kw_70 : Cond.selects RX6 yX6_chanceOf yX6_chanceOf ∈ ba_tb := ba_mem (i := 70) (by decide +kernel) (by decide +kernel)
theorem kw_1282 : Cond.constant "BagatelleModel" 337 1103515245 ∈ ba_tb := ba_mem (i := 1282) (by decide +kernel) (by decide +kernel)
theorem kw_823 : Cond.fieldLink "BagatelleModel" 338 "BagatelleModel" "drawn" "I" ∈ ba_tb := ba_mem (i := 823) (by decide +kernel) (by decide +kernel)
theorem kw_1281 : Cond.code yX6_lot cX6_lot 2 (some .int) ∈ ba_tb := ba_mem (i := 1281) (by decide +kernel) (by decide +kernel)
theorem kw_1278 : Cond.methodLink "BagatelleModel" 341 yX6_lot ∈ ba_tb := ba_mem (i := 1278) (by decide +kernel) (by decide +kernel)
theorem kw_1280 : Cond.instanceMethod yX6_lot ∈ ba_tb := ba_mem (i := 1280) (by decide +kernel) (by decide +kernel)
theorem kw_72 : Cond.selects RX6 yX6_lot yX6_lot ∈ ba_tb := ba_mem (i := 72) (by decide +kernel) (by decide +kernel)
theorem kw_1277 : Cond.code yX6_sundaysOf cX6_sundaysOf 5 (some .int) ∈ ba_tb := ba_mem (i := 1277) (by decide +kernel) (by decide +kernel)
theorem kw_1274 : Cond.methodLink "BagatelleModel" 344 yX6_sundaysOf ∈ ba_tb := ba_mem (i := 1274) (by decide +kernel) (by decide +kernel)
theorem kw_1276 : Cond.instanceMethod yX6_sundaysOf ∈ ba_tb := ba_mem (i := 1276) (by decide +kernel) (by decide +kernel)
theorem kw_71 : Cond.selects RX6 yX6_sundaysOf yX6_sundaysOf ∈ ba_tb := ba_mem (i := 71) (by decide +kernel) (by decide +kernel)
theorem kw_1294 : Cond.code yX6_onBoard cX6_onBoard 3 (some .int) ∈ ba_tb := ba_mem (i := 1294) (by decide +kernel) (by decide +kernel)
theorem kw_1291 : Cond.methodLink "BagatelleModel" 347 yX6_onBoard ∈ ba_tb := ba_mem (i := 1291) (by decide +kernel) (by decide +kernel)
theorem kw_1293 : Cond.instanceMethod yX6_onBoard ∈ ba_tb := ba_mem (i := 1293) (by decide +kernel) (by decide +kernel)
theorem kw_73 : Cond.selects RX6 yX6_onBoard yX6_onBoard ∈ ba_tb := ba_mem (i := 73) (by decide +kernel) (by decide +kernel)
theorem kw_1300 : Cond.constantLong "BagatelleModel" 350 31 ∈ ba_tb := ba_mem (i := 1300) (by decide +kernel) (by decide +kernel)
theorem kw_1313 : Cond.code yX6_tellsTick cX6_tellsTick 7 (some .long) ∈ ba_tb := ba_mem (i := 1313) (by decide +kernel) (by decide +kernel)
theorem kw_1310 : Cond.methodLink "BagatelleModel" 352 yX6_tellsTick ∈ ba_tb := ba_mem (i := 1310) (by decide +kernel) (by decide +kernel)
theorem kw_1312 : Cond.instanceMethod yX6_tellsTick ∈ ba_tb := ba_mem (i := 1312) (by decide +kernel) (by decide +kernel)
theorem kw_76 : Cond.selects RX6 yX6_tellsTick yX6_tellsTick ∈ ba_tb := ba_mem (i := 76) (by decide +kernel) (by decide +kernel)
theorem kw_1299 : Cond.constantLong "BagatelleModel" 356 17 ∈ ba_tb := ba_mem (i := 1299) (by decide +kernel) (by decide +kernel)
theorem kw_1290 : Cond.code yX6_count cX6_count 2 (some .int) ∈ ba_tb := ba_mem (i := 1290) (by decide +kernel) (by decide +kernel)
theorem kw_1301 : Cond.methodLink "BagatelleModel" 358 yX6_count ∈ ba_tb := ba_mem (i := 1301) (by decide +kernel) (by decide +kernel)
theorem kw_1288 : Cond.instanceMethod yX6_count ∈ ba_tb := ba_mem (i := 1288) (by decide +kernel) (by decide +kernel)
theorem kw_1289 : Cond.selects "BagatelleModel" yX6_count yX6_count ∈ ba_tb := ba_mem (i := 1289) (by decide +kernel) (by decide +kernel)
theorem kw_1305 : Cond.code yX6_tellsPin cX6_tellsPin 7 (some .long) ∈ ba_tb := ba_mem (i := 1305) (by decide +kernel) (by decide +kernel)
theorem kw_1302 : Cond.methodLink "BagatelleModel" 361 yX6_tellsPin ∈ ba_tb := ba_mem (i := 1302) (by decide +kernel) (by decide +kernel)
theorem kw_1304 : Cond.instanceMethod yX6_tellsPin ∈ ba_tb := ba_mem (i := 1304) (by decide +kernel) (by decide +kernel)
theorem kw_74 : Cond.selects RX6 yX6_tellsPin yX6_tellsPin ∈ ba_tb := ba_mem (i := 74) (by decide +kernel) (by decide +kernel)
theorem kw_1309 : Cond.code yX6_tellsBall cX6_tellsBall 7 (some .long) ∈ ba_tb := ba_mem (i := 1309) (by decide +kernel) (by decide +kernel)
theorem kw_1306 : Cond.methodLink "BagatelleModel" 365 yX6_tellsBall ∈ ba_tb := ba_mem (i := 1306) (by decide +kernel) (by decide +kernel)
theorem kw_1308 : Cond.instanceMethod yX6_tellsBall ∈ ba_tb := ba_mem (i := 1308) (by decide +kernel) (by decide +kernel)
theorem kw_75 : Cond.selects RX6 yX6_tellsBall yX6_tellsBall ∈ ba_tb := ba_mem (i := 75) (by decide +kernel) (by decide +kernel)
theorem kw_745 : Cond.constant "java/lang/Integer" 265 1431655765 ∈ ba_tb := ba_mem (i := 745) (by decide +kernel) (by decide +kernel)
theorem kw_746 : Cond.constant "java/lang/Integer" 266 858993459 ∈ ba_tb := ba_mem (i := 746) (by decide +kernel) (by decide +kernel)
theorem kw_747 : Cond.constant "java/lang/Integer" 267 252645135 ∈ ba_tb := ba_mem (i := 747) (by decide +kernel) (by decide +kernel)
theorem kw_153 : Cond.laysFinal "Bagatelle$Board" "Bagatelle$Board" "pinCells" "[I" ∈ ba_tb := ba_mem (i := 153) (by decide +kernel) (by decide +kernel)
theorem kw_155 : Cond.laysFinal "Bagatelle$Board" "Bagatelle$Board" "pinSorts" "[I" ∈ ba_tb := ba_mem (i := 155) (by decide +kernel) (by decide +kernel)
theorem kw_157 : Cond.laysFinal "Bagatelle$Board" "Bagatelle$Board" "pinIn" "[I" ∈ ba_tb := ba_mem (i := 157) (by decide +kernel) (by decide +kernel)
theorem kw_159 : Cond.lays "Bagatelle$Board" "Bagatelle$Board" "pinCount" "I" ∈ ba_tb := ba_mem (i := 159) (by decide +kernel) (by decide +kernel)
theorem kw_161 : Cond.laysFinal "Bagatelle$Board" "Bagatelle$Board" "worths" "[I" ∈ ba_tb := ba_mem (i := 161) (by decide +kernel) (by decide +kernel)
theorem kw_163 : Cond.laysFinal "Bagatelle$Board" "Bagatelle$Board" "ballTicks" "[I" ∈ ba_tb := ba_mem (i := 163) (by decide +kernel) (by decide +kernel)
theorem kw_165 : Cond.laysFinal "Bagatelle$Board" "Bagatelle$Board" "ballHards" "[I" ∈ ba_tb := ba_mem (i := 165) (by decide +kernel) (by decide +kernel)
theorem kw_167 : Cond.lays "Bagatelle$Board" "Bagatelle$Board" "ballCount" "I" ∈ ba_tb := ba_mem (i := 167) (by decide +kernel) (by decide +kernel)
theorem kw_169 : Cond.lays "Bagatelle$Board" "Bagatelle$Board" "room" "I" ∈ ba_tb := ba_mem (i := 169) (by decide +kernel) (by decide +kernel)
theorem kw_171 : Cond.laysFinal "Bagatelle$Board" "Bagatelle$Board" "events" "LBagatelle$Slips;" ∈ ba_tb := ba_mem (i := 171) (by decide +kernel) (by decide +kernel)
theorem kw_210 : Cond.laysFinal "Bagatelle$Course" "Bagatelle$Course" "board" "LBagatelle$Board;" ∈ ba_tb := ba_mem (i := 210) (by decide +kernel) (by decide +kernel)
theorem kw_212 : Cond.laysFinal "Bagatelle$Course" "Bagatelle$Course" "sorts" "[I" ∈ ba_tb := ba_mem (i := 212) (by decide +kernel) (by decide +kernel)
theorem kw_214 : Cond.laysFinal "Bagatelle$Course" "Bagatelle$Course" "ticks" "[I" ∈ ba_tb := ba_mem (i := 214) (by decide +kernel) (by decide +kernel)
theorem kw_216 : Cond.laysFinal "Bagatelle$Course" "Bagatelle$Course" "hards" "[I" ∈ ba_tb := ba_mem (i := 216) (by decide +kernel) (by decide +kernel)
theorem kw_218 : Cond.lays "Bagatelle$Course" "Bagatelle$Course" "ballCount" "I" ∈ ba_tb := ba_mem (i := 218) (by decide +kernel) (by decide +kernel)
theorem kw_220 : Cond.lays "Bagatelle$Course" "Bagatelle$Course" "kept" "I" ∈ ba_tb := ba_mem (i := 220) (by decide +kernel) (by decide +kernel)
theorem kw_222 : Cond.laysFinal "Bagatelle$Course" "Bagatelle$Course" "ways" "[I" ∈ ba_tb := ba_mem (i := 222) (by decide +kernel) (by decide +kernel)
theorem kw_224 : Cond.laysFinal "Bagatelle$Course" "Bagatelle$Course" "ballOn" "[I" ∈ ba_tb := ba_mem (i := 224) (by decide +kernel) (by decide +kernel)
theorem kw_226 : Cond.laysFinal "Bagatelle$Course" "Bagatelle$Course" "ballsInRow" "[I" ∈ ba_tb := ba_mem (i := 226) (by decide +kernel) (by decide +kernel)
theorem kw_228 : Cond.laysFinal "Bagatelle$Course" "Bagatelle$Course" "place" "[I" ∈ ba_tb := ba_mem (i := 228) (by decide +kernel) (by decide +kernel)
theorem kw_230 : Cond.lays "Bagatelle$Course" "Bagatelle$Course" "waiting" "I" ∈ ba_tb := ba_mem (i := 230) (by decide +kernel) (by decide +kernel)
theorem kw_232 : Cond.laysFinal "Bagatelle$Course" "Bagatelle$Course" "places" "[I" ∈ ba_tb := ba_mem (i := 232) (by decide +kernel) (by decide +kernel)
theorem kw_234 : Cond.laysFinal "Bagatelle$Course" "Bagatelle$Course" "inCup" "[I" ∈ ba_tb := ba_mem (i := 234) (by decide +kernel) (by decide +kernel)
theorem kw_236 : Cond.laysFinal "Bagatelle$Course" "Bagatelle$Course" "fellIn" "[I" ∈ ba_tb := ba_mem (i := 236) (by decide +kernel) (by decide +kernel)
theorem kw_238 : Cond.laysFinal "Bagatelle$Course" "Bagatelle$Course" "brings" "[I" ∈ ba_tb := ba_mem (i := 238) (by decide +kernel) (by decide +kernel)
theorem kw_240 : Cond.laysFinal "Bagatelle$Course" "Bagatelle$Course" "endTicks" "[I" ∈ ba_tb := ba_mem (i := 240) (by decide +kernel) (by decide +kernel)
theorem kw_242 : Cond.laysFinal "Bagatelle$Course" "Bagatelle$Course" "heldTimes" "[I" ∈ ba_tb := ba_mem (i := 242) (by decide +kernel) (by decide +kernel)
theorem kw_244 : Cond.laysFinal "Bagatelle$Course" "Bagatelle$Course" "heldIn" "[I" ∈ ba_tb := ba_mem (i := 244) (by decide +kernel) (by decide +kernel)
theorem kw_246 : Cond.lays "Bagatelle$Course" "Bagatelle$Course" "rings" "I" ∈ ba_tb := ba_mem (i := 246) (by decide +kernel) (by decide +kernel)
theorem kw_283 : Cond.laysFinal "Bagatelle$Sheet" "Bagatelle$Sheet" "items" "[I" ∈ ba_tb := ba_mem (i := 283) (by decide +kernel) (by decide +kernel)
theorem kw_285 : Cond.lays "Bagatelle$Sheet" "Bagatelle$Sheet" "form" "I" ∈ ba_tb := ba_mem (i := 285) (by decide +kernel) (by decide +kernel)
theorem kw_287 : Cond.lays "Bagatelle$Sheet" "Bagatelle$Sheet" "size" "I" ∈ ba_tb := ba_mem (i := 287) (by decide +kernel) (by decide +kernel)
theorem kw_289 : Cond.lays "Bagatelle$Sheet" "Bagatelle$Sheet" "isLost" "Z" ∈ ba_tb := ba_mem (i := 289) (by decide +kernel) (by decide +kernel)
theorem kw_116 : Cond.laysFinal "Bagatelle$Slips" "Bagatelle$Slips" "numbers" "[I" ∈ ba_tb := ba_mem (i := 116) (by decide +kernel) (by decide +kernel)
theorem kw_118 : Cond.lays "Bagatelle$Slips" "Bagatelle$Slips" "size" "I" ∈ ba_tb := ba_mem (i := 118) (by decide +kernel) (by decide +kernel)
theorem kw_264 : Cond.laysFinal "Bagatelle$Text" "Bagatelle$Text" "bytes" "[I" ∈ ba_tb := ba_mem (i := 264) (by decide +kernel) (by decide +kernel)
theorem kw_266 : Cond.lays "Bagatelle$Text" "Bagatelle$Text" "size" "I" ∈ ba_tb := ba_mem (i := 266) (by decide +kernel) (by decide +kernel)
theorem kw_311 : Cond.laysFinal "Bagatelle" "Bagatelle" "texts" "[LBagatelle$Text;" ∈ ba_tb := ba_mem (i := 311) (by decide +kernel) (by decide +kernel)
theorem kw_313 : Cond.laysFinal "Bagatelle" "Bagatelle" "faults" "[I" ∈ ba_tb := ba_mem (i := 313) (by decide +kernel) (by decide +kernel)
theorem kw_315 : Cond.laysFinal "Bagatelle" "Bagatelle" "board" "LBagatelle$Board;" ∈ ba_tb := ba_mem (i := 315) (by decide +kernel) (by decide +kernel)
theorem kw_317 : Cond.laysFinal "Bagatelle" "Bagatelle" "told" "LBagatelle$Course;" ∈ ba_tb := ba_mem (i := 317) (by decide +kernel) (by decide +kernel)
theorem kw_319 : Cond.laysFinal "Bagatelle" "Bagatelle" "tried" "LBagatelle$Course;" ∈ ba_tb := ba_mem (i := 319) (by decide +kernel) (by decide +kernel)
theorem kw_321 : Cond.laysFinal "Bagatelle" "Bagatelle" "sights" "LBagatelle$Slips;" ∈ ba_tb := ba_mem (i := 321) (by decide +kernel) (by decide +kernel)
theorem kw_323 : Cond.laysFinal "Bagatelle" "Bagatelle" "sheets" "[LBagatelle$Sheet;" ∈ ba_tb := ba_mem (i := 323) (by decide +kernel) (by decide +kernel)
theorem kw_325 : Cond.lays "Bagatelle" "Bagatelle" "finding" "I" ∈ ba_tb := ba_mem (i := 325) (by decide +kernel) (by decide +kernel)
theorem kw_327 : Cond.lays "Bagatelle" "Bagatelle" "toldIsRun" "Z" ∈ ba_tb := ba_mem (i := 327) (by decide +kernel) (by decide +kernel)
theorem kw_329 : Cond.lays "Bagatelle" "Bagatelle" "searched" "I" ∈ ba_tb := ba_mem (i := 329) (by decide +kernel) (by decide +kernel)
theorem kw_331 : Cond.lays "Bagatelle" "Bagatelle" "chosen" "I" ∈ ba_tb := ba_mem (i := 331) (by decide +kernel) (by decide +kernel)
theorem kw_333 : Cond.lays "Bagatelle" "Bagatelle" "chosenScore" "I" ∈ ba_tb := ba_mem (i := 333) (by decide +kernel) (by decide +kernel)
theorem kw_335 : Cond.lays "Bagatelle" "Bagatelle" "sparesKnown" "Z" ∈ ba_tb := ba_mem (i := 335) (by decide +kernel) (by decide +kernel)
theorem kw_337 : Cond.lays "Bagatelle" "Bagatelle" "spareCount" "I" ∈ ba_tb := ba_mem (i := 337) (by decide +kernel) (by decide +kernel)
theorem kw_339 : Cond.lays "Bagatelle" "Bagatelle" "firstSpare" "I" ∈ ba_tb := ba_mem (i := 339) (by decide +kernel) (by decide +kernel)
theorem kw_341 : Cond.lays "Bagatelle" "Bagatelle" "secondSpare" "I" ∈ ba_tb := ba_mem (i := 341) (by decide +kernel) (by decide +kernel)
theorem kw_343 : Cond.lays "Bagatelle" "Bagatelle" "bringersKnown" "Z" ∈ ba_tb := ba_mem (i := 343) (by decide +kernel) (by decide +kernel)
theorem kw_345 : Cond.laysFinal "Bagatelle" "Bagatelle" "bringers" "[I" ∈ ba_tb := ba_mem (i := 345) (by decide +kernel) (by decide +kernel)
theorem kw_347 : Cond.laysFinal "Bagatelle" "Bagatelle" "marks" "[J" ∈ ba_tb := ba_mem (i := 347) (by decide +kernel) (by decide +kernel)
theorem kw_824 : Cond.laysFinal "BagatelleModel" "BagatelleModel" "forms" "[I" ∈ ba_tb := ba_mem (i := 824) (by decide +kernel) (by decide +kernel)
theorem kw_826 : Cond.laysFinal "BagatelleModel" "BagatelleModel" "sizes" "[I" ∈ ba_tb := ba_mem (i := 826) (by decide +kernel) (by decide +kernel)
theorem kw_828 : Cond.laysFinal "BagatelleModel" "BagatelleModel" "items" "[I" ∈ ba_tb := ba_mem (i := 828) (by decide +kernel) (by decide +kernel)
theorem kw_830 : Cond.laysFinal "BagatelleModel" "BagatelleModel" "moved" "[I" ∈ ba_tb := ba_mem (i := 830) (by decide +kernel) (by decide +kernel)
theorem kw_832 : Cond.lays "BagatelleModel" "BagatelleModel" "latest" "I" ∈ ba_tb := ba_mem (i := 832) (by decide +kernel) (by decide +kernel)
theorem kw_834 : Cond.laysFinal "BagatelleModel" "BagatelleModel" "bytes" "[I" ∈ ba_tb := ba_mem (i := 834) (by decide +kernel) (by decide +kernel)
theorem kw_836 : Cond.laysFinal "BagatelleModel" "BagatelleModel" "typed" "[I" ∈ ba_tb := ba_mem (i := 836) (by decide +kernel) (by decide +kernel)
theorem kw_838 : Cond.lays "BagatelleModel" "BagatelleModel" "pins" "I" ∈ ba_tb := ba_mem (i := 838) (by decide +kernel) (by decide +kernel)
theorem kw_840 : Cond.laysFinal "BagatelleModel" "BagatelleModel" "pin" "[I" ∈ ba_tb := ba_mem (i := 840) (by decide +kernel) (by decide +kernel)
theorem kw_842 : Cond.laysFinal "BagatelleModel" "BagatelleModel" "worth" "[I" ∈ ba_tb := ba_mem (i := 842) (by decide +kernel) (by decide +kernel)
theorem kw_844 : Cond.lays "BagatelleModel" "BagatelleModel" "balls" "I" ∈ ba_tb := ba_mem (i := 844) (by decide +kernel) (by decide +kernel)
theorem kw_846 : Cond.laysFinal "BagatelleModel" "BagatelleModel" "ball" "[I" ∈ ba_tb := ba_mem (i := 846) (by decide +kernel) (by decide +kernel)
theorem kw_848 : Cond.lays "BagatelleModel" "BagatelleModel" "room" "I" ∈ ba_tb := ba_mem (i := 848) (by decide +kernel) (by decide +kernel)
theorem kw_850 : Cond.lays "BagatelleModel" "BagatelleModel" "events" "I" ∈ ba_tb := ba_mem (i := 850) (by decide +kernel) (by decide +kernel)
theorem kw_852 : Cond.laysFinal "BagatelleModel" "BagatelleModel" "event" "[I" ∈ ba_tb := ba_mem (i := 852) (by decide +kernel) (by decide +kernel)
theorem kw_854 : Cond.lays "BagatelleModel" "BagatelleModel" "gone" "I" ∈ ba_tb := ba_mem (i := 854) (by decide +kernel) (by decide +kernel)
theorem kw_856 : Cond.laysFinal "BagatelleModel" "BagatelleModel" "row" "[I" ∈ ba_tb := ba_mem (i := 856) (by decide +kernel) (by decide +kernel)
theorem kw_858 : Cond.laysFinal "BagatelleModel" "BagatelleModel" "column" "[I" ∈ ba_tb := ba_mem (i := 858) (by decide +kernel) (by decide +kernel)
theorem kw_860 : Cond.laysFinal "BagatelleModel" "BagatelleModel" "brings" "[I" ∈ ba_tb := ba_mem (i := 860) (by decide +kernel) (by decide +kernel)
theorem kw_862 : Cond.laysFinal "BagatelleModel" "BagatelleModel" "endIn" "[I" ∈ ba_tb := ba_mem (i := 862) (by decide +kernel) (by decide +kernel)
theorem kw_864 : Cond.laysFinal "BagatelleModel" "BagatelleModel" "halts" "[I" ∈ ba_tb := ba_mem (i := 864) (by decide +kernel) (by decide +kernel)
theorem kw_866 : Cond.laysFinal "BagatelleModel" "BagatelleModel" "leans" "[I" ∈ ba_tb := ba_mem (i := 866) (by decide +kernel) (by decide +kernel)
theorem kw_868 : Cond.laysFinal "BagatelleModel" "BagatelleModel" "next" "[I" ∈ ba_tb := ba_mem (i := 868) (by decide +kernel) (by decide +kernel)
theorem kw_870 : Cond.laysFinal "BagatelleModel" "BagatelleModel" "inside" "[I" ∈ ba_tb := ba_mem (i := 870) (by decide +kernel) (by decide +kernel)
theorem kw_872 : Cond.laysFinal "BagatelleModel" "BagatelleModel" "ever" "[I" ∈ ba_tb := ba_mem (i := 872) (by decide +kernel) (by decide +kernel)
theorem kw_874 : Cond.laysFinal "BagatelleModel" "BagatelleModel" "holdsBy" "[I" ∈ ba_tb := ba_mem (i := 874) (by decide +kernel) (by decide +kernel)
theorem kw_876 : Cond.laysFinal "BagatelleModel" "BagatelleModel" "rowBy" "[I" ∈ ba_tb := ba_mem (i := 876) (by decide +kernel) (by decide +kernel)
theorem kw_878 : Cond.laysFinal "BagatelleModel" "BagatelleModel" "columnBy" "[I" ∈ ba_tb := ba_mem (i := 878) (by decide +kernel) (by decide +kernel)
theorem kw_880 : Cond.lays "BagatelleModel" "BagatelleModel" "rings" "I" ∈ ba_tb := ba_mem (i := 880) (by decide +kernel) (by decide +kernel)
theorem kw_882 : Cond.lays "BagatelleModel" "BagatelleModel" "sights" "I" ∈ ba_tb := ba_mem (i := 882) (by decide +kernel) (by decide +kernel)
theorem kw_884 : Cond.laysFinal "BagatelleModel" "BagatelleModel" "sight" "[I" ∈ ba_tb := ba_mem (i := 884) (by decide +kernel) (by decide +kernel)
theorem kw_886 : Cond.laysFinal "BagatelleModel" "BagatelleModel" "ways" "[I" ∈ ba_tb := ba_mem (i := 886) (by decide +kernel) (by decide +kernel)
theorem kw_888 : Cond.lays "BagatelleModel" "BagatelleModel" "drawn" "I" ∈ ba_tb := ba_mem (i := 888) (by decide +kernel) (by decide +kernel)
theorem kinX0 : ∀ w ∈ u_ws RX0 TX0 10, w ∈ ba_tb := by
  intro w hw
  obtain ⟨k, hk, rfl⟩ := List.mem_map.mp hw
  have hk := List.mem_range.mp hk
  match k, hk with
  | 0, _ => exact kw_153
  | 1, _ => exact kw_155
  | 2, _ => exact kw_157
  | 3, _ => exact kw_159
  | 4, _ => exact kw_161
  | 5, _ => exact kw_163
  | 6, _ => exact kw_165
  | 7, _ => exact kw_167
  | 8, _ => exact kw_169
  | 9, _ => exact kw_171
  | k + 10, hk => exact absurd hk (by omega)
theorem kinX1 : ∀ w ∈ u_ws RX1 TX1 19, w ∈ ba_tb := by
  intro w hw
  obtain ⟨k, hk, rfl⟩ := List.mem_map.mp hw
  have hk := List.mem_range.mp hk
  match k, hk with
  | 0, _ => exact kw_210
  | 1, _ => exact kw_212
  | 2, _ => exact kw_214
  | 3, _ => exact kw_216
  | 4, _ => exact kw_218
  | 5, _ => exact kw_220
  | 6, _ => exact kw_222
  | 7, _ => exact kw_224
  | 8, _ => exact kw_226
  | 9, _ => exact kw_228
  | 10, _ => exact kw_230
  | 11, _ => exact kw_232
  | 12, _ => exact kw_234
  | 13, _ => exact kw_236
  | 14, _ => exact kw_238
  | 15, _ => exact kw_240
  | 16, _ => exact kw_242
  | 17, _ => exact kw_244
  | 18, _ => exact kw_246
  | k + 19, hk => exact absurd hk (by omega)
theorem kinX2 : ∀ w ∈ u_ws RX2 TX2 4, w ∈ ba_tb := by
  intro w hw
  obtain ⟨k, hk, rfl⟩ := List.mem_map.mp hw
  have hk := List.mem_range.mp hk
  match k, hk with
  | 0, _ => exact kw_283
  | 1, _ => exact kw_285
  | 2, _ => exact kw_287
  | 3, _ => exact kw_289
  | k + 4, hk => exact absurd hk (by omega)
theorem kinX3 : ∀ w ∈ u_ws RX3 TX3 2, w ∈ ba_tb := by
  intro w hw
  obtain ⟨k, hk, rfl⟩ := List.mem_map.mp hw
  have hk := List.mem_range.mp hk
  match k, hk with
  | 0, _ => exact kw_116
  | 1, _ => exact kw_118
  | k + 2, hk => exact absurd hk (by omega)
theorem kinX4 : ∀ w ∈ u_ws RX4 TX4 2, w ∈ ba_tb := by
  intro w hw
  obtain ⟨k, hk, rfl⟩ := List.mem_map.mp hw
  have hk := List.mem_range.mp hk
  match k, hk with
  | 0, _ => exact kw_264
  | 1, _ => exact kw_266
  | k + 2, hk => exact absurd hk (by omega)
theorem kinX5 : ∀ w ∈ u_ws RX5 TX5 19, w ∈ ba_tb := by
  intro w hw
  obtain ⟨k, hk, rfl⟩ := List.mem_map.mp hw
  have hk := List.mem_range.mp hk
  match k, hk with
  | 0, _ => exact kw_311
  | 1, _ => exact kw_313
  | 2, _ => exact kw_315
  | 3, _ => exact kw_317
  | 4, _ => exact kw_319
  | 5, _ => exact kw_321
  | 6, _ => exact kw_323
  | 7, _ => exact kw_325
  | 8, _ => exact kw_327
  | 9, _ => exact kw_329
  | 10, _ => exact kw_331
  | 11, _ => exact kw_333
  | 12, _ => exact kw_335
  | 13, _ => exact kw_337
  | 14, _ => exact kw_339
  | 15, _ => exact kw_341
  | 16, _ => exact kw_343
  | 17, _ => exact kw_345
  | 18, _ => exact kw_347
  | k + 19, hk => exact absurd hk (by omega)
theorem kinX6 : ∀ w ∈ u_ws RX6 TX6 33, w ∈ ba_tb := by
  intro w hw
  obtain ⟨k, hk, rfl⟩ := List.mem_map.mp hw
  have hk := List.mem_range.mp hk
  match k, hk with
  | 0, _ => exact kw_824
  | 1, _ => exact kw_826
  | 2, _ => exact kw_828
  | 3, _ => exact kw_830
  | 4, _ => exact kw_832
  | 5, _ => exact kw_834
  | 6, _ => exact kw_836
  | 7, _ => exact kw_838
  | 8, _ => exact kw_840
  | 9, _ => exact kw_842
  | 10, _ => exact kw_844
  | 11, _ => exact kw_846
  | 12, _ => exact kw_848
  | 13, _ => exact kw_850
  | 14, _ => exact kw_852
  | 15, _ => exact kw_854
  | 16, _ => exact kw_856
  | 17, _ => exact kw_858
  | 18, _ => exact kw_860
  | 19, _ => exact kw_862
  | 20, _ => exact kw_864
  | 21, _ => exact kw_866
  | 22, _ => exact kw_868
  | 23, _ => exact kw_870
  | 24, _ => exact kw_872
  | 25, _ => exact kw_874
  | 26, _ => exact kw_876
  | 27, _ => exact kw_878
  | 28, _ => exact kw_880
  | 29, _ => exact kw_882
  | 30, _ => exact kw_884
  | 31, _ => exact kw_886
  | 32, _ => exact kw_888
  | k + 33, hk => exact absurd hk (by omega)
abbrev rm_b_within : Room := { frames := 0, cells := 0, slots := 0, locals := 0 }
abbrev rm_t_append : Room := { frames := 0, cells := 0, slots := 0, locals := 0 }
abbrev rm_o_clearPins : Room := { frames := 1, cells := 0, slots := 0, locals := 23 }
abbrev rm_t_byteAt : Room := { frames := 0, cells := 0, slots := 0, locals := 0 }
abbrev rm_t_countedFrom : Room := { frames := 1, cells := 0, slots := 0, locals := 21 }
abbrev rm_o_sortOf : Room := { frames := 0, cells := 0, slots := 0, locals := 0 }
abbrev rm_o_addPin : Room := { frames := 0, cells := 0, slots := 0, locals := 0 }
abbrev rm_o_scanPins : Room := { frames := 2, cells := 0, slots := 0, locals := 45 }
abbrev rm_o_takePins : Room := { frames := 3, cells := 0, slots := 0, locals := 71 }
abbrev rm_o_takeCups : Room := { frames := 2, cells := 0, slots := 0, locals := 45 }
abbrev rm_o_scanBalls : Room := { frames := 2, cells := 0, slots := 0, locals := 45 }
abbrev rm_o_takeBalls : Room := { frames := 3, cells := 0, slots := 0, locals := 70 }
abbrev rm_b_forgetResults : Room := { frames := 0, cells := 0, slots := 0, locals := 0 }
abbrev rm_b_parse : Room := { frames := 4, cells := 0, slots := 0, locals := 93 }
abbrev rm_b_type : Room := { frames := 5, cells := 0, slots := 0, locals := 114 }
abbrev rm_b_wipe : Room := { frames := 5, cells := 0, slots := 0, locals := 114 }
abbrev rm_b_undo : Room := { frames := 5, cells := 0, slots := 0, locals := 114 }
abbrev rm_b_fault : Room := { frames := 1, cells := 0, slots := 0, locals := 21 }
abbrev rm_b_pin : Room := { frames := 1, cells := 0, slots := 0, locals := 21 }
abbrev rm_o_allEvents : Room := { frames := 0, cells := 0, slots := 0, locals := 0 }
abbrev rm_c_takeTold : Room := { frames := 1, cells := 0, slots := 0, locals := 40 }
abbrev rm_c_begin : Room := { frames := 1, cells := 0, slots := 0, locals := 23 }
abbrev rm_l_number : Room := { frames := 0, cells := 0, slots := 0, locals := 0 }
abbrev rm_c_tilt : Room := { frames := 0, cells := 0, slots := 0, locals := 0 }
abbrev rm_c_doEvents : Room := { frames := 1, cells := 0, slots := 0, locals := 27 }
abbrev rm_c_columnFrom : Room := { frames := 0, cells := 0, slots := 0, locals := 0 }
abbrev rm_c_pass : Room := { frames := 0, cells := 0, slots := 0, locals := 0 }
abbrev rm_c_settle : Room := { frames := 0, cells := 0, slots := 0, locals := 0 }
abbrev rm_c_drop : Room := { frames := 0, cells := 0, slots := 0, locals := 0 }
abbrev rm_c_fallFrom : Room := { frames := 1, cells := 0, slots := 0, locals := 23 }
abbrev rm_c_letIn : Room := { frames := 1, cells := 0, slots := 0, locals := 23 }
abbrev rm_c_run : Room := { frames := 2, cells := 0, slots := 0, locals := 52 }
abbrev rm_b_runTold : Room := { frames := 3, cells := 0, slots := 0, locals := 74 }
abbrev rm_b_cup : Room := { frames := 4, cells := 0, slots := 0, locals := 94 }
abbrev rm_b_ball : Room := { frames := 1, cells := 0, slots := 0, locals := 21 }
abbrev rm_b_room : Room := { frames := 1, cells := 0, slots := 0, locals := 20 }
abbrev rm_b_isEvent : Room := { frames := 1, cells := 0, slots := 0, locals := 21 }
abbrev rm_l_isFull : Room := { frames := 0, cells := 0, slots := 0, locals := 0 }
abbrev rm_l_append : Room := { frames := 1, cells := 0, slots := 0, locals := 20 }
abbrev rm_b_event : Room := { frames := 2, cells := 0, slots := 0, locals := 45 }
abbrev rm_b_back : Room := { frames := 1, cells := 0, slots := 0, locals := 20 }
abbrev rm_b_found : Room := { frames := 0, cells := 0, slots := 0, locals := 0 }
abbrev rm_b_read : Room := { frames := 3, cells := 0, slots := 0, locals := 68 }
abbrev rm_c_rowOf : Room := { frames := 0, cells := 0, slots := 0, locals := 0 }
abbrev rm_c_columnOf : Room := { frames := 0, cells := 0, slots := 0, locals := 0 }
abbrev rm_b_at : Room := { frames := 4, cells := 0, slots := 0, locals := 94 }
abbrev rm_c_ballIn : Room := { frames := 0, cells := 0, slots := 0, locals := 0 }
abbrev rm_b_sees : Room := { frames := 4, cells := 0, slots := 0, locals := 94 }
abbrev rm_b_ends : Room := { frames := 4, cells := 0, slots := 0, locals := 94 }
abbrev rm_c_score : Room := { frames := 0, cells := 0, slots := 0, locals := 0 }
abbrev rm_c_lost : Room := { frames := 0, cells := 0, slots := 0, locals := 0 }
abbrev rm_b_sum : Room := { frames := 4, cells := 0, slots := 0, locals := 94 }
abbrev rm_b_late : Room := { frames := 4, cells := 0, slots := 0, locals := 94 }
abbrev rm_b_best : Room := { frames := 4, cells := 0, slots := 0, locals := 94 }
abbrev rm_b_jam : Room := { frames := 4, cells := 0, slots := 0, locals := 94 }
abbrev rm_c_choose : Room := { frames := 0, cells := 0, slots := 0, locals := 0 }
abbrev rm_b_bestChoice : Room := { frames := 3, cells := 0, slots := 0, locals := 74 }
abbrev rm_b_shoot : Room := { frames := 4, cells := 0, slots := 0, locals := 100 }
abbrev rm_b_time : Room := { frames := 4, cells := 0, slots := 0, locals := 100 }
abbrev rm_b_bend : Room := { frames := 4, cells := 0, slots := 0, locals := 100 }
abbrev rm_b_losesNoneWithout : Room := { frames := 3, cells := 0, slots := 0, locals := 74 }
abbrev rm_b_findSpares : Room := { frames := 4, cells := 0, slots := 0, locals := 95 }
abbrev rm_b_spare : Room := { frames := 5, cells := 0, slots := 0, locals := 118 }
abbrev rm_b_seen : Room := { frames := 2, cells := 0, slots := 0, locals := 45 }
abbrev rm_b_forget : Room := { frames := 0, cells := 0, slots := 0, locals := 0 }
abbrev rm_c_agrees : Room := { frames := 1, cells := 0, slots := 0, locals := 23 }
abbrev rm_b_never : Room := { frames := 3, cells := 0, slots := 0, locals := 74 }
abbrev rm_b_agreeing : Room := { frames := 3, cells := 0, slots := 0, locals := 74 }
abbrev rm_b_forces : Room := { frames := 4, cells := 0, slots := 0, locals := 98 }
abbrev rm_b_kind : Room := { frames := 4, cells := 0, slots := 0, locals := 98 }
abbrev rm_c_mark : Room := { frames := 0, cells := 0, slots := 0, locals := 0 }
abbrev rm_b_markForces : Room := { frames := 3, cells := 0, slots := 0, locals := 74 }
abbrev rm_b_largestGroup : Room := { frames := 1, cells := 0, slots := 0, locals := 21 }
abbrev rm_b_ask : Room := { frames := 4, cells := 0, slots := 0, locals := 98 }
abbrev rm_c_bringing : Room := { frames := 0, cells := 0, slots := 0, locals := 0 }
abbrev rm_b_findBringers : Room := { frames := 3, cells := 0, slots := 0, locals := 74 }
abbrev rm_b_weight : Room := { frames := 0, cells := 0, slots := 0, locals := 0 }
abbrev rm_b_chance : Room := { frames := 4, cells := 0, slots := 0, locals := 95 }
abbrev rm_b_nextSeed : Room := { frames := 0, cells := 0, slots := 0, locals := 0 }
abbrev rm_b_sundays : Room := { frames := 3, cells := 0, slots := 0, locals := 74 }
abbrev rm_s_renew : Room := { frames := 1, cells := 0, slots := 0, locals := 23 }
abbrev rm_b_sheet : Room := { frames := 2, cells := 0, slots := 0, locals := 45 }
abbrev rm_b_lose : Room := { frames := 1, cells := 0, slots := 0, locals := 21 }
abbrev rm_s_findingFor : Room := { frames := 1, cells := 0, slots := 0, locals := 21 }
abbrev rm_s_put : Room := { frames := 0, cells := 0, slots := 0, locals := 0 }
abbrev rm_b_lay : Room := { frames := 2, cells := 0, slots := 0, locals := 43 }
abbrev rm_b_get : Room := { frames := 2, cells := 0, slots := 0, locals := 43 }
abbrev rm_s_hasItems : Room := { frames := 0, cells := 0, slots := 0, locals := 0 }
abbrev rm_b_copy : Room := { frames := 1, cells := 0, slots := 0, locals := 40 }
abbrev rm_b_write : Room := { frames := 4, cells := 0, slots := 0, locals := 94 }
abbrev rm_c_onBoard : Room := { frames := 1, cells := 0, slots := 0, locals := 20 }
abbrev rm_b_count : Room := { frames := 5, cells := 0, slots := 0, locals := 115 }
abbrev rm_b_withPin : Room := { frames := 5, cells := 0, slots := 0, locals := 122 }
abbrev rm_b_withBall : Room := { frames := 5, cells := 0, slots := 0, locals := 124 }
abbrev rm_b_digest : Room := { frames := 6, cells := 0, slots := 0, locals := 150 }
abbrev rm_m_in : Room := { frames := 0, cells := 0, slots := 0, locals := 0 }
abbrev rm_m_no : Room := { frames := 0, cells := 0, slots := 0, locals := 0 }
abbrev rm_m_isTwo : Room := { frames := 1, cells := 0, slots := 0, locals := 25 }
abbrev rm_m_isIn : Room := { frames := 0, cells := 0, slots := 0, locals := 0 }
abbrev rm_m_lesser : Room := { frames := 0, cells := 0, slots := 0, locals := 0 }
abbrev rm_m_greater : Room := { frames := 0, cells := 0, slots := 0, locals := 0 }
abbrev rm_m_part : Room := { frames := 0, cells := 0, slots := 0, locals := 0 }
abbrev rm_m_finds : Room := { frames := 0, cells := 0, slots := 0, locals := 0 }
abbrev rm_m_isSheet : Room := { frames := 1, cells := 0, slots := 0, locals := 25 }
abbrev rm_m_sheet : Room := { frames := 2, cells := 0, slots := 0, locals := 45 }
abbrev rm_m_lose : Room := { frames := 2, cells := 0, slots := 0, locals := 45 }
abbrev rm_m_lacks : Room := { frames := 1, cells := 0, slots := 0, locals := 25 }
abbrev rm_m_cut : Room := { frames := 0, cells := 0, slots := 0, locals := 0 }
abbrev rm_m_lay : Room := { frames := 2, cells := 0, slots := 0, locals := 48 }
abbrev rm_m_get : Room := { frames := 2, cells := 0, slots := 0, locals := 48 }
abbrev rm_m_copy : Room := { frames := 2, cells := 0, slots := 0, locals := 45 }
abbrev rm_m_isText : Room := { frames := 1, cells := 0, slots := 0, locals := 25 }
abbrev rm_m_type : Room := { frames := 2, cells := 0, slots := 0, locals := 45 }
abbrev rm_m_wipe : Room := { frames := 2, cells := 0, slots := 0, locals := 45 }
abbrev rm_m_undo : Room := { frames := 2, cells := 0, slots := 0, locals := 45 }
abbrev rm_m_figureOf : Room := { frames := 1, cells := 0, slots := 0, locals := 25 }
abbrev rm_m_between : Room := { frames := 0, cells := 0, slots := 0, locals := 0 }
abbrev rm_m_pinOf : Room := { frames := 2, cells := 0, slots := 0, locals := 47 }
abbrev rm_m_isTaken : Room := { frames := 0, cells := 0, slots := 0, locals := 0 }
abbrev rm_m_readsPins : Room := { frames := 3, cells := 0, slots := 0, locals := 68 }
abbrev rm_m_worthless : Room := { frames := 0, cells := 0, slots := 0, locals := 0 }
abbrev rm_m_readsCups : Room := { frames := 2, cells := 0, slots := 0, locals := 47 }
abbrev rm_m_ballOf : Room := { frames := 2, cells := 0, slots := 0, locals := 47 }
abbrev rm_m_readsBalls : Room := { frames := 3, cells := 0, slots := 0, locals := 68 }
abbrev rm_m_readsText : Room := { frames := 4, cells := 0, slots := 0, locals := 92 }
abbrev rm_m_fault : Room := { frames := 5, cells := 0, slots := 0, locals := 113 }
abbrev rm_m_isTick : Room := { frames := 1, cells := 0, slots := 0, locals := 25 }
abbrev rm_m_isColumn : Room := { frames := 1, cells := 0, slots := 0, locals := 25 }
abbrev rm_m_isPin : Room := { frames := 1, cells := 0, slots := 0, locals := 25 }
abbrev rm_m_isBall : Room := { frames := 1, cells := 0, slots := 0, locals := 25 }
abbrev rm_m_pin : Room := { frames := 4, cells := 0, slots := 0, locals := 92 }
abbrev rm_m_ball : Room := { frames := 4, cells := 0, slots := 0, locals := 92 }
abbrev rm_m_room : Room := { frames := 1, cells := 0, slots := 0, locals := 25 }
abbrev rm_m_event : Room := { frames := 2, cells := 0, slots := 0, locals := 45 }
abbrev rm_m_back : Room := { frames := 0, cells := 0, slots := 0, locals := 0 }
abbrev rm_m_read : Room := { frames := 3, cells := 0, slots := 0, locals := 68 }
abbrev rm_m_whoAt : Room := { frames := 0, cells := 0, slots := 0, locals := 0 }
abbrev rm_m_tilts : Room := { frames := 2, cells := 0, slots := 0, locals := 45 }
abbrev rm_m_knocks : Room := { frames := 2, cells := 0, slots := 0, locals := 46 }
abbrev rm_m_empties : Room := { frames := 2, cells := 0, slots := 0, locals := 45 }
abbrev rm_m_happens : Room := { frames := 3, cells := 0, slots := 0, locals := 70 }
abbrev rm_m_pinAt : Room := { frames := 0, cells := 0, slots := 0, locals := 0 }
abbrev rm_m_aside : Room := { frames := 2, cells := 0, slots := 0, locals := 45 }
abbrev rm_m_goesTo : Room := { frames := 3, cells := 0, slots := 0, locals := 66 }
abbrev rm_m_ending : Room := { frames := 0, cells := 0, slots := 0, locals := 0 }
abbrev rm_m_falls : Room := { frames := 4, cells := 0, slots := 0, locals := 90 }
abbrev rm_m_passes : Room := { frames := 5, cells := 0, slots := 0, locals := 114 }
abbrev rm_m_lives : Room := { frames := 6, cells := 0, slots := 0, locals := 138 }
abbrev rm_m_find : Room := { frames := 7, cells := 0, slots := 0, locals := 159 }
abbrev rm_m_cupBy : Room := { frames := 0, cells := 0, slots := 0, locals := 0 }
abbrev rm_m_cup : Room := { frames := 8, cells := 0, slots := 0, locals := 179 }
abbrev rm_m_atBy : Room := { frames := 0, cells := 0, slots := 0, locals := 0 }
abbrev rm_m_at : Room := { frames := 8, cells := 0, slots := 0, locals := 179 }
abbrev rm_m_seesBy : Room := { frames := 0, cells := 0, slots := 0, locals := 0 }
abbrev rm_m_sees : Room := { frames := 8, cells := 0, slots := 0, locals := 179 }
abbrev rm_m_endsBy : Room := { frames := 0, cells := 0, slots := 0, locals := 0 }
abbrev rm_m_ends : Room := { frames := 8, cells := 0, slots := 0, locals := 179 }
abbrev rm_m_score : Room := { frames := 0, cells := 0, slots := 0, locals := 0 }
abbrev rm_m_manyIn : Room := { frames := 0, cells := 0, slots := 0, locals := 0 }
abbrev rm_m_sumBy : Room := { frames := 1, cells := 0, slots := 0, locals := 23 }
abbrev rm_m_sum : Room := { frames := 8, cells := 0, slots := 0, locals := 179 }
abbrev rm_m_lateNow : Room := { frames := 0, cells := 0, slots := 0, locals := 0 }
abbrev rm_m_late : Room := { frames := 8, cells := 0, slots := 0, locals := 179 }
abbrev rm_m_bestNow : Room := { frames := 1, cells := 0, slots := 0, locals := 21 }
abbrev rm_m_best : Room := { frames := 8, cells := 0, slots := 0, locals := 179 }
abbrev rm_m_jamBy : Room := { frames := 0, cells := 0, slots := 0, locals := 0 }
abbrev rm_m_jam : Room := { frames := 8, cells := 0, slots := 0, locals := 179 }
abbrev rm_m_ballBetter : Room := { frames := 7, cells := 0, slots := 0, locals := 159 }
abbrev rm_m_shoot : Room := { frames := 8, cells := 0, slots := 0, locals := 188 }
abbrev rm_m_time : Room := { frames := 8, cells := 0, slots := 0, locals := 188 }
abbrev rm_m_bendOf : Room := { frames := 7, cells := 0, slots := 0, locals := 159 }
abbrev rm_m_bend : Room := { frames := 8, cells := 0, slots := 0, locals := 186 }
abbrev rm_m_isSpared : Room := { frames := 7, cells := 0, slots := 0, locals := 159 }
abbrev rm_m_spareBy : Room := { frames := 8, cells := 0, slots := 0, locals := 180 }
abbrev rm_m_spare : Room := { frames := 9, cells := 0, slots := 0, locals := 203 }
abbrev rm_m_seen : Room := { frames := 2, cells := 0, slots := 0, locals := 45 }
abbrev rm_m_forget : Room := { frames := 0, cells := 0, slots := 0, locals := 0 }
abbrev rm_m_isSeen : Room := { frames := 7, cells := 0, slots := 0, locals := 159 }
abbrev rm_m_neverNow : Room := { frames := 8, cells := 0, slots := 0, locals := 182 }
abbrev rm_m_never : Room := { frames := 9, cells := 0, slots := 0, locals := 204 }
abbrev rm_m_forcesOf : Room := { frames := 8, cells := 0, slots := 0, locals := 182 }
abbrev rm_m_forces : Room := { frames := 9, cells := 0, slots := 0, locals := 207 }
abbrev rm_m_kindOf : Room := { frames := 8, cells := 0, slots := 0, locals := 182 }
abbrev rm_m_kind : Room := { frames := 9, cells := 0, slots := 0, locals := 206 }
abbrev rm_m_same : Room := { frames := 0, cells := 0, slots := 0, locals := 0 }
abbrev rm_m_alike : Room := { frames := 1, cells := 0, slots := 0, locals := 25 }
abbrev rm_m_askOf : Room := { frames := 9, cells := 0, slots := 0, locals := 207 }
abbrev rm_m_ask : Room := { frames := 10, cells := 0, slots := 0, locals := 233 }
abbrev rm_m_chanceOf : Room := { frames := 7, cells := 0, slots := 0, locals := 159 }
abbrev rm_m_chance : Room := { frames := 8, cells := 0, slots := 0, locals := 188 }
abbrev rm_m_lot : Room := { frames := 0, cells := 0, slots := 0, locals := 0 }
abbrev rm_m_sundaysOf : Room := { frames := 7, cells := 0, slots := 0, locals := 159 }
abbrev rm_m_sundays : Room := { frames := 8, cells := 0, slots := 0, locals := 183 }
abbrev rm_m_write : Room := { frames := 8, cells := 0, slots := 0, locals := 179 }
abbrev rm_m_onBoard : Room := { frames := 1, cells := 0, slots := 0, locals := 25 }
abbrev rm_m_count : Room := { frames := 8, cells := 0, slots := 0, locals := 179 }
abbrev rm_m_tellsPin : Room := { frames := 9, cells := 0, slots := 0, locals := 206 }
abbrev rm_m_tellsTick : Room := { frames := 1, cells := 0, slots := 0, locals := 23 }
abbrev rm_m_tellsBall : Room := { frames := 10, cells := 0, slots := 0, locals := 233 }
abbrev rm_m_digest : Room := { frames := 11, cells := 0, slots := 0, locals := 259 }
abbrev rm_j_fill : Room := { frames := 0, cells := 0, slots := 0, locals := 0 }
abbrev rm_j_bitCount : Room := { frames := 0, cells := 0, slots := 0, locals := 0 }
theorem kfX4_9 : ba_FL ba_tC RX4 9 4 1 .int false := ⟨RX4, TX4, 2, tyX4, rfl, by decide, kinX4, tyX4_ok, nmX4, kw_261, rfl, rfl⟩
theorem kfX4_15 : ba_FL ba_tC RX4 15 4 0 (.array .int) true := ⟨RX4, TX4, 2, tyX4, rfl, by decide, kinX4, tyX4_ok, nmX4, kw_260, rfl, rfl⟩
theorem kfX0_21 : ba_FL ba_tC RX0 21 0 3 .int false := ⟨RX0, TX0, 10, tyX0, rfl, by decide, kinX0, tyX0_ok, nmX0, kw_132, rfl, rfl⟩
theorem kfX0_18 : ba_FL ba_tC RX0 18 0 2 (.array .int) true := ⟨RX0, TX0, 10, tyX0, rfl, by decide, kinX0, tyX0_ok, nmX0, kw_130, rfl, rfl⟩
theorem kcX0_47 : ba_MS RX0 47 2 yJ7_fill_53178 cJ7_fill_53178 4 none := ⟨⟨kw_124, kw_81, kw_122, ⟨by decide +kernel, by decide +kernel, by decide +kernel⟩⟩, kw_123⟩
theorem kcX4_19 : ba_MV ba_tC RX4 19 1 4 yX4_byteAt cX4_byteAt 2 (some .int) := ⟨⟨kw_384, kw_83, kw_381, ⟨by decide +kernel, by decide +kernel, by decide +kernel⟩⟩, kw_382, kw_383, TX4, 2, rfl⟩
theorem kcX4_23 : ba_MN ba_tC RX4 23 2 yX5_within cX5_within 2 (some .boolean) "Bagatelle" := ⟨⟨kw_356, kw_78, ⟨by decide +kernel, by decide +kernel, by decide +kernel⟩⟩, kw_355, by decide +kernel⟩
theorem kfX0_9 : ba_FL ba_tC RX0 9 0 0 (.array .int) true := ⟨RX0, TX0, 10, tyX0, rfl, by decide, kinX0, tyX0_ok, nmX0, kw_125, rfl, rfl⟩
theorem kfX0_15 : ba_FL ba_tC RX0 15 0 1 (.array .int) true := ⟨RX0, TX0, 10, tyX0, rfl, by decide, kinX0, tyX0_ok, nmX0, kw_127, rfl, rfl⟩
theorem kfX0_63 : ba_FL ba_tC RX0 63 4 1 .int false := ⟨RX4, TX4, 2, tyX4, rfl, by decide, kinX4, tyX4_ok, nmX4, kw_263, rfl, rfl⟩
theorem kcX0_66 : ba_MV ba_tC RX0 66 3 4 yX4_countedFrom cX4_countedFrom 5 (some .int) := ⟨⟨kw_380, kw_83, kw_377, ⟨by decide +kernel, by decide +kernel, by decide +kernel⟩⟩, kw_378, kw_379, TX4, 2, rfl⟩
theorem kcX0_70 : ba_MV ba_tC RX0 70 1 4 yX4_byteAt cX4_byteAt 2 (some .int) := ⟨⟨kw_384, kw_83, kw_386, ⟨by decide +kernel, by decide +kernel, by decide +kernel⟩⟩, kw_382, kw_383, TX4, 2, rfl⟩
theorem kcX0_74 : ba_MS RX0 74 1 yX0_sortOf cX0_sortOf 1 (some .int) := ⟨⟨kw_389, kw_79, kw_387, ⟨by decide +kernel, by decide +kernel, by decide +kernel⟩⟩, kw_388⟩
theorem kcX0_77 : ba_MV ba_tC RX0 77 2 0 yX0_addPin cX0_addPin 3 none := ⟨⟨kw_393, kw_79, kw_390, ⟨by decide +kernel, by decide +kernel, by decide +kernel⟩⟩, kw_392, kw_3, TX0, 10, rfl⟩
theorem kcX0_56 : ba_MV ba_tC RX0 56 0 0 yX0_clearPins cX0_clearPins 1 none := ⟨⟨kw_372, kw_79, kw_369, ⟨by decide +kernel, by decide +kernel, by decide +kernel⟩⟩, kw_371, kw_1, TX0, 10, rfl⟩
theorem kcX0_59 : ba_MV ba_tC RX0 59 1 0 yX0_scanPins cX0_scanPins 7 (some .int) := ⟨⟨kw_376, kw_79, kw_373, ⟨by decide +kernel, by decide +kernel, by decide +kernel⟩⟩, kw_375, kw_2, TX0, 10, rfl⟩
theorem kfX0_25 : ba_FL ba_tC RX0 25 0 4 (.array .int) true := ⟨RX0, TX0, 10, tyX0, rfl, by decide, kinX0, tyX0_ok, nmX0, kw_135, rfl, rfl⟩
theorem kfX0_28 : ba_FL ba_tC RX0 28 0 5 (.array .int) true := ⟨RX0, TX0, 10, tyX0, rfl, by decide, kinX0, tyX0_ok, nmX0, kw_138, rfl, rfl⟩
theorem kfX0_31 : ba_FL ba_tC RX0 31 0 6 (.array .int) true := ⟨RX0, TX0, 10, tyX0, rfl, by decide, kinX0, tyX0_ok, nmX0, kw_141, rfl, rfl⟩
theorem kfX0_34 : ba_FL ba_tC RX0 34 0 7 .int false := ⟨RX0, TX0, 10, tyX0, rfl, by decide, kinX0, tyX0_ok, nmX0, kw_144, rfl, rfl⟩
theorem kcX0_81 : ba_MV ba_tC RX0 81 1 0 yX0_scanBalls cX0_scanBalls 6 (some .int) := ⟨⟨kw_405, kw_79, kw_402, ⟨by decide +kernel, by decide +kernel, by decide +kernel⟩⟩, kw_404, kw_4, TX0, 10, rfl⟩
theorem kfX5_55 : ba_FL ba_tC RX5 55 5 8 .boolean false := ⟨RX5, TX5, 19, tyX5, rfl, by decide, kinX5, tyX5_ok, nmX5, kw_300, rfl, rfl⟩
theorem kfX5_59 : ba_FL ba_tC RX5 59 5 9 .int false := ⟨RX5, TX5, 19, tyX5, rfl, by decide, kinX5, tyX5_ok, nmX5, kw_301, rfl, rfl⟩
theorem kfX5_68 : ba_FL ba_tC RX5 68 5 12 .boolean false := ⟨RX5, TX5, 19, tyX5, rfl, by decide, kinX5, tyX5_ok, nmX5, kw_304, rfl, rfl⟩
theorem kfX5_80 : ba_FL ba_tC RX5 80 5 16 .boolean false := ⟨RX5, TX5, 19, tyX5, rfl, by decide, kinX5, tyX5_ok, nmX5, kw_308, rfl, rfl⟩
theorem kfX5_15 : ba_FL ba_tC RX5 15 5 1 (.array .int) true := ⟨RX5, TX5, 19, tyX5, rfl, by decide, kinX5, tyX5_ok, nmX5, kw_293, rfl, rfl⟩
theorem kfX5_22 : ba_FL ba_tC RX5 22 5 2 (.object "Bagatelle$Board") true := ⟨RX5, TX5, 19, tyX5, rfl, by decide, kinX5, tyX5_ok, nmX5, kw_294, rfl, rfl⟩
theorem kfX5_11 : ba_FL ba_tC RX5 11 5 0 (.array (.object "Bagatelle$Text")) true := ⟨RX5, TX5, 19, tyX5, rfl, by decide, kinX5, tyX5_ok, nmX5, kw_292, rfl, rfl⟩
theorem kcX5_371 : ba_MV ba_tC RX5 371 1 0 yX0_takePins cX0_takePins 3 (some .int) := ⟨⟨kw_368, kw_79, kw_365, ⟨by decide +kernel, by decide +kernel, by decide +kernel⟩⟩, kw_366, kw_367, TX0, 10, rfl⟩
theorem kcX5_144 : ba_MV ba_tC RX5 144 0 5 yX5_forgetResults cX5_forgetResults 1 none := ⟨⟨kw_409, kw_78, kw_406, ⟨by decide +kernel, by decide +kernel, by decide +kernel⟩⟩, kw_408, kw_5, TX5, 19, rfl⟩
theorem kcX5_375 : ba_MV ba_tC RX5 375 1 0 yX0_takeCups cX0_takeCups 4 (some .int) := ⟨⟨kw_397, kw_79, kw_394, ⟨by decide +kernel, by decide +kernel, by decide +kernel⟩⟩, kw_395, kw_396, TX0, 10, rfl⟩
theorem kcX5_378 : ba_MV ba_tC RX5 378 1 0 yX0_takeBalls cX0_takeBalls 3 (some .int) := ⟨⟨kw_401, kw_79, kw_398, ⟨by decide +kernel, by decide +kernel, by decide +kernel⟩⟩, kw_399, kw_400, TX0, 10, rfl⟩
theorem kcX5_97 : ba_MS RX5 97 2 yX5_within cX5_within 2 (some .boolean) := ⟨⟨kw_356, kw_78, kw_354, ⟨by decide +kernel, by decide +kernel, by decide +kernel⟩⟩, kw_355⟩
theorem kcX5_101 : ba_MV ba_tC RX5 101 1 4 yX4_append cX4_append 2 (some .boolean) := ⟨⟨kw_360, kw_83, kw_357, ⟨by decide +kernel, by decide +kernel, by decide +kernel⟩⟩, kw_358, kw_359, TX4, 2, rfl⟩
theorem kcX5_105 : ba_MV ba_tC RX5 105 1 5 yX5_parse cX5_parse 2 none := ⟨⟨kw_364, kw_78, kw_361, ⟨by decide +kernel, by decide +kernel, by decide +kernel⟩⟩, kw_363, kw_0, TX5, 19, rfl⟩
theorem kfX5_108 : ba_FL ba_tC RX5 108 4 1 .int false := ⟨RX4, TX4, 2, tyX4, rfl, by decide, kinX4, tyX4_ok, nmX4, kw_262, rfl, rfl⟩
theorem kfX5_111 : ba_FL ba_tC RX5 111 0 3 .int false := ⟨RX0, TX0, 10, tyX0, rfl, by decide, kinX0, tyX0_ok, nmX0, kw_133, rfl, rfl⟩
theorem kfX5_114 : ba_FL ba_tC RX5 114 0 0 (.array .int) true := ⟨RX0, TX0, 10, tyX0, rfl, by decide, kinX0, tyX0_ok, nmX0, kw_126, rfl, rfl⟩
theorem kfX5_117 : ba_FL ba_tC RX5 117 0 1 (.array .int) true := ⟨RX0, TX0, 10, tyX0, rfl, by decide, kinX0, tyX0_ok, nmX0, kw_129, rfl, rfl⟩
theorem kfX0_43 : ba_FL ba_tC RX0 43 0 9 (.object "Bagatelle$Slips") true := ⟨RX0, TX0, 10, tyX0, rfl, by decide, kinX0, tyX0_ok, nmX0, kw_150, rfl, rfl⟩
theorem kfX0_53 : ba_FL ba_tC RX0 53 3 1 .int false := ⟨RX3, TX3, 2, tyX3, rfl, by decide, kinX3, tyX3_ok, nmX3, kw_113, rfl, rfl⟩
theorem kfX1_67 : ba_FL ba_tC RX1 67 1 0 (.object "Bagatelle$Board") true := ⟨RX1, TX1, 19, tyX1, rfl, by decide, kinX1, tyX1_ok, nmX1, kw_180, rfl, rfl⟩
theorem kfX1_71 : ba_FL ba_tC RX1 71 0 1 (.array .int) true := ⟨RX0, TX0, 10, tyX0, rfl, by decide, kinX0, tyX0_ok, nmX0, kw_128, rfl, rfl⟩
theorem kfX1_9 : ba_FL ba_tC RX1 9 1 1 (.array .int) true := ⟨RX1, TX1, 19, tyX1, rfl, by decide, kinX1, tyX1_ok, nmX1, kw_181, rfl, rfl⟩
theorem kjX1_76 : Cond.methodLink RX1 76 arraycopyName ∈ ba_tb ∧ Cond.native arraycopyName ∈ ba_tb ∧ Cond.static arraycopyName ∈ ba_tb ∧ Cond.initialized "java/lang/System" ∈ ba_tb := ⟨kw_438, kw_440, kw_439, kw_86⟩
theorem kfX1_82 : ba_FL ba_tC RX1 82 0 5 (.array .int) true := ⟨RX0, TX0, 10, tyX0, rfl, by decide, kinX0, tyX0_ok, nmX0, kw_139, rfl, rfl⟩
theorem kfX1_15 : ba_FL ba_tC RX1 15 1 2 (.array .int) true := ⟨RX1, TX1, 19, tyX1, rfl, by decide, kinX1, tyX1_ok, nmX1, kw_182, rfl, rfl⟩
theorem kfX1_85 : ba_FL ba_tC RX1 85 0 6 (.array .int) true := ⟨RX0, TX0, 10, tyX0, rfl, by decide, kinX0, tyX0_ok, nmX0, kw_142, rfl, rfl⟩
theorem kfX1_18 : ba_FL ba_tC RX1 18 1 3 (.array .int) true := ⟨RX1, TX1, 19, tyX1, rfl, by decide, kinX1, tyX1_ok, nmX1, kw_184, rfl, rfl⟩
theorem kfX1_88 : ba_FL ba_tC RX1 88 0 7 .int false := ⟨RX0, TX0, 10, tyX0, rfl, by decide, kinX0, tyX0_ok, nmX0, kw_145, rfl, rfl⟩
theorem kfX1_21 : ba_FL ba_tC RX1 21 1 4 .int false := ⟨RX1, TX1, 19, tyX1, rfl, by decide, kinX1, tyX1_ok, nmX1, kw_186, rfl, rfl⟩
theorem kcX1_89 : ba_MV ba_tC RX1 89 0 0 yX0_allEvents cX0_allEvents 1 (some .int) := ⟨⟨kw_444, kw_79, kw_441, ⟨by decide +kernel, by decide +kernel, by decide +kernel⟩⟩, kw_442, kw_443, TX0, 10, rfl⟩
theorem kfX1_25 : ba_FL ba_tC RX1 25 1 5 .int false := ⟨RX1, TX1, 19, tyX1, rfl, by decide, kinX1, tyX1_ok, nmX1, kw_188, rfl, rfl⟩
theorem kfX1_28 : ba_FL ba_tC RX1 28 1 6 (.array .int) true := ⟨RX1, TX1, 19, tyX1, rfl, by decide, kinX1, tyX1_ok, nmX1, kw_190, rfl, rfl⟩
theorem kfX1_31 : ba_FL ba_tC RX1 31 1 7 (.array .int) true := ⟨RX1, TX1, 19, tyX1, rfl, by decide, kinX1, tyX1_ok, nmX1, kw_191, rfl, rfl⟩
theorem kcX1_107 : ba_MS RX1 107 2 yJ7_fill_53178 cJ7_fill_53178 4 none := ⟨⟨kw_124, kw_81, kw_453, ⟨by decide +kernel, by decide +kernel, by decide +kernel⟩⟩, kw_123⟩
theorem kfX1_34 : ba_FL ba_tC RX1 34 1 8 (.array .int) true := ⟨RX1, TX1, 19, tyX1, rfl, by decide, kinX1, tyX1_ok, nmX1, kw_192, rfl, rfl⟩
theorem kfX1_37 : ba_FL ba_tC RX1 37 1 9 (.array .int) true := ⟨RX1, TX1, 19, tyX1, rfl, by decide, kinX1, tyX1_ok, nmX1, kw_193, rfl, rfl⟩
theorem kfX1_40 : ba_FL ba_tC RX1 40 1 10 .int false := ⟨RX1, TX1, 19, tyX1, rfl, by decide, kinX1, tyX1_ok, nmX1, kw_194, rfl, rfl⟩
theorem kfX1_46 : ba_FL ba_tC RX1 46 1 12 (.array .int) true := ⟨RX1, TX1, 19, tyX1, rfl, by decide, kinX1, tyX1_ok, nmX1, kw_196, rfl, rfl⟩
theorem kfX1_49 : ba_FL ba_tC RX1 49 1 13 (.array .int) true := ⟨RX1, TX1, 19, tyX1, rfl, by decide, kinX1, tyX1_ok, nmX1, kw_198, rfl, rfl⟩
theorem kfX1_52 : ba_FL ba_tC RX1 52 1 14 (.array .int) true := ⟨RX1, TX1, 19, tyX1, rfl, by decide, kinX1, tyX1_ok, nmX1, kw_200, rfl, rfl⟩
theorem kfX1_55 : ba_FL ba_tC RX1 55 1 15 (.array .int) true := ⟨RX1, TX1, 19, tyX1, rfl, by decide, kinX1, tyX1_ok, nmX1, kw_202, rfl, rfl⟩
theorem kfX1_58 : ba_FL ba_tC RX1 58 1 16 (.array .int) true := ⟨RX1, TX1, 19, tyX1, rfl, by decide, kinX1, tyX1_ok, nmX1, kw_204, rfl, rfl⟩
theorem kfX1_61 : ba_FL ba_tC RX1 61 1 17 (.array .int) true := ⟨RX1, TX1, 19, tyX1, rfl, by decide, kinX1, tyX1_ok, nmX1, kw_206, rfl, rfl⟩
theorem kfX1_64 : ba_FL ba_tC RX1 64 1 18 .int false := ⟨RX1, TX1, 19, tyX1, rfl, by decide, kinX1, tyX1_ok, nmX1, kw_208, rfl, rfl⟩
theorem kfX3_11 : ba_FL ba_tC RX3 11 3 0 (.array .int) true := ⟨RX3, TX3, 2, tyX3, rfl, by decide, kinX3, tyX3_ok, nmX3, kw_111, rfl, rfl⟩
theorem kfX1_113 : ba_FL ba_tC RX1 113 0 9 (.object "Bagatelle$Slips") true := ⟨RX0, TX0, 10, tyX0, rfl, by decide, kinX0, tyX0_ok, nmX0, kw_151, rfl, rfl⟩
theorem kfX1_117 : ba_FL ba_tC RX1 117 3 1 .int false := ⟨RX3, TX3, 2, tyX3, rfl, by decide, kinX3, tyX3_ok, nmX3, kw_114, rfl, rfl⟩
theorem kcX1_122 : ba_MV ba_tC RX1 122 2 3 yX3_number cX3_number 3 (some .int) := ⟨⟨kw_461, kw_80, kw_458, ⟨by decide +kernel, by decide +kernel, by decide +kernel⟩⟩, kw_459, kw_460, TX3, 2, rfl⟩
theorem kcX1_126 : ba_MV ba_tC RX1 126 1 1 yX1_tilt cX1_tilt 8 none := ⟨⟨kw_465, kw_82, kw_462, ⟨by decide +kernel, by decide +kernel, by decide +kernel⟩⟩, kw_464, kw_9, TX1, 19, rfl⟩
theorem kfX1_130 : ba_FL ba_tC RX1 130 0 3 .int false := ⟨RX0, TX0, 10, tyX0, rfl, by decide, kinX0, tyX0_ok, nmX0, kw_134, rfl, rfl⟩
theorem kfX1_149 : ba_FL ba_tC RX1 149 0 8 .int false := ⟨RX0, TX0, 10, tyX0, rfl, by decide, kinX0, tyX0_ok, nmX0, kw_149, rfl, rfl⟩
theorem kfX1_152 : ba_FL ba_tC RX1 152 0 4 (.array .int) true := ⟨RX0, TX0, 10, tyX0, rfl, by decide, kinX0, tyX0_ok, nmX0, kw_137, rfl, rfl⟩
theorem kfX1_133 : ba_FL ba_tC RX1 133 0 2 (.array .int) true := ⟨RX0, TX0, 10, tyX0, rfl, by decide, kinX0, tyX0_ok, nmX0, kw_131, rfl, rfl⟩
theorem kcX1_136 : ba_MV ba_tC RX1 136 2 1 yX1_columnFrom cX1_columnFrom 4 (some .int) := ⟨⟨kw_473, kw_82, kw_470, ⟨by decide +kernel, by decide +kernel, by decide +kernel⟩⟩, kw_472, kw_11, TX1, 19, rfl⟩
theorem kcX1_139 : ba_MV ba_tC RX1 139 2 1 yX1_pass cX1_pass 3 none := ⟨⟨kw_477, kw_82, kw_474, ⟨by decide +kernel, by decide +kernel, by decide +kernel⟩⟩, kw_476, kw_12, TX1, 19, rfl⟩
theorem kcX1_146 : ba_MV ba_tC RX1 146 3 1 yX1_drop cX1_drop 4 none := ⟨⟨kw_485, kw_82, kw_482, ⟨by decide +kernel, by decide +kernel, by decide +kernel⟩⟩, kw_484, kw_14, TX1, 19, rfl⟩
theorem kcX1_142 : ba_MV ba_tC RX1 142 3 1 yX1_settle cX1_settle 4 none := ⟨⟨kw_481, kw_82, kw_478, ⟨by decide +kernel, by decide +kernel, by decide +kernel⟩⟩, kw_480, kw_13, TX1, 19, rfl⟩
theorem kcX1_93 : ba_MV ba_tC RX1 93 0 1 yX1_begin cX1_begin 2 none := ⟨⟨kw_452, kw_82, kw_449, ⟨by decide +kernel, by decide +kernel, by decide +kernel⟩⟩, kw_451, kw_7, TX1, 19, rfl⟩
theorem kcX1_100 : ba_MV ba_tC RX1 100 2 1 yX1_fallFrom cX1_fallFrom 9 none := ⟨⟨kw_469, kw_82, kw_466, ⟨by decide +kernel, by decide +kernel, by decide +kernel⟩⟩, kw_468, kw_10, TX1, 19, rfl⟩
theorem kfX1_43 : ba_FL ba_tC RX1 43 1 11 (.array .int) true := ⟨RX1, TX1, 19, tyX1, rfl, by decide, kinX1, tyX1_ok, nmX1, kw_195, rfl, rfl⟩
theorem kcX1_104 : ba_MV ba_tC RX1 104 1 1 yX1_letIn cX1_letIn 4 none := ⟨⟨kw_489, kw_82, kw_486, ⟨by decide +kernel, by decide +kernel, by decide +kernel⟩⟩, kw_488, kw_15, TX1, 19, rfl⟩
theorem kcX1_96 : ba_MV ba_tC RX1 96 1 1 yX1_doEvents cX1_doEvents 6 none := ⟨⟨kw_457, kw_82, kw_454, ⟨by decide +kernel, by decide +kernel, by decide +kernel⟩⟩, kw_456, kw_8, TX1, 19, rfl⟩
theorem kfX5_31 : ba_FL ba_tC RX5 31 5 3 (.object "Bagatelle$Course") true := ⟨RX5, TX5, 19, tyX5, rfl, by decide, kinX5, tyX5_ok, nmX5, kw_295, rfl, rfl⟩
theorem kcX5_215 : ba_MV ba_tC RX5 215 0 1 yX1_takeTold cX1_takeTold 1 none := ⟨⟨kw_437, kw_82, kw_434, ⟨by decide +kernel, by decide +kernel, by decide +kernel⟩⟩, kw_435, kw_436, TX1, 19, rfl⟩
theorem kcX5_221 : ba_MV ba_tC RX5 221 0 1 yX1_run cX1_run 3 none := ⟨⟨kw_448, kw_82, kw_445, ⟨by decide +kernel, by decide +kernel, by decide +kernel⟩⟩, kw_446, kw_447, TX1, 19, rfl⟩
theorem kfX5_120 : ba_FL ba_tC RX5 120 0 4 (.array .int) true := ⟨RX0, TX0, 10, tyX0, rfl, by decide, kinX0, tyX0_ok, nmX0, kw_136, rfl, rfl⟩
theorem kcX5_123 : ba_MV ba_tC RX5 123 0 5 yX5_runTold cX5_runTold 1 none := ⟨⟨kw_433, kw_78, kw_430, ⟨by decide +kernel, by decide +kernel, by decide +kernel⟩⟩, kw_432, kw_6, TX5, 19, rfl⟩
theorem kfX5_126 : ba_FL ba_tC RX5 126 1 12 (.array .int) true := ⟨RX1, TX1, 19, tyX1, rfl, by decide, kinX1, tyX1_ok, nmX1, kw_197, rfl, rfl⟩
theorem kfX5_129 : ba_FL ba_tC RX5 129 1 13 (.array .int) true := ⟨RX1, TX1, 19, tyX1, rfl, by decide, kinX1, tyX1_ok, nmX1, kw_199, rfl, rfl⟩
theorem kfX5_132 : ba_FL ba_tC RX5 132 0 7 .int false := ⟨RX0, TX0, 10, tyX0, rfl, by decide, kinX0, tyX0_ok, nmX0, kw_146, rfl, rfl⟩
theorem kfX5_135 : ba_FL ba_tC RX5 135 0 5 (.array .int) true := ⟨RX0, TX0, 10, tyX0, rfl, by decide, kinX0, tyX0_ok, nmX0, kw_140, rfl, rfl⟩
theorem kfX5_138 : ba_FL ba_tC RX5 138 0 6 (.array .int) true := ⟨RX0, TX0, 10, tyX0, rfl, by decide, kinX0, tyX0_ok, nmX0, kw_143, rfl, rfl⟩
theorem kfX5_141 : ba_FL ba_tC RX5 141 0 8 .int false := ⟨RX0, TX0, 10, tyX0, rfl, by decide, kinX0, tyX0_ok, nmX0, kw_148, rfl, rfl⟩
theorem kfX3_15 : ba_FL ba_tC RX3 15 3 1 .int false := ⟨RX3, TX3, 2, tyX3, rfl, by decide, kinX3, tyX3_ok, nmX3, kw_112, rfl, rfl⟩
theorem kcX3_19 : ba_MV ba_tC RX3 19 0 3 yX3_isFull cX3_isFull 1 (some .boolean) := ⟨⟨kw_508, kw_80, kw_513, ⟨by decide +kernel, by decide +kernel, by decide +kernel⟩⟩, kw_506, kw_507, TX3, 2, rfl⟩
theorem kcX5_147 : ba_MS RX5 147 3 yX5_isEvent cX5_isEvent 3 (some .boolean) := ⟨⟨kw_504, kw_78, kw_502, ⟨by decide +kernel, by decide +kernel, by decide +kernel⟩⟩, kw_503⟩
theorem kfX5_151 : ba_FL ba_tC RX5 151 0 9 (.object "Bagatelle$Slips") true := ⟨RX0, TX0, 10, tyX0, rfl, by decide, kinX0, tyX0_ok, nmX0, kw_152, rfl, rfl⟩
theorem kcX5_154 : ba_MV ba_tC RX5 154 0 3 yX3_isFull cX3_isFull 1 (some .boolean) := ⟨⟨kw_508, kw_80, kw_505, ⟨by decide +kernel, by decide +kernel, by decide +kernel⟩⟩, kw_506, kw_507, TX3, 2, rfl⟩
theorem kcX5_158 : ba_MV ba_tC RX5 158 4 3 yX3_append cX3_append 6 none := ⟨⟨kw_512, kw_80, kw_509, ⟨by decide +kernel, by decide +kernel, by decide +kernel⟩⟩, kw_510, kw_511, TX3, 2, rfl⟩
theorem kfX5_161 : ba_FL ba_tC RX5 161 3 1 .int false := ⟨RX3, TX3, 2, tyX3, rfl, by decide, kinX3, tyX3_ok, nmX3, kw_115, rfl, rfl⟩
theorem kfX5_51 : ba_FL ba_tC RX5 51 5 7 .int false := ⟨RX5, TX5, 19, tyX5, rfl, by decide, kinX5, tyX5_ok, nmX5, kw_299, rfl, rfl⟩
theorem kfX5_47 : ba_FL ba_tC RX5 47 5 6 (.array (.object "Bagatelle$Sheet")) true := ⟨RX5, TX5, 19, tyX5, rfl, by decide, kinX5, tyX5_ok, nmX5, kw_298, rfl, rfl⟩
theorem kfX5_162 : ba_FL ba_tC RX5 162 2 3 .boolean false := ⟨RX2, TX2, 4, tyX2, rfl, by decide, kinX2, tyX2_ok, nmX2, kw_282, rfl, rfl⟩
theorem kfX5_169 : ba_FL ba_tC RX5 169 2 0 (.array .int) true := ⟨RX2, TX2, 4, tyX2, rfl, by decide, kinX2, tyX2_ok, nmX2, kw_276, rfl, rfl⟩
theorem kfX5_172 : ba_FL ba_tC RX5 172 2 2 .int false := ⟨RX2, TX2, 4, tyX2, rfl, by decide, kinX2, tyX2_ok, nmX2, kw_280, rfl, rfl⟩
theorem kcX5_173 : ba_MV ba_tC RX5 173 3 5 yX5_event cX5_event 4 (some .int) := ⟨⟨kw_501, kw_78, kw_526, ⟨by decide +kernel, by decide +kernel, by decide +kernel⟩⟩, kw_499, kw_500, TX5, 19, rfl⟩
theorem kcX5_165 : ba_MV ba_tC RX5 165 1 5 yX5_found cX5_found 2 (some .int) := ⟨⟨kw_525, kw_78, kw_522, ⟨by decide +kernel, by decide +kernel, by decide +kernel⟩⟩, kw_524, kw_16, TX5, 19, rfl⟩
theorem kcX5_177 : ba_MV ba_tC RX5 177 2 1 yX1_rowOf cX1_rowOf 4 (some .int) := ⟨⟨kw_534, kw_82, kw_531, ⟨by decide +kernel, by decide +kernel, by decide +kernel⟩⟩, kw_532, kw_533, TX1, 19, rfl⟩
theorem kcX5_181 : ba_MV ba_tC RX5 181 2 1 yX1_columnOf cX1_columnOf 4 (some .int) := ⟨⟨kw_538, kw_82, kw_535, ⟨by decide +kernel, by decide +kernel, by decide +kernel⟩⟩, kw_536, kw_537, TX1, 19, rfl⟩
theorem kcX5_184 : ba_MV ba_tC RX5 184 2 1 yX1_ballIn cX1_ballIn 4 (some .int) := ⟨⟨kw_546, kw_82, kw_543, ⟨by decide +kernel, by decide +kernel, by decide +kernel⟩⟩, kw_544, kw_545, TX1, 19, rfl⟩
theorem kfX5_187 : ba_FL ba_tC RX5 187 1 14 (.array .int) true := ⟨RX1, TX1, 19, tyX1, rfl, by decide, kinX1, tyX1_ok, nmX1, kw_201, rfl, rfl⟩
theorem kfX5_190 : ba_FL ba_tC RX5 190 1 15 (.array .int) true := ⟨RX1, TX1, 19, tyX1, rfl, by decide, kinX1, tyX1_ok, nmX1, kw_203, rfl, rfl⟩
theorem kfX5_193 : ba_FL ba_tC RX5 193 1 16 (.array .int) true := ⟨RX1, TX1, 19, tyX1, rfl, by decide, kinX1, tyX1_ok, nmX1, kw_205, rfl, rfl⟩
theorem kcX5_196 : ba_MV ba_tC RX5 196 0 1 yX1_score cX1_score 3 (some .int) := ⟨⟨kw_558, kw_82, kw_555, ⟨by decide +kernel, by decide +kernel, by decide +kernel⟩⟩, kw_556, kw_557, TX1, 19, rfl⟩
theorem kfX5_200 : ba_FL ba_tC RX5 200 1 18 .int false := ⟨RX1, TX1, 19, tyX1, rfl, by decide, kinX1, tyX1_ok, nmX1, kw_209, rfl, rfl⟩
theorem kcX5_203 : ba_MV ba_tC RX5 203 0 1 yX1_lost cX1_lost 3 (some .int) := ⟨⟨kw_562, kw_82, kw_559, ⟨by decide +kernel, by decide +kernel, by decide +kernel⟩⟩, kw_560, kw_561, TX1, 19, rfl⟩
theorem kfX5_206 : ba_FL ba_tC RX5 206 1 17 (.array .int) true := ⟨RX1, TX1, 19, tyX1, rfl, by decide, kinX1, tyX1_ok, nmX1, kw_207, rfl, rfl⟩
theorem kfX5_62 : ba_FL ba_tC RX5 62 5 10 .int false := ⟨RX5, TX5, 19, tyX5, rfl, by decide, kinX5, tyX5_ok, nmX5, kw_302, rfl, rfl⟩
theorem kfX5_65 : ba_FL ba_tC RX5 65 5 11 .int false := ⟨RX5, TX5, 19, tyX5, rfl, by decide, kinX5, tyX5_ok, nmX5, kw_303, rfl, rfl⟩
theorem kfX5_35 : ba_FL ba_tC RX5 35 5 4 (.object "Bagatelle$Course") true := ⟨RX5, TX5, 19, tyX5, rfl, by decide, kinX5, tyX5_ok, nmX5, kw_296, rfl, rfl⟩
theorem ksX5_381 : Cond.fieldLink RX5 381 "Bagatelle" "LEAST_CHOICE" "[I" ∈ ba_tb := kw_583
theorem ksX5_384 : Cond.fieldLink RX5 384 "Bagatelle" "GREATEST_CHOICE" "[I" ∈ ba_tb := kw_585
theorem kcX5_387 : ba_MV ba_tC RX5 387 3 1 yX1_choose cX1_choose 4 none := ⟨⟨kw_590, kw_82, kw_587, ⟨by decide +kernel, by decide +kernel, by decide +kernel⟩⟩, kw_588, kw_589, TX1, 19, rfl⟩
theorem kcX5_209 : ba_MV ba_tC RX5 209 3 5 yX5_bestChoice cX5_bestChoice 7 (some .int) := ⟨⟨kw_582, kw_78, kw_579, ⟨by decide +kernel, by decide +kernel, by decide +kernel⟩⟩, kw_581, kw_17, TX5, 19, rfl⟩
theorem kcX5_394 : ba_MV ba_tC RX5 394 0 0 yX0_allEvents cX0_allEvents 1 (some .int) := ⟨⟨kw_444, kw_79, kw_611, ⟨by decide +kernel, by decide +kernel, by decide +kernel⟩⟩, kw_442, kw_443, TX0, 10, rfl⟩
theorem kfX5_218 : ba_FL ba_tC RX5 218 1 5 .int false := ⟨RX1, TX1, 19, tyX1, rfl, by decide, kinX1, tyX1_ok, nmX1, kw_189, rfl, rfl⟩
theorem kfX5_71 : ba_FL ba_tC RX5 71 5 13 .int false := ⟨RX5, TX5, 19, tyX5, rfl, by decide, kinX5, tyX5_ok, nmX5, kw_305, rfl, rfl⟩
theorem kfX5_74 : ba_FL ba_tC RX5 74 5 14 .int false := ⟨RX5, TX5, 19, tyX5, rfl, by decide, kinX5, tyX5_ok, nmX5, kw_306, rfl, rfl⟩
theorem kfX5_77 : ba_FL ba_tC RX5 77 5 15 .int false := ⟨RX5, TX5, 19, tyX5, rfl, by decide, kinX5, tyX5_ok, nmX5, kw_307, rfl, rfl⟩
theorem kcX5_391 : ba_MV ba_tC RX5 391 1 5 yX5_losesNoneWithout cX5_losesNoneWithout 2 (some .boolean) := ⟨⟨kw_610, kw_78, kw_607, ⟨by decide +kernel, by decide +kernel, by decide +kernel⟩⟩, kw_609, kw_19, TX5, 19, rfl⟩
theorem kcX5_212 : ba_MV ba_tC RX5 212 0 5 yX5_findSpares cX5_findSpares 4 none := ⟨⟨kw_606, kw_78, kw_603, ⟨by decide +kernel, by decide +kernel, by decide +kernel⟩⟩, kw_605, kw_18, TX5, 19, rfl⟩
theorem kfX5_41 : ba_FL ba_tC RX5 41 5 5 (.object "Bagatelle$Slips") true := ⟨RX5, TX5, 19, tyX5, rfl, by decide, kinX5, tyX5_ok, nmX5, kw_297, rfl, rfl⟩
theorem kcX1_155 : ba_MV ba_tC RX1 155 2 1 yX1_ballIn cX1_ballIn 4 (some .int) := ⟨⟨kw_546, kw_82, kw_628, ⟨by decide +kernel, by decide +kernel, by decide +kernel⟩⟩, kw_544, kw_545, TX1, 19, rfl⟩
theorem kcX5_224 : ba_MV ba_tC RX5 224 1 1 yX1_agrees cX1_agrees 5 (some .boolean) := ⟨⟨kw_627, kw_82, kw_624, ⟨by decide +kernel, by decide +kernel, by decide +kernel⟩⟩, kw_625, kw_626, TX1, 19, rfl⟩
theorem kcX5_228 : ba_MV ba_tC RX5 228 2 5 yX5_agreeing cX5_agreeing 5 (some .int) := ⟨⟨kw_636, kw_78, kw_633, ⟨by decide +kernel, by decide +kernel, by decide +kernel⟩⟩, kw_635, kw_20, TX5, 19, rfl⟩
theorem kfX5_86 : ba_FL ba_tC RX5 86 5 18 (.array .long) true := ⟨RX5, TX5, 19, tyX5, rfl, by decide, kinX5, tyX5_ok, nmX5, kw_310, rfl, rfl⟩
theorem kcX5_397 : ba_MV ba_tC RX5 397 2 1 yX1_mark cX1_mark 6 (some .long) := ⟨⟨kw_652, kw_82, kw_649, ⟨by decide +kernel, by decide +kernel, by decide +kernel⟩⟩, kw_650, kw_651, TX1, 19, rfl⟩
theorem kjX5_400 : Cond.methodLink RX5 400 Lib.Math.max.name ∈ ba_tb ∧ Cond.static Lib.Math.max.name ∈ ba_tb ∧ Cond.initialized "java/lang/Math" ∈ ba_tb ∧ Cond.code Lib.Math.max.name Lib.Math.max.code 2 (some .int) ∈ ba_tb := ⟨kw_657, kw_658, kw_87, kw_659⟩
theorem kcX5_231 : ba_MV ba_tC RX5 231 1 5 yX5_markForces cX5_markForces 5 (some .int) := ⟨⟨kw_648, kw_78, kw_645, ⟨by decide +kernel, by decide +kernel, by decide +kernel⟩⟩, kw_647, kw_21, TX5, 19, rfl⟩
theorem kcX5_234 : ba_MV ba_tC RX5 234 2 5 yX5_largestGroup cX5_largestGroup 9 (some .int) := ⟨⟨kw_656, kw_78, kw_653, ⟨by decide +kernel, by decide +kernel, by decide +kernel⟩⟩, kw_655, kw_22, TX5, 19, rfl⟩
theorem kfX5_83 : ba_FL ba_tC RX5 83 5 17 (.array .int) true := ⟨RX5, TX5, 19, tyX5, rfl, by decide, kinX5, tyX5_ok, nmX5, kw_309, rfl, rfl⟩
theorem kcX5_403 : ba_MV ba_tC RX5 403 0 1 yX1_bringing cX1_bringing 3 (some .int) := ⟨⟨kw_672, kw_82, kw_669, ⟨by decide +kernel, by decide +kernel, by decide +kernel⟩⟩, kw_670, kw_671, TX1, 19, rfl⟩
theorem kkX5_237 : Cond.constantLong RX5 237 (-9223372036854775806) ∈ ba_tb := kw_664
theorem kcX5_239 : ba_MV ba_tC RX5 239 0 5 yX5_findBringers cX5_findBringers 2 none := ⟨⟨kw_668, kw_78, kw_665, ⟨by decide +kernel, by decide +kernel, by decide +kernel⟩⟩, kw_667, kw_23, TX5, 19, rfl⟩
theorem kcX5_242 : ba_MV ba_tC RX5 242 2 5 yX5_weight cX5_weight 6 (some .long) := ⟨⟨kw_676, kw_78, kw_673, ⟨by decide +kernel, by decide +kernel, by decide +kernel⟩⟩, kw_675, kw_24, TX5, 19, rfl⟩
theorem kkX5_246 : Cond.constantLong RX5 246 2 ∈ ba_tb := kw_677
theorem kkX5_370 : Cond.constant RX5 370 1103515245 ∈ ba_tb := kw_685
theorem kfX5_248 : ba_FL ba_tC RX5 248 1 4 .int false := ⟨RX1, TX1, 19, tyX1, rfl, by decide, kinX1, tyX1_ok, nmX1, kw_187, rfl, rfl⟩
theorem kcX5_249 : ba_MS RX5 249 1 yX5_nextSeed cX5_nextSeed 1 (some .int) := ⟨⟨kw_684, kw_78, kw_682, ⟨by decide +kernel, by decide +kernel, by decide +kernel⟩⟩, kw_683⟩
theorem kfX5_252 : ba_FL ba_tC RX5 252 1 2 (.array .int) true := ⟨RX1, TX1, 19, tyX1, rfl, by decide, kinX1, tyX1_ok, nmX1, kw_183, rfl, rfl⟩
theorem kfX5_255 : ba_FL ba_tC RX5 255 1 3 (.array .int) true := ⟨RX1, TX1, 19, tyX1, rfl, by decide, kinX1, tyX1_ok, nmX1, kw_185, rfl, rfl⟩
theorem kfX2_15 : ba_FL ba_tC RX2 15 2 1 .int false := ⟨RX2, TX2, 4, tyX2, rfl, by decide, kinX2, tyX2_ok, nmX2, kw_277, rfl, rfl⟩
theorem kfX2_19 : ba_FL ba_tC RX2 19 2 2 .int false := ⟨RX2, TX2, 4, tyX2, rfl, by decide, kinX2, tyX2_ok, nmX2, kw_279, rfl, rfl⟩
theorem kfX2_22 : ba_FL ba_tC RX2 22 2 3 .boolean false := ⟨RX2, TX2, 4, tyX2, rfl, by decide, kinX2, tyX2_ok, nmX2, kw_281, rfl, rfl⟩
theorem kfX2_9 : ba_FL ba_tC RX2 9 2 0 (.array .int) true := ⟨RX2, TX2, 4, tyX2, rfl, by decide, kinX2, tyX2_ok, nmX2, kw_275, rfl, rfl⟩
theorem kcX2_26 : ba_MS RX2 26 2 yJ7_fill_53178 cJ7_fill_53178 4 none := ⟨⟨kw_124, kw_81, kw_694, ⟨by decide +kernel, by decide +kernel, by decide +kernel⟩⟩, kw_123⟩
theorem kcX5_258 : ba_MV ba_tC RX5 258 2 2 yX2_renew cX2_renew 3 none := ⟨⟨kw_693, kw_84, kw_690, ⟨by decide +kernel, by decide +kernel, by decide +kernel⟩⟩, kw_691, kw_692, TX2, 4, rfl⟩
theorem kcX2_32 : ba_MN ba_tC RX2 32 2 yX5_within cX5_within 2 (some .boolean) "Bagatelle" := ⟨⟨kw_356, kw_78, ⟨by decide +kernel, by decide +kernel, by decide +kernel⟩⟩, kw_355, by decide +kernel⟩
theorem kcX5_262 : ba_MV ba_tC RX5 262 2 2 yX2_findingFor cX2_findingFor 3 (some .int) := ⟨⟨kw_706, kw_84, kw_703, ⟨by decide +kernel, by decide +kernel, by decide +kernel⟩⟩, kw_704, kw_705, TX2, 4, rfl⟩
theorem kcX5_265 : ba_MV ba_tC RX5 265 2 2 yX2_put cX2_put 3 none := ⟨⟨kw_711, kw_84, kw_708, ⟨by decide +kernel, by decide +kernel, by decide +kernel⟩⟩, kw_709, kw_710, TX2, 4, rfl⟩
theorem kkX5_268 : Cond.constant RX5 268 (-2147483648) ∈ ba_tb := kw_716
theorem kfX5_269 : ba_FL ba_tC RX5 269 2 1 .int false := ⟨RX2, TX2, 4, tyX2, rfl, by decide, kinX2, tyX2_ok, nmX2, kw_278, rfl, rfl⟩
theorem kcX5_272 : ba_MV ba_tC RX5 272 2 2 yX2_hasItems cX2_hasItems 3 (some .boolean) := ⟨⟨kw_724, kw_84, kw_721, ⟨by decide +kernel, by decide +kernel, by decide +kernel⟩⟩, kw_722, kw_723, TX2, 4, rfl⟩
theorem kjX5_275 : Cond.methodLink RX5 275 arraycopyName ∈ ba_tb ∧ Cond.native arraycopyName ∈ ba_tb ∧ Cond.static arraycopyName ∈ ba_tb ∧ Cond.initialized "java/lang/System" ∈ ba_tb := ⟨kw_725, kw_440, kw_439, kw_86⟩
theorem kjX5_281 : Cond.methodLink RX5 281 Lib.Math.min.name ∈ ba_tb ∧ Cond.static Lib.Math.min.name ∈ ba_tb ∧ Cond.initialized "java/lang/Math" ∈ ba_tb ∧ Cond.code Lib.Math.min.name Lib.Math.min.code 2 (some .int) ∈ ba_tb := ⟨kw_730, kw_731, kw_87, kw_732⟩
theorem kcX1_158 : ba_MS RX1 158 1 yJ6_bitCount_0f7a4 cJ6_bitCount_0f7a4 1 (some .int) := ⟨⟨kw_744, kw_88, kw_742, ⟨by decide +kernel, by decide +kernel, by decide +kernel⟩⟩, kw_743⟩
theorem kcX5_286 : ba_MV ba_tC RX5 286 1 5 yX5_sum cX5_sum 2 (some .int) := ⟨⟨kw_554, kw_78, kw_737, ⟨by decide +kernel, by decide +kernel, by decide +kernel⟩⟩, kw_552, kw_553, TX5, 19, rfl⟩
theorem kcX5_289 : ba_MV ba_tC RX5 289 0 1 yX1_onBoard cX1_onBoard 3 (some .int) := ⟨⟨kw_741, kw_82, kw_738, ⟨by decide +kernel, by decide +kernel, by decide +kernel⟩⟩, kw_739, kw_740, TX1, 19, rfl⟩
theorem kkX5_294 : Cond.constantLong RX5 294 31 ∈ ba_tb := kw_753
theorem kcX5_333 : ba_MV ba_tC RX5 333 2 5 yX5_pin cX5_pin 3 (some .int) := ⟨⟨kw_425, kw_78, kw_762, ⟨by decide +kernel, by decide +kernel, by decide +kernel⟩⟩, kw_423, kw_424, TX5, 19, rfl⟩
theorem kcX5_336 : ba_MV ba_tC RX5 336 2 5 yX5_bend cX5_bend 3 (some .int) := ⟨⟨kw_598, kw_78, kw_763, ⟨by decide +kernel, by decide +kernel, by decide +kernel⟩⟩, kw_596, kw_597, TX5, 19, rfl⟩
theorem kcX5_339 : ba_MV ba_tC RX5 339 1 5 yX5_kind cX5_kind 2 (some .int) := ⟨⟨kw_640, kw_78, kw_764, ⟨by decide +kernel, by decide +kernel, by decide +kernel⟩⟩, kw_638, kw_639, TX5, 19, rfl⟩
theorem kcX5_342 : ba_MV ba_tC RX5 342 2 5 yX5_ball cX5_ball 3 (some .int) := ⟨⟨kw_493, kw_78, kw_769, ⟨by decide +kernel, by decide +kernel, by decide +kernel⟩⟩, kw_491, kw_492, TX5, 19, rfl⟩
theorem ksX5_345 : Cond.fieldLink RX5 345 "Bagatelle" "DIGEST_TICKS" "[I" ∈ ba_tb := kw_770
theorem kcX5_348 : ba_MV ba_tC RX5 348 3 5 yX5_at cX5_at 4 (some .int) := ⟨⟨kw_530, kw_78, kw_772, ⟨by decide +kernel, by decide +kernel, by decide +kernel⟩⟩, kw_528, kw_529, TX5, 19, rfl⟩
theorem kcX5_351 : ba_MV ba_tC RX5 351 2 5 yX5_ends cX5_ends 3 (some .int) := ⟨⟨kw_550, kw_78, kw_773, ⟨by decide +kernel, by decide +kernel, by decide +kernel⟩⟩, kw_548, kw_549, TX5, 19, rfl⟩
theorem kcX5_354 : ba_MV ba_tC RX5 354 2 5 yX5_shoot cX5_shoot 3 (some .int) := ⟨⟨kw_578, kw_78, kw_774, ⟨by decide +kernel, by decide +kernel, by decide +kernel⟩⟩, kw_576, kw_577, TX5, 19, rfl⟩
theorem kcX5_357 : ba_MV ba_tC RX5 357 2 5 yX5_time cX5_time 3 (some .int) := ⟨⟨kw_594, kw_78, kw_775, ⟨by decide +kernel, by decide +kernel, by decide +kernel⟩⟩, kw_592, kw_593, TX5, 19, rfl⟩
theorem kcX5_360 : ba_MV ba_tC RX5 360 1 5 yX5_forces cX5_forces 2 (some .int) := ⟨⟨kw_632, kw_78, kw_776, ⟨by decide +kernel, by decide +kernel, by decide +kernel⟩⟩, kw_630, kw_631, TX5, 19, rfl⟩
theorem kcX5_363 : ba_MV ba_tC RX5 363 1 5 yX5_ask cX5_ask 7 (some .int) := ⟨⟨kw_644, kw_78, kw_777, ⟨by decide +kernel, by decide +kernel, by decide +kernel⟩⟩, kw_642, kw_643, TX5, 19, rfl⟩
theorem kcX5_366 : ba_MV ba_tC RX5 366 3 5 yX5_chance cX5_chance 9 (some .long) := ⟨⟨kw_663, kw_78, kw_778, ⟨by decide +kernel, by decide +kernel, by decide +kernel⟩⟩, kw_661, kw_662, TX5, 19, rfl⟩
theorem kkX5_292 : Cond.constantLong RX5 292 17 ∈ ba_tb := kw_752
theorem kcX5_296 : ba_MV ba_tC RX5 296 1 5 yX5_count cX5_count 2 (some .int) := ⟨⟨kw_736, kw_78, kw_754, ⟨by decide +kernel, by decide +kernel, by decide +kernel⟩⟩, kw_734, kw_735, TX5, 19, rfl⟩
theorem kcX5_299 : ba_MV ba_tC RX5 299 1 5 yX5_fault cX5_fault 2 (some .int) := ⟨⟨kw_421, kw_78, kw_755, ⟨by decide +kernel, by decide +kernel, by decide +kernel⟩⟩, kw_419, kw_420, TX5, 19, rfl⟩
theorem kcX5_302 : ba_MV ba_tC RX5 302 3 5 yX5_sees cX5_sees 4 (some .int) := ⟨⟨kw_542, kw_78, kw_756, ⟨by decide +kernel, by decide +kernel, by decide +kernel⟩⟩, kw_540, kw_541, TX5, 19, rfl⟩
theorem kcX5_305 : ba_MV ba_tC RX5 305 2 5 yX5_cup cX5_cup 3 (some .int) := ⟨⟨kw_429, kw_78, kw_757, ⟨by decide +kernel, by decide +kernel, by decide +kernel⟩⟩, kw_427, kw_428, TX5, 19, rfl⟩
theorem kcX5_308 : ba_MV ba_tC RX5 308 2 5 yX5_withPin cX5_withPin 7 (some .long) := ⟨⟨kw_761, kw_78, kw_758, ⟨by decide +kernel, by decide +kernel, by decide +kernel⟩⟩, kw_760, kw_25, TX5, 19, rfl⟩
theorem kcX5_312 : ba_MV ba_tC RX5 312 2 5 yX5_withBall cX5_withBall 7 (some .long) := ⟨⟨kw_768, kw_78, kw_765, ⟨by decide +kernel, by decide +kernel, by decide +kernel⟩⟩, kw_767, kw_26, TX5, 19, rfl⟩
theorem kcX5_315 : ba_MV ba_tC RX5 315 0 5 yX5_late cX5_late 3 (some .int) := ⟨⟨kw_566, kw_78, kw_779, ⟨by decide +kernel, by decide +kernel, by decide +kernel⟩⟩, kw_564, kw_565, TX5, 19, rfl⟩
theorem kcX5_318 : ba_MV ba_tC RX5 318 0 5 yX5_best cX5_best 4 (some .int) := ⟨⟨kw_570, kw_78, kw_780, ⟨by decide +kernel, by decide +kernel, by decide +kernel⟩⟩, kw_568, kw_569, TX5, 19, rfl⟩
theorem kcX5_321 : ba_MV ba_tC RX5 321 1 5 yX5_jam cX5_jam 4 (some .int) := ⟨⟨kw_574, kw_78, kw_781, ⟨by decide +kernel, by decide +kernel, by decide +kernel⟩⟩, kw_572, kw_573, TX5, 19, rfl⟩
theorem kcX5_324 : ba_MV ba_tC RX5 324 1 5 yX5_spare cX5_spare 2 (some .int) := ⟨⟨kw_602, kw_78, kw_782, ⟨by decide +kernel, by decide +kernel, by decide +kernel⟩⟩, kw_600, kw_601, TX5, 19, rfl⟩
theorem kcX5_327 : ba_MV ba_tC RX5 327 0 5 yX5_never cX5_never 4 (some .int) := ⟨⟨kw_623, kw_78, kw_783, ⟨by decide +kernel, by decide +kernel, by decide +kernel⟩⟩, kw_621, kw_622, TX5, 19, rfl⟩
theorem kcX5_330 : ba_MV ba_tC RX5 330 3 5 yX5_sundays cX5_sundays 6 (some .int) := ⟨⟨kw_681, kw_78, kw_784, ⟨by decide +kernel, by decide +kernel, by decide +kernel⟩⟩, kw_679, kw_680, TX5, 19, rfl⟩
theorem kkX6_86 : Cond.constantLong RX6 86 (-9223372036854775808) ∈ ba_tb := kw_1269
theorem kcX6_88 : ba_MS RX6 88 3 yX6_in cX6_in 6 (some .boolean) := ⟨⟨kw_901, kw_85, kw_899, ⟨by decide +kernel, by decide +kernel, by decide +kernel⟩⟩, kw_900⟩
theorem kfX6_92 : ba_FL ba_tM RX6 92 6 4 .int false := ⟨RX6, TX6, 33, tyX6, rfl, by decide, kinX6, tyX6_ok, nmX6, kw_795, rfl, rfl⟩
theorem kkX6_95 : Cond.constantLong RX6 95 3 ∈ ba_tb := kw_898
theorem kcX6_97 : ba_MS RX6 97 1 yX6_isSheet cX6_isSheet 1 (some .boolean) := ⟨⟨kw_897, kw_85, kw_895, ⟨by decide +kernel, by decide +kernel, by decide +kernel⟩⟩, kw_896⟩
theorem kkX6_101 : Cond.constantLong RX6 101 2 ∈ ba_tb := kw_902
theorem kfX6_7 : ba_FL ba_tM RX6 7 6 0 (.array .int) true := ⟨RX6, TX6, 33, tyX6, rfl, by decide, kinX6, tyX6_ok, nmX6, kw_791, rfl, rfl⟩
theorem kfX6_13 : ba_FL ba_tM RX6 13 6 1 (.array .int) true := ⟨RX6, TX6, 33, tyX6, rfl, by decide, kinX6, tyX6_ok, nmX6, kw_792, rfl, rfl⟩
theorem kfX6_16 : ba_FL ba_tM RX6 16 6 2 (.array .int) true := ⟨RX6, TX6, 33, tyX6, rfl, by decide, kinX6, tyX6_ok, nmX6, kw_793, rfl, rfl⟩
theorem kcX6_103 : ba_MV ba_tM RX6 103 1 6 yX6_finds cX6_finds 2 (some .int) := ⟨⟨kw_906, kw_85, kw_903, ⟨by decide +kernel, by decide +kernel, by decide +kernel⟩⟩, kw_905, kw_27, TX6, 33, rfl⟩
theorem kcX6_107 : ba_MV ba_tM RX6 107 3 6 yX6_lacks cX6_lacks 4 (some .int) := ⟨⟨kw_918, kw_85, kw_915, ⟨by decide +kernel, by decide +kernel, by decide +kernel⟩⟩, kw_917, kw_28, TX6, 33, rfl⟩
theorem kcX6_111 : ba_MS RX6 111 2 yX6_cut cX6_cut 2 (some .int) := ⟨⟨kw_921, kw_85, kw_919, ⟨by decide +kernel, by decide +kernel, by decide +kernel⟩⟩, kw_920⟩
theorem kkX6_115 : Cond.constant RX6 115 (-2147483648) ∈ ba_tb := kw_926
theorem kfX6_19 : ba_FL ba_tM RX6 19 6 3 (.array .int) true := ⟨RX6, TX6, 33, tyX6, rfl, by decide, kinX6, tyX6_ok, nmX6, kw_794, rfl, rfl⟩
theorem kcX6_116 : ba_MS RX6 116 1 yX6_isText cX6_isText 1 (some .boolean) := ⟨⟨kw_937, kw_85, kw_935, ⟨by decide +kernel, by decide +kernel, by decide +kernel⟩⟩, kw_936⟩
theorem kkX6_119 : Cond.constantLong RX6 119 255 ∈ ba_tb := kw_938
theorem kfX6_25 : ba_FL ba_tM RX6 25 6 6 (.array .int) true := ⟨RX6, TX6, 33, tyX6, rfl, by decide, kinX6, tyX6_ok, nmX6, kw_797, rfl, rfl⟩
theorem kfX6_22 : ba_FL ba_tM RX6 22 6 5 (.array .int) true := ⟨RX6, TX6, 33, tyX6, rfl, by decide, kinX6, tyX6_ok, nmX6, kw_796, rfl, rfl⟩
theorem kcX6_121 : ba_MS RX6 121 3 yX6_figureOf cX6_figureOf 3 (some .int) := ⟨⟨kw_964, kw_85, kw_962, ⟨by decide +kernel, by decide +kernel, by decide +kernel⟩⟩, kw_963⟩
theorem kcX6_124 : ba_MS RX6 124 1 yX6_between cX6_between 1 (some .int) := ⟨⟨kw_967, kw_85, kw_965, ⟨by decide +kernel, by decide +kernel, by decide +kernel⟩⟩, kw_966⟩
theorem kfX6_28 : ba_FL ba_tM RX6 28 6 8 (.array .int) true := ⟨RX6, TX6, 33, tyX6, rfl, by decide, kinX6, tyX6_ok, nmX6, kw_799, rfl, rfl⟩
theorem kfX6_127 : ba_FL ba_tM RX6 127 6 7 .int false := ⟨RX6, TX6, 33, tyX6, rfl, by decide, kinX6, tyX6_ok, nmX6, kw_798, rfl, rfl⟩
theorem kcX6_130 : ba_MS RX6 130 2 yX6_pinOf cX6_pinOf 2 (some .int) := ⟨⟨kw_961, kw_85, kw_959, ⟨by decide +kernel, by decide +kernel, by decide +kernel⟩⟩, kw_960⟩
theorem kcX6_133 : ba_MV ba_tM RX6 133 1 6 yX6_isTaken cX6_isTaken 4 (some .boolean) := ⟨⟨kw_971, kw_85, kw_968, ⟨by decide +kernel, by decide +kernel, by decide +kernel⟩⟩, kw_970, kw_31, TX6, 33, rfl⟩
theorem kfX6_31 : ba_FL ba_tM RX6 31 6 9 (.array .int) true := ⟨RX6, TX6, 33, tyX6, rfl, by decide, kinX6, tyX6_ok, nmX6, kw_800, rfl, rfl⟩
theorem kcX6_136 : ba_MV ba_tM RX6 136 0 6 yX6_worthless cX6_worthless 2 none := ⟨⟨kw_979, kw_85, kw_976, ⟨by decide +kernel, by decide +kernel, by decide +kernel⟩⟩, kw_978, kw_33, TX6, 33, rfl⟩
theorem kkX6_139 : Cond.constantLong RX6 139 97 ∈ ba_tb := kw_987
theorem kkX6_141 : Cond.constantLong RX6 141 120 ∈ ba_tb := kw_988
theorem kfX6_143 : ba_FL ba_tM RX6 143 6 10 .int false := ⟨RX6, TX6, 33, tyX6, rfl, by decide, kinX6, tyX6_ok, nmX6, kw_801, rfl, rfl⟩
theorem kcX6_146 : ba_MS RX6 146 2 yX6_ballOf cX6_ballOf 2 (some .int) := ⟨⟨kw_986, kw_85, kw_984, ⟨by decide +kernel, by decide +kernel, by decide +kernel⟩⟩, kw_985⟩
theorem kfX6_34 : ba_FL ba_tM RX6 34 6 11 (.array .int) true := ⟨RX6, TX6, 33, tyX6, rfl, by decide, kinX6, tyX6_ok, nmX6, kw_802, rfl, rfl⟩
theorem kcX6_149 : ba_MV ba_tM RX6 149 0 6 yX6_readsPins cX6_readsPins 5 (some .int) := ⟨⟨kw_958, kw_85, kw_955, ⟨by decide +kernel, by decide +kernel, by decide +kernel⟩⟩, kw_957, kw_30, TX6, 33, rfl⟩
theorem kcX6_153 : ba_MV ba_tM RX6 153 0 6 yX6_readsCups cX6_readsCups 3 (some .int) := ⟨⟨kw_975, kw_85, kw_972, ⟨by decide +kernel, by decide +kernel, by decide +kernel⟩⟩, kw_974, kw_32, TX6, 33, rfl⟩
theorem kcX6_156 : ba_MV ba_tM RX6 156 0 6 yX6_readsBalls cX6_readsBalls 5 (some .int) := ⟨⟨kw_983, kw_85, kw_980, ⟨by decide +kernel, by decide +kernel, by decide +kernel⟩⟩, kw_982, kw_34, TX6, 33, rfl⟩
theorem kcX6_159 : ba_MV ba_tM RX6 159 1 6 yX6_readsText cX6_readsText 2 (some .int) := ⟨⟨kw_954, kw_85, kw_951, ⟨by decide +kernel, by decide +kernel, by decide +kernel⟩⟩, kw_953, kw_29, TX6, 33, rfl⟩
theorem kkX6_162 : Cond.constantLong RX6 162 23 ∈ ba_tb := kw_1020
theorem kkX6_164 : Cond.constantLong RX6 164 8 ∈ ba_tb := kw_1065
theorem kcX6_166 : ba_MV ba_tM RX6 166 1 6 yX6_isPin cX6_isPin 2 (some .boolean) := ⟨⟨kw_996, kw_85, kw_993, ⟨by decide +kernel, by decide +kernel, by decide +kernel⟩⟩, kw_995, kw_35, TX6, 33, rfl⟩
theorem kcX6_169 : ba_MV ba_tM RX6 169 1 6 yX6_isBall cX6_isBall 2 (some .boolean) := ⟨⟨kw_1004, kw_85, kw_1001, ⟨by decide +kernel, by decide +kernel, by decide +kernel⟩⟩, kw_1003, kw_36, TX6, 33, rfl⟩
theorem kcX6_172 : ba_MS RX6 172 1 yX6_isTwo cX6_isTwo 1 (some .boolean) := ⟨⟨kw_1007, kw_85, kw_1005, ⟨by decide +kernel, by decide +kernel, by decide +kernel⟩⟩, kw_1006⟩
theorem kkX6_175 : Cond.constantLong RX6 175 9 ∈ ba_tb := kw_1012
theorem kfX6_82 : ba_FL ba_tM RX6 82 6 12 .int false := ⟨RX6, TX6, 33, tyX6, rfl, by decide, kinX6, tyX6_ok, nmX6, kw_803, rfl, rfl⟩
theorem kcX6_177 : ba_MS RX6 177 1 yX6_isTick cX6_isTick 1 (some .boolean) := ⟨⟨kw_1019, kw_85, kw_1017, ⟨by decide +kernel, by decide +kernel, by decide +kernel⟩⟩, kw_1018⟩
theorem kkX6_180 : Cond.constantLong RX6 180 11 ∈ ba_tb := kw_1021
theorem kfX6_182 : ba_FL ba_tM RX6 182 6 13 .int false := ⟨RX6, TX6, 33, tyX6, rfl, by decide, kinX6, tyX6_ok, nmX6, kw_804, rfl, rfl⟩
theorem kfX6_37 : ba_FL ba_tM RX6 37 6 14 (.array .int) true := ⟨RX6, TX6, 33, tyX6, rfl, by decide, kinX6, tyX6_ok, nmX6, kw_805, rfl, rfl⟩
theorem kcX6_185 : ba_MV ba_tM RX6 185 3 6 yX6_event cX6_event 4 (some .int) := ⟨⟨kw_1016, kw_85, kw_1030, ⟨by decide +kernel, by decide +kernel, by decide +kernel⟩⟩, kw_1014, kw_1015, TX6, 33, rfl⟩
theorem kfX6_40 : ba_FL ba_tM RX6 40 6 16 (.array .int) true := ⟨RX6, TX6, 33, tyX6, rfl, by decide, kinX6, tyX6_ok, nmX6, kw_807, rfl, rfl⟩
theorem kfX6_43 : ba_FL ba_tM RX6 43 6 17 (.array .int) true := ⟨RX6, TX6, 33, tyX6, rfl, by decide, kinX6, tyX6_ok, nmX6, kw_808, rfl, rfl⟩
theorem kcX6_187 : ba_MV ba_tM RX6 187 2 6 yX6_whoAt cX6_whoAt 5 (some .int) := ⟨⟨kw_1061, kw_85, kw_1058, ⟨by decide +kernel, by decide +kernel, by decide +kernel⟩⟩, kw_1060, kw_42, TX6, 33, rfl⟩
theorem kcX6_190 : ba_MS RX6 190 1 yX6_isColumn cX6_isColumn 1 (some .boolean) := ⟨⟨kw_1064, kw_85, kw_1062, ⟨by decide +kernel, by decide +kernel, by decide +kernel⟩⟩, kw_1063⟩
theorem kfX6_55 : ba_FL ba_tM RX6 55 6 21 (.array .int) true := ⟨RX6, TX6, 33, tyX6, rfl, by decide, kinX6, tyX6_ok, nmX6, kw_812, rfl, rfl⟩
theorem kfX6_58 : ba_FL ba_tM RX6 58 6 22 (.array .int) true := ⟨RX6, TX6, 33, tyX6, rfl, by decide, kinX6, tyX6_ok, nmX6, kw_813, rfl, rfl⟩
theorem kfX6_61 : ba_FL ba_tM RX6 61 6 23 (.array .int) true := ⟨RX6, TX6, 33, tyX6, rfl, by decide, kinX6, tyX6_ok, nmX6, kw_814, rfl, rfl⟩
theorem kfX6_193 : ba_FL ba_tM RX6 193 6 15 .int false := ⟨RX6, TX6, 33, tyX6, rfl, by decide, kinX6, tyX6_ok, nmX6, kw_806, rfl, rfl⟩
theorem kcX6_196 : ba_MS RX6 196 2 yX6_isIn cX6_isIn 2 (some .boolean) := ⟨⟨kw_1053, kw_85, kw_1051, ⟨by decide +kernel, by decide +kernel, by decide +kernel⟩⟩, kw_1052⟩
theorem kcX6_200 : ba_MV ba_tM RX6 200 1 6 yX6_tilts cX6_tilts 6 none := ⟨⟨kw_1057, kw_85, kw_1054, ⟨by decide +kernel, by decide +kernel, by decide +kernel⟩⟩, kw_1056, kw_41, TX6, 33, rfl⟩
theorem kcX6_204 : ba_MV ba_tM RX6 204 1 6 yX6_knocks cX6_knocks 2 none := ⟨⟨kw_1069, kw_85, kw_1066, ⟨by decide +kernel, by decide +kernel, by decide +kernel⟩⟩, kw_1068, kw_43, TX6, 33, rfl⟩
theorem kcX6_207 : ba_MV ba_tM RX6 207 1 6 yX6_empties cX6_empties 2 none := ⟨⟨kw_1073, kw_85, kw_1070, ⟨by decide +kernel, by decide +kernel, by decide +kernel⟩⟩, kw_1072, kw_44, TX6, 33, rfl⟩
theorem kcX6_210 : ba_MS RX6 210 2 yX6_aside cX6_aside 2 (some .int) := ⟨⟨kw_1088, kw_85, kw_1086, ⟨by decide +kernel, by decide +kernel, by decide +kernel⟩⟩, kw_1087⟩
theorem kfX6_49 : ba_FL ba_tM RX6 49 6 19 (.array .int) true := ⟨RX6, TX6, 33, tyX6, rfl, by decide, kinX6, tyX6_ok, nmX6, kw_810, rfl, rfl⟩
theorem kfX6_46 : ba_FL ba_tM RX6 46 6 18 (.array .int) true := ⟨RX6, TX6, 33, tyX6, rfl, by decide, kinX6, tyX6_ok, nmX6, kw_809, rfl, rfl⟩
theorem kfX6_64 : ba_FL ba_tM RX6 64 6 24 (.array .int) true := ⟨RX6, TX6, 33, tyX6, rfl, by decide, kinX6, tyX6_ok, nmX6, kw_815, rfl, rfl⟩
theorem kcX6_213 : ba_MV ba_tM RX6 213 2 6 yX6_pinAt cX6_pinAt 5 (some .int) := ⟨⟨kw_1081, kw_85, kw_1078, ⟨by decide +kernel, by decide +kernel, by decide +kernel⟩⟩, kw_1080, kw_46, TX6, 33, rfl⟩
theorem kcX6_216 : ba_MV ba_tM RX6 216 2 6 yX6_goesTo cX6_goesTo 5 (some .int) := ⟨⟨kw_1085, kw_85, kw_1082, ⟨by decide +kernel, by decide +kernel, by decide +kernel⟩⟩, kw_1084, kw_47, TX6, 33, rfl⟩
theorem kcX6_222 : ba_MV ba_tM RX6 222 3 6 yX6_ending cX6_ending 5 none := ⟨⟨kw_1092, kw_85, kw_1089, ⟨by decide +kernel, by decide +kernel, by decide +kernel⟩⟩, kw_1091, kw_48, TX6, 33, rfl⟩
theorem kfX6_219 : ba_FL ba_tM RX6 219 6 28 .int false := ⟨RX6, TX6, 33, tyX6, rfl, by decide, kinX6, tyX6_ok, nmX6, kw_819, rfl, rfl⟩
theorem kfX6_52 : ba_FL ba_tM RX6 52 6 20 (.array .int) true := ⟨RX6, TX6, 33, tyX6, rfl, by decide, kinX6, tyX6_ok, nmX6, kw_811, rfl, rfl⟩
theorem kfX6_67 : ba_FL ba_tM RX6 67 6 25 (.array .int) true := ⟨RX6, TX6, 33, tyX6, rfl, by decide, kinX6, tyX6_ok, nmX6, kw_816, rfl, rfl⟩
theorem kcX6_226 : ba_MV ba_tM RX6 226 1 6 yX6_happens cX6_happens 4 none := ⟨⟨kw_1050, kw_85, kw_1047, ⟨by decide +kernel, by decide +kernel, by decide +kernel⟩⟩, kw_1049, kw_40, TX6, 33, rfl⟩
theorem kcX6_229 : ba_MV ba_tM RX6 229 2 6 yX6_falls cX6_falls 5 none := ⟨⟨kw_1077, kw_85, kw_1074, ⟨by decide +kernel, by decide +kernel, by decide +kernel⟩⟩, kw_1076, kw_45, TX6, 33, rfl⟩
theorem kfX6_70 : ba_FL ba_tM RX6 70 6 26 (.array .int) true := ⟨RX6, TX6, 33, tyX6, rfl, by decide, kinX6, tyX6_ok, nmX6, kw_817, rfl, rfl⟩
theorem kfX6_73 : ba_FL ba_tM RX6 73 6 27 (.array .int) true := ⟨RX6, TX6, 33, tyX6, rfl, by decide, kinX6, tyX6_ok, nmX6, kw_818, rfl, rfl⟩
theorem kcX6_233 : ba_MV ba_tM RX6 233 1 6 yX6_passes cX6_passes 5 none := ⟨⟨kw_1046, kw_85, kw_1043, ⟨by decide +kernel, by decide +kernel, by decide +kernel⟩⟩, kw_1045, kw_39, TX6, 33, rfl⟩
theorem kcX6_236 : ba_MV ba_tM RX6 236 0 6 yX6_lives cX6_lives 2 none := ⟨⟨kw_1042, kw_85, kw_1039, ⟨by decide +kernel, by decide +kernel, by decide +kernel⟩⟩, kw_1041, kw_38, TX6, 33, rfl⟩
theorem kcX6_239 : ba_MV ba_tM RX6 239 0 6 yX6_find cX6_find 1 none := ⟨⟨kw_1038, kw_85, kw_1035, ⟨by decide +kernel, by decide +kernel, by decide +kernel⟩⟩, kw_1037, kw_37, TX6, 33, rfl⟩
theorem kcX6_242 : ba_MV ba_tM RX6 242 2 6 yX6_cupBy cX6_cupBy 3 (some .int) := ⟨⟨kw_1096, kw_85, kw_1093, ⟨by decide +kernel, by decide +kernel, by decide +kernel⟩⟩, kw_1095, kw_49, TX6, 33, rfl⟩
theorem kcX6_245 : ba_MV ba_tM RX6 245 3 6 yX6_atBy cX6_atBy 4 (some .int) := ⟨⟨kw_1104, kw_85, kw_1101, ⟨by decide +kernel, by decide +kernel, by decide +kernel⟩⟩, kw_1103, kw_50, TX6, 33, rfl⟩
theorem kkX6_248 : Cond.constantLong RX6 248 7 ∈ ba_tb := kw_1109
theorem kcX6_250 : ba_MV ba_tM RX6 250 3 6 yX6_seesBy cX6_seesBy 6 (some .int) := ⟨⟨kw_1113, kw_85, kw_1110, ⟨by decide +kernel, by decide +kernel, by decide +kernel⟩⟩, kw_1112, kw_51, TX6, 33, rfl⟩
theorem kcX6_253 : ba_MV ba_tM RX6 253 2 6 yX6_endsBy cX6_endsBy 3 (some .int) := ⟨⟨kw_1121, kw_85, kw_1118, ⟨by decide +kernel, by decide +kernel, by decide +kernel⟩⟩, kw_1120, kw_52, TX6, 33, rfl⟩
theorem kcX6_256 : ba_MV ba_tM RX6 256 0 6 yX6_score cX6_score 3 (some .int) := ⟨⟨kw_1133, kw_85, kw_1130, ⟨by decide +kernel, by decide +kernel, by decide +kernel⟩⟩, kw_1132, kw_54, TX6, 33, rfl⟩
theorem kcX6_259 : ba_MV ba_tM RX6 259 1 6 yX6_manyIn cX6_manyIn 4 (some .int) := ⟨⟨kw_1137, kw_85, kw_1134, ⟨by decide +kernel, by decide +kernel, by decide +kernel⟩⟩, kw_1136, kw_55, TX6, 33, rfl⟩
theorem kcX6_262 : ba_MV ba_tM RX6 262 1 6 yX6_sumBy cX6_sumBy 2 (some .int) := ⟨⟨kw_1129, kw_85, kw_1126, ⟨by decide +kernel, by decide +kernel, by decide +kernel⟩⟩, kw_1128, kw_53, TX6, 33, rfl⟩
theorem kcX6_265 : ba_MV ba_tM RX6 265 0 6 yX6_lateNow cX6_lateNow 3 (some .int) := ⟨⟨kw_1145, kw_85, kw_1142, ⟨by decide +kernel, by decide +kernel, by decide +kernel⟩⟩, kw_1144, kw_56, TX6, 33, rfl⟩
theorem kcX6_268 : ba_MS RX6 268 2 yX6_greater cX6_greater 2 (some .int) := ⟨⟨kw_1156, kw_85, kw_1154, ⟨by decide +kernel, by decide +kernel, by decide +kernel⟩⟩, kw_1155⟩
theorem kcX6_271 : ba_MV ba_tM RX6 271 0 6 yX6_bestNow cX6_bestNow 4 (some .int) := ⟨⟨kw_1153, kw_85, kw_1150, ⟨by decide +kernel, by decide +kernel, by decide +kernel⟩⟩, kw_1152, kw_57, TX6, 33, rfl⟩
theorem kcX6_274 : ba_MV ba_tM RX6 274 1 6 yX6_jamBy cX6_jamBy 4 (some .int) := ⟨⟨kw_1164, kw_85, kw_1161, ⟨by decide +kernel, by decide +kernel, by decide +kernel⟩⟩, kw_1163, kw_58, TX6, 33, rfl⟩
theorem kcX6_277 : ba_MV ba_tM RX6 277 4 6 yX6_ballBetter cX6_ballBetter 10 (some .int) := ⟨⟨kw_1172, kw_85, kw_1169, ⟨by decide +kernel, by decide +kernel, by decide +kernel⟩⟩, kw_1171, kw_59, TX6, 33, rfl⟩
theorem kcX6_281 : ba_MV ba_tM RX6 281 2 6 yX6_bendOf cX6_bendOf 8 (some .int) := ⟨⟨kw_1184, kw_85, kw_1181, ⟨by decide +kernel, by decide +kernel, by decide +kernel⟩⟩, kw_1183, kw_60, TX6, 33, rfl⟩
theorem kcX6_284 : ba_MV ba_tM RX6 284 1 6 yX6_isSpared cX6_isSpared 2 (some .boolean) := ⟨⟨kw_1197, kw_85, kw_1194, ⟨by decide +kernel, by decide +kernel, by decide +kernel⟩⟩, kw_1196, kw_62, TX6, 33, rfl⟩
theorem kkX6_287 : Cond.constantLong RX6 287 (-1) ∈ ba_tb := kw_1189
theorem kcX6_289 : ba_MV ba_tM RX6 289 1 6 yX6_spareBy cX6_spareBy 4 (some .int) := ⟨⟨kw_1193, kw_85, kw_1190, ⟨by decide +kernel, by decide +kernel, by decide +kernel⟩⟩, kw_1192, kw_61, TX6, 33, rfl⟩
theorem kkX6_292 : Cond.constantLong RX6 292 12 ∈ ba_tb := kw_1202
theorem kfX6_294 : ba_FL ba_tM RX6 294 6 29 .int false := ⟨RX6, TX6, 33, tyX6, rfl, by decide, kinX6, tyX6_ok, nmX6, kw_820, rfl, rfl⟩
theorem kfX6_76 : ba_FL ba_tM RX6 76 6 30 (.array .int) true := ⟨RX6, TX6, 33, tyX6, rfl, by decide, kinX6, tyX6_ok, nmX6, kw_821, rfl, rfl⟩
theorem kcX6_297 : ba_MV ba_tM RX6 297 0 6 yX6_isSeen cX6_isSeen 4 (some .boolean) := ⟨⟨kw_1218, kw_85, kw_1215, ⟨by decide +kernel, by decide +kernel, by decide +kernel⟩⟩, kw_1217, kw_64, TX6, 33, rfl⟩
theorem kcX6_301 : ba_MV ba_tM RX6 301 0 6 yX6_neverNow cX6_neverNow 3 (some .int) := ⟨⟨kw_1214, kw_85, kw_1211, ⟨by decide +kernel, by decide +kernel, by decide +kernel⟩⟩, kw_1213, kw_63, TX6, 33, rfl⟩
theorem kfX6_79 : ba_FL ba_tM RX6 79 6 31 (.array .int) true := ⟨RX6, TX6, 33, tyX6, rfl, by decide, kinX6, tyX6_ok, nmX6, kw_822, rfl, rfl⟩
theorem kcX6_304 : ba_MV ba_tM RX6 304 1 6 yX6_forcesOf cX6_forcesOf 6 (some .int) := ⟨⟨kw_1226, kw_85, kw_1223, ⟨by decide +kernel, by decide +kernel, by decide +kernel⟩⟩, kw_1225, kw_65, TX6, 33, rfl⟩
theorem kcX6_307 : ba_MV ba_tM RX6 307 1 6 yX6_kindOf cX6_kindOf 5 (some .int) := ⟨⟨kw_1234, kw_85, kw_1231, ⟨by decide +kernel, by decide +kernel, by decide +kernel⟩⟩, kw_1233, kw_66, TX6, 33, rfl⟩
theorem kcX6_310 : ba_MV ba_tM RX6 310 3 6 yX6_same cX6_same 6 (some .boolean) := ⟨⟨kw_1250, kw_85, kw_1247, ⟨by decide +kernel, by decide +kernel, by decide +kernel⟩⟩, kw_1249, kw_69, TX6, 33, rfl⟩
theorem kcX6_314 : ba_MV ba_tM RX6 314 2 6 yX6_alike cX6_alike 7 (some .int) := ⟨⟨kw_1246, kw_85, kw_1243, ⟨by decide +kernel, by decide +kernel, by decide +kernel⟩⟩, kw_1245, kw_68, TX6, 33, rfl⟩
theorem kcX6_317 : ba_MS RX6 317 2 yX6_lesser cX6_lesser 2 (some .int) := ⟨⟨kw_1253, kw_85, kw_1251, ⟨by decide +kernel, by decide +kernel, by decide +kernel⟩⟩, kw_1252⟩
theorem kcX6_320 : ba_MV ba_tM RX6 320 1 6 yX6_askOf cX6_askOf 7 (some .int) := ⟨⟨kw_1242, kw_85, kw_1239, ⟨by decide +kernel, by decide +kernel, by decide +kernel⟩⟩, kw_1241, kw_67, TX6, 33, rfl⟩
theorem kcX6_323 : ba_MS RX6 323 3 yX6_part cX6_part 11 (some .long) := ⟨⟨kw_1265, kw_85, kw_1263, ⟨by decide +kernel, by decide +kernel, by decide +kernel⟩⟩, kw_1264⟩
theorem kkX6_327 : Cond.constantLong RX6 327 16 ∈ ba_tb := kw_1258
theorem kcX6_333 : ba_MS RX6 333 1 yX6_no cX6_no 1 (some .long) := ⟨⟨kw_1268, kw_85, kw_1266, ⟨by decide +kernel, by decide +kernel, by decide +kernel⟩⟩, kw_1267⟩
theorem kcX6_329 : ba_MV ba_tM RX6 329 3 6 yX6_chanceOf cX6_chanceOf 10 (some .long) := ⟨⟨kw_1262, kw_85, kw_1259, ⟨by decide +kernel, by decide +kernel, by decide +kernel⟩⟩, kw_1261, kw_70, TX6, 33, rfl⟩
theorem kkX6_337 : Cond.constant RX6 337 1103515245 ∈ ba_tb := kw_1282
theorem kfX6_338 : ba_FL ba_tM RX6 338 6 32 .int false := ⟨RX6, TX6, 33, tyX6, rfl, by decide, kinX6, tyX6_ok, nmX6, kw_823, rfl, rfl⟩
theorem kcX6_341 : ba_MV ba_tM RX6 341 1 6 yX6_lot cX6_lot 2 (some .int) := ⟨⟨kw_1281, kw_85, kw_1278, ⟨by decide +kernel, by decide +kernel, by decide +kernel⟩⟩, kw_1280, kw_72, TX6, 33, rfl⟩
theorem kcX6_344 : ba_MV ba_tM RX6 344 3 6 yX6_sundaysOf cX6_sundaysOf 5 (some .int) := ⟨⟨kw_1277, kw_85, kw_1274, ⟨by decide +kernel, by decide +kernel, by decide +kernel⟩⟩, kw_1276, kw_71, TX6, 33, rfl⟩
theorem kcX6_347 : ba_MV ba_tM RX6 347 0 6 yX6_onBoard cX6_onBoard 3 (some .int) := ⟨⟨kw_1294, kw_85, kw_1291, ⟨by decide +kernel, by decide +kernel, by decide +kernel⟩⟩, kw_1293, kw_73, TX6, 33, rfl⟩
theorem kkX6_350 : Cond.constantLong RX6 350 31 ∈ ba_tb := kw_1300
theorem kcX6_352 : ba_MV ba_tM RX6 352 3 6 yX6_tellsTick cX6_tellsTick 7 (some .long) := ⟨⟨kw_1313, kw_85, kw_1310, ⟨by decide +kernel, by decide +kernel, by decide +kernel⟩⟩, kw_1312, kw_76, TX6, 33, rfl⟩
theorem kkX6_356 : Cond.constantLong RX6 356 17 ∈ ba_tb := kw_1299
theorem kcX6_358 : ba_MV ba_tM RX6 358 1 6 yX6_count cX6_count 2 (some .int) := ⟨⟨kw_1290, kw_85, kw_1301, ⟨by decide +kernel, by decide +kernel, by decide +kernel⟩⟩, kw_1288, kw_1289, TX6, 33, rfl⟩
theorem kcX6_361 : ba_MV ba_tM RX6 361 2 6 yX6_tellsPin cX6_tellsPin 7 (some .long) := ⟨⟨kw_1305, kw_85, kw_1302, ⟨by decide +kernel, by decide +kernel, by decide +kernel⟩⟩, kw_1304, kw_74, TX6, 33, rfl⟩
theorem kcX6_365 : ba_MV ba_tM RX6 365 2 6 yX6_tellsBall cX6_tellsBall 7 (some .long) := ⟨⟨kw_1309, kw_85, kw_1306, ⟨by decide +kernel, by decide +kernel, by decide +kernel⟩⟩, kw_1308, kw_75, TX6, 33, rfl⟩
theorem kkJ6_265 : Cond.constant RJ6 265 1431655765 ∈ ba_tb := kw_745
theorem kkJ6_266 : Cond.constant RJ6 266 858993459 ∈ ba_tb := kw_746
theorem kkJ6_267 : Cond.constant RJ6 267 252645135 ∈ ba_tb := kw_747
