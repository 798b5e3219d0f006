/-! ===== the constructors: facts, rows of decoding, by program (grow.py) ===== -/
theorem gin (i n : Nat) (h : i < n) (hn : n < 2 ^ 31) : vp_in (nI i) n := vp_in_nI h hn
theorem hdc_0 : ∀ C F N, ba_cl[0]? = some (C, F, N) → F = TX0 := by
  intro C F N e
  have e1 : some (RX0, TX0, 10) = some (C, F, N) := e
  cases e1; rfl
theorem gdf_0 : ∀ j, j < 10 → defaultValue (tyX0 j) = vp_V [.null, .null, .null, .int 0, .null, .null, .null, .int 0, .int 0, .null] j := by
  intro j hj
  match j, hj with
  | 0, _ => rfl
  | 1, _ => rfl
  | 2, _ => rfl
  | 3, _ => rfl
  | 4, _ => rfl
  | 5, _ => rfl
  | 6, _ => rfl
  | 7, _ => rfl
  | 8, _ => rfl
  | 9, _ => rfl
  | k + 10, hk => exact absurd hk (by omega)
theorem hdc_1 : ∀ C F N, ba_cl[1]? = some (C, F, N) → F = TX1 := by
  intro C F N e
  have e1 : some (RX1, TX1, 19) = some (C, F, N) := e
  cases e1; rfl
theorem gdf_1 : ∀ j, j < 19 → defaultValue (tyX1 j) = vp_V [.null, .null, .null, .null, .int 0, .int 0, .null, .null, .null, .null, .int 0, .null, .null, .null, .null, .null, .null, .null, .int 0] j := by
  intro j hj
  match j, hj with
  | 0, _ => rfl
  | 1, _ => rfl
  | 2, _ => rfl
  | 3, _ => rfl
  | 4, _ => rfl
  | 5, _ => rfl
  | 6, _ => rfl
  | 7, _ => rfl
  | 8, _ => rfl
  | 9, _ => rfl
  | 10, _ => rfl
  | 11, _ => rfl
  | 12, _ => rfl
  | 13, _ => rfl
  | 14, _ => rfl
  | 15, _ => rfl
  | 16, _ => rfl
  | 17, _ => rfl
  | 18, _ => rfl
  | k + 19, hk => exact absurd hk (by omega)
theorem hdc_2 : ∀ C F N, ba_cl[2]? = some (C, F, N) → F = TX2 := by
  intro C F N e
  have e1 : some (RX2, TX2, 4) = some (C, F, N) := e
  cases e1; rfl
theorem gdf_2 : ∀ j, j < 4 → defaultValue (tyX2 j) = vp_V [.null, .int 0, .int 0, .int 0] j := by
  intro j hj
  match j, hj with
  | 0, _ => rfl
  | 1, _ => rfl
  | 2, _ => rfl
  | 3, _ => rfl
  | k + 4, hk => exact absurd hk (by omega)
theorem hdc_3 : ∀ C F N, ba_cl[3]? = some (C, F, N) → F = TX3 := by
  intro C F N e
  have e1 : some (RX3, TX3, 2) = some (C, F, N) := e
  cases e1; rfl
theorem gdf_3 : ∀ j, j < 2 → defaultValue (tyX3 j) = vp_V [.null, .int 0] j := by
  intro j hj
  match j, hj with
  | 0, _ => rfl
  | 1, _ => rfl
  | k + 2, hk => exact absurd hk (by omega)
theorem hdc_4 : ∀ C F N, ba_cl[4]? = some (C, F, N) → F = TX4 := by
  intro C F N e
  have e1 : some (RX4, TX4, 2) = some (C, F, N) := e
  cases e1; rfl
theorem gdf_4 : ∀ j, j < 2 → defaultValue (tyX4 j) = vp_V [.null, .int 0] j := by
  intro j hj
  match j, hj with
  | 0, _ => rfl
  | 1, _ => rfl
  | k + 2, hk => exact absurd hk (by omega)
theorem hdc_5 : ∀ C F N, ba_cl[5]? = some (C, F, N) → F = TX5 := by
  intro C F N e
  have e1 : some (RX5, TX5, 19) = some (C, F, N) := e
  cases e1; rfl
theorem gdf_5 : ∀ j, j < 19 → defaultValue (tyX5 j) = vp_V [.null, .null, .null, .null, .null, .null, .null, .int 0, .int 0, .int 0, .int 0, .int 0, .int 0, .int 0, .int 0, .int 0, .int 0, .null, .null] j := by
  intro j hj
  match j, hj with
  | 0, _ => rfl
  | 1, _ => rfl
  | 2, _ => rfl
  | 3, _ => rfl
  | 4, _ => rfl
  | 5, _ => rfl
  | 6, _ => rfl
  | 7, _ => rfl
  | 8, _ => rfl
  | 9, _ => rfl
  | 10, _ => rfl
  | 11, _ => rfl
  | 12, _ => rfl
  | 13, _ => rfl
  | 14, _ => rfl
  | 15, _ => rfl
  | 16, _ => rfl
  | 17, _ => rfl
  | 18, _ => rfl
  | k + 19, hk => exact absurd hk (by omega)
theorem hdc_6 : ∀ C F N, ba_cl[6]? = some (C, F, N) → F = TX6 := by
  intro C F N e
  have e1 : some (RX6, TX6, 33) = some (C, F, N) := e
  cases e1; rfl
theorem gdf_6 : ∀ j, j < 33 → defaultValue (tyX6 j) = vp_V [.null, .null, .null, .null, .int 0, .null, .null, .int 0, .null, .null, .int 0, .null, .int 0, .int 0, .null, .int 0, .null, .null, .null, .null, .null, .null, .null, .null, .null, .null, .null, .null, .int 0, .int 0, .null, .null, .int 0] j := by
  intro j hj
  match j, hj with
  | 0, _ => rfl
  | 1, _ => rfl
  | 2, _ => rfl
  | 3, _ => rfl
  | 4, _ => rfl
  | 5, _ => rfl
  | 6, _ => rfl
  | 7, _ => rfl
  | 8, _ => rfl
  | 9, _ => rfl
  | 10, _ => rfl
  | 11, _ => rfl
  | 12, _ => rfl
  | 13, _ => rfl
  | 14, _ => rfl
  | 15, _ => rfl
  | 16, _ => rfl
  | 17, _ => rfl
  | 18, _ => rfl
  | 19, _ => rfl
  | 20, _ => rfl
  | 21, _ => rfl
  | 22, _ => rfl
  | 23, _ => rfl
  | 24, _ => rfl
  | 25, _ => rfl
  | 26, _ => rfl
  | 27, _ => rfl
  | 28, _ => rfl
  | 29, _ => rfl
  | 30, _ => rfl
  | 31, _ => rfl
  | 32, _ => rfl
  | k + 33, hk => exact absurd hk (by omega)
theorem kw_110 : Cond.methodLink "Bagatelle$Slips" 3 Lib.objectInit ∈ ba_tb := ba_mem (i := 110) (by decide +kernel) (by decide +kernel)
theorem kw_95 : Cond.instanceMethod Lib.objectInit ∈ ba_tb := ba_mem (i := 95) (by decide +kernel) (by decide +kernel)
theorem kw_96 : Cond.code Lib.objectInit ⟨#[0xb1]⟩ 1 none ∈ ba_tb := ba_mem (i := 96) (by decide +kernel) (by decide +kernel)
theorem kw_121 : Cond.arrayClass .int ∈ ba_tb := ba_mem (i := 121) (by decide +kernel) (by decide +kernel)
theorem kw_259 : Cond.methodLink "Bagatelle$Text" 3 Lib.objectInit ∈ ba_tb := ba_mem (i := 259) (by decide +kernel) (by decide +kernel)
theorem kw_274 : Cond.methodLink "Bagatelle$Sheet" 3 Lib.objectInit ∈ ba_tb := ba_mem (i := 274) (by decide +kernel) (by decide +kernel)
theorem kw_104 : Cond.methodLink "Bagatelle$Board" 3 Lib.objectInit ∈ ba_tb := ba_mem (i := 104) (by decide +kernel) (by decide +kernel)
theorem kw_147 : Cond.fieldLink "Bagatelle$Board" 37 "Bagatelle$Board" "room" "I" ∈ ba_tb := ba_mem (i := 147) (by decide +kernel) (by decide +kernel)
theorem kfX0_37 : ba_FL ba_tC RX0 37 0 8 .int false := ⟨RX0, TX0, 10, tyX0, rfl, by decide, kinX0, tyX0_ok, nmX0, kw_147, rfl, rfl⟩
theorem kw_105 : Cond.classLink "Bagatelle$Board" 40 "Bagatelle$Slips" ∈ ba_tb := ba_mem (i := 105) (by decide +kernel) (by decide +kernel)
theorem kw_106 : Cond.instantiable "Bagatelle$Slips" 2 ∈ ba_tb := ba_mem (i := 106) (by decide +kernel) (by decide +kernel)
theorem kw_109 : Cond.code yX3_init cX3_init 1 none ∈ ba_tb := ba_mem (i := 109) (by decide +kernel) (by decide +kernel)
theorem kw_108 : Cond.instanceMethod yX3_init ∈ ba_tb := ba_mem (i := 108) (by decide +kernel) (by decide +kernel)
theorem kw_179 : Cond.methodLink "Bagatelle$Course" 3 Lib.objectInit ∈ ba_tb := ba_mem (i := 179) (by decide +kernel) (by decide +kernel)
theorem kw_94 : Cond.methodLink "Bagatelle" 1 Lib.objectInit ∈ ba_tb := ba_mem (i := 94) (by decide +kernel) (by decide +kernel)
theorem kw_97 : Cond.classLink "Bagatelle" 9 "Bagatelle$Text" ∈ ba_tb := ba_mem (i := 97) (by decide +kernel) (by decide +kernel)
theorem kw_99 : Cond.classLink "Bagatelle" 19 "Bagatelle$Board" ∈ ba_tb := ba_mem (i := 99) (by decide +kernel) (by decide +kernel)
theorem kw_100 : Cond.instantiable "Bagatelle$Board" 10 ∈ ba_tb := ba_mem (i := 100) (by decide +kernel) (by decide +kernel)
theorem kw_103 : Cond.code yX0_init cX0_init 1 none ∈ ba_tb := ba_mem (i := 103) (by decide +kernel) (by decide +kernel)
theorem kw_102 : Cond.instanceMethod yX0_init ∈ ba_tb := ba_mem (i := 102) (by decide +kernel) (by decide +kernel)
theorem kw_101 : Cond.methodLink "Bagatelle" 21 yX0_init ∈ ba_tb := ba_mem (i := 101) (by decide +kernel) (by decide +kernel)
theorem kw_174 : Cond.classLink "Bagatelle" 26 "Bagatelle$Course" ∈ ba_tb := ba_mem (i := 174) (by decide +kernel) (by decide +kernel)
theorem kw_175 : Cond.instantiable "Bagatelle$Course" 19 ∈ ba_tb := ba_mem (i := 175) (by decide +kernel) (by decide +kernel)
theorem kw_178 : Cond.code yX1_init cX1_init 2 none ∈ ba_tb := ba_mem (i := 178) (by decide +kernel) (by decide +kernel)
theorem kw_177 : Cond.instanceMethod yX1_init ∈ ba_tb := ba_mem (i := 177) (by decide +kernel) (by decide +kernel)
theorem kw_176 : Cond.methodLink "Bagatelle" 28 yX1_init ∈ ba_tb := ba_mem (i := 176) (by decide +kernel) (by decide +kernel)
theorem kw_249 : Cond.classLink "Bagatelle" 38 "Bagatelle$Slips" ∈ ba_tb := ba_mem (i := 249) (by decide +kernel) (by decide +kernel)
theorem kw_251 : Cond.classLink "Bagatelle" 45 "Bagatelle$Sheet" ∈ ba_tb := ba_mem (i := 251) (by decide +kernel) (by decide +kernel)
theorem kw_269 : Cond.arrayClass .long ∈ ba_tb := ba_mem (i := 269) (by decide +kernel) (by decide +kernel)
theorem kw_253 : Cond.instantiable "Bagatelle$Text" 2 ∈ ba_tb := ba_mem (i := 253) (by decide +kernel) (by decide +kernel)
theorem kw_254 : Cond.fieldLink "Bagatelle" 90 "Bagatelle" "TEXT_LIMITS" "[I" ∈ ba_tb := ba_mem (i := 254) (by decide +kernel) (by decide +kernel)
theorem kw_258 : Cond.code yX4_init cX4_init 2 none ∈ ba_tb := ba_mem (i := 258) (by decide +kernel) (by decide +kernel)
theorem kw_257 : Cond.instanceMethod yX4_init ∈ ba_tb := ba_mem (i := 257) (by decide +kernel) (by decide +kernel)
theorem kw_256 : Cond.methodLink "Bagatelle" 93 yX4_init ∈ ba_tb := ba_mem (i := 256) (by decide +kernel) (by decide +kernel)
theorem kw_270 : Cond.instantiable "Bagatelle$Sheet" 4 ∈ ba_tb := ba_mem (i := 270) (by decide +kernel) (by decide +kernel)
theorem kw_273 : Cond.code yX2_init cX2_init 1 none ∈ ba_tb := ba_mem (i := 273) (by decide +kernel) (by decide +kernel)
theorem kw_272 : Cond.instanceMethod yX2_init ∈ ba_tb := ba_mem (i := 272) (by decide +kernel) (by decide +kernel)
theorem kw_790 : Cond.methodLink "BagatelleModel" 1 Lib.objectInit ∈ ba_tb := ba_mem (i := 790) (by decide +kernel) (by decide +kernel)
theorem dX3_init_0 : decode cX3_init 0 = .ok (.aload_n 0, 1) := by decide +kernel
theorem dX3_init_1 : decode cX3_init 1 = .ok (.invokespecial 3, 3) := by decide +kernel
theorem dX3_init_4 : decode cX3_init 4 = .ok (.aload_n 0, 1) := by decide +kernel
theorem dX3_init_5 : decode cX3_init 5 = .ok (.bipush 32, 2) := by decide +kernel
theorem dX3_init_7 : decode cX3_init 7 = .ok (.newarray .int, 2) := by decide +kernel
theorem dX3_init_9 : decode cX3_init 9 = .ok (.putfield 11, 3) := by decide +kernel
theorem dX3_init_12 : decode cX3_init 12 = .ok (.aload_n 0, 1) := by decide +kernel
theorem dX3_init_13 : decode cX3_init 13 = .ok (.iconst 0, 1) := by decide +kernel
theorem dX3_init_14 : decode cX3_init 14 = .ok (.putfield 15, 3) := by decide +kernel
theorem dX3_init_17 : decode cX3_init 17 = .ok (.return_, 1) := by decide +kernel
theorem dX4_init_0 : decode cX4_init 0 = .ok (.aload_n 0, 1) := by decide +kernel
theorem dX4_init_1 : decode cX4_init 1 = .ok (.invokespecial 3, 3) := by decide +kernel
theorem dX4_init_4 : decode cX4_init 4 = .ok (.aload_n 0, 1) := by decide +kernel
theorem dX4_init_5 : decode cX4_init 5 = .ok (.iconst 0, 1) := by decide +kernel
theorem dX4_init_6 : decode cX4_init 6 = .ok (.putfield 9, 3) := by decide +kernel
theorem dX4_init_9 : decode cX4_init 9 = .ok (.aload_n 0, 1) := by decide +kernel
theorem dX4_init_10 : decode cX4_init 10 = .ok (.iload_n 1, 1) := by decide +kernel
theorem dX4_init_11 : decode cX4_init 11 = .ok (.newarray .int, 2) := by decide +kernel
theorem dX4_init_13 : decode cX4_init 13 = .ok (.putfield 15, 3) := by decide +kernel
theorem dX4_init_16 : decode cX4_init 16 = .ok (.return_, 1) := by decide +kernel
theorem dX2_init_0 : decode cX2_init 0 = .ok (.aload_n 0, 1) := by decide +kernel
theorem dX2_init_1 : decode cX2_init 1 = .ok (.invokespecial 3, 3) := by decide +kernel
theorem dX2_init_4 : decode cX2_init 4 = .ok (.aload_n 0, 1) := by decide +kernel
theorem dX2_init_5 : decode cX2_init 5 = .ok (.bipush 60, 2) := by decide +kernel
theorem dX2_init_7 : decode cX2_init 7 = .ok (.newarray .int, 2) := by decide +kernel
theorem dX2_init_9 : decode cX2_init 9 = .ok (.putfield 9, 3) := by decide +kernel
theorem dX2_init_12 : decode cX2_init 12 = .ok (.aload_n 0, 1) := by decide +kernel
theorem dX2_init_13 : decode cX2_init 13 = .ok (.iconst 0, 1) := by decide +kernel
theorem dX2_init_14 : decode cX2_init 14 = .ok (.putfield 15, 3) := by decide +kernel
theorem dX2_init_17 : decode cX2_init 17 = .ok (.aload_n 0, 1) := by decide +kernel
theorem dX2_init_18 : decode cX2_init 18 = .ok (.iconst 0, 1) := by decide +kernel
theorem dX2_init_19 : decode cX2_init 19 = .ok (.putfield 19, 3) := by decide +kernel
theorem dX2_init_22 : decode cX2_init 22 = .ok (.aload_n 0, 1) := by decide +kernel
theorem dX2_init_23 : decode cX2_init 23 = .ok (.iconst 1, 1) := by decide +kernel
theorem dX2_init_24 : decode cX2_init 24 = .ok (.putfield 22, 3) := by decide +kernel
theorem dX2_init_27 : decode cX2_init 27 = .ok (.return_, 1) := by decide +kernel
theorem dX0_init_0 : decode cX0_init 0 = .ok (.aload_n 0, 1) := by decide +kernel
theorem dX0_init_1 : decode cX0_init 1 = .ok (.invokespecial 3, 3) := by decide +kernel
theorem dX0_init_4 : decode cX0_init 4 = .ok (.aload_n 0, 1) := by decide +kernel
theorem dX0_init_5 : decode cX0_init 5 = .ok (.bipush 12, 2) := by decide +kernel
theorem dX0_init_7 : decode cX0_init 7 = .ok (.newarray .int, 2) := by decide +kernel
theorem dX0_init_9 : decode cX0_init 9 = .ok (.putfield 9, 3) := by decide +kernel
theorem dX0_init_12 : decode cX0_init 12 = .ok (.aload_n 0, 1) := by decide +kernel
theorem dX0_init_13 : decode cX0_init 13 = .ok (.bipush 12, 2) := by decide +kernel
theorem dX0_init_15 : decode cX0_init 15 = .ok (.newarray .int, 2) := by decide +kernel
theorem dX0_init_17 : decode cX0_init 17 = .ok (.putfield 15, 3) := by decide +kernel
theorem dX0_init_20 : decode cX0_init 20 = .ok (.aload_n 0, 1) := by decide +kernel
theorem dX0_init_21 : decode cX0_init 21 = .ok (.bipush 72, 2) := by decide +kernel
theorem dX0_init_23 : decode cX0_init 23 = .ok (.newarray .int, 2) := by decide +kernel
theorem dX0_init_25 : decode cX0_init 25 = .ok (.putfield 18, 3) := by decide +kernel
theorem dX0_init_28 : decode cX0_init 28 = .ok (.aload_n 0, 1) := by decide +kernel
theorem dX0_init_29 : decode cX0_init 29 = .ok (.iconst 0, 1) := by decide +kernel
theorem dX0_init_30 : decode cX0_init 30 = .ok (.putfield 21, 3) := by decide +kernel
theorem dX0_init_33 : decode cX0_init 33 = .ok (.aload_n 0, 1) := by decide +kernel
theorem dX0_init_34 : decode cX0_init 34 = .ok (.bipush 9, 2) := by decide +kernel
theorem dX0_init_36 : decode cX0_init 36 = .ok (.newarray .int, 2) := by decide +kernel
theorem dX0_init_38 : decode cX0_init 38 = .ok (.putfield 25, 3) := by decide +kernel
theorem dX0_init_41 : decode cX0_init 41 = .ok (.aload_n 0, 1) := by decide +kernel
theorem dX0_init_42 : decode cX0_init 42 = .ok (.bipush 12, 2) := by decide +kernel
theorem dX0_init_44 : decode cX0_init 44 = .ok (.newarray .int, 2) := by decide +kernel
theorem dX0_init_46 : decode cX0_init 46 = .ok (.putfield 28, 3) := by decide +kernel
theorem dX0_init_49 : decode cX0_init 49 = .ok (.aload_n 0, 1) := by decide +kernel
theorem dX0_init_50 : decode cX0_init 50 = .ok (.bipush 12, 2) := by decide +kernel
theorem dX0_init_52 : decode cX0_init 52 = .ok (.newarray .int, 2) := by decide +kernel
theorem dX0_init_54 : decode cX0_init 54 = .ok (.putfield 31, 3) := by decide +kernel
theorem dX0_init_57 : decode cX0_init 57 = .ok (.aload_n 0, 1) := by decide +kernel
theorem dX0_init_58 : decode cX0_init 58 = .ok (.iconst 0, 1) := by decide +kernel
theorem dX0_init_59 : decode cX0_init 59 = .ok (.putfield 34, 3) := by decide +kernel
theorem dX0_init_62 : decode cX0_init 62 = .ok (.aload_n 0, 1) := by decide +kernel
theorem dX0_init_63 : decode cX0_init 63 = .ok (.iconst 2, 1) := by decide +kernel
theorem dX0_init_64 : decode cX0_init 64 = .ok (.putfield 37, 3) := by decide +kernel
theorem dX0_init_67 : decode cX0_init 67 = .ok (.aload_n 0, 1) := by decide +kernel
theorem dX0_init_68 : decode cX0_init 68 = .ok (.new 40, 3) := by decide +kernel
theorem dX0_init_71 : decode cX0_init 71 = .ok (.dup, 1) := by decide +kernel
theorem dX0_init_72 : decode cX0_init 72 = .ok (.invokespecial 42, 3) := by decide +kernel
theorem dX0_init_75 : decode cX0_init 75 = .ok (.putfield 43, 3) := by decide +kernel
theorem dX0_init_78 : decode cX0_init 78 = .ok (.aload_n 0, 1) := by decide +kernel
theorem dX0_init_79 : decode cX0_init 79 = .ok (.getfield 18, 3) := by decide +kernel
theorem dX0_init_82 : decode cX0_init 82 = .ok (.iconst (-1), 1) := by decide +kernel
theorem dX0_init_83 : decode cX0_init 83 = .ok (.invokestatic 47, 3) := by decide +kernel
theorem dX0_init_86 : decode cX0_init 86 = .ok (.return_, 1) := by decide +kernel
theorem dX1_init_0 : decode cX1_init 0 = .ok (.aload_n 0, 1) := by decide +kernel
theorem dX1_init_1 : decode cX1_init 1 = .ok (.invokespecial 3, 3) := by decide +kernel
theorem dX1_init_4 : decode cX1_init 4 = .ok (.aload_n 0, 1) := by decide +kernel
theorem dX1_init_5 : decode cX1_init 5 = .ok (.bipush 12, 2) := by decide +kernel
theorem dX1_init_7 : decode cX1_init 7 = .ok (.newarray .int, 2) := by decide +kernel
theorem dX1_init_9 : decode cX1_init 9 = .ok (.putfield 9, 3) := by decide +kernel
theorem dX1_init_12 : decode cX1_init 12 = .ok (.aload_n 0, 1) := by decide +kernel
theorem dX1_init_13 : decode cX1_init 13 = .ok (.bipush 12, 2) := by decide +kernel
theorem dX1_init_15 : decode cX1_init 15 = .ok (.newarray .int, 2) := by decide +kernel
theorem dX1_init_17 : decode cX1_init 17 = .ok (.putfield 15, 3) := by decide +kernel
theorem dX1_init_20 : decode cX1_init 20 = .ok (.aload_n 0, 1) := by decide +kernel
theorem dX1_init_21 : decode cX1_init 21 = .ok (.bipush 12, 2) := by decide +kernel
theorem dX1_init_23 : decode cX1_init 23 = .ok (.newarray .int, 2) := by decide +kernel
theorem dX1_init_25 : decode cX1_init 25 = .ok (.putfield 18, 3) := by decide +kernel
theorem dX1_init_28 : decode cX1_init 28 = .ok (.aload_n 0, 1) := by decide +kernel
theorem dX1_init_29 : decode cX1_init 29 = .ok (.iconst 0, 1) := by decide +kernel
theorem dX1_init_30 : decode cX1_init 30 = .ok (.putfield 21, 3) := by decide +kernel
theorem dX1_init_33 : decode cX1_init 33 = .ok (.aload_n 0, 1) := by decide +kernel
theorem dX1_init_34 : decode cX1_init 34 = .ok (.iconst 0, 1) := by decide +kernel
theorem dX1_init_35 : decode cX1_init 35 = .ok (.putfield 25, 3) := by decide +kernel
theorem dX1_init_38 : decode cX1_init 38 = .ok (.aload_n 0, 1) := by decide +kernel
theorem dX1_init_39 : decode cX1_init 39 = .ok (.bipush 12, 2) := by decide +kernel
theorem dX1_init_41 : decode cX1_init 41 = .ok (.newarray .int, 2) := by decide +kernel
theorem dX1_init_43 : decode cX1_init 43 = .ok (.putfield 28, 3) := by decide +kernel
theorem dX1_init_46 : decode cX1_init 46 = .ok (.aload_n 0, 1) := by decide +kernel
theorem dX1_init_47 : decode cX1_init 47 = .ok (.bipush 72, 2) := by decide +kernel
theorem dX1_init_49 : decode cX1_init 49 = .ok (.newarray .int, 2) := by decide +kernel
theorem dX1_init_51 : decode cX1_init 51 = .ok (.putfield 31, 3) := by decide +kernel
theorem dX1_init_54 : decode cX1_init 54 = .ok (.aload_n 0, 1) := by decide +kernel
theorem dX1_init_55 : decode cX1_init 55 = .ok (.bipush 8, 2) := by decide +kernel
theorem dX1_init_57 : decode cX1_init 57 = .ok (.newarray .int, 2) := by decide +kernel
theorem dX1_init_59 : decode cX1_init 59 = .ok (.putfield 34, 3) := by decide +kernel
theorem dX1_init_62 : decode cX1_init 62 = .ok (.aload_n 0, 1) := by decide +kernel
theorem dX1_init_63 : decode cX1_init 63 = .ok (.bipush 12, 2) := by decide +kernel
theorem dX1_init_65 : decode cX1_init 65 = .ok (.newarray .int, 2) := by decide +kernel
theorem dX1_init_67 : decode cX1_init 67 = .ok (.putfield 37, 3) := by decide +kernel
theorem dX1_init_70 : decode cX1_init 70 = .ok (.aload_n 0, 1) := by decide +kernel
theorem dX1_init_71 : decode cX1_init 71 = .ok (.iconst 0, 1) := by decide +kernel
theorem dX1_init_72 : decode cX1_init 72 = .ok (.putfield 40, 3) := by decide +kernel
theorem dX1_init_75 : decode cX1_init 75 = .ok (.aload_n 0, 1) := by decide +kernel
theorem dX1_init_76 : decode cX1_init 76 = .ok (.sipush 288, 3) := by decide +kernel
theorem dX1_init_79 : decode cX1_init 79 = .ok (.newarray .int, 2) := by decide +kernel
theorem dX1_init_81 : decode cX1_init 81 = .ok (.putfield 43, 3) := by decide +kernel
theorem dX1_init_84 : decode cX1_init 84 = .ok (.aload_n 0, 1) := by decide +kernel
theorem dX1_init_85 : decode cX1_init 85 = .ok (.bipush 9, 2) := by decide +kernel
theorem dX1_init_87 : decode cX1_init 87 = .ok (.newarray .int, 2) := by decide +kernel
theorem dX1_init_89 : decode cX1_init 89 = .ok (.putfield 46, 3) := by decide +kernel
theorem dX1_init_92 : decode cX1_init 92 = .ok (.aload_n 0, 1) := by decide +kernel
theorem dX1_init_93 : decode cX1_init 93 = .ok (.bipush 9, 2) := by decide +kernel
theorem dX1_init_95 : decode cX1_init 95 = .ok (.newarray .int, 2) := by decide +kernel
theorem dX1_init_97 : decode cX1_init 97 = .ok (.putfield 49, 3) := by decide +kernel
theorem dX1_init_100 : decode cX1_init 100 = .ok (.aload_n 0, 1) := by decide +kernel
theorem dX1_init_101 : decode cX1_init 101 = .ok (.bipush 12, 2) := by decide +kernel
theorem dX1_init_103 : decode cX1_init 103 = .ok (.newarray .int, 2) := by decide +kernel
theorem dX1_init_105 : decode cX1_init 105 = .ok (.putfield 52, 3) := by decide +kernel
theorem dX1_init_108 : decode cX1_init 108 = .ok (.aload_n 0, 1) := by decide +kernel
theorem dX1_init_109 : decode cX1_init 109 = .ok (.bipush 12, 2) := by decide +kernel
theorem dX1_init_111 : decode cX1_init 111 = .ok (.newarray .int, 2) := by decide +kernel
theorem dX1_init_113 : decode cX1_init 113 = .ok (.putfield 55, 3) := by decide +kernel
theorem dX1_init_116 : decode cX1_init 116 = .ok (.aload_n 0, 1) := by decide +kernel
theorem dX1_init_117 : decode cX1_init 117 = .ok (.bipush 12, 2) := by decide +kernel
theorem dX1_init_119 : decode cX1_init 119 = .ok (.newarray .int, 2) := by decide +kernel
theorem dX1_init_121 : decode cX1_init 121 = .ok (.putfield 58, 3) := by decide +kernel
theorem dX1_init_124 : decode cX1_init 124 = .ok (.aload_n 0, 1) := by decide +kernel
theorem dX1_init_125 : decode cX1_init 125 = .ok (.bipush 24, 2) := by decide +kernel
theorem dX1_init_127 : decode cX1_init 127 = .ok (.newarray .int, 2) := by decide +kernel
theorem dX1_init_129 : decode cX1_init 129 = .ok (.putfield 61, 3) := by decide +kernel
theorem dX1_init_132 : decode cX1_init 132 = .ok (.aload_n 0, 1) := by decide +kernel
theorem dX1_init_133 : decode cX1_init 133 = .ok (.iconst 0, 1) := by decide +kernel
theorem dX1_init_134 : decode cX1_init 134 = .ok (.putfield 64, 3) := by decide +kernel
theorem dX1_init_137 : decode cX1_init 137 = .ok (.aload_n 0, 1) := by decide +kernel
theorem dX1_init_138 : decode cX1_init 138 = .ok (.aload_n 1, 1) := by decide +kernel
theorem dX1_init_139 : decode cX1_init 139 = .ok (.putfield 67, 3) := by decide +kernel
theorem dX1_init_142 : decode cX1_init 142 = .ok (.return_, 1) := by decide +kernel
theorem dX5_init_0 : decode cX5_init 0 = .ok (.aload_n 0, 1) := by decide +kernel
theorem dX5_init_1 : decode cX5_init 1 = .ok (.invokespecial 1, 3) := by decide +kernel
theorem dX5_init_4 : decode cX5_init 4 = .ok (.aload_n 0, 1) := by decide +kernel
theorem dX5_init_5 : decode cX5_init 5 = .ok (.iconst 3, 1) := by decide +kernel
theorem dX5_init_6 : decode cX5_init 6 = .ok (.anewarray 9, 3) := by decide +kernel
theorem dX5_init_9 : decode cX5_init 9 = .ok (.putfield 11, 3) := by decide +kernel
theorem dX5_init_12 : decode cX5_init 12 = .ok (.aload_n 0, 1) := by decide +kernel
theorem dX5_init_13 : decode cX5_init 13 = .ok (.iconst 3, 1) := by decide +kernel
theorem dX5_init_14 : decode cX5_init 14 = .ok (.newarray .int, 2) := by decide +kernel
theorem dX5_init_16 : decode cX5_init 16 = .ok (.putfield 15, 3) := by decide +kernel
theorem dX5_init_19 : decode cX5_init 19 = .ok (.aload_n 0, 1) := by decide +kernel
theorem dX5_init_20 : decode cX5_init 20 = .ok (.new 19, 3) := by decide +kernel
theorem dX5_init_23 : decode cX5_init 23 = .ok (.dup, 1) := by decide +kernel
theorem dX5_init_24 : decode cX5_init 24 = .ok (.invokespecial 21, 3) := by decide +kernel
theorem dX5_init_27 : decode cX5_init 27 = .ok (.putfield 22, 3) := by decide +kernel
theorem dX5_init_30 : decode cX5_init 30 = .ok (.aload_n 0, 1) := by decide +kernel
theorem dX5_init_31 : decode cX5_init 31 = .ok (.new 26, 3) := by decide +kernel
theorem dX5_init_34 : decode cX5_init 34 = .ok (.dup, 1) := by decide +kernel
theorem dX5_init_35 : decode cX5_init 35 = .ok (.aload_n 0, 1) := by decide +kernel
theorem dX5_init_36 : decode cX5_init 36 = .ok (.getfield 22, 3) := by decide +kernel
theorem dX5_init_39 : decode cX5_init 39 = .ok (.invokespecial 28, 3) := by decide +kernel
theorem dX5_init_42 : decode cX5_init 42 = .ok (.putfield 31, 3) := by decide +kernel
theorem dX5_init_45 : decode cX5_init 45 = .ok (.aload_n 0, 1) := by decide +kernel
theorem dX5_init_46 : decode cX5_init 46 = .ok (.new 26, 3) := by decide +kernel
theorem dX5_init_49 : decode cX5_init 49 = .ok (.dup, 1) := by decide +kernel
theorem dX5_init_50 : decode cX5_init 50 = .ok (.aload_n 0, 1) := by decide +kernel
theorem dX5_init_51 : decode cX5_init 51 = .ok (.getfield 22, 3) := by decide +kernel
theorem dX5_init_54 : decode cX5_init 54 = .ok (.invokespecial 28, 3) := by decide +kernel
theorem dX5_init_57 : decode cX5_init 57 = .ok (.putfield 35, 3) := by decide +kernel
theorem dX5_init_60 : decode cX5_init 60 = .ok (.aload_n 0, 1) := by decide +kernel
theorem dX5_init_61 : decode cX5_init 61 = .ok (.new 38, 3) := by decide +kernel
theorem dX5_init_64 : decode cX5_init 64 = .ok (.dup, 1) := by decide +kernel
theorem dX5_init_65 : decode cX5_init 65 = .ok (.invokespecial 40, 3) := by decide +kernel
theorem dX5_init_68 : decode cX5_init 68 = .ok (.putfield 41, 3) := by decide +kernel
theorem dX5_init_71 : decode cX5_init 71 = .ok (.aload_n 0, 1) := by decide +kernel
theorem dX5_init_72 : decode cX5_init 72 = .ok (.iconst 4, 1) := by decide +kernel
theorem dX5_init_73 : decode cX5_init 73 = .ok (.anewarray 45, 3) := by decide +kernel
theorem dX5_init_76 : decode cX5_init 76 = .ok (.putfield 47, 3) := by decide +kernel
theorem dX5_init_79 : decode cX5_init 79 = .ok (.aload_n 0, 1) := by decide +kernel
theorem dX5_init_80 : decode cX5_init 80 = .ok (.iconst 0, 1) := by decide +kernel
theorem dX5_init_81 : decode cX5_init 81 = .ok (.putfield 51, 3) := by decide +kernel
theorem dX5_init_84 : decode cX5_init 84 = .ok (.aload_n 0, 1) := by decide +kernel
theorem dX5_init_85 : decode cX5_init 85 = .ok (.iconst 0, 1) := by decide +kernel
theorem dX5_init_86 : decode cX5_init 86 = .ok (.putfield 55, 3) := by decide +kernel
theorem dX5_init_89 : decode cX5_init 89 = .ok (.aload_n 0, 1) := by decide +kernel
theorem dX5_init_90 : decode cX5_init 90 = .ok (.iconst (-1), 1) := by decide +kernel
theorem dX5_init_91 : decode cX5_init 91 = .ok (.putfield 59, 3) := by decide +kernel
theorem dX5_init_94 : decode cX5_init 94 = .ok (.aload_n 0, 1) := by decide +kernel
theorem dX5_init_95 : decode cX5_init 95 = .ok (.iconst (-1), 1) := by decide +kernel
theorem dX5_init_96 : decode cX5_init 96 = .ok (.putfield 62, 3) := by decide +kernel
theorem dX5_init_99 : decode cX5_init 99 = .ok (.aload_n 0, 1) := by decide +kernel
theorem dX5_init_100 : decode cX5_init 100 = .ok (.iconst 0, 1) := by decide +kernel
theorem dX5_init_101 : decode cX5_init 101 = .ok (.putfield 65, 3) := by decide +kernel
theorem dX5_init_104 : decode cX5_init 104 = .ok (.aload_n 0, 1) := by decide +kernel
theorem dX5_init_105 : decode cX5_init 105 = .ok (.iconst 0, 1) := by decide +kernel
theorem dX5_init_106 : decode cX5_init 106 = .ok (.putfield 68, 3) := by decide +kernel
theorem dX5_init_109 : decode cX5_init 109 = .ok (.aload_n 0, 1) := by decide +kernel
theorem dX5_init_110 : decode cX5_init 110 = .ok (.iconst (-1), 1) := by decide +kernel
theorem dX5_init_111 : decode cX5_init 111 = .ok (.putfield 71, 3) := by decide +kernel
theorem dX5_init_114 : decode cX5_init 114 = .ok (.aload_n 0, 1) := by decide +kernel
theorem dX5_init_115 : decode cX5_init 115 = .ok (.iconst (-1), 1) := by decide +kernel
theorem dX5_init_116 : decode cX5_init 116 = .ok (.putfield 74, 3) := by decide +kernel
theorem dX5_init_119 : decode cX5_init 119 = .ok (.aload_n 0, 1) := by decide +kernel
theorem dX5_init_120 : decode cX5_init 120 = .ok (.iconst (-1), 1) := by decide +kernel
theorem dX5_init_121 : decode cX5_init 121 = .ok (.putfield 77, 3) := by decide +kernel
theorem dX5_init_124 : decode cX5_init 124 = .ok (.aload_n 0, 1) := by decide +kernel
theorem dX5_init_125 : decode cX5_init 125 = .ok (.iconst 0, 1) := by decide +kernel
theorem dX5_init_126 : decode cX5_init 126 = .ok (.putfield 80, 3) := by decide +kernel
theorem dX5_init_129 : decode cX5_init 129 = .ok (.aload_n 0, 1) := by decide +kernel
theorem dX5_init_130 : decode cX5_init 130 = .ok (.sipush 256, 3) := by decide +kernel
theorem dX5_init_133 : decode cX5_init 133 = .ok (.newarray .int, 2) := by decide +kernel
theorem dX5_init_135 : decode cX5_init 135 = .ok (.putfield 83, 3) := by decide +kernel
theorem dX5_init_138 : decode cX5_init 138 = .ok (.aload_n 0, 1) := by decide +kernel
theorem dX5_init_139 : decode cX5_init 139 = .ok (.sipush 432, 3) := by decide +kernel
theorem dX5_init_142 : decode cX5_init 142 = .ok (.newarray .long, 2) := by decide +kernel
theorem dX5_init_144 : decode cX5_init 144 = .ok (.putfield 86, 3) := by decide +kernel
theorem dX5_init_147 : decode cX5_init 147 = .ok (.iconst 0, 1) := by decide +kernel
theorem dX5_init_148 : decode cX5_init 148 = .ok (.istore_n 1, 1) := by decide +kernel
theorem dX5_init_149 : decode cX5_init 149 = .ok (.iload_n 1, 1) := by decide +kernel
theorem dX5_init_150 : decode cX5_init 150 = .ok (.iconst 3, 1) := by decide +kernel
theorem dX5_init_151 : decode cX5_init 151 = .ok (.if_icmp .ge 34, 3) := by decide +kernel
theorem dX5_init_154 : decode cX5_init 154 = .ok (.aload_n 0, 1) := by decide +kernel
theorem dX5_init_155 : decode cX5_init 155 = .ok (.getfield 11, 3) := by decide +kernel
theorem dX5_init_158 : decode cX5_init 158 = .ok (.iload_n 1, 1) := by decide +kernel
theorem dX5_init_159 : decode cX5_init 159 = .ok (.new 9, 3) := by decide +kernel
theorem dX5_init_162 : decode cX5_init 162 = .ok (.dup, 1) := by decide +kernel
theorem dX5_init_163 : decode cX5_init 163 = .ok (.getstatic 90, 3) := by decide +kernel
theorem dX5_init_166 : decode cX5_init 166 = .ok (.iload_n 1, 1) := by decide +kernel
theorem dX5_init_167 : decode cX5_init 167 = .ok (.iaload, 1) := by decide +kernel
theorem dX5_init_168 : decode cX5_init 168 = .ok (.invokespecial 93, 3) := by decide +kernel
theorem dX5_init_171 : decode cX5_init 171 = .ok (.aastore, 1) := by decide +kernel
theorem dX5_init_172 : decode cX5_init 172 = .ok (.aload_n 0, 1) := by decide +kernel
theorem dX5_init_173 : decode cX5_init 173 = .ok (.getfield 15, 3) := by decide +kernel
theorem dX5_init_176 : decode cX5_init 176 = .ok (.iload_n 1, 1) := by decide +kernel
theorem dX5_init_177 : decode cX5_init 177 = .ok (.iconst (-1), 1) := by decide +kernel
theorem dX5_init_178 : decode cX5_init 178 = .ok (.iastore, 1) := by decide +kernel
theorem dX5_init_179 : decode cX5_init 179 = .ok (.iinc 1 1, 3) := by decide +kernel
theorem dX5_init_182 : decode cX5_init 182 = .ok (.goto (-33), 3) := by decide +kernel
theorem dX5_init_185 : decode cX5_init 185 = .ok (.iconst 0, 1) := by decide +kernel
theorem dX5_init_186 : decode cX5_init 186 = .ok (.istore_n 1, 1) := by decide +kernel
theorem dX5_init_187 : decode cX5_init 187 = .ok (.iload_n 1, 1) := by decide +kernel
theorem dX5_init_188 : decode cX5_init 188 = .ok (.iconst 4, 1) := by decide +kernel
theorem dX5_init_189 : decode cX5_init 189 = .ok (.if_icmp .ge 22, 3) := by decide +kernel
theorem dX5_init_192 : decode cX5_init 192 = .ok (.aload_n 0, 1) := by decide +kernel
theorem dX5_init_193 : decode cX5_init 193 = .ok (.getfield 47, 3) := by decide +kernel
theorem dX5_init_196 : decode cX5_init 196 = .ok (.iload_n 1, 1) := by decide +kernel
theorem dX5_init_197 : decode cX5_init 197 = .ok (.new 45, 3) := by decide +kernel
theorem dX5_init_200 : decode cX5_init 200 = .ok (.dup, 1) := by decide +kernel
theorem dX5_init_201 : decode cX5_init 201 = .ok (.invokespecial 96, 3) := by decide +kernel
theorem dX5_init_204 : decode cX5_init 204 = .ok (.aastore, 1) := by decide +kernel
theorem dX5_init_205 : decode cX5_init 205 = .ok (.iinc 1 1, 3) := by decide +kernel
theorem dX5_init_208 : decode cX5_init 208 = .ok (.goto (-21), 3) := by decide +kernel
theorem dX5_init_211 : decode cX5_init 211 = .ok (.return_, 1) := by decide +kernel
theorem dX6_init_0 : decode cX6_init 0 = .ok (.aload_n 0, 1) := by decide +kernel
theorem dX6_init_1 : decode cX6_init 1 = .ok (.invokespecial 1, 3) := by decide +kernel
theorem dX6_init_4 : decode cX6_init 4 = .ok (.aload_n 0, 1) := by decide +kernel
theorem dX6_init_5 : decode cX6_init 5 = .ok (.iconst 4, 1) := by decide +kernel
theorem dX6_init_6 : decode cX6_init 6 = .ok (.newarray .int, 2) := by decide +kernel
theorem dX6_init_8 : decode cX6_init 8 = .ok (.putfield 7, 3) := by decide +kernel
theorem dX6_init_11 : decode cX6_init 11 = .ok (.aload_n 0, 1) := by decide +kernel
theorem dX6_init_12 : decode cX6_init 12 = .ok (.iconst 4, 1) := by decide +kernel
theorem dX6_init_13 : decode cX6_init 13 = .ok (.newarray .int, 2) := by decide +kernel
theorem dX6_init_15 : decode cX6_init 15 = .ok (.putfield 13, 3) := by decide +kernel
theorem dX6_init_18 : decode cX6_init 18 = .ok (.aload_n 0, 1) := by decide +kernel
theorem dX6_init_19 : decode cX6_init 19 = .ok (.sipush 240, 3) := by decide +kernel
theorem dX6_init_22 : decode cX6_init 22 = .ok (.newarray .int, 2) := by decide +kernel
theorem dX6_init_24 : decode cX6_init 24 = .ok (.putfield 16, 3) := by decide +kernel
theorem dX6_init_27 : decode cX6_init 27 = .ok (.aload_n 0, 1) := by decide +kernel
theorem dX6_init_28 : decode cX6_init 28 = .ok (.bipush 60, 2) := by decide +kernel
theorem dX6_init_30 : decode cX6_init 30 = .ok (.newarray .int, 2) := by decide +kernel
theorem dX6_init_32 : decode cX6_init 32 = .ok (.putfield 19, 3) := by decide +kernel
theorem dX6_init_35 : decode cX6_init 35 = .ok (.aload_n 0, 1) := by decide +kernel
theorem dX6_init_36 : decode cX6_init 36 = .ok (.sipush 144, 3) := by decide +kernel
theorem dX6_init_39 : decode cX6_init 39 = .ok (.newarray .int, 2) := by decide +kernel
theorem dX6_init_41 : decode cX6_init 41 = .ok (.putfield 22, 3) := by decide +kernel
theorem dX6_init_44 : decode cX6_init 44 = .ok (.aload_n 0, 1) := by decide +kernel
theorem dX6_init_45 : decode cX6_init 45 = .ok (.iconst 3, 1) := by decide +kernel
theorem dX6_init_46 : decode cX6_init 46 = .ok (.newarray .int, 2) := by decide +kernel
theorem dX6_init_48 : decode cX6_init 48 = .ok (.putfield 25, 3) := by decide +kernel
theorem dX6_init_51 : decode cX6_init 51 = .ok (.aload_n 0, 1) := by decide +kernel
theorem dX6_init_52 : decode cX6_init 52 = .ok (.bipush 36, 2) := by decide +kernel
theorem dX6_init_54 : decode cX6_init 54 = .ok (.newarray .int, 2) := by decide +kernel
theorem dX6_init_56 : decode cX6_init 56 = .ok (.putfield 28, 3) := by decide +kernel
theorem dX6_init_59 : decode cX6_init 59 = .ok (.aload_n 0, 1) := by decide +kernel
theorem dX6_init_60 : decode cX6_init 60 = .ok (.bipush 9, 2) := by decide +kernel
theorem dX6_init_62 : decode cX6_init 62 = .ok (.newarray .int, 2) := by decide +kernel
theorem dX6_init_64 : decode cX6_init 64 = .ok (.putfield 31, 3) := by decide +kernel
theorem dX6_init_67 : decode cX6_init 67 = .ok (.aload_n 0, 1) := by decide +kernel
theorem dX6_init_68 : decode cX6_init 68 = .ok (.bipush 24, 2) := by decide +kernel
theorem dX6_init_70 : decode cX6_init 70 = .ok (.newarray .int, 2) := by decide +kernel
theorem dX6_init_72 : decode cX6_init 72 = .ok (.putfield 34, 3) := by decide +kernel
theorem dX6_init_75 : decode cX6_init 75 = .ok (.aload_n 0, 1) := by decide +kernel
theorem dX6_init_76 : decode cX6_init 76 = .ok (.bipush 24, 2) := by decide +kernel
theorem dX6_init_78 : decode cX6_init 78 = .ok (.newarray .int, 2) := by decide +kernel
theorem dX6_init_80 : decode cX6_init 80 = .ok (.putfield 37, 3) := by decide +kernel
theorem dX6_init_83 : decode cX6_init 83 = .ok (.aload_n 0, 1) := by decide +kernel
theorem dX6_init_84 : decode cX6_init 84 = .ok (.bipush 12, 2) := by decide +kernel
theorem dX6_init_86 : decode cX6_init 86 = .ok (.newarray .int, 2) := by decide +kernel
theorem dX6_init_88 : decode cX6_init 88 = .ok (.putfield 40, 3) := by decide +kernel
theorem dX6_init_91 : decode cX6_init 91 = .ok (.aload_n 0, 1) := by decide +kernel
theorem dX6_init_92 : decode cX6_init 92 = .ok (.bipush 12, 2) := by decide +kernel
theorem dX6_init_94 : decode cX6_init 94 = .ok (.newarray .int, 2) := by decide +kernel
theorem dX6_init_96 : decode cX6_init 96 = .ok (.putfield 43, 3) := by decide +kernel
theorem dX6_init_99 : decode cX6_init 99 = .ok (.aload_n 0, 1) := by decide +kernel
theorem dX6_init_100 : decode cX6_init 100 = .ok (.bipush 12, 2) := by decide +kernel
theorem dX6_init_102 : decode cX6_init 102 = .ok (.newarray .int, 2) := by decide +kernel
theorem dX6_init_104 : decode cX6_init 104 = .ok (.putfield 46, 3) := by decide +kernel
theorem dX6_init_107 : decode cX6_init 107 = .ok (.aload_n 0, 1) := by decide +kernel
theorem dX6_init_108 : decode cX6_init 108 = .ok (.bipush 12, 2) := by decide +kernel
theorem dX6_init_110 : decode cX6_init 110 = .ok (.newarray .int, 2) := by decide +kernel
theorem dX6_init_112 : decode cX6_init 112 = .ok (.putfield 49, 3) := by decide +kernel
theorem dX6_init_115 : decode cX6_init 115 = .ok (.aload_n 0, 1) := by decide +kernel
theorem dX6_init_116 : decode cX6_init 116 = .ok (.bipush 12, 2) := by decide +kernel
theorem dX6_init_118 : decode cX6_init 118 = .ok (.newarray .int, 2) := by decide +kernel
theorem dX6_init_120 : decode cX6_init 120 = .ok (.putfield 52, 3) := by decide +kernel
theorem dX6_init_123 : decode cX6_init 123 = .ok (.aload_n 0, 1) := by decide +kernel
theorem dX6_init_124 : decode cX6_init 124 = .ok (.bipush 12, 2) := by decide +kernel
theorem dX6_init_126 : decode cX6_init 126 = .ok (.newarray .int, 2) := by decide +kernel
theorem dX6_init_128 : decode cX6_init 128 = .ok (.putfield 55, 3) := by decide +kernel
theorem dX6_init_131 : decode cX6_init 131 = .ok (.aload_n 0, 1) := by decide +kernel
theorem dX6_init_132 : decode cX6_init 132 = .ok (.bipush 12, 2) := by decide +kernel
theorem dX6_init_134 : decode cX6_init 134 = .ok (.newarray .int, 2) := by decide +kernel
theorem dX6_init_136 : decode cX6_init 136 = .ok (.putfield 58, 3) := by decide +kernel
theorem dX6_init_139 : decode cX6_init 139 = .ok (.aload_n 0, 1) := by decide +kernel
theorem dX6_init_140 : decode cX6_init 140 = .ok (.bipush 9, 2) := by decide +kernel
theorem dX6_init_142 : decode cX6_init 142 = .ok (.newarray .int, 2) := by decide +kernel
theorem dX6_init_144 : decode cX6_init 144 = .ok (.putfield 61, 3) := by decide +kernel
theorem dX6_init_147 : decode cX6_init 147 = .ok (.aload_n 0, 1) := by decide +kernel
theorem dX6_init_148 : decode cX6_init 148 = .ok (.bipush 9, 2) := by decide +kernel
theorem dX6_init_150 : decode cX6_init 150 = .ok (.newarray .int, 2) := by decide +kernel
theorem dX6_init_152 : decode cX6_init 152 = .ok (.putfield 64, 3) := by decide +kernel
theorem dX6_init_155 : decode cX6_init 155 = .ok (.aload_n 0, 1) := by decide +kernel
theorem dX6_init_156 : decode cX6_init 156 = .ok (.bipush 24, 2) := by decide +kernel
theorem dX6_init_158 : decode cX6_init 158 = .ok (.newarray .int, 2) := by decide +kernel
theorem dX6_init_160 : decode cX6_init 160 = .ok (.putfield 67, 3) := by decide +kernel
theorem dX6_init_163 : decode cX6_init 163 = .ok (.aload_n 0, 1) := by decide +kernel
theorem dX6_init_164 : decode cX6_init 164 = .ok (.sipush 288, 3) := by decide +kernel
theorem dX6_init_167 : decode cX6_init 167 = .ok (.newarray .int, 2) := by decide +kernel
theorem dX6_init_169 : decode cX6_init 169 = .ok (.putfield 70, 3) := by decide +kernel
theorem dX6_init_172 : decode cX6_init 172 = .ok (.aload_n 0, 1) := by decide +kernel
theorem dX6_init_173 : decode cX6_init 173 = .ok (.sipush 288, 3) := by decide +kernel
theorem dX6_init_176 : decode cX6_init 176 = .ok (.newarray .int, 2) := by decide +kernel
theorem dX6_init_178 : decode cX6_init 178 = .ok (.putfield 73, 3) := by decide +kernel
theorem dX6_init_181 : decode cX6_init 181 = .ok (.aload_n 0, 1) := by decide +kernel
theorem dX6_init_182 : decode cX6_init 182 = .ok (.bipush 32, 2) := by decide +kernel
theorem dX6_init_184 : decode cX6_init 184 = .ok (.newarray .int, 2) := by decide +kernel
theorem dX6_init_186 : decode cX6_init 186 = .ok (.putfield 76, 3) := by decide +kernel
theorem dX6_init_189 : decode cX6_init 189 = .ok (.aload_n 0, 1) := by decide +kernel
theorem dX6_init_190 : decode cX6_init 190 = .ok (.sipush 2880, 3) := by decide +kernel
theorem dX6_init_193 : decode cX6_init 193 = .ok (.newarray .int, 2) := by decide +kernel
theorem dX6_init_195 : decode cX6_init 195 = .ok (.putfield 79, 3) := by decide +kernel
theorem dX6_init_198 : decode cX6_init 198 = .ok (.iconst 0, 1) := by decide +kernel
theorem dX6_init_199 : decode cX6_init 199 = .ok (.istore_n 1, 1) := by decide +kernel
theorem dX6_init_200 : decode cX6_init 200 = .ok (.iload_n 1, 1) := by decide +kernel
theorem dX6_init_201 : decode cX6_init 201 = .ok (.iconst 4, 1) := by decide +kernel
theorem dX6_init_202 : decode cX6_init 202 = .ok (.if_icmp .ge 16, 3) := by decide +kernel
theorem dX6_init_205 : decode cX6_init 205 = .ok (.aload_n 0, 1) := by decide +kernel
theorem dX6_init_206 : decode cX6_init 206 = .ok (.getfield 7, 3) := by decide +kernel
theorem dX6_init_209 : decode cX6_init 209 = .ok (.iload_n 1, 1) := by decide +kernel
theorem dX6_init_210 : decode cX6_init 210 = .ok (.iconst (-1), 1) := by decide +kernel
theorem dX6_init_211 : decode cX6_init 211 = .ok (.iastore, 1) := by decide +kernel
theorem dX6_init_212 : decode cX6_init 212 = .ok (.iinc 1 1, 3) := by decide +kernel
theorem dX6_init_215 : decode cX6_init 215 = .ok (.goto (-15), 3) := by decide +kernel
theorem dX6_init_218 : decode cX6_init 218 = .ok (.aload_n 0, 1) := by decide +kernel
theorem dX6_init_219 : decode cX6_init 219 = .ok (.iconst 2, 1) := by decide +kernel
theorem dX6_init_220 : decode cX6_init 220 = .ok (.putfield 82, 3) := by decide +kernel
theorem dX6_init_223 : decode cX6_init 223 = .ok (.return_, 1) := by decide +kernel
abbrev rmg_Slips : Room := { frames := 1, cells := 1, slots := 32, locals := 12 }
def gx_Slips (cA : Nat → ClassId) (a : Nat) (u : Nat → Nat) : va_W := [((u 0), .inl (cA 0, 32, .inl (fun _ => 0))),
  (a, .inr (3, [.ref (u 0), .int 0]))]
set_option maxHeartbeats 4000000 in
set_option maxRecDepth 100000 in
theorem gc_Slips {D : va_G} {cA : Nat → ClassId} {h ta : Nat} (a : Nat) (l : Launch) : gw_C D cA h ta l yX3_init cX3_init 1 rmg_Slips [.ref a] [(a, .inr (3, [.null, .int 0]))] (gx_Slips cA a) := by
  refine gw_met (lv := [(0, .ref a)]) l (by decide +kernel) rfl ⟨Nat.le_of_ble_eq_true rfl, rfl⟩ ?_
  intro X R V RT
  refine gw_aload V dX3_init_0 0 rfl ?_
  refine gw_obj V dX3_init_1 kw_110 kw_95 kw_96 ⟨Nat.le_of_ble_eq_true rfl, Nat.le_of_ble_eq_true rfl⟩ ?_
  refine gw_aload V dX3_init_4 0 rfl ?_
  refine gw_bipush V dX3_init_5 (v := 32) (by decide +kernel) ?_
  refine gw_newI (N := 32) V dX3_init_7 kw_121 (by decide) (by decide +kernel) (Nat.le_of_ble_eq_true rfl) (Nat.le_of_ble_eq_true rfl) (Nat.le_of_ble_eq_true rfl) (fun q0 => ?_)
  refine gw_put (T := ba_tC) (ws' := (q0, .inl (cA 0, 32, .inl (fun _ => 0))) :: (a, .inr (3, [.ref q0, .int 0])) :: R) V dX3_init_9 rfl kfX3_11 (fun C F N e => by rw [hdc_3 C F N e]; rfl) 1 rfl rfl rfl (Nat.le_of_ble_eq_true rfl) rfl ?_
  refine gw_aload V dX3_init_12 0 rfl ?_
  refine gw_iconst V dX3_init_13 (v := 0) (by decide +kernel) ?_
  refine gw_put (T := ba_tC) (ws' := (q0, .inl (cA 0, 32, .inl (fun _ => 0))) :: (a, .inr (3, [.ref q0, .int 0])) :: R) V dX3_init_14 rfl kfX3_15 (fun C F N e => by rw [hdc_3 C F N e]; rfl) 1 rfl (vp_nar_int _) rfl (Nat.le_of_ble_eq_true rfl) rfl ?_
  exact RT (fun k => [q0].getD k 0) _ _ _ _ _ dX3_init_17 (Nat.le_of_ble_eq_true rfl) (Nat.le_of_ble_eq_true rfl) rfl
abbrev rmg_Text47 : Room := { frames := 1, cells := 1, slots := 47, locals := 12 }
def gx_Text47 (cA : Nat → ClassId) (a : Nat) (u : Nat → Nat) : va_W := [((u 0), .inl (cA 0, 47, .inl (fun _ => 0))),
  (a, .inr (4, [.ref (u 0), .int 0]))]
set_option maxHeartbeats 4000000 in
set_option maxRecDepth 100000 in
theorem gc_Text47 {D : va_G} {cA : Nat → ClassId} {h ta : Nat} (a : Nat) (l : Launch) : gw_C D cA h ta l yX4_init cX4_init 2 rmg_Text47 [.ref a, .int 47] [(a, .inr (4, [.null, .int 0]))] (gx_Text47 cA a) := by
  refine gw_met (lv := [(0, .ref a), (1, .int 47)]) l (by decide +kernel) rfl ⟨Nat.le_of_ble_eq_true rfl, rfl⟩ ?_
  intro X R V RT
  refine gw_aload V dX4_init_0 0 rfl ?_
  refine gw_obj V dX4_init_1 kw_259 kw_95 kw_96 ⟨Nat.le_of_ble_eq_true rfl, Nat.le_of_ble_eq_true rfl⟩ ?_
  refine gw_aload V dX4_init_4 0 rfl ?_
  refine gw_iconst V dX4_init_5 (v := 0) (by decide +kernel) ?_
  refine gw_put (T := ba_tC) (ws' := (a, .inr (4, [.null, .int 0])) :: R) V dX4_init_6 rfl kfX4_9 (fun C F N e => by rw [hdc_4 C F N e]; rfl) 0 rfl (vp_nar_int _) rfl (Nat.le_of_ble_eq_true rfl) rfl ?_
  refine gw_aload V dX4_init_9 0 rfl ?_
  refine gw_iload V dX4_init_10 1 rfl ?_
  refine gw_newI (N := 47) V dX4_init_11 kw_121 (by decide) (by decide +kernel) (Nat.le_of_ble_eq_true rfl) (Nat.le_of_ble_eq_true rfl) (Nat.le_of_ble_eq_true rfl) (fun q0 => ?_)
  refine gw_put (T := ba_tC) (ws' := (q0, .inl (cA 0, 47, .inl (fun _ => 0))) :: (a, .inr (4, [.ref q0, .int 0])) :: R) V dX4_init_13 rfl kfX4_15 (fun C F N e => by rw [hdc_4 C F N e]; rfl) 1 rfl rfl rfl (Nat.le_of_ble_eq_true rfl) rfl ?_
  exact RT (fun k => [q0].getD k 0) _ _ _ _ _ dX4_init_16 (Nat.le_of_ble_eq_true rfl) (Nat.le_of_ble_eq_true rfl) rfl
abbrev rmg_Text9 : Room := { frames := 1, cells := 1, slots := 9, locals := 12 }
def gx_Text9 (cA : Nat → ClassId) (a : Nat) (u : Nat → Nat) : va_W := [((u 0), .inl (cA 0, 9, .inl (fun _ => 0))),
  (a, .inr (4, [.ref (u 0), .int 0]))]
set_option maxHeartbeats 4000000 in
set_option maxRecDepth 100000 in
theorem gc_Text9 {D : va_G} {cA : Nat → ClassId} {h ta : Nat} (a : Nat) (l : Launch) : gw_C D cA h ta l yX4_init cX4_init 2 rmg_Text9 [.ref a, .int 9] [(a, .inr (4, [.null, .int 0]))] (gx_Text9 cA a) := by
  refine gw_met (lv := [(0, .ref a), (1, .int 9)]) l (by decide +kernel) rfl ⟨Nat.le_of_ble_eq_true rfl, rfl⟩ ?_
  intro X R V RT
  refine gw_aload V dX4_init_0 0 rfl ?_
  refine gw_obj V dX4_init_1 kw_259 kw_95 kw_96 ⟨Nat.le_of_ble_eq_true rfl, Nat.le_of_ble_eq_true rfl⟩ ?_
  refine gw_aload V dX4_init_4 0 rfl ?_
  refine gw_iconst V dX4_init_5 (v := 0) (by decide +kernel) ?_
  refine gw_put (T := ba_tC) (ws' := (a, .inr (4, [.null, .int 0])) :: R) V dX4_init_6 rfl kfX4_9 (fun C F N e => by rw [hdc_4 C F N e]; rfl) 0 rfl (vp_nar_int _) rfl (Nat.le_of_ble_eq_true rfl) rfl ?_
  refine gw_aload V dX4_init_9 0 rfl ?_
  refine gw_iload V dX4_init_10 1 rfl ?_
  refine gw_newI (N := 9) V dX4_init_11 kw_121 (by decide) (by decide +kernel) (Nat.le_of_ble_eq_true rfl) (Nat.le_of_ble_eq_true rfl) (Nat.le_of_ble_eq_true rfl) (fun q0 => ?_)
  refine gw_put (T := ba_tC) (ws' := (q0, .inl (cA 0, 9, .inl (fun _ => 0))) :: (a, .inr (4, [.ref q0, .int 0])) :: R) V dX4_init_13 rfl kfX4_15 (fun C F N e => by rw [hdc_4 C F N e]; rfl) 1 rfl rfl rfl (Nat.le_of_ble_eq_true rfl) rfl ?_
  exact RT (fun k => [q0].getD k 0) _ _ _ _ _ dX4_init_16 (Nat.le_of_ble_eq_true rfl) (Nat.le_of_ble_eq_true rfl) rfl
abbrev rmg_Text35 : Room := { frames := 1, cells := 1, slots := 35, locals := 12 }
def gx_Text35 (cA : Nat → ClassId) (a : Nat) (u : Nat → Nat) : va_W := [((u 0), .inl (cA 0, 35, .inl (fun _ => 0))),
  (a, .inr (4, [.ref (u 0), .int 0]))]
set_option maxHeartbeats 4000000 in
set_option maxRecDepth 100000 in
theorem gc_Text35 {D : va_G} {cA : Nat → ClassId} {h ta : Nat} (a : Nat) (l : Launch) : gw_C D cA h ta l yX4_init cX4_init 2 rmg_Text35 [.ref a, .int 35] [(a, .inr (4, [.null, .int 0]))] (gx_Text35 cA a) := by
  refine gw_met (lv := [(0, .ref a), (1, .int 35)]) l (by decide +kernel) rfl ⟨Nat.le_of_ble_eq_true rfl, rfl⟩ ?_
  intro X R V RT
  refine gw_aload V dX4_init_0 0 rfl ?_
  refine gw_obj V dX4_init_1 kw_259 kw_95 kw_96 ⟨Nat.le_of_ble_eq_true rfl, Nat.le_of_ble_eq_true rfl⟩ ?_
  refine gw_aload V dX4_init_4 0 rfl ?_
  refine gw_iconst V dX4_init_5 (v := 0) (by decide +kernel) ?_
  refine gw_put (T := ba_tC) (ws' := (a, .inr (4, [.null, .int 0])) :: R) V dX4_init_6 rfl kfX4_9 (fun C F N e => by rw [hdc_4 C F N e]; rfl) 0 rfl (vp_nar_int _) rfl (Nat.le_of_ble_eq_true rfl) rfl ?_
  refine gw_aload V dX4_init_9 0 rfl ?_
  refine gw_iload V dX4_init_10 1 rfl ?_
  refine gw_newI (N := 35) V dX4_init_11 kw_121 (by decide) (by decide +kernel) (Nat.le_of_ble_eq_true rfl) (Nat.le_of_ble_eq_true rfl) (Nat.le_of_ble_eq_true rfl) (fun q0 => ?_)
  refine gw_put (T := ba_tC) (ws' := (q0, .inl (cA 0, 35, .inl (fun _ => 0))) :: (a, .inr (4, [.ref q0, .int 0])) :: R) V dX4_init_13 rfl kfX4_15 (fun C F N e => by rw [hdc_4 C F N e]; rfl) 1 rfl rfl rfl (Nat.le_of_ble_eq_true rfl) rfl ?_
  exact RT (fun k => [q0].getD k 0) _ _ _ _ _ dX4_init_16 (Nat.le_of_ble_eq_true rfl) (Nat.le_of_ble_eq_true rfl) rfl
abbrev rmg_Sheet : Room := { frames := 1, cells := 1, slots := 60, locals := 12 }
def gx_Sheet (cA : Nat → ClassId) (a : Nat) (u : Nat → Nat) : va_W := [((u 0), .inl (cA 0, 60, .inl (fun _ => 0))),
  (a, .inr (2, [.ref (u 0), .int 0, .int 0, .int 1]))]
set_option maxHeartbeats 4000000 in
set_option maxRecDepth 100000 in
theorem gc_Sheet {D : va_G} {cA : Nat → ClassId} {h ta : Nat} (a : Nat) (l : Launch) : gw_C D cA h ta l yX2_init cX2_init 1 rmg_Sheet [.ref a] [(a, .inr (2, [.null, .int 0, .int 0, .int 0]))] (gx_Sheet cA a) := by
  refine gw_met (lv := [(0, .ref a)]) l (by decide +kernel) rfl ⟨Nat.le_of_ble_eq_true rfl, rfl⟩ ?_
  intro X R V RT
  refine gw_aload V dX2_init_0 0 rfl ?_
  refine gw_obj V dX2_init_1 kw_274 kw_95 kw_96 ⟨Nat.le_of_ble_eq_true rfl, Nat.le_of_ble_eq_true rfl⟩ ?_
  refine gw_aload V dX2_init_4 0 rfl ?_
  refine gw_bipush V dX2_init_5 (v := 60) (by decide +kernel) ?_
  refine gw_newI (N := 60) V dX2_init_7 kw_121 (by decide) (by decide +kernel) (Nat.le_of_ble_eq_true rfl) (Nat.le_of_ble_eq_true rfl) (Nat.le_of_ble_eq_true rfl) (fun q0 => ?_)
  refine gw_put (T := ba_tC) (ws' := (q0, .inl (cA 0, 60, .inl (fun _ => 0))) :: (a, .inr (2, [.ref q0, .int 0, .int 0, .int 0])) :: R) V dX2_init_9 rfl kfX2_9 (fun C F N e => by rw [hdc_2 C F N e]; rfl) 1 rfl rfl rfl (Nat.le_of_ble_eq_true rfl) rfl ?_
  refine gw_aload V dX2_init_12 0 rfl ?_
  refine gw_iconst V dX2_init_13 (v := 0) (by decide +kernel) ?_
  refine gw_put (T := ba_tC) (ws' := (q0, .inl (cA 0, 60, .inl (fun _ => 0))) :: (a, .inr (2, [.ref q0, .int 0, .int 0, .int 0])) :: R) V dX2_init_14 rfl kfX2_15 (fun C F N e => by rw [hdc_2 C F N e]; rfl) 1 rfl (vp_nar_int _) rfl (Nat.le_of_ble_eq_true rfl) rfl ?_
  refine gw_aload V dX2_init_17 0 rfl ?_
  refine gw_iconst V dX2_init_18 (v := 0) (by decide +kernel) ?_
  refine gw_put (T := ba_tC) (ws' := (q0, .inl (cA 0, 60, .inl (fun _ => 0))) :: (a, .inr (2, [.ref q0, .int 0, .int 0, .int 0])) :: R) V dX2_init_19 rfl kfX2_19 (fun C F N e => by rw [hdc_2 C F N e]; rfl) 1 rfl (vp_nar_int _) rfl (Nat.le_of_ble_eq_true rfl) rfl ?_
  refine gw_aload V dX2_init_22 0 rfl ?_
  refine gw_iconst V dX2_init_23 (v := 1) (by decide +kernel) ?_
  refine gw_put (T := ba_tC) (ws' := (q0, .inl (cA 0, 60, .inl (fun _ => 0))) :: (a, .inr (2, [.ref q0, .int 0, .int 0, .int 1])) :: R) V dX2_init_24 rfl kfX2_22 (fun C F N e => by rw [hdc_2 C F N e]; rfl) 1 rfl (ba_nz (Or.inr rfl)).1 (ba_nz (Or.inr rfl)).2 (Nat.le_of_ble_eq_true rfl) rfl ?_
  exact RT (fun k => [q0].getD k 0) _ _ _ _ _ dX2_init_27 (Nat.le_of_ble_eq_true rfl) (Nat.le_of_ble_eq_true rfl) rfl
abbrev rmg_Board : Room := { frames := 2, cells := 8, slots := 163, locals := 32 }
def gx_Board (cA : Nat → ClassId) (a : Nat) (u : Nat → Nat) : va_W := [((u 7), .inl (cA 0, 32, .inl (fun _ => 0))),
  ((u 6), .inr (3, [.ref (u 7), .int 0])),
  ((u 5), .inl (cA 0, 12, .inl (fun _ => 0))),
  ((u 4), .inl (cA 0, 12, .inl (fun _ => 0))),
  ((u 3), .inl (cA 0, 9, .inl (fun _ => 0))),
  ((u 2), .inl (cA 0, 72, .inl (fun j => if j < 72 then (-1) else (fun _ => 0) j))),
  ((u 1), .inl (cA 0, 12, .inl (fun _ => 0))),
  ((u 0), .inl (cA 0, 12, .inl (fun _ => 0))),
  (a, .inr (0, [.ref (u 0), .ref (u 1), .ref (u 2), .int 0, .ref (u 3), .ref (u 4), .ref (u 5), .int 0, .int 2, .ref (u 6)]))]
set_option maxHeartbeats 4000000 in
set_option maxRecDepth 100000 in
theorem gc_Board {D : va_G} {cA : Nat → ClassId} {h ta : Nat} (a : Nat) (l : Launch) : gw_C D cA h ta l yX0_init cX0_init 1 rmg_Board [.ref a] [(a, .inr (0, [.null, .null, .null, .int 0, .null, .null, .null, .int 0, .int 0, .null]))] (gx_Board cA a) := by
  refine gw_met (lv := [(0, .ref a)]) l (by decide +kernel) rfl ⟨Nat.le_of_ble_eq_true rfl, rfl⟩ ?_
  intro X R V RT
  refine gw_aload V dX0_init_0 0 rfl ?_
  refine gw_obj V dX0_init_1 kw_104 kw_95 kw_96 ⟨Nat.le_of_ble_eq_true rfl, Nat.le_of_ble_eq_true rfl⟩ ?_
  refine gw_aload V dX0_init_4 0 rfl ?_
  refine gw_bipush V dX0_init_5 (v := 12) (by decide +kernel) ?_
  refine gw_newI (N := 12) V dX0_init_7 kw_121 (by decide) (by decide +kernel) (Nat.le_of_ble_eq_true rfl) (Nat.le_of_ble_eq_true rfl) (Nat.le_of_ble_eq_true rfl) (fun q0 => ?_)
  refine gw_put (T := ba_tC) (ws' := (q0, .inl (cA 0, 12, .inl (fun _ => 0))) :: (a, .inr (0, [.ref q0, .null, .null, .int 0, .null, .null, .null, .int 0, .int 0, .null])) :: R) V dX0_init_9 rfl kfX0_9 (fun C F N e => by rw [hdc_0 C F N e]; rfl) 1 rfl rfl rfl (Nat.le_of_ble_eq_true rfl) rfl ?_
  refine gw_aload V dX0_init_12 0 rfl ?_
  refine gw_bipush V dX0_init_13 (v := 12) (by decide +kernel) ?_
  refine gw_newI (N := 12) V dX0_init_15 kw_121 (by decide) (by decide +kernel) (Nat.le_of_ble_eq_true rfl) (Nat.le_of_ble_eq_true rfl) (Nat.le_of_ble_eq_true rfl) (fun q1 => ?_)
  refine gw_put (T := ba_tC) (ws' := (q1, .inl (cA 0, 12, .inl (fun _ => 0))) :: (q0, .inl (cA 0, 12, .inl (fun _ => 0))) :: (a, .inr (0, [.ref q0, .ref q1, .null, .int 0, .null, .null, .null, .int 0, .int 0, .null])) :: R) V dX0_init_17 rfl kfX0_15 (fun C F N e => by rw [hdc_0 C F N e]; rfl) 2 rfl rfl rfl (Nat.le_of_ble_eq_true rfl) rfl ?_
  refine gw_aload V dX0_init_20 0 rfl ?_
  refine gw_bipush V dX0_init_21 (v := 72) (by decide +kernel) ?_
  refine gw_newI (N := 72) V dX0_init_23 kw_121 (by decide) (by decide +kernel) (Nat.le_of_ble_eq_true rfl) (Nat.le_of_ble_eq_true rfl) (Nat.le_of_ble_eq_true rfl) (fun q2 => ?_)
  refine gw_put (T := ba_tC) (ws' := (q2, .inl (cA 0, 72, .inl (fun _ => 0))) :: (q1, .inl (cA 0, 12, .inl (fun _ => 0))) :: (q0, .inl (cA 0, 12, .inl (fun _ => 0))) :: (a, .inr (0, [.ref q0, .ref q1, .ref q2, .int 0, .null, .null, .null, .int 0, .int 0, .null])) :: R) V dX0_init_25 rfl kfX0_18 (fun C F N e => by rw [hdc_0 C F N e]; rfl) 3 rfl rfl rfl (Nat.le_of_ble_eq_true rfl) rfl ?_
  refine gw_aload V dX0_init_28 0 rfl ?_
  refine gw_iconst V dX0_init_29 (v := 0) (by decide +kernel) ?_
  refine gw_put (T := ba_tC) (ws' := (q2, .inl (cA 0, 72, .inl (fun _ => 0))) :: (q1, .inl (cA 0, 12, .inl (fun _ => 0))) :: (q0, .inl (cA 0, 12, .inl (fun _ => 0))) :: (a, .inr (0, [.ref q0, .ref q1, .ref q2, .int 0, .null, .null, .null, .int 0, .int 0, .null])) :: R) V dX0_init_30 rfl kfX0_21 (fun C F N e => by rw [hdc_0 C F N e]; rfl) 3 rfl (vp_nar_int _) rfl (Nat.le_of_ble_eq_true rfl) rfl ?_
  refine gw_aload V dX0_init_33 0 rfl ?_
  refine gw_bipush V dX0_init_34 (v := 9) (by decide +kernel) ?_
  refine gw_newI (N := 9) V dX0_init_36 kw_121 (by decide) (by decide +kernel) (Nat.le_of_ble_eq_true rfl) (Nat.le_of_ble_eq_true rfl) (Nat.le_of_ble_eq_true rfl) (fun q3 => ?_)
  refine gw_put (T := ba_tC) (ws' := (q3, .inl (cA 0, 9, .inl (fun _ => 0))) :: (q2, .inl (cA 0, 72, .inl (fun _ => 0))) :: (q1, .inl (cA 0, 12, .inl (fun _ => 0))) :: (q0, .inl (cA 0, 12, .inl (fun _ => 0))) :: (a, .inr (0, [.ref q0, .ref q1, .ref q2, .int 0, .ref q3, .null, .null, .int 0, .int 0, .null])) :: R) V dX0_init_38 rfl kfX0_25 (fun C F N e => by rw [hdc_0 C F N e]; rfl) 4 rfl rfl rfl (Nat.le_of_ble_eq_true rfl) rfl ?_
  refine gw_aload V dX0_init_41 0 rfl ?_
  refine gw_bipush V dX0_init_42 (v := 12) (by decide +kernel) ?_
  refine gw_newI (N := 12) V dX0_init_44 kw_121 (by decide) (by decide +kernel) (Nat.le_of_ble_eq_true rfl) (Nat.le_of_ble_eq_true rfl) (Nat.le_of_ble_eq_true rfl) (fun q4 => ?_)
  refine gw_put (T := ba_tC) (ws' := (q4, .inl (cA 0, 12, .inl (fun _ => 0))) :: (q3, .inl (cA 0, 9, .inl (fun _ => 0))) :: (q2, .inl (cA 0, 72, .inl (fun _ => 0))) :: (q1, .inl (cA 0, 12, .inl (fun _ => 0))) :: (q0, .inl (cA 0, 12, .inl (fun _ => 0))) :: (a, .inr (0, [.ref q0, .ref q1, .ref q2, .int 0, .ref q3, .ref q4, .null, .int 0, .int 0, .null])) :: R) V dX0_init_46 rfl kfX0_28 (fun C F N e => by rw [hdc_0 C F N e]; rfl) 5 rfl rfl rfl (Nat.le_of_ble_eq_true rfl) rfl ?_
  refine gw_aload V dX0_init_49 0 rfl ?_
  refine gw_bipush V dX0_init_50 (v := 12) (by decide +kernel) ?_
  refine gw_newI (N := 12) V dX0_init_52 kw_121 (by decide) (by decide +kernel) (Nat.le_of_ble_eq_true rfl) (Nat.le_of_ble_eq_true rfl) (Nat.le_of_ble_eq_true rfl) (fun q5 => ?_)
  refine gw_put (T := ba_tC) (ws' := (q5, .inl (cA 0, 12, .inl (fun _ => 0))) :: (q4, .inl (cA 0, 12, .inl (fun _ => 0))) :: (q3, .inl (cA 0, 9, .inl (fun _ => 0))) :: (q2, .inl (cA 0, 72, .inl (fun _ => 0))) :: (q1, .inl (cA 0, 12, .inl (fun _ => 0))) :: (q0, .inl (cA 0, 12, .inl (fun _ => 0))) :: (a, .inr (0, [.ref q0, .ref q1, .ref q2, .int 0, .ref q3, .ref q4, .ref q5, .int 0, .int 0, .null])) :: R) V dX0_init_54 rfl kfX0_31 (fun C F N e => by rw [hdc_0 C F N e]; rfl) 6 rfl rfl rfl (Nat.le_of_ble_eq_true rfl) rfl ?_
  refine gw_aload V dX0_init_57 0 rfl ?_
  refine gw_iconst V dX0_init_58 (v := 0) (by decide +kernel) ?_
  refine gw_put (T := ba_tC) (ws' := (q5, .inl (cA 0, 12, .inl (fun _ => 0))) :: (q4, .inl (cA 0, 12, .inl (fun _ => 0))) :: (q3, .inl (cA 0, 9, .inl (fun _ => 0))) :: (q2, .inl (cA 0, 72, .inl (fun _ => 0))) :: (q1, .inl (cA 0, 12, .inl (fun _ => 0))) :: (q0, .inl (cA 0, 12, .inl (fun _ => 0))) :: (a, .inr (0, [.ref q0, .ref q1, .ref q2, .int 0, .ref q3, .ref q4, .ref q5, .int 0, .int 0, .null])) :: R) V dX0_init_59 rfl kfX0_34 (fun C F N e => by rw [hdc_0 C F N e]; rfl) 6 rfl (vp_nar_int _) rfl (Nat.le_of_ble_eq_true rfl) rfl ?_
  refine gw_aload V dX0_init_62 0 rfl ?_
  refine gw_iconst V dX0_init_63 (v := 2) (by decide +kernel) ?_
  refine gw_put (T := ba_tC) (ws' := (q5, .inl (cA 0, 12, .inl (fun _ => 0))) :: (q4, .inl (cA 0, 12, .inl (fun _ => 0))) :: (q3, .inl (cA 0, 9, .inl (fun _ => 0))) :: (q2, .inl (cA 0, 72, .inl (fun _ => 0))) :: (q1, .inl (cA 0, 12, .inl (fun _ => 0))) :: (q0, .inl (cA 0, 12, .inl (fun _ => 0))) :: (a, .inr (0, [.ref q0, .ref q1, .ref q2, .int 0, .ref q3, .ref q4, .ref q5, .int 0, .int 2, .null])) :: R) V dX0_init_64 rfl kfX0_37 (fun C F N e => by rw [hdc_0 C F N e]; rfl) 6 rfl (vp_nar_int _) rfl (Nat.le_of_ble_eq_true rfl) rfl ?_
  refine gw_aload V dX0_init_67 0 rfl ?_
  refine gw_new (ci := 3) (fs := [.null, .int 0]) V dX0_init_68 kw_105 kw_106 kw_80 rfl kinX3 tyX3_ok gdf_3 (Nat.le_of_ble_eq_true rfl) (Nat.le_of_ble_eq_true rfl) (fun q6 => ?_)
  refine gw_dup V dX0_init_71 rfl ?_
  refine gw_callN (n := 0) (st := [.ref q6, .ref a]) (As := []) V dX0_init_72 rfl kw_109 kw_80 (fun _ q => q.2.2.2.2.1) kw_108 ⟨by decide +kernel, by decide +kernel, by decide +kernel⟩ (gc_Slips q6) rfl rfl ⟨Nat.le_of_ble_eq_true rfl, Nat.le_of_ble_eq_true rfl⟩ ⟨Nat.le_of_ble_eq_true rfl, Nat.le_of_ble_eq_true rfl⟩ (Nat.le_of_ble_eq_true rfl) rfl (fun u0 => ?_)
  show gw_G D h 1 X (((u0 0), .inl (cA 0, 32, .inl (fun _ => 0))) :: (q6, .inr (3, [.ref (u0 0), .int 0])) :: (q5, .inl (cA 0, 12, .inl (fun _ => 0))) :: (q4, .inl (cA 0, 12, .inl (fun _ => 0))) :: (q3, .inl (cA 0, 9, .inl (fun _ => 0))) :: (q2, .inl (cA 0, 72, .inl (fun _ => 0))) :: (q1, .inl (cA 0, 12, .inl (fun _ => 0))) :: (q0, .inl (cA 0, 12, .inl (fun _ => 0))) :: (a, .inr (0, [.ref q0, .ref q1, .ref q2, .int 0, .ref q3, .ref q4, .ref q5, .int 0, .int 2, .null])) :: R) 8 163 75 [(0, .ref a)] [.ref q6, .ref a]
  refine gw_put (T := ba_tC) (ws' := ((u0 0), .inl (cA 0, 32, .inl (fun _ => 0))) :: (q6, .inr (3, [.ref (u0 0), .int 0])) :: (q5, .inl (cA 0, 12, .inl (fun _ => 0))) :: (q4, .inl (cA 0, 12, .inl (fun _ => 0))) :: (q3, .inl (cA 0, 9, .inl (fun _ => 0))) :: (q2, .inl (cA 0, 72, .inl (fun _ => 0))) :: (q1, .inl (cA 0, 12, .inl (fun _ => 0))) :: (q0, .inl (cA 0, 12, .inl (fun _ => 0))) :: (a, .inr (0, [.ref q0, .ref q1, .ref q2, .int 0, .ref q3, .ref q4, .ref q5, .int 0, .int 2, .ref q6])) :: R) V dX0_init_75 rfl kfX0_43 (fun C F N e => by rw [hdc_0 C F N e]; rfl) 8 rfl rfl rfl (Nat.le_of_ble_eq_true rfl) rfl ?_
  refine gw_aload V dX0_init_78 0 rfl ?_
  refine gw_get (T := ba_tC) (i := 0) (v := .ref q2) V dX0_init_79 rfl kfX0_18 8 rfl rfl ?_
  refine gw_iconst V dX0_init_82 (v := (-1)) (by decide +kernel) ?_
  refine gw_fill (ws' := ((u0 0), .inl (cA 0, 32, .inl (fun _ => 0))) :: (q6, .inr (3, [.ref (u0 0), .int 0])) :: (q5, .inl (cA 0, 12, .inl (fun _ => 0))) :: (q4, .inl (cA 0, 12, .inl (fun _ => 0))) :: (q3, .inl (cA 0, 9, .inl (fun _ => 0))) :: (q2, .inl (cA 0, 72, .inl (fun j => if j < 72 then (-1) else (fun _ => 0) j))) :: (q1, .inl (cA 0, 12, .inl (fun _ => 0))) :: (q0, .inl (cA 0, 12, .inl (fun _ => 0))) :: (a, .inr (0, [.ref q0, .ref q1, .ref q2, .int 0, .ref q3, .ref q4, .ref q5, .int 0, .int 2, .ref q6])) :: R) V dX0_init_83 kcX0_47 5 rfl ⟨Nat.le_of_ble_eq_true rfl, Nat.le_of_ble_eq_true rfl⟩ ⟨Nat.le_of_ble_eq_true rfl, Nat.le_of_ble_eq_true rfl⟩ (Nat.le_of_ble_eq_true rfl) rfl ?_
  exact RT (fun k => [q0, q1, q2, q3, q4, q5, q6, (u0 0)].getD k 0) _ _ _ _ _ dX0_init_86 (Nat.le_of_ble_eq_true rfl) (Nat.le_of_ble_eq_true rfl) rfl
abbrev rmg_Course : Room := { frames := 1, cells := 14, slots := 506, locals := 12 }
def gx_Course (cA : Nat → ClassId) (a : Nat) (b : Nat) (u : Nat → Nat) : va_W := [((u 13), .inl (cA 0, 24, .inl (fun _ => 0))),
  ((u 12), .inl (cA 0, 12, .inl (fun _ => 0))),
  ((u 11), .inl (cA 0, 12, .inl (fun _ => 0))),
  ((u 10), .inl (cA 0, 12, .inl (fun _ => 0))),
  ((u 9), .inl (cA 0, 9, .inl (fun _ => 0))),
  ((u 8), .inl (cA 0, 9, .inl (fun _ => 0))),
  ((u 7), .inl (cA 0, 288, .inl (fun _ => 0))),
  ((u 6), .inl (cA 0, 12, .inl (fun _ => 0))),
  ((u 5), .inl (cA 0, 8, .inl (fun _ => 0))),
  ((u 4), .inl (cA 0, 72, .inl (fun _ => 0))),
  ((u 3), .inl (cA 0, 12, .inl (fun _ => 0))),
  ((u 2), .inl (cA 0, 12, .inl (fun _ => 0))),
  ((u 1), .inl (cA 0, 12, .inl (fun _ => 0))),
  ((u 0), .inl (cA 0, 12, .inl (fun _ => 0))),
  (a, .inr (1, [.ref b, .ref (u 0), .ref (u 1), .ref (u 2), .int 0, .int 0, .ref (u 3), .ref (u 4), .ref (u 5), .ref (u 6), .int 0, .ref (u 7), .ref (u 8), .ref (u 9), .ref (u 10), .ref (u 11), .ref (u 12), .ref (u 13), .int 0]))]
set_option maxHeartbeats 4000000 in
set_option maxRecDepth 100000 in
theorem gc_Course {D : va_G} {cA : Nat → ClassId} {h ta : Nat} (a : Nat) (b : Nat) (l : Launch) : gw_C D cA h ta l yX1_init cX1_init 2 rmg_Course [.ref a, .ref b] [(a, .inr (1, [.null, .null, .null, .null, .int 0, .int 0, .null, .null, .null, .null, .int 0, .null, .null, .null, .null, .null, .null, .null, .int 0]))] (gx_Course cA a b) := by
  refine gw_met (lv := [(0, .ref a), (1, .ref b)]) l (by decide +kernel) rfl ⟨Nat.le_of_ble_eq_true rfl, rfl⟩ ?_
  intro X R V RT
  refine gw_aload V dX1_init_0 0 rfl ?_
  refine gw_obj V dX1_init_1 kw_179 kw_95 kw_96 ⟨Nat.le_of_ble_eq_true rfl, Nat.le_of_ble_eq_true rfl⟩ ?_
  refine gw_aload V dX1_init_4 0 rfl ?_
  refine gw_bipush V dX1_init_5 (v := 12) (by decide +kernel) ?_
  refine gw_newI (N := 12) V dX1_init_7 kw_121 (by decide) (by decide +kernel) (Nat.le_of_ble_eq_true rfl) (Nat.le_of_ble_eq_true rfl) (Nat.le_of_ble_eq_true rfl) (fun q0 => ?_)
  refine gw_put (T := ba_tC) (ws' := (q0, .inl (cA 0, 12, .inl (fun _ => 0))) :: (a, .inr (1, [.null, .ref q0, .null, .null, .int 0, .int 0, .null, .null, .null, .null, .int 0, .null, .null, .null, .null, .null, .null, .null, .int 0])) :: R) V dX1_init_9 rfl kfX1_9 (fun C F N e => by rw [hdc_1 C F N e]; rfl) 1 rfl rfl rfl (Nat.le_of_ble_eq_true rfl) rfl ?_
  refine gw_aload V dX1_init_12 0 rfl ?_
  refine gw_bipush V dX1_init_13 (v := 12) (by decide +kernel) ?_
  refine gw_newI (N := 12) V dX1_init_15 kw_121 (by decide) (by decide +kernel) (Nat.le_of_ble_eq_true rfl) (Nat.le_of_ble_eq_true rfl) (Nat.le_of_ble_eq_true rfl) (fun q1 => ?_)
  refine gw_put (T := ba_tC) (ws' := (q1, .inl (cA 0, 12, .inl (fun _ => 0))) :: (q0, .inl (cA 0, 12, .inl (fun _ => 0))) :: (a, .inr (1, [.null, .ref q0, .ref q1, .null, .int 0, .int 0, .null, .null, .null, .null, .int 0, .null, .null, .null, .null, .null, .null, .null, .int 0])) :: R) V dX1_init_17 rfl kfX1_15 (fun C F N e => by rw [hdc_1 C F N e]; rfl) 2 rfl rfl rfl (Nat.le_of_ble_eq_true rfl) rfl ?_
  refine gw_aload V dX1_init_20 0 rfl ?_
  refine gw_bipush V dX1_init_21 (v := 12) (by decide +kernel) ?_
  refine gw_newI (N := 12) V dX1_init_23 kw_121 (by decide) (by decide +kernel) (Nat.le_of_ble_eq_true rfl) (Nat.le_of_ble_eq_true rfl) (Nat.le_of_ble_eq_true rfl) (fun q2 => ?_)
  refine gw_put (T := ba_tC) (ws' := (q2, .inl (cA 0, 12, .inl (fun _ => 0))) :: (q1, .inl (cA 0, 12, .inl (fun _ => 0))) :: (q0, .inl (cA 0, 12, .inl (fun _ => 0))) :: (a, .inr (1, [.null, .ref q0, .ref q1, .ref q2, .int 0, .int 0, .null, .null, .null, .null, .int 0, .null, .null, .null, .null, .null, .null, .null, .int 0])) :: R) V dX1_init_25 rfl kfX1_18 (fun C F N e => by rw [hdc_1 C F N e]; rfl) 3 rfl rfl rfl (Nat.le_of_ble_eq_true rfl) rfl ?_
  refine gw_aload V dX1_init_28 0 rfl ?_
  refine gw_iconst V dX1_init_29 (v := 0) (by decide +kernel) ?_
  refine gw_put (T := ba_tC) (ws' := (q2, .inl (cA 0, 12, .inl (fun _ => 0))) :: (q1, .inl (cA 0, 12, .inl (fun _ => 0))) :: (q0, .inl (cA 0, 12, .inl (fun _ => 0))) :: (a, .inr (1, [.null, .ref q0, .ref q1, .ref q2, .int 0, .int 0, .null, .null, .null, .null, .int 0, .null, .null, .null, .null, .null, .null, .null, .int 0])) :: R) V dX1_init_30 rfl kfX1_21 (fun C F N e => by rw [hdc_1 C F N e]; rfl) 3 rfl (vp_nar_int _) rfl (Nat.le_of_ble_eq_true rfl) rfl ?_
  refine gw_aload V dX1_init_33 0 rfl ?_
  refine gw_iconst V dX1_init_34 (v := 0) (by decide +kernel) ?_
  refine gw_put (T := ba_tC) (ws' := (q2, .inl (cA 0, 12, .inl (fun _ => 0))) :: (q1, .inl (cA 0, 12, .inl (fun _ => 0))) :: (q0, .inl (cA 0, 12, .inl (fun _ => 0))) :: (a, .inr (1, [.null, .ref q0, .ref q1, .ref q2, .int 0, .int 0, .null, .null, .null, .null, .int 0, .null, .null, .null, .null, .null, .null, .null, .int 0])) :: R) V dX1_init_35 rfl kfX1_25 (fun C F N e => by rw [hdc_1 C F N e]; rfl) 3 rfl (vp_nar_int _) rfl (Nat.le_of_ble_eq_true rfl) rfl ?_
  refine gw_aload V dX1_init_38 0 rfl ?_
  refine gw_bipush V dX1_init_39 (v := 12) (by decide +kernel) ?_
  refine gw_newI (N := 12) V dX1_init_41 kw_121 (by decide) (by decide +kernel) (Nat.le_of_ble_eq_true rfl) (Nat.le_of_ble_eq_true rfl) (Nat.le_of_ble_eq_true rfl) (fun q3 => ?_)
  refine gw_put (T := ba_tC) (ws' := (q3, .inl (cA 0, 12, .inl (fun _ => 0))) :: (q2, .inl (cA 0, 12, .inl (fun _ => 0))) :: (q1, .inl (cA 0, 12, .inl (fun _ => 0))) :: (q0, .inl (cA 0, 12, .inl (fun _ => 0))) :: (a, .inr (1, [.null, .ref q0, .ref q1, .ref q2, .int 0, .int 0, .ref q3, .null, .null, .null, .int 0, .null, .null, .null, .null, .null, .null, .null, .int 0])) :: R) V dX1_init_43 rfl kfX1_28 (fun C F N e => by rw [hdc_1 C F N e]; rfl) 4 rfl rfl rfl (Nat.le_of_ble_eq_true rfl) rfl ?_
  refine gw_aload V dX1_init_46 0 rfl ?_
  refine gw_bipush V dX1_init_47 (v := 72) (by decide +kernel) ?_
  refine gw_newI (N := 72) V dX1_init_49 kw_121 (by decide) (by decide +kernel) (Nat.le_of_ble_eq_true rfl) (Nat.le_of_ble_eq_true rfl) (Nat.le_of_ble_eq_true rfl) (fun q4 => ?_)
  refine gw_put (T := ba_tC) (ws' := (q4, .inl (cA 0, 72, .inl (fun _ => 0))) :: (q3, .inl (cA 0, 12, .inl (fun _ => 0))) :: (q2, .inl (cA 0, 12, .inl (fun _ => 0))) :: (q1, .inl (cA 0, 12, .inl (fun _ => 0))) :: (q0, .inl (cA 0, 12, .inl (fun _ => 0))) :: (a, .inr (1, [.null, .ref q0, .ref q1, .ref q2, .int 0, .int 0, .ref q3, .ref q4, .null, .null, .int 0, .null, .null, .null, .null, .null, .null, .null, .int 0])) :: R) V dX1_init_51 rfl kfX1_31 (fun C F N e => by rw [hdc_1 C F N e]; rfl) 5 rfl rfl rfl (Nat.le_of_ble_eq_true rfl) rfl ?_
  refine gw_aload V dX1_init_54 0 rfl ?_
  refine gw_bipush V dX1_init_55 (v := 8) (by decide +kernel) ?_
  refine gw_newI (N := 8) V dX1_init_57 kw_121 (by decide) (by decide +kernel) (Nat.le_of_ble_eq_true rfl) (Nat.le_of_ble_eq_true rfl) (Nat.le_of_ble_eq_true rfl) (fun q5 => ?_)
  refine gw_put (T := ba_tC) (ws' := (q5, .inl (cA 0, 8, .inl (fun _ => 0))) :: (q4, .inl (cA 0, 72, .inl (fun _ => 0))) :: (q3, .inl (cA 0, 12, .inl (fun _ => 0))) :: (q2, .inl (cA 0, 12, .inl (fun _ => 0))) :: (q1, .inl (cA 0, 12, .inl (fun _ => 0))) :: (q0, .inl (cA 0, 12, .inl (fun _ => 0))) :: (a, .inr (1, [.null, .ref q0, .ref q1, .ref q2, .int 0, .int 0, .ref q3, .ref q4, .ref q5, .null, .int 0, .null, .null, .null, .null, .null, .null, .null, .int 0])) :: R) V dX1_init_59 rfl kfX1_34 (fun C F N e => by rw [hdc_1 C F N e]; rfl) 6 rfl rfl rfl (Nat.le_of_ble_eq_true rfl) rfl ?_
  refine gw_aload V dX1_init_62 0 rfl ?_
  refine gw_bipush V dX1_init_63 (v := 12) (by decide +kernel) ?_
  refine gw_newI (N := 12) V dX1_init_65 kw_121 (by decide) (by decide +kernel) (Nat.le_of_ble_eq_true rfl) (Nat.le_of_ble_eq_true rfl) (Nat.le_of_ble_eq_true rfl) (fun q6 => ?_)
  refine gw_put (T := ba_tC) (ws' := (q6, .inl (cA 0, 12, .inl (fun _ => 0))) :: (q5, .inl (cA 0, 8, .inl (fun _ => 0))) :: (q4, .inl (cA 0, 72, .inl (fun _ => 0))) :: (q3, .inl (cA 0, 12, .inl (fun _ => 0))) :: (q2, .inl (cA 0, 12, .inl (fun _ => 0))) :: (q1, .inl (cA 0, 12, .inl (fun _ => 0))) :: (q0, .inl (cA 0, 12, .inl (fun _ => 0))) :: (a, .inr (1, [.null, .ref q0, .ref q1, .ref q2, .int 0, .int 0, .ref q3, .ref q4, .ref q5, .ref q6, .int 0, .null, .null, .null, .null, .null, .null, .null, .int 0])) :: R) V dX1_init_67 rfl kfX1_37 (fun C F N e => by rw [hdc_1 C F N e]; rfl) 7 rfl rfl rfl (Nat.le_of_ble_eq_true rfl) rfl ?_
  refine gw_aload V dX1_init_70 0 rfl ?_
  refine gw_iconst V dX1_init_71 (v := 0) (by decide +kernel) ?_
  refine gw_put (T := ba_tC) (ws' := (q6, .inl (cA 0, 12, .inl (fun _ => 0))) :: (q5, .inl (cA 0, 8, .inl (fun _ => 0))) :: (q4, .inl (cA 0, 72, .inl (fun _ => 0))) :: (q3, .inl (cA 0, 12, .inl (fun _ => 0))) :: (q2, .inl (cA 0, 12, .inl (fun _ => 0))) :: (q1, .inl (cA 0, 12, .inl (fun _ => 0))) :: (q0, .inl (cA 0, 12, .inl (fun _ => 0))) :: (a, .inr (1, [.null, .ref q0, .ref q1, .ref q2, .int 0, .int 0, .ref q3, .ref q4, .ref q5, .ref q6, .int 0, .null, .null, .null, .null, .null, .null, .null, .int 0])) :: R) V dX1_init_72 rfl kfX1_40 (fun C F N e => by rw [hdc_1 C F N e]; rfl) 7 rfl (vp_nar_int _) rfl (Nat.le_of_ble_eq_true rfl) rfl ?_
  refine gw_aload V dX1_init_75 0 rfl ?_
  refine gw_sipush V dX1_init_76 (v := 288) (by decide +kernel) ?_
  refine gw_newI (N := 288) V dX1_init_79 kw_121 (by decide) (by decide +kernel) (Nat.le_of_ble_eq_true rfl) (Nat.le_of_ble_eq_true rfl) (Nat.le_of_ble_eq_true rfl) (fun q7 => ?_)
  refine gw_put (T := ba_tC) (ws' := (q7, .inl (cA 0, 288, .inl (fun _ => 0))) :: (q6, .inl (cA 0, 12, .inl (fun _ => 0))) :: (q5, .inl (cA 0, 8, .inl (fun _ => 0))) :: (q4, .inl (cA 0, 72, .inl (fun _ => 0))) :: (q3, .inl (cA 0, 12, .inl (fun _ => 0))) :: (q2, .inl (cA 0, 12, .inl (fun _ => 0))) :: (q1, .inl (cA 0, 12, .inl (fun _ => 0))) :: (q0, .inl (cA 0, 12, .inl (fun _ => 0))) :: (a, .inr (1, [.null, .ref q0, .ref q1, .ref q2, .int 0, .int 0, .ref q3, .ref q4, .ref q5, .ref q6, .int 0, .ref q7, .null, .null, .null, .null, .null, .null, .int 0])) :: R) V dX1_init_81 rfl kfX1_43 (fun C F N e => by rw [hdc_1 C F N e]; rfl) 8 rfl rfl rfl (Nat.le_of_ble_eq_true rfl) rfl ?_
  refine gw_aload V dX1_init_84 0 rfl ?_
  refine gw_bipush V dX1_init_85 (v := 9) (by decide +kernel) ?_
  refine gw_newI (N := 9) V dX1_init_87 kw_121 (by decide) (by decide +kernel) (Nat.le_of_ble_eq_true rfl) (Nat.le_of_ble_eq_true rfl) (Nat.le_of_ble_eq_true rfl) (fun q8 => ?_)
  refine gw_put (T := ba_tC) (ws' := (q8, .inl (cA 0, 9, .inl (fun _ => 0))) :: (q7, .inl (cA 0, 288, .inl (fun _ => 0))) :: (q6, .inl (cA 0, 12, .inl (fun _ => 0))) :: (q5, .inl (cA 0, 8, .inl (fun _ => 0))) :: (q4, .inl (cA 0, 72, .inl (fun _ => 0))) :: (q3, .inl (cA 0, 12, .inl (fun _ => 0))) :: (q2, .inl (cA 0, 12, .inl (fun _ => 0))) :: (q1, .inl (cA 0, 12, .inl (fun _ => 0))) :: (q0, .inl (cA 0, 12, .inl (fun _ => 0))) :: (a, .inr (1, [.null, .ref q0, .ref q1, .ref q2, .int 0, .int 0, .ref q3, .ref q4, .ref q5, .ref q6, .int 0, .ref q7, .ref q8, .null, .null, .null, .null, .null, .int 0])) :: R) V dX1_init_89 rfl kfX1_46 (fun C F N e => by rw [hdc_1 C F N e]; rfl) 9 rfl rfl rfl (Nat.le_of_ble_eq_true rfl) rfl ?_
  refine gw_aload V dX1_init_92 0 rfl ?_
  refine gw_bipush V dX1_init_93 (v := 9) (by decide +kernel) ?_
  refine gw_newI (N := 9) V dX1_init_95 kw_121 (by decide) (by decide +kernel) (Nat.le_of_ble_eq_true rfl) (Nat.le_of_ble_eq_true rfl) (Nat.le_of_ble_eq_true rfl) (fun q9 => ?_)
  refine gw_put (T := ba_tC) (ws' := (q9, .inl (cA 0, 9, .inl (fun _ => 0))) :: (q8, .inl (cA 0, 9, .inl (fun _ => 0))) :: (q7, .inl (cA 0, 288, .inl (fun _ => 0))) :: (q6, .inl (cA 0, 12, .inl (fun _ => 0))) :: (q5, .inl (cA 0, 8, .inl (fun _ => 0))) :: (q4, .inl (cA 0, 72, .inl (fun _ => 0))) :: (q3, .inl (cA 0, 12, .inl (fun _ => 0))) :: (q2, .inl (cA 0, 12, .inl (fun _ => 0))) :: (q1, .inl (cA 0, 12, .inl (fun _ => 0))) :: (q0, .inl (cA 0, 12, .inl (fun _ => 0))) :: (a, .inr (1, [.null, .ref q0, .ref q1, .ref q2, .int 0, .int 0, .ref q3, .ref q4, .ref q5, .ref q6, .int 0, .ref q7, .ref q8, .ref q9, .null, .null, .null, .null, .int 0])) :: R) V dX1_init_97 rfl kfX1_49 (fun C F N e => by rw [hdc_1 C F N e]; rfl) 10 rfl rfl rfl (Nat.le_of_ble_eq_true rfl) rfl ?_
  refine gw_aload V dX1_init_100 0 rfl ?_
  refine gw_bipush V dX1_init_101 (v := 12) (by decide +kernel) ?_
  refine gw_newI (N := 12) V dX1_init_103 kw_121 (by decide) (by decide +kernel) (Nat.le_of_ble_eq_true rfl) (Nat.le_of_ble_eq_true rfl) (Nat.le_of_ble_eq_true rfl) (fun q10 => ?_)
  refine gw_put (T := ba_tC) (ws' := (q10, .inl (cA 0, 12, .inl (fun _ => 0))) :: (q9, .inl (cA 0, 9, .inl (fun _ => 0))) :: (q8, .inl (cA 0, 9, .inl (fun _ => 0))) :: (q7, .inl (cA 0, 288, .inl (fun _ => 0))) :: (q6, .inl (cA 0, 12, .inl (fun _ => 0))) :: (q5, .inl (cA 0, 8, .inl (fun _ => 0))) :: (q4, .inl (cA 0, 72, .inl (fun _ => 0))) :: (q3, .inl (cA 0, 12, .inl (fun _ => 0))) :: (q2, .inl (cA 0, 12, .inl (fun _ => 0))) :: (q1, .inl (cA 0, 12, .inl (fun _ => 0))) :: (q0, .inl (cA 0, 12, .inl (fun _ => 0))) :: (a, .inr (1, [.null, .ref q0, .ref q1, .ref q2, .int 0, .int 0, .ref q3, .ref q4, .ref q5, .ref q6, .int 0, .ref q7, .ref q8, .ref q9, .ref q10, .null, .null, .null, .int 0])) :: R) V dX1_init_105 rfl kfX1_52 (fun C F N e => by rw [hdc_1 C F N e]; rfl) 11 rfl rfl rfl (Nat.le_of_ble_eq_true rfl) rfl ?_
  refine gw_aload V dX1_init_108 0 rfl ?_
  refine gw_bipush V dX1_init_109 (v := 12) (by decide +kernel) ?_
  refine gw_newI (N := 12) V dX1_init_111 kw_121 (by decide) (by decide +kernel) (Nat.le_of_ble_eq_true rfl) (Nat.le_of_ble_eq_true rfl) (Nat.le_of_ble_eq_true rfl) (fun q11 => ?_)
  refine gw_put (T := ba_tC) (ws' := (q11, .inl (cA 0, 12, .inl (fun _ => 0))) :: (q10, .inl (cA 0, 12, .inl (fun _ => 0))) :: (q9, .inl (cA 0, 9, .inl (fun _ => 0))) :: (q8, .inl (cA 0, 9, .inl (fun _ => 0))) :: (q7, .inl (cA 0, 288, .inl (fun _ => 0))) :: (q6, .inl (cA 0, 12, .inl (fun _ => 0))) :: (q5, .inl (cA 0, 8, .inl (fun _ => 0))) :: (q4, .inl (cA 0, 72, .inl (fun _ => 0))) :: (q3, .inl (cA 0, 12, .inl (fun _ => 0))) :: (q2, .inl (cA 0, 12, .inl (fun _ => 0))) :: (q1, .inl (cA 0, 12, .inl (fun _ => 0))) :: (q0, .inl (cA 0, 12, .inl (fun _ => 0))) :: (a, .inr (1, [.null, .ref q0, .ref q1, .ref q2, .int 0, .int 0, .ref q3, .ref q4, .ref q5, .ref q6, .int 0, .ref q7, .ref q8, .ref q9, .ref q10, .ref q11, .null, .null, .int 0])) :: R) V dX1_init_113 rfl kfX1_55 (fun C F N e => by rw [hdc_1 C F N e]; rfl) 12 rfl rfl rfl (Nat.le_of_ble_eq_true rfl) rfl ?_
  refine gw_aload V dX1_init_116 0 rfl ?_
  refine gw_bipush V dX1_init_117 (v := 12) (by decide +kernel) ?_
  refine gw_newI (N := 12) V dX1_init_119 kw_121 (by decide) (by decide +kernel) (Nat.le_of_ble_eq_true rfl) (Nat.le_of_ble_eq_true rfl) (Nat.le_of_ble_eq_true rfl) (fun q12 => ?_)
  refine gw_put (T := ba_tC) (ws' := (q12, .inl (cA 0, 12, .inl (fun _ => 0))) :: (q11, .inl (cA 0, 12, .inl (fun _ => 0))) :: (q10, .inl (cA 0, 12, .inl (fun _ => 0))) :: (q9, .inl (cA 0, 9, .inl (fun _ => 0))) :: (q8, .inl (cA 0, 9, .inl (fun _ => 0))) :: (q7, .inl (cA 0, 288, .inl (fun _ => 0))) :: (q6, .inl (cA 0, 12, .inl (fun _ => 0))) :: (q5, .inl (cA 0, 8, .inl (fun _ => 0))) :: (q4, .inl (cA 0, 72, .inl (fun _ => 0))) :: (q3, .inl (cA 0, 12, .inl (fun _ => 0))) :: (q2, .inl (cA 0, 12, .inl (fun _ => 0))) :: (q1, .inl (cA 0, 12, .inl (fun _ => 0))) :: (q0, .inl (cA 0, 12, .inl (fun _ => 0))) :: (a, .inr (1, [.null, .ref q0, .ref q1, .ref q2, .int 0, .int 0, .ref q3, .ref q4, .ref q5, .ref q6, .int 0, .ref q7, .ref q8, .ref q9, .ref q10, .ref q11, .ref q12, .null, .int 0])) :: R) V dX1_init_121 rfl kfX1_58 (fun C F N e => by rw [hdc_1 C F N e]; rfl) 13 rfl rfl rfl (Nat.le_of_ble_eq_true rfl) rfl ?_
  refine gw_aload V dX1_init_124 0 rfl ?_
  refine gw_bipush V dX1_init_125 (v := 24) (by decide +kernel) ?_
  refine gw_newI (N := 24) V dX1_init_127 kw_121 (by decide) (by decide +kernel) (Nat.le_of_ble_eq_true rfl) (Nat.le_of_ble_eq_true rfl) (Nat.le_of_ble_eq_true rfl) (fun q13 => ?_)
  refine gw_put (T := ba_tC) (ws' := (q13, .inl (cA 0, 24, .inl (fun _ => 0))) :: (q12, .inl (cA 0, 12, .inl (fun _ => 0))) :: (q11, .inl (cA 0, 12, .inl (fun _ => 0))) :: (q10, .inl (cA 0, 12, .inl (fun _ => 0))) :: (q9, .inl (cA 0, 9, .inl (fun _ => 0))) :: (q8, .inl (cA 0, 9, .inl (fun _ => 0))) :: (q7, .inl (cA 0, 288, .inl (fun _ => 0))) :: (q6, .inl (cA 0, 12, .inl (fun _ => 0))) :: (q5, .inl (cA 0, 8, .inl (fun _ => 0))) :: (q4, .inl (cA 0, 72, .inl (fun _ => 0))) :: (q3, .inl (cA 0, 12, .inl (fun _ => 0))) :: (q2, .inl (cA 0, 12, .inl (fun _ => 0))) :: (q1, .inl (cA 0, 12, .inl (fun _ => 0))) :: (q0, .inl (cA 0, 12, .inl (fun _ => 0))) :: (a, .inr (1, [.null, .ref q0, .ref q1, .ref q2, .int 0, .int 0, .ref q3, .ref q4, .ref q5, .ref q6, .int 0, .ref q7, .ref q8, .ref q9, .ref q10, .ref q11, .ref q12, .ref q13, .int 0])) :: R) V dX1_init_129 rfl kfX1_61 (fun C F N e => by rw [hdc_1 C F N e]; rfl) 14 rfl rfl rfl (Nat.le_of_ble_eq_true rfl) rfl ?_
  refine gw_aload V dX1_init_132 0 rfl ?_
  refine gw_iconst V dX1_init_133 (v := 0) (by decide +kernel) ?_
  refine gw_put (T := ba_tC) (ws' := (q13, .inl (cA 0, 24, .inl (fun _ => 0))) :: (q12, .inl (cA 0, 12, .inl (fun _ => 0))) :: (q11, .inl (cA 0, 12, .inl (fun _ => 0))) :: (q10, .inl (cA 0, 12, .inl (fun _ => 0))) :: (q9, .inl (cA 0, 9, .inl (fun _ => 0))) :: (q8, .inl (cA 0, 9, .inl (fun _ => 0))) :: (q7, .inl (cA 0, 288, .inl (fun _ => 0))) :: (q6, .inl (cA 0, 12, .inl (fun _ => 0))) :: (q5, .inl (cA 0, 8, .inl (fun _ => 0))) :: (q4, .inl (cA 0, 72, .inl (fun _ => 0))) :: (q3, .inl (cA 0, 12, .inl (fun _ => 0))) :: (q2, .inl (cA 0, 12, .inl (fun _ => 0))) :: (q1, .inl (cA 0, 12, .inl (fun _ => 0))) :: (q0, .inl (cA 0, 12, .inl (fun _ => 0))) :: (a, .inr (1, [.null, .ref q0, .ref q1, .ref q2, .int 0, .int 0, .ref q3, .ref q4, .ref q5, .ref q6, .int 0, .ref q7, .ref q8, .ref q9, .ref q10, .ref q11, .ref q12, .ref q13, .int 0])) :: R) V dX1_init_134 rfl kfX1_64 (fun C F N e => by rw [hdc_1 C F N e]; rfl) 14 rfl (vp_nar_int _) rfl (Nat.le_of_ble_eq_true rfl) rfl ?_
  refine gw_aload V dX1_init_137 0 rfl ?_
  refine gw_aload V dX1_init_138 1 rfl ?_
  refine gw_put (T := ba_tC) (ws' := (q13, .inl (cA 0, 24, .inl (fun _ => 0))) :: (q12, .inl (cA 0, 12, .inl (fun _ => 0))) :: (q11, .inl (cA 0, 12, .inl (fun _ => 0))) :: (q10, .inl (cA 0, 12, .inl (fun _ => 0))) :: (q9, .inl (cA 0, 9, .inl (fun _ => 0))) :: (q8, .inl (cA 0, 9, .inl (fun _ => 0))) :: (q7, .inl (cA 0, 288, .inl (fun _ => 0))) :: (q6, .inl (cA 0, 12, .inl (fun _ => 0))) :: (q5, .inl (cA 0, 8, .inl (fun _ => 0))) :: (q4, .inl (cA 0, 72, .inl (fun _ => 0))) :: (q3, .inl (cA 0, 12, .inl (fun _ => 0))) :: (q2, .inl (cA 0, 12, .inl (fun _ => 0))) :: (q1, .inl (cA 0, 12, .inl (fun _ => 0))) :: (q0, .inl (cA 0, 12, .inl (fun _ => 0))) :: (a, .inr (1, [.ref b, .ref q0, .ref q1, .ref q2, .int 0, .int 0, .ref q3, .ref q4, .ref q5, .ref q6, .int 0, .ref q7, .ref q8, .ref q9, .ref q10, .ref q11, .ref q12, .ref q13, .int 0])) :: R) V dX1_init_139 rfl kfX1_67 (fun C F N e => by rw [hdc_1 C F N e]; rfl) 14 rfl rfl rfl (Nat.le_of_ble_eq_true rfl) rfl ?_
  exact RT (fun k => [q0, q1, q2, q3, q4, q5, q6, q7, q8, q9, q10, q11, q12, q13].getD k 0) _ _ _ _ _ dX1_init_142 (Nat.le_of_ble_eq_true rfl) (Nat.le_of_ble_eq_true rfl) rfl
