theorem dX6_pinOf_87 : decode cX6_pinOf 87 = .ok (.iload_n 1, 1) := by decide +kernel
theorem dX6_pinOf_88 : decode cX6_pinOf 88 = .ok (.invokestatic 124, 3) := by decide +kernel
theorem dX6_pinOf_91 : decode cX6_pinOf 91 = .ok (.ireturn, 1) := by decide +kernel
theorem dX6_isTaken_0 : decode cX6_isTaken 0 = .ok (.iconst 0, 1) := by decide +kernel
theorem dX6_isTaken_1 : decode cX6_isTaken 1 = .ok (.istore_n 2, 1) := by decide +kernel
theorem dX6_isTaken_2 : decode cX6_isTaken 2 = .ok (.iconst 0, 1) := by decide +kernel
theorem dX6_isTaken_3 : decode cX6_isTaken 3 = .ok (.istore_n 3, 1) := by decide +kernel
theorem dX6_isTaken_4 : decode cX6_isTaken 4 = .ok (.iload_n 3, 1) := by decide +kernel
theorem dX6_isTaken_5 : decode cX6_isTaken 5 = .ok (.iload_n 1, 1) := by decide +kernel
theorem dX6_isTaken_6 : decode cX6_isTaken 6 = .ok (.if_icmp .ge 61, 3) := by decide +kernel
theorem dX6_isTaken_9 : decode cX6_isTaken 9 = .ok (.iload_n 2, 1) := by decide +kernel
theorem dX6_isTaken_10 : decode cX6_isTaken 10 = .ok (.ifCond .ne 45, 3) := by decide +kernel
theorem dX6_isTaken_13 : decode cX6_isTaken 13 = .ok (.aload_n 0, 1) := by decide +kernel
theorem dX6_isTaken_14 : decode cX6_isTaken 14 = .ok (.getfield 28, 3) := by decide +kernel
theorem dX6_isTaken_17 : decode cX6_isTaken 17 = .ok (.iconst 3, 1) := by decide +kernel
theorem dX6_isTaken_18 : decode cX6_isTaken 18 = .ok (.iload_n 3, 1) := by decide +kernel
theorem dX6_isTaken_19 : decode cX6_isTaken 19 = .ok (.imul, 1) := by decide +kernel
theorem dX6_isTaken_20 : decode cX6_isTaken 20 = .ok (.iaload, 1) := by decide +kernel
theorem dX6_isTaken_21 : decode cX6_isTaken 21 = .ok (.aload_n 0, 1) := by decide +kernel
theorem dX6_isTaken_22 : decode cX6_isTaken 22 = .ok (.getfield 28, 3) := by decide +kernel
theorem dX6_isTaken_25 : decode cX6_isTaken 25 = .ok (.iconst 3, 1) := by decide +kernel
theorem dX6_isTaken_26 : decode cX6_isTaken 26 = .ok (.iload_n 1, 1) := by decide +kernel
theorem dX6_isTaken_27 : decode cX6_isTaken 27 = .ok (.imul, 1) := by decide +kernel
theorem dX6_isTaken_28 : decode cX6_isTaken 28 = .ok (.iaload, 1) := by decide +kernel
theorem dX6_isTaken_29 : decode cX6_isTaken 29 = .ok (.if_icmp .ne 30, 3) := by decide +kernel
theorem dX6_isTaken_32 : decode cX6_isTaken 32 = .ok (.aload_n 0, 1) := by decide +kernel
theorem dX6_isTaken_33 : decode cX6_isTaken 33 = .ok (.getfield 28, 3) := by decide +kernel
theorem dX6_isTaken_36 : decode cX6_isTaken 36 = .ok (.iconst 3, 1) := by decide +kernel
theorem dX6_isTaken_37 : decode cX6_isTaken 37 = .ok (.iload_n 3, 1) := by decide +kernel
theorem dX6_isTaken_38 : decode cX6_isTaken 38 = .ok (.imul, 1) := by decide +kernel
theorem dX6_isTaken_39 : decode cX6_isTaken 39 = .ok (.iconst 1, 1) := by decide +kernel
theorem dX6_isTaken_40 : decode cX6_isTaken 40 = .ok (.iadd, 1) := by decide +kernel
theorem dX6_isTaken_41 : decode cX6_isTaken 41 = .ok (.iaload, 1) := by decide +kernel
theorem dX6_isTaken_42 : decode cX6_isTaken 42 = .ok (.aload_n 0, 1) := by decide +kernel
theorem dX6_isTaken_43 : decode cX6_isTaken 43 = .ok (.getfield 28, 3) := by decide +kernel
theorem dX6_isTaken_46 : decode cX6_isTaken 46 = .ok (.iconst 3, 1) := by decide +kernel
theorem dX6_isTaken_47 : decode cX6_isTaken 47 = .ok (.iload_n 1, 1) := by decide +kernel
theorem dX6_isTaken_48 : decode cX6_isTaken 48 = .ok (.imul, 1) := by decide +kernel
theorem dX6_isTaken_49 : decode cX6_isTaken 49 = .ok (.iconst 1, 1) := by decide +kernel
theorem dX6_isTaken_50 : decode cX6_isTaken 50 = .ok (.iadd, 1) := by decide +kernel
theorem dX6_isTaken_51 : decode cX6_isTaken 51 = .ok (.iaload, 1) := by decide +kernel
theorem dX6_isTaken_52 : decode cX6_isTaken 52 = .ok (.if_icmp .ne 7, 3) := by decide +kernel
theorem dX6_isTaken_55 : decode cX6_isTaken 55 = .ok (.iconst 1, 1) := by decide +kernel
theorem dX6_isTaken_56 : decode cX6_isTaken 56 = .ok (.goto 4, 3) := by decide +kernel
theorem dX6_isTaken_59 : decode cX6_isTaken 59 = .ok (.iconst 0, 1) := by decide +kernel
theorem dX6_isTaken_60 : decode cX6_isTaken 60 = .ok (.istore_n 2, 1) := by decide +kernel
theorem dX6_isTaken_61 : decode cX6_isTaken 61 = .ok (.iinc 3 1, 3) := by decide +kernel
theorem dX6_isTaken_64 : decode cX6_isTaken 64 = .ok (.goto (-60), 3) := by decide +kernel
theorem dX6_isTaken_67 : decode cX6_isTaken 67 = .ok (.iload_n 2, 1) := by decide +kernel
theorem dX6_isTaken_68 : decode cX6_isTaken 68 = .ok (.ireturn, 1) := by decide +kernel
theorem dX6_readsPins_0 : decode cX6_readsPins 0 = .ok (.aload_n 0, 1) := by decide +kernel
theorem dX6_readsPins_1 : decode cX6_readsPins 1 = .ok (.iconst 0, 1) := by decide +kernel
theorem dX6_readsPins_2 : decode cX6_readsPins 2 = .ok (.putfield 127, 3) := by decide +kernel
theorem dX6_readsPins_5 : decode cX6_readsPins 5 = .ok (.aload_n 0, 1) := by decide +kernel
theorem dX6_readsPins_6 : decode cX6_readsPins 6 = .ok (.getfield 25, 3) := by decide +kernel
theorem dX6_readsPins_9 : decode cX6_readsPins 9 = .ok (.iconst 0, 1) := by decide +kernel
theorem dX6_readsPins_10 : decode cX6_readsPins 10 = .ok (.iaload, 1) := by decide +kernel
theorem dX6_readsPins_11 : decode cX6_readsPins 11 = .ok (.istore_n 1, 1) := by decide +kernel
theorem dX6_readsPins_12 : decode cX6_readsPins 12 = .ok (.iconst 0, 1) := by decide +kernel
theorem dX6_readsPins_13 : decode cX6_readsPins 13 = .ok (.istore_n 2, 1) := by decide +kernel
theorem dX6_readsPins_14 : decode cX6_readsPins 14 = .ok (.iload_n 2, 1) := by decide +kernel
theorem dX6_readsPins_15 : decode cX6_readsPins 15 = .ok (.iload_n 1, 1) := by decide +kernel
theorem dX6_readsPins_16 : decode cX6_readsPins 16 = .ok (.if_icmp .ge 99, 3) := by decide +kernel
theorem dX6_readsPins_19 : decode cX6_readsPins 19 = .ok (.iload_n 2, 1) := by decide +kernel
theorem dX6_readsPins_20 : decode cX6_readsPins 20 = .ok (.iconst 4, 1) := by decide +kernel
theorem dX6_readsPins_21 : decode cX6_readsPins 21 = .ok (.irem, 1) := by decide +kernel
theorem dX6_readsPins_22 : decode cX6_readsPins 22 = .ok (.istore_n 3, 1) := by decide +kernel
theorem dX6_readsPins_23 : decode cX6_readsPins 23 = .ok (.iload_n 3, 1) := by decide +kernel
theorem dX6_readsPins_24 : decode cX6_readsPins 24 = .ok (.aload_n 0, 1) := by decide +kernel
theorem dX6_readsPins_25 : decode cX6_readsPins 25 = .ok (.getfield 22, 3) := by decide +kernel
theorem dX6_readsPins_28 : decode cX6_readsPins 28 = .ok (.iload_n 2, 1) := by decide +kernel
theorem dX6_readsPins_29 : decode cX6_readsPins 29 = .ok (.iaload, 1) := by decide +kernel
theorem dX6_readsPins_30 : decode cX6_readsPins 30 = .ok (.invokestatic 130, 3) := by decide +kernel
theorem dX6_readsPins_33 : decode cX6_readsPins 33 = .ok (.istore 4, 2) := by decide +kernel
theorem dX6_readsPins_35 : decode cX6_readsPins 35 = .ok (.iload 4, 2) := by decide +kernel
theorem dX6_readsPins_37 : decode cX6_readsPins 37 = .ok (.bipush (-9), 2) := by decide +kernel
theorem dX6_readsPins_39 : decode cX6_readsPins 39 = .ok (.if_icmp .eq 22, 3) := by decide +kernel
theorem dX6_readsPins_42 : decode cX6_readsPins 42 = .ok (.iload_n 3, 1) := by decide +kernel
theorem dX6_readsPins_43 : decode cX6_readsPins 43 = .ok (.iconst 3, 1) := by decide +kernel
theorem dX6_readsPins_44 : decode cX6_readsPins 44 = .ok (.if_icmp .ge 17, 3) := by decide +kernel
theorem dX6_readsPins_47 : decode cX6_readsPins 47 = .ok (.aload_n 0, 1) := by decide +kernel
theorem dX6_readsPins_48 : decode cX6_readsPins 48 = .ok (.getfield 28, 3) := by decide +kernel
theorem dX6_readsPins_51 : decode cX6_readsPins 51 = .ok (.iconst 3, 1) := by decide +kernel
theorem dX6_readsPins_52 : decode cX6_readsPins 52 = .ok (.iload_n 2, 1) := by decide +kernel
theorem dX6_readsPins_53 : decode cX6_readsPins 53 = .ok (.iconst 4, 1) := by decide +kernel
theorem dX6_readsPins_54 : decode cX6_readsPins 54 = .ok (.idiv, 1) := by decide +kernel
theorem dX6_readsPins_55 : decode cX6_readsPins 55 = .ok (.imul, 1) := by decide +kernel
theorem dX6_readsPins_56 : decode cX6_readsPins 56 = .ok (.iload_n 3, 1) := by decide +kernel
theorem dX6_readsPins_57 : decode cX6_readsPins 57 = .ok (.iadd, 1) := by decide +kernel
theorem dX6_readsPins_58 : decode cX6_readsPins 58 = .ok (.iload 4, 2) := by decide +kernel
theorem dX6_readsPins_60 : decode cX6_readsPins 60 = .ok (.iastore, 1) := by decide +kernel
theorem dX6_readsPins_61 : decode cX6_readsPins 61 = .ok (.iload 4, 2) := by decide +kernel
theorem dX6_readsPins_63 : decode cX6_readsPins 63 = .ok (.bipush (-9), 2) := by decide +kernel
theorem dX6_readsPins_65 : decode cX6_readsPins 65 = .ok (.if_icmp .eq 18, 3) := by decide +kernel
theorem dX6_readsPins_68 : decode cX6_readsPins 68 = .ok (.iload_n 3, 1) := by decide +kernel
theorem dX6_readsPins_69 : decode cX6_readsPins 69 = .ok (.iconst 1, 1) := by decide +kernel
theorem dX6_readsPins_70 : decode cX6_readsPins 70 = .ok (.if_icmp .ne 20, 3) := by decide +kernel
theorem dX6_readsPins_73 : decode cX6_readsPins 73 = .ok (.aload_n 0, 1) := by decide +kernel
theorem dX6_readsPins_74 : decode cX6_readsPins 74 = .ok (.iload_n 2, 1) := by decide +kernel
theorem dX6_readsPins_75 : decode cX6_readsPins 75 = .ok (.iconst 4, 1) := by decide +kernel
theorem dX6_readsPins_76 : decode cX6_readsPins 76 = .ok (.idiv, 1) := by decide +kernel
theorem dX6_readsPins_77 : decode cX6_readsPins 77 = .ok (.invokevirtual 133, 3) := by decide +kernel
theorem dX6_readsPins_80 : decode cX6_readsPins 80 = .ok (.ifCond .eq 10, 3) := by decide +kernel
theorem dX6_readsPins_83 : decode cX6_readsPins 83 = .ok (.aload_n 0, 1) := by decide +kernel
theorem dX6_readsPins_84 : decode cX6_readsPins 84 = .ok (.iconst 0, 1) := by decide +kernel
theorem dX6_readsPins_85 : decode cX6_readsPins 85 = .ok (.putfield 127, 3) := by decide +kernel
theorem dX6_readsPins_88 : decode cX6_readsPins 88 = .ok (.iload_n 2, 1) := by decide +kernel
theorem dX6_readsPins_89 : decode cX6_readsPins 89 = .ok (.ireturn, 1) := by decide +kernel
theorem dX6_readsPins_90 : decode cX6_readsPins 90 = .ok (.aload_n 0, 1) := by decide +kernel
theorem dX6_readsPins_91 : decode cX6_readsPins 91 = .ok (.dup, 1) := by decide +kernel
theorem dX6_readsPins_92 : decode cX6_readsPins 92 = .ok (.getfield 127, 3) := by decide +kernel
theorem dX6_readsPins_95 : decode cX6_readsPins 95 = .ok (.iload_n 3, 1) := by decide +kernel
theorem dX6_readsPins_96 : decode cX6_readsPins 96 = .ok (.iconst 2, 1) := by decide +kernel
theorem dX6_readsPins_97 : decode cX6_readsPins 97 = .ok (.if_icmp .ne 7, 3) := by decide +kernel
theorem dX6_readsPins_100 : decode cX6_readsPins 100 = .ok (.iconst 1, 1) := by decide +kernel
theorem dX6_readsPins_101 : decode cX6_readsPins 101 = .ok (.goto 4, 3) := by decide +kernel
theorem dX6_readsPins_104 : decode cX6_readsPins 104 = .ok (.iconst 0, 1) := by decide +kernel
theorem dX6_readsPins_105 : decode cX6_readsPins 105 = .ok (.iadd, 1) := by decide +kernel
theorem dX6_readsPins_106 : decode cX6_readsPins 106 = .ok (.putfield 127, 3) := by decide +kernel
theorem dX6_readsPins_109 : decode cX6_readsPins 109 = .ok (.iinc 2 1, 3) := by decide +kernel
theorem dX6_readsPins_112 : decode cX6_readsPins 112 = .ok (.goto (-98), 3) := by decide +kernel
theorem dX6_readsPins_115 : decode cX6_readsPins 115 = .ok (.iload_n 1, 1) := by decide +kernel
theorem dX6_readsPins_116 : decode cX6_readsPins 116 = .ok (.ifCond .le 17, 3) := by decide +kernel
theorem dX6_readsPins_119 : decode cX6_readsPins 119 = .ok (.iload_n 1, 1) := by decide +kernel
theorem dX6_readsPins_120 : decode cX6_readsPins 120 = .ok (.iconst 4, 1) := by decide +kernel
theorem dX6_readsPins_121 : decode cX6_readsPins 121 = .ok (.irem, 1) := by decide +kernel
theorem dX6_readsPins_122 : decode cX6_readsPins 122 = .ok (.iconst 3, 1) := by decide +kernel
theorem dX6_readsPins_123 : decode cX6_readsPins 123 = .ok (.if_icmp .eq 10, 3) := by decide +kernel
theorem dX6_readsPins_126 : decode cX6_readsPins 126 = .ok (.aload_n 0, 1) := by decide +kernel
theorem dX6_readsPins_127 : decode cX6_readsPins 127 = .ok (.iconst 0, 1) := by decide +kernel
theorem dX6_readsPins_128 : decode cX6_readsPins 128 = .ok (.putfield 127, 3) := by decide +kernel
theorem dX6_readsPins_131 : decode cX6_readsPins 131 = .ok (.iload_n 1, 1) := by decide +kernel
theorem dX6_readsPins_132 : decode cX6_readsPins 132 = .ok (.ireturn, 1) := by decide +kernel
theorem dX6_readsPins_133 : decode cX6_readsPins 133 = .ok (.iconst (-1), 1) := by decide +kernel
theorem dX6_readsPins_134 : decode cX6_readsPins 134 = .ok (.ireturn, 1) := by decide +kernel
theorem dX6_worthless_0 : decode cX6_worthless 0 = .ok (.iconst 0, 1) := by decide +kernel
theorem dX6_worthless_1 : decode cX6_worthless 1 = .ok (.istore_n 1, 1) := by decide +kernel
theorem dX6_worthless_2 : decode cX6_worthless 2 = .ok (.iload_n 1, 1) := by decide +kernel
theorem dX6_worthless_3 : decode cX6_worthless 3 = .ok (.bipush 9, 2) := by decide +kernel
theorem dX6_worthless_5 : decode cX6_worthless 5 = .ok (.if_icmp .ge 16, 3) := by decide +kernel
theorem dX6_worthless_8 : decode cX6_worthless 8 = .ok (.aload_n 0, 1) := by decide +kernel
theorem dX6_worthless_9 : decode cX6_worthless 9 = .ok (.getfield 31, 3) := by decide +kernel
theorem dX6_worthless_12 : decode cX6_worthless 12 = .ok (.iload_n 1, 1) := by decide +kernel
theorem dX6_worthless_13 : decode cX6_worthless 13 = .ok (.iconst 0, 1) := by decide +kernel
theorem dX6_worthless_14 : decode cX6_worthless 14 = .ok (.iastore, 1) := by decide +kernel
theorem dX6_worthless_15 : decode cX6_worthless 15 = .ok (.iinc 1 1, 3) := by decide +kernel
theorem dX6_worthless_18 : decode cX6_worthless 18 = .ok (.goto (-16), 3) := by decide +kernel
theorem dX6_worthless_21 : decode cX6_worthless 21 = .ok (.return_, 1) := by decide +kernel
theorem dX6_readsCups_0 : decode cX6_readsCups 0 = .ok (.aload_n 0, 1) := by decide +kernel
theorem dX6_readsCups_1 : decode cX6_readsCups 1 = .ok (.invokevirtual 136, 3) := by decide +kernel
theorem dX6_readsCups_4 : decode cX6_readsCups 4 = .ok (.iconst 0, 1) := by decide +kernel
theorem dX6_readsCups_5 : decode cX6_readsCups 5 = .ok (.istore_n 1, 1) := by decide +kernel
theorem dX6_readsCups_6 : decode cX6_readsCups 6 = .ok (.iload_n 1, 1) := by decide +kernel
theorem dX6_readsCups_7 : decode cX6_readsCups 7 = .ok (.aload_n 0, 1) := by decide +kernel
theorem dX6_readsCups_8 : decode cX6_readsCups 8 = .ok (.getfield 25, 3) := by decide +kernel
theorem dX6_readsCups_11 : decode cX6_readsCups 11 = .ok (.iconst 1, 1) := by decide +kernel
theorem dX6_readsCups_12 : decode cX6_readsCups 12 = .ok (.iaload, 1) := by decide +kernel
theorem dX6_readsCups_13 : decode cX6_readsCups 13 = .ok (.if_icmp .ge 44, 3) := by decide +kernel
theorem dX6_readsCups_16 : decode cX6_readsCups 16 = .ok (.aload_n 0, 1) := by decide +kernel
theorem dX6_readsCups_17 : decode cX6_readsCups 17 = .ok (.getfield 22, 3) := by decide +kernel
theorem dX6_readsCups_20 : decode cX6_readsCups 20 = .ok (.bipush 48, 2) := by decide +kernel
theorem dX6_readsCups_22 : decode cX6_readsCups 22 = .ok (.iload_n 1, 1) := by decide +kernel
theorem dX6_readsCups_23 : decode cX6_readsCups 23 = .ok (.iadd, 1) := by decide +kernel
theorem dX6_readsCups_24 : decode cX6_readsCups 24 = .ok (.iaload, 1) := by decide +kernel
theorem dX6_readsCups_25 : decode cX6_readsCups 25 = .ok (.iconst 0, 1) := by decide +kernel
theorem dX6_readsCups_26 : decode cX6_readsCups 26 = .ok (.bipush 9, 2) := by decide +kernel
theorem dX6_readsCups_28 : decode cX6_readsCups 28 = .ok (.invokestatic 121, 3) := by decide +kernel
theorem dX6_readsCups_31 : decode cX6_readsCups 31 = .ok (.istore_n 2, 1) := by decide +kernel
theorem dX6_readsCups_32 : decode cX6_readsCups 32 = .ok (.iload_n 2, 1) := by decide +kernel
theorem dX6_readsCups_33 : decode cX6_readsCups 33 = .ok (.bipush (-9), 2) := by decide +kernel
theorem dX6_readsCups_35 : decode cX6_readsCups 35 = .ok (.if_icmp .ne 9, 3) := by decide +kernel
theorem dX6_readsCups_38 : decode cX6_readsCups 38 = .ok (.aload_n 0, 1) := by decide +kernel
theorem dX6_readsCups_39 : decode cX6_readsCups 39 = .ok (.invokevirtual 136, 3) := by decide +kernel
theorem dX6_readsCups_42 : decode cX6_readsCups 42 = .ok (.iload_n 1, 1) := by decide +kernel
theorem dX6_readsCups_43 : decode cX6_readsCups 43 = .ok (.ireturn, 1) := by decide +kernel
theorem dX6_readsCups_44 : decode cX6_readsCups 44 = .ok (.aload_n 0, 1) := by decide +kernel
theorem dX6_readsCups_45 : decode cX6_readsCups 45 = .ok (.getfield 31, 3) := by decide +kernel
theorem dX6_readsCups_48 : decode cX6_readsCups 48 = .ok (.iload_n 1, 1) := by decide +kernel
theorem dX6_readsCups_49 : decode cX6_readsCups 49 = .ok (.iload_n 2, 1) := by decide +kernel
theorem dX6_readsCups_50 : decode cX6_readsCups 50 = .ok (.iastore, 1) := by decide +kernel
theorem dX6_readsCups_51 : decode cX6_readsCups 51 = .ok (.iinc 1 1, 3) := by decide +kernel
theorem dX6_readsCups_54 : decode cX6_readsCups 54 = .ok (.goto (-48), 3) := by decide +kernel
theorem dX6_readsCups_57 : decode cX6_readsCups 57 = .ok (.iconst (-1), 1) := by decide +kernel
theorem dX6_readsCups_58 : decode cX6_readsCups 58 = .ok (.ireturn, 1) := by decide +kernel
theorem dX6_ballOf_0 : decode cX6_ballOf 0 = .ok (.iload_n 0, 1) := by decide +kernel
theorem dX6_ballOf_1 : decode cX6_ballOf 1 = .ok (.ifCond .ne 27, 3) := by decide +kernel
theorem dX6_ballOf_4 : decode cX6_ballOf 4 = .ok (.iload_n 1, 1) := by decide +kernel
theorem dX6_ballOf_5 : decode cX6_ballOf 5 = .ok (.i2l, 1) := by decide +kernel
theorem dX6_ballOf_6 : decode cX6_ballOf 6 = .ok (.ldc2_w 139, 3) := by decide +kernel
theorem dX6_ballOf_9 : decode cX6_ballOf 9 = .ok (.ldc2_w 141, 3) := by decide +kernel
theorem dX6_ballOf_12 : decode cX6_ballOf 12 = .ok (.invokestatic 88, 3) := by decide +kernel
theorem dX6_ballOf_15 : decode cX6_ballOf 15 = .ok (.ifCond .eq 10, 3) := by decide +kernel
theorem dX6_ballOf_18 : decode cX6_ballOf 18 = .ok (.iload_n 1, 1) := by decide +kernel
theorem dX6_ballOf_19 : decode cX6_ballOf 19 = .ok (.bipush 97, 2) := by decide +kernel
theorem dX6_ballOf_21 : decode cX6_ballOf 21 = .ok (.isub, 1) := by decide +kernel
theorem dX6_ballOf_22 : decode cX6_ballOf 22 = .ok (.goto 5, 3) := by decide +kernel
theorem dX6_ballOf_25 : decode cX6_ballOf 25 = .ok (.bipush (-9), 2) := by decide +kernel
theorem dX6_ballOf_27 : decode cX6_ballOf 27 = .ok (.ireturn, 1) := by decide +kernel
theorem dX6_ballOf_28 : decode cX6_ballOf 28 = .ok (.iload_n 0, 1) := by decide +kernel
theorem dX6_ballOf_29 : decode cX6_ballOf 29 = .ok (.iconst 1, 1) := by decide +kernel
theorem dX6_ballOf_30 : decode cX6_ballOf 30 = .ok (.if_icmp .ne 13, 3) := by decide +kernel
theorem dX6_ballOf_33 : decode cX6_ballOf 33 = .ok (.iload_n 1, 1) := by decide +kernel
theorem dX6_ballOf_34 : decode cX6_ballOf 34 = .ok (.iconst 1, 1) := by decide +kernel
theorem dX6_ballOf_35 : decode cX6_ballOf 35 = .ok (.bipush 9, 2) := by decide +kernel
theorem dX6_ballOf_37 : decode cX6_ballOf 37 = .ok (.invokestatic 121, 3) := by decide +kernel
theorem dX6_ballOf_40 : decode cX6_ballOf 40 = .ok (.goto 7, 3) := by decide +kernel
theorem dX6_ballOf_43 : decode cX6_ballOf 43 = .ok (.iload_n 1, 1) := by decide +kernel
theorem dX6_ballOf_44 : decode cX6_ballOf 44 = .ok (.invokestatic 124, 3) := by decide +kernel
theorem dX6_ballOf_47 : decode cX6_ballOf 47 = .ok (.ireturn, 1) := by decide +kernel
theorem dX6_readsBalls_0 : decode cX6_readsBalls 0 = .ok (.aload_n 0, 1) := by decide +kernel
theorem dX6_readsBalls_1 : decode cX6_readsBalls 1 = .ok (.iconst 0, 1) := by decide +kernel
theorem dX6_readsBalls_2 : decode cX6_readsBalls 2 = .ok (.putfield 143, 3) := by decide +kernel
theorem dX6_readsBalls_5 : decode cX6_readsBalls 5 = .ok (.aload_n 0, 1) := by decide +kernel
theorem dX6_readsBalls_6 : decode cX6_readsBalls 6 = .ok (.getfield 25, 3) := by decide +kernel
theorem dX6_readsBalls_9 : decode cX6_readsBalls 9 = .ok (.iconst 2, 1) := by decide +kernel
theorem dX6_readsBalls_10 : decode cX6_readsBalls 10 = .ok (.iaload, 1) := by decide +kernel
theorem dX6_readsBalls_11 : decode cX6_readsBalls 11 = .ok (.istore_n 1, 1) := by decide +kernel
theorem dX6_readsBalls_12 : decode cX6_readsBalls 12 = .ok (.iconst 0, 1) := by decide +kernel
theorem dX6_readsBalls_13 : decode cX6_readsBalls 13 = .ok (.istore_n 2, 1) := by decide +kernel
theorem dX6_readsBalls_14 : decode cX6_readsBalls 14 = .ok (.iload_n 2, 1) := by decide +kernel
theorem dX6_readsBalls_15 : decode cX6_readsBalls 15 = .ok (.iload_n 1, 1) := by decide +kernel
theorem dX6_readsBalls_16 : decode cX6_readsBalls 16 = .ok (.if_icmp .ge 80, 3) := by decide +kernel
theorem dX6_readsBalls_19 : decode cX6_readsBalls 19 = .ok (.iload_n 2, 1) := by decide +kernel
theorem dX6_readsBalls_20 : decode cX6_readsBalls 20 = .ok (.iconst 3, 1) := by decide +kernel
theorem dX6_readsBalls_21 : decode cX6_readsBalls 21 = .ok (.irem, 1) := by decide +kernel
theorem dX6_readsBalls_22 : decode cX6_readsBalls 22 = .ok (.istore_n 3, 1) := by decide +kernel
theorem dX6_readsBalls_23 : decode cX6_readsBalls 23 = .ok (.iload_n 3, 1) := by decide +kernel
theorem dX6_readsBalls_24 : decode cX6_readsBalls 24 = .ok (.aload_n 0, 1) := by decide +kernel
theorem dX6_readsBalls_25 : decode cX6_readsBalls 25 = .ok (.getfield 22, 3) := by decide +kernel
theorem dX6_readsBalls_28 : decode cX6_readsBalls 28 = .ok (.bipush 96, 2) := by decide +kernel
theorem dX6_readsBalls_30 : decode cX6_readsBalls 30 = .ok (.iload_n 2, 1) := by decide +kernel
theorem dX6_readsBalls_31 : decode cX6_readsBalls 31 = .ok (.iadd, 1) := by decide +kernel
theorem dX6_readsBalls_32 : decode cX6_readsBalls 32 = .ok (.iaload, 1) := by decide +kernel
theorem dX6_readsBalls_33 : decode cX6_readsBalls 33 = .ok (.invokestatic 146, 3) := by decide +kernel
theorem dX6_readsBalls_36 : decode cX6_readsBalls 36 = .ok (.istore 4, 2) := by decide +kernel
theorem dX6_readsBalls_38 : decode cX6_readsBalls 38 = .ok (.iload 4, 2) := by decide +kernel
theorem dX6_readsBalls_40 : decode cX6_readsBalls 40 = .ok (.bipush (-9), 2) := by decide +kernel
theorem dX6_readsBalls_42 : decode cX6_readsBalls 42 = .ok (.if_icmp .ne 10, 3) := by decide +kernel
theorem dX6_readsBalls_45 : decode cX6_readsBalls 45 = .ok (.aload_n 0, 1) := by decide +kernel
theorem dX6_readsBalls_46 : decode cX6_readsBalls 46 = .ok (.iconst 0, 1) := by decide +kernel
theorem dX6_readsBalls_47 : decode cX6_readsBalls 47 = .ok (.putfield 143, 3) := by decide +kernel
theorem dX6_readsBalls_50 : decode cX6_readsBalls 50 = .ok (.iload_n 2, 1) := by decide +kernel
theorem dX6_readsBalls_51 : decode cX6_readsBalls 51 = .ok (.ireturn, 1) := by decide +kernel
theorem dX6_readsBalls_52 : decode cX6_readsBalls 52 = .ok (.iload_n 3, 1) := by decide +kernel
theorem dX6_readsBalls_53 : decode cX6_readsBalls 53 = .ok (.iconst 2, 1) := by decide +kernel
theorem dX6_readsBalls_54 : decode cX6_readsBalls 54 = .ok (.if_icmp .ge 17, 3) := by decide +kernel
theorem dX6_readsBalls_57 : decode cX6_readsBalls 57 = .ok (.aload_n 0, 1) := by decide +kernel
theorem dX6_readsBalls_58 : decode cX6_readsBalls 58 = .ok (.getfield 34, 3) := by decide +kernel
theorem dX6_readsBalls_61 : decode cX6_readsBalls 61 = .ok (.iconst 2, 1) := by decide +kernel
theorem dX6_readsBalls_62 : decode cX6_readsBalls 62 = .ok (.iload_n 2, 1) := by decide +kernel
theorem dX6_readsBalls_63 : decode cX6_readsBalls 63 = .ok (.iconst 3, 1) := by decide +kernel
theorem dX6_readsBalls_64 : decode cX6_readsBalls 64 = .ok (.idiv, 1) := by decide +kernel
theorem dX6_readsBalls_65 : decode cX6_readsBalls 65 = .ok (.imul, 1) := by decide +kernel
theorem dX6_readsBalls_66 : decode cX6_readsBalls 66 = .ok (.iload_n 3, 1) := by decide +kernel
theorem dX6_readsBalls_67 : decode cX6_readsBalls 67 = .ok (.iadd, 1) := by decide +kernel
theorem dX6_readsBalls_68 : decode cX6_readsBalls 68 = .ok (.iload 4, 2) := by decide +kernel
theorem dX6_readsBalls_70 : decode cX6_readsBalls 70 = .ok (.iastore, 1) := by decide +kernel
theorem dX6_readsBalls_71 : decode cX6_readsBalls 71 = .ok (.aload_n 0, 1) := by decide +kernel
theorem dX6_readsBalls_72 : decode cX6_readsBalls 72 = .ok (.dup, 1) := by decide +kernel
theorem dX6_readsBalls_73 : decode cX6_readsBalls 73 = .ok (.getfield 143, 3) := by decide +kernel
theorem dX6_readsBalls_76 : decode cX6_readsBalls 76 = .ok (.iload_n 3, 1) := by decide +kernel
theorem dX6_readsBalls_77 : decode cX6_readsBalls 77 = .ok (.iconst 1, 1) := by decide +kernel
theorem dX6_readsBalls_78 : decode cX6_readsBalls 78 = .ok (.if_icmp .ne 7, 3) := by decide +kernel
theorem dX6_readsBalls_81 : decode cX6_readsBalls 81 = .ok (.iconst 1, 1) := by decide +kernel
theorem dX6_readsBalls_82 : decode cX6_readsBalls 82 = .ok (.goto 4, 3) := by decide +kernel
theorem dX6_readsBalls_85 : decode cX6_readsBalls 85 = .ok (.iconst 0, 1) := by decide +kernel
theorem dX6_readsBalls_86 : decode cX6_readsBalls 86 = .ok (.iadd, 1) := by decide +kernel
theorem dX6_readsBalls_87 : decode cX6_readsBalls 87 = .ok (.putfield 143, 3) := by decide +kernel
theorem dX6_readsBalls_90 : decode cX6_readsBalls 90 = .ok (.iinc 2 1, 3) := by decide +kernel
theorem dX6_readsBalls_93 : decode cX6_readsBalls 93 = .ok (.goto (-79), 3) := by decide +kernel
theorem dX6_readsBalls_96 : decode cX6_readsBalls 96 = .ok (.iload_n 1, 1) := by decide +kernel
theorem dX6_readsBalls_97 : decode cX6_readsBalls 97 = .ok (.ifCond .le 17, 3) := by decide +kernel
theorem dX6_readsBalls_100 : decode cX6_readsBalls 100 = .ok (.iload_n 1, 1) := by decide +kernel
theorem dX6_readsBalls_101 : decode cX6_readsBalls 101 = .ok (.iconst 3, 1) := by decide +kernel
theorem dX6_readsBalls_102 : decode cX6_readsBalls 102 = .ok (.irem, 1) := by decide +kernel
theorem dX6_readsBalls_103 : decode cX6_readsBalls 103 = .ok (.iconst 2, 1) := by decide +kernel
theorem dX6_readsBalls_104 : decode cX6_readsBalls 104 = .ok (.if_icmp .eq 10, 3) := by decide +kernel
theorem dX6_readsBalls_107 : decode cX6_readsBalls 107 = .ok (.aload_n 0, 1) := by decide +kernel
theorem dX6_readsBalls_108 : decode cX6_readsBalls 108 = .ok (.iconst 0, 1) := by decide +kernel
theorem dX6_readsBalls_109 : decode cX6_readsBalls 109 = .ok (.putfield 143, 3) := by decide +kernel
theorem dX6_readsBalls_112 : decode cX6_readsBalls 112 = .ok (.iload_n 1, 1) := by decide +kernel
theorem dX6_readsBalls_113 : decode cX6_readsBalls 113 = .ok (.ireturn, 1) := by decide +kernel
theorem dX6_readsBalls_114 : decode cX6_readsBalls 114 = .ok (.iconst (-1), 1) := by decide +kernel
theorem dX6_readsBalls_115 : decode cX6_readsBalls 115 = .ok (.ireturn, 1) := by decide +kernel
theorem dX6_readsText_0 : decode cX6_readsText 0 = .ok (.iload_n 1, 1) := by decide +kernel
theorem dX6_readsText_1 : decode cX6_readsText 1 = .ok (.ifCond .ne 10, 3) := by decide +kernel
theorem dX6_readsText_4 : decode cX6_readsText 4 = .ok (.aload_n 0, 1) := by decide +kernel
theorem dX6_readsText_5 : decode cX6_readsText 5 = .ok (.invokevirtual 149, 3) := by decide +kernel
theorem dX6_readsText_8 : decode cX6_readsText 8 = .ok (.goto 19, 3) := by decide +kernel
theorem dX6_readsText_11 : decode cX6_readsText 11 = .ok (.iload_n 1, 1) := by decide +kernel
theorem dX6_readsText_12 : decode cX6_readsText 12 = .ok (.iconst 1, 1) := by decide +kernel
theorem dX6_readsText_13 : decode cX6_readsText 13 = .ok (.if_icmp .ne 10, 3) := by decide +kernel
theorem dX6_readsText_16 : decode cX6_readsText 16 = .ok (.aload_n 0, 1) := by decide +kernel
theorem dX6_readsText_17 : decode cX6_readsText 17 = .ok (.invokevirtual 153, 3) := by decide +kernel
theorem dX6_readsText_20 : decode cX6_readsText 20 = .ok (.goto 7, 3) := by decide +kernel
theorem dX6_readsText_23 : decode cX6_readsText 23 = .ok (.aload_n 0, 1) := by decide +kernel
theorem dX6_readsText_24 : decode cX6_readsText 24 = .ok (.invokevirtual 156, 3) := by decide +kernel
theorem dX6_readsText_27 : decode cX6_readsText 27 = .ok (.ireturn, 1) := by decide +kernel
theorem dX6_fault_0 : decode cX6_fault 0 = .ok (.iload_n 1, 1) := by decide +kernel
theorem dX6_fault_1 : decode cX6_fault 1 = .ok (.invokestatic 116, 3) := by decide +kernel
theorem dX6_fault_4 : decode cX6_fault 4 = .ok (.ifCond .eq 11, 3) := by decide +kernel
theorem dX6_fault_7 : decode cX6_fault 7 = .ok (.aload_n 0, 1) := by decide +kernel
theorem dX6_fault_8 : decode cX6_fault 8 = .ok (.iload_n 1, 1) := by decide +kernel
theorem dX6_fault_9 : decode cX6_fault 9 = .ok (.invokevirtual 159, 3) := by decide +kernel
theorem dX6_fault_12 : decode cX6_fault 12 = .ok (.goto 5, 3) := by decide +kernel
theorem dX6_fault_15 : decode cX6_fault 15 = .ok (.bipush (-2), 2) := by decide +kernel
theorem dX6_fault_17 : decode cX6_fault 17 = .ok (.ireturn, 1) := by decide +kernel
theorem dX6_isTick_0 : decode cX6_isTick 0 = .ok (.iload_n 0, 1) := by decide +kernel
theorem dX6_isTick_1 : decode cX6_isTick 1 = .ok (.i2l, 1) := by decide +kernel
theorem dX6_isTick_2 : decode cX6_isTick 2 = .ok (.lconst 0, 1) := by decide +kernel
theorem dX6_isTick_3 : decode cX6_isTick 3 = .ok (.ldc2_w 162, 3) := by decide +kernel
theorem dX6_isTick_6 : decode cX6_isTick 6 = .ok (.invokestatic 88, 3) := by decide +kernel
theorem dX6_isTick_9 : decode cX6_isTick 9 = .ok (.ireturn, 1) := by decide +kernel
theorem dX6_isColumn_0 : decode cX6_isColumn 0 = .ok (.iload_n 0, 1) := by decide +kernel
theorem dX6_isColumn_1 : decode cX6_isColumn 1 = .ok (.i2l, 1) := by decide +kernel
theorem dX6_isColumn_2 : decode cX6_isColumn 2 = .ok (.lconst 0, 1) := by decide +kernel
theorem dX6_isColumn_3 : decode cX6_isColumn 3 = .ok (.ldc2_w 164, 3) := by decide +kernel
theorem dX6_isColumn_6 : decode cX6_isColumn 6 = .ok (.invokestatic 88, 3) := by decide +kernel
theorem dX6_isColumn_9 : decode cX6_isColumn 9 = .ok (.ireturn, 1) := by decide +kernel
theorem dX6_isPin_0 : decode cX6_isPin 0 = .ok (.iload_n 1, 1) := by decide +kernel
theorem dX6_isPin_1 : decode cX6_isPin 1 = .ok (.i2l, 1) := by decide +kernel
theorem dX6_isPin_2 : decode cX6_isPin 2 = .ok (.lconst 0, 1) := by decide +kernel
theorem dX6_isPin_3 : decode cX6_isPin 3 = .ok (.aload_n 0, 1) := by decide +kernel
theorem dX6_isPin_4 : decode cX6_isPin 4 = .ok (.getfield 127, 3) := by decide +kernel
theorem dX6_isPin_7 : decode cX6_isPin 7 = .ok (.iconst 1, 1) := by decide +kernel
theorem dX6_isPin_8 : decode cX6_isPin 8 = .ok (.isub, 1) := by decide +kernel
theorem dX6_isPin_9 : decode cX6_isPin 9 = .ok (.i2l, 1) := by decide +kernel
theorem dX6_isPin_10 : decode cX6_isPin 10 = .ok (.invokestatic 88, 3) := by decide +kernel
theorem dX6_isPin_13 : decode cX6_isPin 13 = .ok (.ireturn, 1) := by decide +kernel
theorem dX6_isBall_0 : decode cX6_isBall 0 = .ok (.iload_n 1, 1) := by decide +kernel
theorem dX6_isBall_1 : decode cX6_isBall 1 = .ok (.i2l, 1) := by decide +kernel
theorem dX6_isBall_2 : decode cX6_isBall 2 = .ok (.lconst 0, 1) := by decide +kernel
theorem dX6_isBall_3 : decode cX6_isBall 3 = .ok (.aload_n 0, 1) := by decide +kernel
theorem dX6_isBall_4 : decode cX6_isBall 4 = .ok (.getfield 143, 3) := by decide +kernel
theorem dX6_isBall_7 : decode cX6_isBall 7 = .ok (.iconst 1, 1) := by decide +kernel
theorem dX6_isBall_8 : decode cX6_isBall 8 = .ok (.isub, 1) := by decide +kernel
theorem dX6_isBall_9 : decode cX6_isBall 9 = .ok (.i2l, 1) := by decide +kernel
theorem dX6_isBall_10 : decode cX6_isBall 10 = .ok (.invokestatic 88, 3) := by decide +kernel
theorem dX6_isBall_13 : decode cX6_isBall 13 = .ok (.ireturn, 1) := by decide +kernel
theorem dX6_pin_0 : decode cX6_pin 0 = .ok (.aload_n 0, 1) := by decide +kernel
theorem dX6_pin_1 : decode cX6_pin 1 = .ok (.invokevirtual 149, 3) := by decide +kernel
theorem dX6_pin_4 : decode cX6_pin 4 = .ok (.pop, 1) := by decide +kernel
theorem dX6_pin_5 : decode cX6_pin 5 = .ok (.aload_n 0, 1) := by decide +kernel
theorem dX6_pin_6 : decode cX6_pin 6 = .ok (.iload_n 1, 1) := by decide +kernel
theorem dX6_pin_7 : decode cX6_pin 7 = .ok (.invokevirtual 166, 3) := by decide +kernel
theorem dX6_pin_10 : decode cX6_pin 10 = .ok (.ifCond .eq 28, 3) := by decide +kernel
theorem dX6_pin_13 : decode cX6_pin 13 = .ok (.iload_n 2, 1) := by decide +kernel
theorem dX6_pin_14 : decode cX6_pin 14 = .ok (.i2l, 1) := by decide +kernel
theorem dX6_pin_15 : decode cX6_pin 15 = .ok (.lconst 0, 1) := by decide +kernel
theorem dX6_pin_16 : decode cX6_pin 16 = .ok (.ldc2_w 101, 3) := by decide +kernel
theorem dX6_pin_19 : decode cX6_pin 19 = .ok (.invokestatic 88, 3) := by decide +kernel
theorem dX6_pin_22 : decode cX6_pin 22 = .ok (.ifCond .eq 16, 3) := by decide +kernel
theorem dX6_pin_25 : decode cX6_pin 25 = .ok (.aload_n 0, 1) := by decide +kernel
theorem dX6_pin_26 : decode cX6_pin 26 = .ok (.getfield 28, 3) := by decide +kernel
theorem dX6_pin_29 : decode cX6_pin 29 = .ok (.iconst 3, 1) := by decide +kernel
theorem dX6_pin_30 : decode cX6_pin 30 = .ok (.iload_n 1, 1) := by decide +kernel
theorem dX6_pin_31 : decode cX6_pin 31 = .ok (.imul, 1) := by decide +kernel
theorem dX6_pin_32 : decode cX6_pin 32 = .ok (.iload_n 2, 1) := by decide +kernel
theorem dX6_pin_33 : decode cX6_pin 33 = .ok (.iadd, 1) := by decide +kernel
theorem dX6_pin_34 : decode cX6_pin 34 = .ok (.iaload, 1) := by decide +kernel
theorem dX6_pin_35 : decode cX6_pin 35 = .ok (.goto 5, 3) := by decide +kernel
theorem dX6_pin_38 : decode cX6_pin 38 = .ok (.bipush (-2), 2) := by decide +kernel
theorem dX6_pin_40 : decode cX6_pin 40 = .ok (.ireturn, 1) := by decide +kernel
theorem dX6_ball_0 : decode cX6_ball 0 = .ok (.aload_n 0, 1) := by decide +kernel
theorem dX6_ball_1 : decode cX6_ball 1 = .ok (.invokevirtual 156, 3) := by decide +kernel
theorem dX6_ball_4 : decode cX6_ball 4 = .ok (.pop, 1) := by decide +kernel
theorem dX6_ball_5 : decode cX6_ball 5 = .ok (.aload_n 0, 1) := by decide +kernel
theorem dX6_ball_6 : decode cX6_ball 6 = .ok (.iload_n 1, 1) := by decide +kernel
theorem dX6_ball_7 : decode cX6_ball 7 = .ok (.invokevirtual 169, 3) := by decide +kernel
theorem dX6_ball_10 : decode cX6_ball 10 = .ok (.ifCond .eq 23, 3) := by decide +kernel
theorem dX6_ball_13 : decode cX6_ball 13 = .ok (.iload_n 2, 1) := by decide +kernel
theorem dX6_ball_14 : decode cX6_ball 14 = .ok (.invokestatic 172, 3) := by decide +kernel
theorem dX6_ball_17 : decode cX6_ball 17 = .ok (.ifCond .eq 16, 3) := by decide +kernel
theorem dX6_ball_20 : decode cX6_ball 20 = .ok (.aload_n 0, 1) := by decide +kernel
theorem dX6_ball_21 : decode cX6_ball 21 = .ok (.getfield 34, 3) := by decide +kernel
theorem dX6_ball_24 : decode cX6_ball 24 = .ok (.iconst 2, 1) := by decide +kernel
theorem dX6_ball_25 : decode cX6_ball 25 = .ok (.iload_n 1, 1) := by decide +kernel
theorem dX6_ball_26 : decode cX6_ball 26 = .ok (.imul, 1) := by decide +kernel
theorem dX6_ball_27 : decode cX6_ball 27 = .ok (.iload_n 2, 1) := by decide +kernel
theorem dX6_ball_28 : decode cX6_ball 28 = .ok (.iadd, 1) := by decide +kernel
theorem dX6_ball_29 : decode cX6_ball 29 = .ok (.iaload, 1) := by decide +kernel
theorem dX6_ball_30 : decode cX6_ball 30 = .ok (.goto 5, 3) := by decide +kernel
theorem dX6_ball_33 : decode cX6_ball 33 = .ok (.bipush (-2), 2) := by decide +kernel
theorem dX6_ball_35 : decode cX6_ball 35 = .ok (.ireturn, 1) := by decide +kernel
theorem dX6_room_0 : decode cX6_room 0 = .ok (.iload_n 1, 1) := by decide +kernel
theorem dX6_room_1 : decode cX6_room 1 = .ok (.i2l, 1) := by decide +kernel
theorem dX6_room_2 : decode cX6_room 2 = .ok (.lconst 1, 1) := by decide +kernel
theorem dX6_room_3 : decode cX6_room 3 = .ok (.ldc2_w 175, 3) := by decide +kernel
theorem dX6_room_6 : decode cX6_room 6 = .ok (.invokestatic 88, 3) := by decide +kernel
theorem dX6_room_9 : decode cX6_room 9 = .ok (.ifCond .ne 6, 3) := by decide +kernel
theorem dX6_room_12 : decode cX6_room 12 = .ok (.bipush (-2), 2) := by decide +kernel
theorem dX6_room_14 : decode cX6_room 14 = .ok (.ireturn, 1) := by decide +kernel
theorem dX6_room_15 : decode cX6_room 15 = .ok (.aload_n 0, 1) := by decide +kernel
theorem dX6_room_16 : decode cX6_room 16 = .ok (.getfield 82, 3) := by decide +kernel
theorem dX6_room_19 : decode cX6_room 19 = .ok (.istore_n 2, 1) := by decide +kernel
theorem dX6_room_20 : decode cX6_room 20 = .ok (.aload_n 0, 1) := by decide +kernel
theorem dX6_room_21 : decode cX6_room 21 = .ok (.iload_n 1, 1) := by decide +kernel
theorem dX6_room_22 : decode cX6_room 22 = .ok (.putfield 82, 3) := by decide +kernel
theorem dX6_room_25 : decode cX6_room 25 = .ok (.iload_n 2, 1) := by decide +kernel
theorem dX6_room_26 : decode cX6_room 26 = .ok (.ireturn, 1) := by decide +kernel
theorem dX6_event_0 : decode cX6_event 0 = .ok (.iload_n 1, 1) := by decide +kernel
theorem dX6_event_1 : decode cX6_event 1 = .ok (.i2l, 1) := by decide +kernel
theorem dX6_event_2 : decode cX6_event 2 = .ok (.lconst 0, 1) := by decide +kernel
theorem dX6_event_3 : decode cX6_event 3 = .ok (.ldc2_w 101, 3) := by decide +kernel
theorem dX6_event_6 : decode cX6_event 6 = .ok (.invokestatic 88, 3) := by decide +kernel
theorem dX6_event_9 : decode cX6_event 9 = .ok (.ifCond .eq 22, 3) := by decide +kernel
theorem dX6_event_12 : decode cX6_event 12 = .ok (.iload_n 2, 1) := by decide +kernel
theorem dX6_event_13 : decode cX6_event 13 = .ok (.invokestatic 177, 3) := by decide +kernel
theorem dX6_event_16 : decode cX6_event 16 = .ok (.ifCond .eq 15, 3) := by decide +kernel
theorem dX6_event_19 : decode cX6_event 19 = .ok (.iload_n 3, 1) := by decide +kernel
theorem dX6_event_20 : decode cX6_event 20 = .ok (.i2l, 1) := by decide +kernel
theorem dX6_event_21 : decode cX6_event 21 = .ok (.lconst 0, 1) := by decide +kernel
theorem dX6_event_22 : decode cX6_event 22 = .ok (.ldc2_w 180, 3) := by decide +kernel
theorem dX6_event_25 : decode cX6_event 25 = .ok (.invokestatic 88, 3) := by decide +kernel
theorem dX6_event_28 : decode cX6_event 28 = .ok (.ifCond .ne 6, 3) := by decide +kernel
theorem dX6_event_31 : decode cX6_event 31 = .ok (.bipush (-2), 2) := by decide +kernel
theorem dX6_event_33 : decode cX6_event 33 = .ok (.ireturn, 1) := by decide +kernel
theorem dX6_event_34 : decode cX6_event 34 = .ok (.aload_n 0, 1) := by decide +kernel
theorem dX6_event_35 : decode cX6_event 35 = .ok (.getfield 182, 3) := by decide +kernel
theorem dX6_event_38 : decode cX6_event 38 = .ok (.bipush 8, 2) := by decide +kernel
theorem dX6_event_40 : decode cX6_event 40 = .ok (.if_icmp .ne 6, 3) := by decide +kernel
theorem dX6_event_43 : decode cX6_event 43 = .ok (.bipush (-4), 2) := by decide +kernel
theorem dX6_event_45 : decode cX6_event 45 = .ok (.ireturn, 1) := by decide +kernel
theorem dX6_event_46 : decode cX6_event 46 = .ok (.aload_n 0, 1) := by decide +kernel
theorem dX6_event_47 : decode cX6_event 47 = .ok (.getfield 37, 3) := by decide +kernel
theorem dX6_event_50 : decode cX6_event 50 = .ok (.iconst 3, 1) := by decide +kernel
theorem dX6_event_51 : decode cX6_event 51 = .ok (.aload_n 0, 1) := by decide +kernel
theorem dX6_event_52 : decode cX6_event 52 = .ok (.getfield 182, 3) := by decide +kernel
theorem dX6_event_55 : decode cX6_event 55 = .ok (.imul, 1) := by decide +kernel
theorem dX6_event_56 : decode cX6_event 56 = .ok (.iload_n 1, 1) := by decide +kernel
theorem dX6_event_57 : decode cX6_event 57 = .ok (.iastore, 1) := by decide +kernel
theorem dX6_event_58 : decode cX6_event 58 = .ok (.aload_n 0, 1) := by decide +kernel
theorem dX6_event_59 : decode cX6_event 59 = .ok (.getfield 37, 3) := by decide +kernel
theorem dX6_event_62 : decode cX6_event 62 = .ok (.iconst 3, 1) := by decide +kernel
theorem dX6_event_63 : decode cX6_event 63 = .ok (.aload_n 0, 1) := by decide +kernel
theorem dX6_event_64 : decode cX6_event 64 = .ok (.getfield 182, 3) := by decide +kernel
theorem dX6_event_67 : decode cX6_event 67 = .ok (.imul, 1) := by decide +kernel
theorem dX6_event_68 : decode cX6_event 68 = .ok (.iconst 1, 1) := by decide +kernel
theorem dX6_event_69 : decode cX6_event 69 = .ok (.iadd, 1) := by decide +kernel
theorem dX6_event_70 : decode cX6_event 70 = .ok (.iload_n 2, 1) := by decide +kernel
theorem dX6_event_71 : decode cX6_event 71 = .ok (.iastore, 1) := by decide +kernel
theorem dX6_event_72 : decode cX6_event 72 = .ok (.aload_n 0, 1) := by decide +kernel
theorem dX6_event_73 : decode cX6_event 73 = .ok (.getfield 37, 3) := by decide +kernel
theorem dX6_event_76 : decode cX6_event 76 = .ok (.iconst 3, 1) := by decide +kernel
theorem dX6_event_77 : decode cX6_event 77 = .ok (.aload_n 0, 1) := by decide +kernel
theorem dX6_event_78 : decode cX6_event 78 = .ok (.getfield 182, 3) := by decide +kernel
theorem dX6_event_81 : decode cX6_event 81 = .ok (.imul, 1) := by decide +kernel
theorem dX6_event_82 : decode cX6_event 82 = .ok (.iconst 2, 1) := by decide +kernel
theorem dX6_event_83 : decode cX6_event 83 = .ok (.iadd, 1) := by decide +kernel
theorem dX6_event_84 : decode cX6_event 84 = .ok (.iload_n 3, 1) := by decide +kernel
theorem dX6_event_85 : decode cX6_event 85 = .ok (.iastore, 1) := by decide +kernel
theorem dX6_event_86 : decode cX6_event 86 = .ok (.aload_n 0, 1) := by decide +kernel
theorem dX6_event_87 : decode cX6_event 87 = .ok (.dup, 1) := by decide +kernel
theorem dX6_event_88 : decode cX6_event 88 = .ok (.getfield 182, 3) := by decide +kernel
theorem dX6_event_91 : decode cX6_event 91 = .ok (.iconst 1, 1) := by decide +kernel
theorem dX6_event_92 : decode cX6_event 92 = .ok (.iadd, 1) := by decide +kernel
theorem dX6_event_93 : decode cX6_event 93 = .ok (.putfield 182, 3) := by decide +kernel
theorem dX6_event_96 : decode cX6_event 96 = .ok (.aload_n 0, 1) := by decide +kernel
theorem dX6_event_97 : decode cX6_event 97 = .ok (.getfield 182, 3) := by decide +kernel
theorem dX6_event_100 : decode cX6_event 100 = .ok (.ireturn, 1) := by decide +kernel
theorem dX6_back_0 : decode cX6_back 0 = .ok (.aload_n 0, 1) := by decide +kernel
theorem dX6_back_1 : decode cX6_back 1 = .ok (.getfield 182, 3) := by decide +kernel
theorem dX6_back_4 : decode cX6_back 4 = .ok (.ifCond .ne 6, 3) := by decide +kernel
theorem dX6_back_7 : decode cX6_back 7 = .ok (.bipush (-3), 2) := by decide +kernel
theorem dX6_back_9 : decode cX6_back 9 = .ok (.ireturn, 1) := by decide +kernel
theorem dX6_back_10 : decode cX6_back 10 = .ok (.aload_n 0, 1) := by decide +kernel
theorem dX6_back_11 : decode cX6_back 11 = .ok (.dup, 1) := by decide +kernel
theorem dX6_back_12 : decode cX6_back 12 = .ok (.getfield 182, 3) := by decide +kernel
theorem dX6_back_15 : decode cX6_back 15 = .ok (.iconst 1, 1) := by decide +kernel
theorem dX6_back_16 : decode cX6_back 16 = .ok (.isub, 1) := by decide +kernel
theorem dX6_back_17 : decode cX6_back 17 = .ok (.putfield 182, 3) := by decide +kernel
theorem dX6_back_20 : decode cX6_back 20 = .ok (.aload_n 0, 1) := by decide +kernel
theorem dX6_back_21 : decode cX6_back 21 = .ok (.getfield 182, 3) := by decide +kernel
theorem dX6_back_24 : decode cX6_back 24 = .ok (.ireturn, 1) := by decide +kernel
theorem dX6_read_0 : decode cX6_read 0 = .ok (.iload_n 1, 1) := by decide +kernel
theorem dX6_read_1 : decode cX6_read 1 = .ok (.invokestatic 97, 3) := by decide +kernel
theorem dX6_read_4 : decode cX6_read 4 = .ok (.ifCond .ne 6, 3) := by decide +kernel
theorem dX6_read_7 : decode cX6_read 7 = .ok (.bipush (-2), 2) := by decide +kernel
theorem dX6_read_9 : decode cX6_read 9 = .ok (.ireturn, 1) := by decide +kernel
theorem dX6_read_10 : decode cX6_read 10 = .ok (.aload_n 0, 1) := by decide +kernel
theorem dX6_read_11 : decode cX6_read 11 = .ok (.getfield 7, 3) := by decide +kernel
theorem dX6_read_14 : decode cX6_read 14 = .ok (.iload_n 1, 1) := by decide +kernel
theorem dX6_read_15 : decode cX6_read 15 = .ok (.iaload, 1) := by decide +kernel
theorem dX6_read_16 : decode cX6_read 16 = .ok (.ifCond .ge 9, 3) := by decide +kernel
theorem dX6_read_19 : decode cX6_read 19 = .ok (.aload_n 0, 1) := by decide +kernel
theorem dX6_read_20 : decode cX6_read 20 = .ok (.iconst 1, 1) := by decide +kernel
theorem dX6_read_21 : decode cX6_read 21 = .ok (.invokevirtual 103, 3) := by decide +kernel
theorem dX6_read_24 : decode cX6_read 24 = .ok (.ireturn, 1) := by decide +kernel
theorem dX6_read_25 : decode cX6_read 25 = .ok (.iconst 0, 1) := by decide +kernel
theorem dX6_read_26 : decode cX6_read 26 = .ok (.istore_n 2, 1) := by decide +kernel
theorem dX6_read_27 : decode cX6_read 27 = .ok (.iconst 1, 1) := by decide +kernel
theorem dX6_read_28 : decode cX6_read 28 = .ok (.istore_n 3, 1) := by decide +kernel
theorem dX6_read_29 : decode cX6_read 29 = .ok (.iload_n 3, 1) := by decide +kernel
theorem dX6_read_30 : decode cX6_read 30 = .ok (.ifCond .eq 80, 3) := by decide +kernel
theorem dX6_read_33 : decode cX6_read 33 = .ok (.iconst 3, 1) := by decide +kernel
theorem dX6_read_34 : decode cX6_read 34 = .ok (.iload_n 2, 1) := by decide +kernel
theorem dX6_read_35 : decode cX6_read 35 = .ok (.imul, 1) := by decide +kernel
theorem dX6_read_36 : decode cX6_read 36 = .ok (.iconst 3, 1) := by decide +kernel
theorem dX6_read_37 : decode cX6_read 37 = .ok (.iadd, 1) := by decide +kernel
theorem dX6_read_38 : decode cX6_read 38 = .ok (.aload_n 0, 1) := by decide +kernel
theorem dX6_read_39 : decode cX6_read 39 = .ok (.getfield 13, 3) := by decide +kernel
theorem dX6_read_42 : decode cX6_read 42 = .ok (.iload_n 1, 1) := by decide +kernel
theorem dX6_read_43 : decode cX6_read 43 = .ok (.iaload, 1) := by decide +kernel
theorem dX6_read_44 : decode cX6_read 44 = .ok (.if_icmp .gt 66, 3) := by decide +kernel
theorem dX6_read_47 : decode cX6_read 47 = .ok (.bipush 60, 2) := by decide +kernel
theorem dX6_read_49 : decode cX6_read 49 = .ok (.iload_n 1, 1) := by decide +kernel
theorem dX6_read_50 : decode cX6_read 50 = .ok (.imul, 1) := by decide +kernel
theorem dX6_read_51 : decode cX6_read 51 = .ok (.iconst 3, 1) := by decide +kernel
theorem dX6_read_52 : decode cX6_read 52 = .ok (.iload_n 2, 1) := by decide +kernel
theorem dX6_read_53 : decode cX6_read 53 = .ok (.imul, 1) := by decide +kernel
theorem dX6_read_54 : decode cX6_read 54 = .ok (.iadd, 1) := by decide +kernel
theorem dX6_read_55 : decode cX6_read 55 = .ok (.istore 4, 2) := by decide +kernel
theorem dX6_read_57 : decode cX6_read 57 = .ok (.aload_n 0, 1) := by decide +kernel
theorem dX6_read_58 : decode cX6_read 58 = .ok (.aload_n 0, 1) := by decide +kernel
theorem dX6_read_59 : decode cX6_read 59 = .ok (.getfield 16, 3) := by decide +kernel
theorem dX6_read_62 : decode cX6_read 62 = .ok (.iload 4, 2) := by decide +kernel
theorem dX6_read_64 : decode cX6_read 64 = .ok (.iaload, 1) := by decide +kernel
theorem dX6_read_65 : decode cX6_read 65 = .ok (.aload_n 0, 1) := by decide +kernel
theorem dX6_read_66 : decode cX6_read 66 = .ok (.getfield 16, 3) := by decide +kernel
theorem dX6_read_69 : decode cX6_read 69 = .ok (.iload 4, 2) := by decide +kernel
theorem dX6_read_71 : decode cX6_read 71 = .ok (.iconst 1, 1) := by decide +kernel
theorem dX6_read_72 : decode cX6_read 72 = .ok (.iadd, 1) := by decide +kernel
theorem dX6_read_73 : decode cX6_read 73 = .ok (.iaload, 1) := by decide +kernel
theorem dX6_read_74 : decode cX6_read 74 = .ok (.aload_n 0, 1) := by decide +kernel
theorem dX6_read_75 : decode cX6_read 75 = .ok (.getfield 16, 3) := by decide +kernel
theorem dX6_read_78 : decode cX6_read 78 = .ok (.iload 4, 2) := by decide +kernel
theorem dX6_read_80 : decode cX6_read 80 = .ok (.iconst 2, 1) := by decide +kernel
theorem dX6_read_81 : decode cX6_read 81 = .ok (.iadd, 1) := by decide +kernel
theorem dX6_read_82 : decode cX6_read 82 = .ok (.iaload, 1) := by decide +kernel
theorem dX6_read_83 : decode cX6_read 83 = .ok (.invokevirtual 185, 3) := by decide +kernel
theorem dX6_read_86 : decode cX6_read 86 = .ok (.ifCond .lt 7, 3) := by decide +kernel
theorem dX6_read_89 : decode cX6_read 89 = .ok (.iconst 1, 1) := by decide +kernel
theorem dX6_read_90 : decode cX6_read 90 = .ok (.goto 4, 3) := by decide +kernel
theorem dX6_read_93 : decode cX6_read 93 = .ok (.iconst 0, 1) := by decide +kernel
theorem dX6_read_94 : decode cX6_read 94 = .ok (.istore_n 3, 1) := by decide +kernel
theorem dX6_read_95 : decode cX6_read 95 = .ok (.iload_n 2, 1) := by decide +kernel
theorem dX6_read_96 : decode cX6_read 96 = .ok (.iload_n 3, 1) := by decide +kernel
theorem dX6_read_97 : decode cX6_read 97 = .ok (.ifCond .eq 7, 3) := by decide +kernel
theorem dX6_read_100 : decode cX6_read 100 = .ok (.iconst 1, 1) := by decide +kernel
theorem dX6_read_101 : decode cX6_read 101 = .ok (.goto 4, 3) := by decide +kernel
theorem dX6_read_104 : decode cX6_read 104 = .ok (.iconst 0, 1) := by decide +kernel
theorem dX6_read_105 : decode cX6_read 105 = .ok (.iadd, 1) := by decide +kernel
theorem dX6_read_106 : decode cX6_read 106 = .ok (.istore_n 2, 1) := by decide +kernel
theorem dX6_read_107 : decode cX6_read 107 = .ok (.goto (-78), 3) := by decide +kernel
theorem dX6_read_110 : decode cX6_read 110 = .ok (.iload_n 2, 1) := by decide +kernel
theorem dX6_read_111 : decode cX6_read 111 = .ok (.ireturn, 1) := by decide +kernel
theorem dX6_whoAt_0 : decode cX6_whoAt 0 = .ok (.iconst (-1), 1) := by decide +kernel
theorem dX6_whoAt_1 : decode cX6_whoAt 1 = .ok (.istore_n 3, 1) := by decide +kernel
theorem dX6_whoAt_2 : decode cX6_whoAt 2 = .ok (.iconst 0, 1) := by decide +kernel
theorem dX6_whoAt_3 : decode cX6_whoAt 3 = .ok (.istore 4, 2) := by decide +kernel
theorem dX6_whoAt_5 : decode cX6_whoAt 5 = .ok (.iload 4, 2) := by decide +kernel
theorem dX6_whoAt_7 : decode cX6_whoAt 7 = .ok (.aload_n 0, 1) := by decide +kernel
theorem dX6_whoAt_8 : decode cX6_whoAt 8 = .ok (.getfield 143, 3) := by decide +kernel
theorem dX6_whoAt_11 : decode cX6_whoAt 11 = .ok (.if_icmp .ge 38, 3) := by decide +kernel
theorem dX6_whoAt_14 : decode cX6_whoAt 14 = .ok (.aload_n 0, 1) := by decide +kernel
theorem dX6_whoAt_15 : decode cX6_whoAt 15 = .ok (.getfield 40, 3) := by decide +kernel
theorem dX6_whoAt_18 : decode cX6_whoAt 18 = .ok (.iload 4, 2) := by decide +kernel
theorem dX6_whoAt_20 : decode cX6_whoAt 20 = .ok (.iaload, 1) := by decide +kernel
theorem dX6_whoAt_21 : decode cX6_whoAt 21 = .ok (.iload_n 1, 1) := by decide +kernel
theorem dX6_whoAt_22 : decode cX6_whoAt 22 = .ok (.if_icmp .ne 19, 3) := by decide +kernel
theorem dX6_whoAt_25 : decode cX6_whoAt 25 = .ok (.aload_n 0, 1) := by decide +kernel
theorem dX6_whoAt_26 : decode cX6_whoAt 26 = .ok (.getfield 43, 3) := by decide +kernel
theorem dX6_whoAt_29 : decode cX6_whoAt 29 = .ok (.iload 4, 2) := by decide +kernel
theorem dX6_whoAt_31 : decode cX6_whoAt 31 = .ok (.iaload, 1) := by decide +kernel
theorem dX6_whoAt_32 : decode cX6_whoAt 32 = .ok (.iload_n 2, 1) := by decide +kernel
theorem dX6_whoAt_33 : decode cX6_whoAt 33 = .ok (.if_icmp .ne 8, 3) := by decide +kernel
theorem dX6_whoAt_36 : decode cX6_whoAt 36 = .ok (.iload 4, 2) := by decide +kernel
theorem dX6_whoAt_38 : decode cX6_whoAt 38 = .ok (.goto 4, 3) := by decide +kernel
theorem dX6_whoAt_41 : decode cX6_whoAt 41 = .ok (.iload_n 3, 1) := by decide +kernel
theorem dX6_whoAt_42 : decode cX6_whoAt 42 = .ok (.istore_n 3, 1) := by decide +kernel
theorem dX6_whoAt_43 : decode cX6_whoAt 43 = .ok (.iinc 4 1, 3) := by decide +kernel
theorem dX6_whoAt_46 : decode cX6_whoAt 46 = .ok (.goto (-41), 3) := by decide +kernel
theorem dX6_whoAt_49 : decode cX6_whoAt 49 = .ok (.iload_n 3, 1) := by decide +kernel
theorem dX6_whoAt_50 : decode cX6_whoAt 50 = .ok (.ireturn, 1) := by decide +kernel
theorem dX6_tilts_0 : decode cX6_tilts 0 = .ok (.iconst 0, 1) := by decide +kernel
theorem dX6_tilts_1 : decode cX6_tilts 1 = .ok (.istore_n 2, 1) := by decide +kernel
theorem dX6_tilts_2 : decode cX6_tilts 2 = .ok (.iload_n 2, 1) := by decide +kernel
theorem dX6_tilts_3 : decode cX6_tilts 3 = .ok (.bipush 9, 2) := by decide +kernel
theorem dX6_tilts_5 : decode cX6_tilts 5 = .ok (.if_icmp .ge 86, 3) := by decide +kernel
theorem dX6_tilts_8 : decode cX6_tilts 8 = .ok (.iload_n 1, 1) := by decide +kernel
theorem dX6_tilts_9 : decode cX6_tilts 9 = .ok (.ifCond .le 10, 3) := by decide +kernel
theorem dX6_tilts_12 : decode cX6_tilts 12 = .ok (.bipush 8, 2) := by decide +kernel
theorem dX6_tilts_14 : decode cX6_tilts 14 = .ok (.iload_n 2, 1) := by decide +kernel
theorem dX6_tilts_15 : decode cX6_tilts 15 = .ok (.isub, 1) := by decide +kernel
theorem dX6_tilts_16 : decode cX6_tilts 16 = .ok (.goto 4, 3) := by decide +kernel
theorem dX6_tilts_19 : decode cX6_tilts 19 = .ok (.iload_n 2, 1) := by decide +kernel
theorem dX6_tilts_20 : decode cX6_tilts 20 = .ok (.istore_n 3, 1) := by decide +kernel
theorem dX6_tilts_21 : decode cX6_tilts 21 = .ok (.iconst 0, 1) := by decide +kernel
theorem dX6_tilts_22 : decode cX6_tilts 22 = .ok (.istore 4, 2) := by decide +kernel
theorem dX6_tilts_24 : decode cX6_tilts 24 = .ok (.iload 4, 2) := by decide +kernel
theorem dX6_tilts_26 : decode cX6_tilts 26 = .ok (.bipush 8, 2) := by decide +kernel
theorem dX6_tilts_28 : decode cX6_tilts 28 = .ok (.if_icmp .ge 57, 3) := by decide +kernel
theorem dX6_tilts_31 : decode cX6_tilts 31 = .ok (.aload_n 0, 1) := by decide +kernel
theorem dX6_tilts_32 : decode cX6_tilts 32 = .ok (.iload 4, 2) := by decide +kernel
theorem dX6_tilts_34 : decode cX6_tilts 34 = .ok (.iload_n 3, 1) := by decide +kernel
theorem dX6_tilts_35 : decode cX6_tilts 35 = .ok (.invokevirtual 187, 3) := by decide +kernel
theorem dX6_tilts_38 : decode cX6_tilts 38 = .ok (.istore 5, 2) := by decide +kernel
theorem dX6_tilts_40 : decode cX6_tilts 40 = .ok (.iload 5, 2) := by decide +kernel
theorem dX6_tilts_42 : decode cX6_tilts 42 = .ok (.iconst (-1), 1) := by decide +kernel
theorem dX6_tilts_43 : decode cX6_tilts 43 = .ok (.if_icmp .eq 36, 3) := by decide +kernel
theorem dX6_tilts_46 : decode cX6_tilts 46 = .ok (.iload_n 3, 1) := by decide +kernel
theorem dX6_tilts_47 : decode cX6_tilts 47 = .ok (.iload_n 1, 1) := by decide +kernel
theorem dX6_tilts_48 : decode cX6_tilts 48 = .ok (.iadd, 1) := by decide +kernel
theorem dX6_tilts_49 : decode cX6_tilts 49 = .ok (.invokestatic 190, 3) := by decide +kernel
theorem dX6_tilts_52 : decode cX6_tilts 52 = .ok (.ifCond .eq 27, 3) := by decide +kernel
theorem dX6_tilts_55 : decode cX6_tilts 55 = .ok (.aload_n 0, 1) := by decide +kernel
theorem dX6_tilts_56 : decode cX6_tilts 56 = .ok (.iload 4, 2) := by decide +kernel
theorem dX6_tilts_58 : decode cX6_tilts 58 = .ok (.iload_n 3, 1) := by decide +kernel
theorem dX6_tilts_59 : decode cX6_tilts 59 = .ok (.iload_n 1, 1) := by decide +kernel
theorem dX6_tilts_60 : decode cX6_tilts 60 = .ok (.iadd, 1) := by decide +kernel
theorem dX6_tilts_61 : decode cX6_tilts 61 = .ok (.invokevirtual 187, 3) := by decide +kernel
theorem dX6_tilts_64 : decode cX6_tilts 64 = .ok (.iconst (-1), 1) := by decide +kernel
theorem dX6_tilts_65 : decode cX6_tilts 65 = .ok (.if_icmp .ne 14, 3) := by decide +kernel
theorem dX6_tilts_68 : decode cX6_tilts 68 = .ok (.aload_n 0, 1) := by decide +kernel
theorem dX6_tilts_69 : decode cX6_tilts 69 = .ok (.getfield 43, 3) := by decide +kernel
theorem dX6_tilts_72 : decode cX6_tilts 72 = .ok (.iload 5, 2) := by decide +kernel
theorem dX6_tilts_74 : decode cX6_tilts 74 = .ok (.dup2, 1) := by decide +kernel
theorem dX6_tilts_75 : decode cX6_tilts 75 = .ok (.iaload, 1) := by decide +kernel
theorem dX6_tilts_76 : decode cX6_tilts 76 = .ok (.iload_n 1, 1) := by decide +kernel
theorem dX6_tilts_77 : decode cX6_tilts 77 = .ok (.iadd, 1) := by decide +kernel
theorem dX6_tilts_78 : decode cX6_tilts 78 = .ok (.iastore, 1) := by decide +kernel
theorem dX6_tilts_79 : decode cX6_tilts 79 = .ok (.iinc 4 1, 3) := by decide +kernel
theorem dX6_tilts_82 : decode cX6_tilts 82 = .ok (.goto (-58), 3) := by decide +kernel
theorem dX6_tilts_85 : decode cX6_tilts 85 = .ok (.iinc 2 1, 3) := by decide +kernel
theorem dX6_tilts_88 : decode cX6_tilts 88 = .ok (.goto (-86), 3) := by decide +kernel
theorem dX6_tilts_91 : decode cX6_tilts 91 = .ok (.return_, 1) := by decide +kernel
theorem dX6_knocks_0 : decode cX6_knocks 0 = .ok (.aload_n 0, 1) := by decide +kernel
theorem dX6_knocks_1 : decode cX6_knocks 1 = .ok (.iload_n 1, 1) := by decide +kernel
theorem dX6_knocks_2 : decode cX6_knocks 2 = .ok (.invokevirtual 166, 3) := by decide +kernel
theorem dX6_knocks_5 : decode cX6_knocks 5 = .ok (.ifCond .eq 69, 3) := by decide +kernel
theorem dX6_knocks_8 : decode cX6_knocks 8 = .ok (.aload_n 0, 1) := by decide +kernel
theorem dX6_knocks_9 : decode cX6_knocks 9 = .ok (.getfield 55, 3) := by decide +kernel
theorem dX6_knocks_12 : decode cX6_knocks 12 = .ok (.iload_n 1, 1) := by decide +kernel
theorem dX6_knocks_13 : decode cX6_knocks 13 = .ok (.aload_n 0, 1) := by decide +kernel
theorem dX6_knocks_14 : decode cX6_knocks 14 = .ok (.getfield 55, 3) := by decide +kernel
theorem dX6_knocks_17 : decode cX6_knocks 17 = .ok (.iload_n 1, 1) := by decide +kernel
theorem dX6_knocks_18 : decode cX6_knocks 18 = .ok (.iaload, 1) := by decide +kernel
theorem dX6_knocks_19 : decode cX6_knocks 19 = .ok (.iconst 2, 1) := by decide +kernel
theorem dX6_knocks_20 : decode cX6_knocks 20 = .ok (.if_icmp .ge 14, 3) := by decide +kernel
theorem dX6_knocks_23 : decode cX6_knocks 23 = .ok (.iconst 1, 1) := by decide +kernel
theorem dX6_knocks_24 : decode cX6_knocks 24 = .ok (.aload_n 0, 1) := by decide +kernel
theorem dX6_knocks_25 : decode cX6_knocks 25 = .ok (.getfield 55, 3) := by decide +kernel
theorem dX6_knocks_28 : decode cX6_knocks 28 = .ok (.iload_n 1, 1) := by decide +kernel
theorem dX6_knocks_29 : decode cX6_knocks 29 = .ok (.iaload, 1) := by decide +kernel
theorem dX6_knocks_30 : decode cX6_knocks 30 = .ok (.isub, 1) := by decide +kernel
theorem dX6_knocks_31 : decode cX6_knocks 31 = .ok (.goto 9, 3) := by decide +kernel
theorem dX6_knocks_34 : decode cX6_knocks 34 = .ok (.aload_n 0, 1) := by decide +kernel
theorem dX6_knocks_35 : decode cX6_knocks 35 = .ok (.getfield 55, 3) := by decide +kernel
theorem dX6_knocks_38 : decode cX6_knocks 38 = .ok (.iload_n 1, 1) := by decide +kernel
theorem dX6_knocks_39 : decode cX6_knocks 39 = .ok (.iaload, 1) := by decide +kernel
theorem dX6_knocks_40 : decode cX6_knocks 40 = .ok (.iastore, 1) := by decide +kernel
theorem dX6_knocks_41 : decode cX6_knocks 41 = .ok (.aload_n 0, 1) := by decide +kernel
theorem dX6_knocks_42 : decode cX6_knocks 42 = .ok (.getfield 58, 3) := by decide +kernel
theorem dX6_knocks_45 : decode cX6_knocks 45 = .ok (.iload_n 1, 1) := by decide +kernel
theorem dX6_knocks_46 : decode cX6_knocks 46 = .ok (.aload_n 0, 1) := by decide +kernel
theorem dX6_knocks_47 : decode cX6_knocks 47 = .ok (.getfield 55, 3) := by decide +kernel
theorem dX6_knocks_50 : decode cX6_knocks 50 = .ok (.iload_n 1, 1) := by decide +kernel
theorem dX6_knocks_51 : decode cX6_knocks 51 = .ok (.iaload, 1) := by decide +kernel
theorem dX6_knocks_52 : decode cX6_knocks 52 = .ok (.iconst 2, 1) := by decide +kernel
theorem dX6_knocks_53 : decode cX6_knocks 53 = .ok (.if_icmp .ne 14, 3) := by decide +kernel
theorem dX6_knocks_56 : decode cX6_knocks 56 = .ok (.iconst 1, 1) := by decide +kernel
theorem dX6_knocks_57 : decode cX6_knocks 57 = .ok (.aload_n 0, 1) := by decide +kernel
theorem dX6_knocks_58 : decode cX6_knocks 58 = .ok (.getfield 58, 3) := by decide +kernel
theorem dX6_knocks_61 : decode cX6_knocks 61 = .ok (.iload_n 1, 1) := by decide +kernel
theorem dX6_knocks_62 : decode cX6_knocks 62 = .ok (.iaload, 1) := by decide +kernel
theorem dX6_knocks_63 : decode cX6_knocks 63 = .ok (.isub, 1) := by decide +kernel
theorem dX6_knocks_64 : decode cX6_knocks 64 = .ok (.goto 9, 3) := by decide +kernel
theorem dX6_knocks_67 : decode cX6_knocks 67 = .ok (.aload_n 0, 1) := by decide +kernel
theorem dX6_knocks_68 : decode cX6_knocks 68 = .ok (.getfield 58, 3) := by decide +kernel
theorem dX6_knocks_71 : decode cX6_knocks 71 = .ok (.iload_n 1, 1) := by decide +kernel
theorem dX6_knocks_72 : decode cX6_knocks 72 = .ok (.iaload, 1) := by decide +kernel
theorem dX6_knocks_73 : decode cX6_knocks 73 = .ok (.iastore, 1) := by decide +kernel
theorem dX6_knocks_74 : decode cX6_knocks 74 = .ok (.return_, 1) := by decide +kernel
theorem dX6_empties_0 : decode cX6_empties 0 = .ok (.iload_n 1, 1) := by decide +kernel
theorem dX6_empties_1 : decode cX6_empties 1 = .ok (.invokestatic 190, 3) := by decide +kernel
theorem dX6_empties_4 : decode cX6_empties 4 = .ok (.ifCond .eq 10, 3) := by decide +kernel
theorem dX6_empties_7 : decode cX6_empties 7 = .ok (.aload_n 0, 1) := by decide +kernel
theorem dX6_empties_8 : decode cX6_empties 8 = .ok (.getfield 61, 3) := by decide +kernel
theorem dX6_empties_11 : decode cX6_empties 11 = .ok (.iload_n 1, 1) := by decide +kernel
theorem dX6_empties_12 : decode cX6_empties 12 = .ok (.iconst 0, 1) := by decide +kernel
theorem dX6_empties_13 : decode cX6_empties 13 = .ok (.iastore, 1) := by decide +kernel
theorem dX6_empties_14 : decode cX6_empties 14 = .ok (.return_, 1) := by decide +kernel
theorem dX6_happens_0 : decode cX6_happens 0 = .ok (.iconst 0, 1) := by decide +kernel
theorem dX6_happens_1 : decode cX6_happens 1 = .ok (.istore_n 2, 1) := by decide +kernel
theorem dX6_happens_2 : decode cX6_happens 2 = .ok (.iload_n 2, 1) := by decide +kernel
theorem dX6_happens_3 : decode cX6_happens 3 = .ok (.aload_n 0, 1) := by decide +kernel
theorem dX6_happens_4 : decode cX6_happens 4 = .ok (.getfield 182, 3) := by decide +kernel
theorem dX6_happens_7 : decode cX6_happens 7 = .ok (.if_icmp .ge 111, 3) := by decide +kernel
theorem dX6_happens_10 : decode cX6_happens 10 = .ok (.aload_n 0, 1) := by decide +kernel
theorem dX6_happens_11 : decode cX6_happens 11 = .ok (.getfield 37, 3) := by decide +kernel
theorem dX6_happens_14 : decode cX6_happens 14 = .ok (.iconst 3, 1) := by decide +kernel
theorem dX6_happens_15 : decode cX6_happens 15 = .ok (.iload_n 2, 1) := by decide +kernel
theorem dX6_happens_16 : decode cX6_happens 16 = .ok (.imul, 1) := by decide +kernel
theorem dX6_happens_17 : decode cX6_happens 17 = .ok (.iconst 2, 1) := by decide +kernel
theorem dX6_happens_18 : decode cX6_happens 18 = .ok (.iadd, 1) := by decide +kernel
theorem dX6_happens_19 : decode cX6_happens 19 = .ok (.iaload, 1) := by decide +kernel
theorem dX6_happens_20 : decode cX6_happens 20 = .ok (.istore_n 3, 1) := by decide +kernel
theorem dX6_happens_21 : decode cX6_happens 21 = .ok (.aload_n 0, 1) := by decide +kernel
theorem dX6_happens_22 : decode cX6_happens 22 = .ok (.getfield 37, 3) := by decide +kernel
theorem dX6_happens_25 : decode cX6_happens 25 = .ok (.iconst 3, 1) := by decide +kernel
theorem dX6_happens_26 : decode cX6_happens 26 = .ok (.iload_n 2, 1) := by decide +kernel
theorem dX6_happens_27 : decode cX6_happens 27 = .ok (.imul, 1) := by decide +kernel
theorem dX6_happens_28 : decode cX6_happens 28 = .ok (.iconst 1, 1) := by decide +kernel
theorem dX6_happens_29 : decode cX6_happens 29 = .ok (.iadd, 1) := by decide +kernel
theorem dX6_happens_30 : decode cX6_happens 30 = .ok (.iaload, 1) := by decide +kernel
theorem dX6_happens_31 : decode cX6_happens 31 = .ok (.iload_n 1, 1) := by decide +kernel
theorem dX6_happens_32 : decode cX6_happens 32 = .ok (.if_icmp .ne 80, 3) := by decide +kernel
theorem dX6_happens_35 : decode cX6_happens 35 = .ok (.aload_n 0, 1) := by decide +kernel
theorem dX6_happens_36 : decode cX6_happens 36 = .ok (.getfield 193, 3) := by decide +kernel
theorem dX6_happens_39 : decode cX6_happens 39 = .ok (.iload_n 2, 1) := by decide +kernel
theorem dX6_happens_40 : decode cX6_happens 40 = .ok (.invokestatic 196, 3) := by decide +kernel
theorem dX6_happens_43 : decode cX6_happens 43 = .ok (.ifCond .ne 69, 3) := by decide +kernel
theorem dX6_happens_46 : decode cX6_happens 46 = .ok (.aload_n 0, 1) := by decide +kernel
theorem dX6_happens_47 : decode cX6_happens 47 = .ok (.getfield 37, 3) := by decide +kernel
theorem dX6_happens_50 : decode cX6_happens 50 = .ok (.iconst 3, 1) := by decide +kernel
theorem dX6_happens_51 : decode cX6_happens 51 = .ok (.iload_n 2, 1) := by decide +kernel
theorem dX6_happens_52 : decode cX6_happens 52 = .ok (.imul, 1) := by decide +kernel
theorem dX6_happens_53 : decode cX6_happens 53 = .ok (.iaload, 1) := by decide +kernel
theorem dX6_happens_54 : decode cX6_happens 54 = .ok (.lookupswitch 53 #[(0, 26), (1, 45)], 26) := by decide +kernel
theorem dX6_happens_80 : decode cX6_happens 80 = .ok (.aload_n 0, 1) := by decide +kernel
theorem dX6_happens_81 : decode cX6_happens 81 = .ok (.iload_n 3, 1) := by decide +kernel
theorem dX6_happens_82 : decode cX6_happens 82 = .ok (.iconst 2, 1) := by decide +kernel
theorem dX6_happens_83 : decode cX6_happens 83 = .ok (.irem, 1) := by decide +kernel
theorem dX6_happens_84 : decode cX6_happens 84 = .ok (.iconst 1, 1) := by decide +kernel
theorem dX6_happens_85 : decode cX6_happens 85 = .ok (.if_icmp .ne 7, 3) := by decide +kernel
theorem dX6_happens_88 : decode cX6_happens 88 = .ok (.iconst 1, 1) := by decide +kernel
theorem dX6_happens_89 : decode cX6_happens 89 = .ok (.goto 4, 3) := by decide +kernel
theorem dX6_happens_92 : decode cX6_happens 92 = .ok (.iconst (-1), 1) := by decide +kernel
theorem dX6_happens_93 : decode cX6_happens 93 = .ok (.invokevirtual 200, 3) := by decide +kernel
theorem dX6_happens_96 : decode cX6_happens 96 = .ok (.goto 16, 3) := by decide +kernel
theorem dX6_happens_99 : decode cX6_happens 99 = .ok (.aload_n 0, 1) := by decide +kernel
theorem dX6_happens_100 : decode cX6_happens 100 = .ok (.iload_n 3, 1) := by decide +kernel
theorem dX6_happens_101 : decode cX6_happens 101 = .ok (.invokevirtual 204, 3) := by decide +kernel
theorem dX6_happens_104 : decode cX6_happens 104 = .ok (.goto 8, 3) := by decide +kernel
theorem dX6_happens_107 : decode cX6_happens 107 = .ok (.aload_n 0, 1) := by decide +kernel
theorem dX6_happens_108 : decode cX6_happens 108 = .ok (.iload_n 3, 1) := by decide +kernel
theorem dX6_happens_109 : decode cX6_happens 109 = .ok (.invokevirtual 207, 3) := by decide +kernel
theorem dX6_happens_112 : decode cX6_happens 112 = .ok (.iinc 2 1, 3) := by decide +kernel
theorem dX6_happens_115 : decode cX6_happens 115 = .ok (.goto (-113), 3) := by decide +kernel
theorem dX6_happens_118 : decode cX6_happens 118 = .ok (.return_, 1) := by decide +kernel
theorem dX6_pinAt_0 : decode cX6_pinAt 0 = .ok (.iconst (-1), 1) := by decide +kernel
theorem dX6_pinAt_1 : decode cX6_pinAt 1 = .ok (.istore_n 3, 1) := by decide +kernel
theorem dX6_pinAt_2 : decode cX6_pinAt 2 = .ok (.iconst 0, 1) := by decide +kernel
theorem dX6_pinAt_3 : decode cX6_pinAt 3 = .ok (.istore 4, 2) := by decide +kernel
theorem dX6_pinAt_5 : decode cX6_pinAt 5 = .ok (.iload 4, 2) := by decide +kernel
theorem dX6_pinAt_7 : decode cX6_pinAt 7 = .ok (.aload_n 0, 1) := by decide +kernel
theorem dX6_pinAt_8 : decode cX6_pinAt 8 = .ok (.getfield 127, 3) := by decide +kernel
theorem dX6_pinAt_11 : decode cX6_pinAt 11 = .ok (.if_icmp .ge 44, 3) := by decide +kernel
theorem dX6_pinAt_14 : decode cX6_pinAt 14 = .ok (.aload_n 0, 1) := by decide +kernel
theorem dX6_pinAt_15 : decode cX6_pinAt 15 = .ok (.getfield 28, 3) := by decide +kernel
theorem dX6_pinAt_18 : decode cX6_pinAt 18 = .ok (.iconst 3, 1) := by decide +kernel
theorem dX6_pinAt_19 : decode cX6_pinAt 19 = .ok (.iload 4, 2) := by decide +kernel
theorem dX6_pinAt_21 : decode cX6_pinAt 21 = .ok (.imul, 1) := by decide +kernel
theorem dX6_pinAt_22 : decode cX6_pinAt 22 = .ok (.iaload, 1) := by decide +kernel
theorem dX6_pinAt_23 : decode cX6_pinAt 23 = .ok (.iload_n 1, 1) := by decide +kernel
theorem dX6_pinAt_24 : decode cX6_pinAt 24 = .ok (.if_icmp .ne 23, 3) := by decide +kernel
theorem dX6_pinAt_27 : decode cX6_pinAt 27 = .ok (.aload_n 0, 1) := by decide +kernel
theorem dX6_pinAt_28 : decode cX6_pinAt 28 = .ok (.getfield 28, 3) := by decide +kernel
theorem dX6_pinAt_31 : decode cX6_pinAt 31 = .ok (.iconst 3, 1) := by decide +kernel
theorem dX6_pinAt_32 : decode cX6_pinAt 32 = .ok (.iload 4, 2) := by decide +kernel
theorem dX6_pinAt_34 : decode cX6_pinAt 34 = .ok (.imul, 1) := by decide +kernel
theorem dX6_pinAt_35 : decode cX6_pinAt 35 = .ok (.iconst 1, 1) := by decide +kernel
theorem dX6_pinAt_36 : decode cX6_pinAt 36 = .ok (.iadd, 1) := by decide +kernel
theorem dX6_pinAt_37 : decode cX6_pinAt 37 = .ok (.iaload, 1) := by decide +kernel
theorem dX6_pinAt_38 : decode cX6_pinAt 38 = .ok (.iload_n 2, 1) := by decide +kernel
theorem dX6_pinAt_39 : decode cX6_pinAt 39 = .ok (.if_icmp .ne 8, 3) := by decide +kernel
theorem dX6_pinAt_42 : decode cX6_pinAt 42 = .ok (.iload 4, 2) := by decide +kernel
theorem dX6_pinAt_44 : decode cX6_pinAt 44 = .ok (.goto 4, 3) := by decide +kernel
theorem dX6_pinAt_47 : decode cX6_pinAt 47 = .ok (.iload_n 3, 1) := by decide +kernel
theorem dX6_pinAt_48 : decode cX6_pinAt 48 = .ok (.istore_n 3, 1) := by decide +kernel
theorem dX6_pinAt_49 : decode cX6_pinAt 49 = .ok (.iinc 4 1, 3) := by decide +kernel
theorem dX6_pinAt_52 : decode cX6_pinAt 52 = .ok (.goto (-47), 3) := by decide +kernel
theorem dX6_pinAt_55 : decode cX6_pinAt 55 = .ok (.iload_n 3, 1) := by decide +kernel
theorem dX6_pinAt_56 : decode cX6_pinAt 56 = .ok (.ireturn, 1) := by decide +kernel
theorem dX6_aside_0 : decode cX6_aside 0 = .ok (.iload_n 0, 1) := by decide +kernel
theorem dX6_aside_1 : decode cX6_aside 1 = .ok (.iload_n 1, 1) := by decide +kernel
theorem dX6_aside_2 : decode cX6_aside 2 = .ok (.iadd, 1) := by decide +kernel
theorem dX6_aside_3 : decode cX6_aside 3 = .ok (.invokestatic 190, 3) := by decide +kernel
theorem dX6_aside_6 : decode cX6_aside 6 = .ok (.ifCond .eq 9, 3) := by decide +kernel
theorem dX6_aside_9 : decode cX6_aside 9 = .ok (.iload_n 0, 1) := by decide +kernel
theorem dX6_aside_10 : decode cX6_aside 10 = .ok (.iload_n 1, 1) := by decide +kernel
theorem dX6_aside_11 : decode cX6_aside 11 = .ok (.iadd, 1) := by decide +kernel
theorem dX6_aside_12 : decode cX6_aside 12 = .ok (.goto 4, 3) := by decide +kernel
theorem dX6_aside_15 : decode cX6_aside 15 = .ok (.iload_n 0, 1) := by decide +kernel
theorem dX6_aside_16 : decode cX6_aside 16 = .ok (.ireturn, 1) := by decide +kernel
theorem dX6_goesTo_0 : decode cX6_goesTo 0 = .ok (.aload_n 0, 1) := by decide +kernel
theorem dX6_goesTo_1 : decode cX6_goesTo 1 = .ok (.getfield 43, 3) := by decide +kernel
theorem dX6_goesTo_4 : decode cX6_goesTo 4 = .ok (.iload_n 1, 1) := by decide +kernel
theorem dX6_goesTo_5 : decode cX6_goesTo 5 = .ok (.iaload, 1) := by decide +kernel
theorem dX6_goesTo_6 : decode cX6_goesTo 6 = .ok (.istore_n 3, 1) := by decide +kernel
theorem dX6_goesTo_7 : decode cX6_goesTo 7 = .ok (.iload_n 2, 1) := by decide +kernel
theorem dX6_goesTo_8 : decode cX6_goesTo 8 = .ok (.iconst (-1), 1) := by decide +kernel
theorem dX6_goesTo_9 : decode cX6_goesTo 9 = .ok (.if_icmp .eq 13, 3) := by decide +kernel
theorem dX6_goesTo_12 : decode cX6_goesTo 12 = .ok (.aload_n 0, 1) := by decide +kernel
theorem dX6_goesTo_13 : decode cX6_goesTo 13 = .ok (.getfield 55, 3) := by decide +kernel
theorem dX6_goesTo_16 : decode cX6_goesTo 16 = .ok (.iload_n 2, 1) := by decide +kernel
theorem dX6_goesTo_17 : decode cX6_goesTo 17 = .ok (.iaload, 1) := by decide +kernel
theorem dX6_goesTo_18 : decode cX6_goesTo 18 = .ok (.iconst 3, 1) := by decide +kernel
theorem dX6_goesTo_19 : decode cX6_goesTo 19 = .ok (.if_icmp .ne 5, 3) := by decide +kernel
theorem dX6_goesTo_22 : decode cX6_goesTo 22 = .ok (.iload_n 3, 1) := by decide +kernel
theorem dX6_goesTo_23 : decode cX6_goesTo 23 = .ok (.ireturn, 1) := by decide +kernel
theorem dX6_goesTo_24 : decode cX6_goesTo 24 = .ok (.aload_n 0, 1) := by decide +kernel
theorem dX6_goesTo_25 : decode cX6_goesTo 25 = .ok (.getfield 55, 3) := by decide +kernel
theorem dX6_goesTo_28 : decode cX6_goesTo 28 = .ok (.iload_n 2, 1) := by decide +kernel
theorem dX6_goesTo_29 : decode cX6_goesTo 29 = .ok (.iaload, 1) := by decide +kernel
theorem dX6_goesTo_30 : decode cX6_goesTo 30 = .ok (.iconst 2, 1) := by decide +kernel
theorem dX6_goesTo_31 : decode cX6_goesTo 31 = .ok (.if_icmp .ne 12, 3) := by decide +kernel
theorem dX6_goesTo_34 : decode cX6_goesTo 34 = .ok (.aload_n 0, 1) := by decide +kernel
theorem dX6_goesTo_35 : decode cX6_goesTo 35 = .ok (.getfield 58, 3) := by decide +kernel
theorem dX6_goesTo_38 : decode cX6_goesTo 38 = .ok (.iload_n 2, 1) := by decide +kernel
theorem dX6_goesTo_39 : decode cX6_goesTo 39 = .ok (.iaload, 1) := by decide +kernel
theorem dX6_goesTo_40 : decode cX6_goesTo 40 = .ok (.goto 9, 3) := by decide +kernel
theorem dX6_goesTo_43 : decode cX6_goesTo 43 = .ok (.aload_n 0, 1) := by decide +kernel
theorem dX6_goesTo_44 : decode cX6_goesTo 44 = .ok (.getfield 55, 3) := by decide +kernel
theorem dX6_goesTo_47 : decode cX6_goesTo 47 = .ok (.iload_n 2, 1) := by decide +kernel
theorem dX6_goesTo_48 : decode cX6_goesTo 48 = .ok (.iaload, 1) := by decide +kernel
theorem dX6_goesTo_49 : decode cX6_goesTo 49 = .ok (.istore 4, 2) := by decide +kernel
theorem dX6_goesTo_51 : decode cX6_goesTo 51 = .ok (.iload_n 3, 1) := by decide +kernel
theorem dX6_goesTo_52 : decode cX6_goesTo 52 = .ok (.iload 4, 2) := by decide +kernel
theorem dX6_goesTo_54 : decode cX6_goesTo 54 = .ok (.iconst 1, 1) := by decide +kernel
theorem dX6_goesTo_55 : decode cX6_goesTo 55 = .ok (.if_icmp .ne 7, 3) := by decide +kernel
theorem dX6_goesTo_58 : decode cX6_goesTo 58 = .ok (.iconst 1, 1) := by decide +kernel
theorem dX6_goesTo_59 : decode cX6_goesTo 59 = .ok (.goto 4, 3) := by decide +kernel
theorem dX6_goesTo_62 : decode cX6_goesTo 62 = .ok (.iconst (-1), 1) := by decide +kernel
theorem dX6_goesTo_63 : decode cX6_goesTo 63 = .ok (.invokestatic 210, 3) := by decide +kernel
theorem dX6_goesTo_66 : decode cX6_goesTo 66 = .ok (.ireturn, 1) := by decide +kernel
theorem dX6_ending_0 : decode cX6_ending 0 = .ok (.aload_n 0, 1) := by decide +kernel
theorem dX6_ending_1 : decode cX6_ending 1 = .ok (.getfield 61, 3) := by decide +kernel
theorem dX6_ending_4 : decode cX6_ending 4 = .ok (.iload_n 3, 1) := by decide +kernel
theorem dX6_ending_5 : decode cX6_ending 5 = .ok (.iaload, 1) := by decide +kernel
theorem dX6_ending_6 : decode cX6_ending 6 = .ok (.aload_n 0, 1) := by decide +kernel
theorem dX6_ending_7 : decode cX6_ending 7 = .ok (.getfield 82, 3) := by decide +kernel
theorem dX6_ending_10 : decode cX6_ending 10 = .ok (.if_icmp .ge 7, 3) := by decide +kernel
theorem dX6_ending_13 : decode cX6_ending 13 = .ok (.iconst 1, 1) := by decide +kernel
theorem dX6_ending_14 : decode cX6_ending 14 = .ok (.goto 4, 3) := by decide +kernel
theorem dX6_ending_17 : decode cX6_ending 17 = .ok (.iconst 0, 1) := by decide +kernel
theorem dX6_ending_18 : decode cX6_ending 18 = .ok (.istore 4, 2) := by decide +kernel
theorem dX6_ending_20 : decode cX6_ending 20 = .ok (.aload_n 0, 1) := by decide +kernel
theorem dX6_ending_21 : decode cX6_ending 21 = .ok (.getfield 40, 3) := by decide +kernel
theorem dX6_ending_24 : decode cX6_ending 24 = .ok (.iload_n 2, 1) := by decide +kernel
theorem dX6_ending_25 : decode cX6_ending 25 = .ok (.iload 4, 2) := by decide +kernel
theorem dX6_ending_27 : decode cX6_ending 27 = .ok (.ifCond .eq 8, 3) := by decide +kernel
theorem dX6_ending_30 : decode cX6_ending 30 = .ok (.bipush 8, 2) := by decide +kernel
theorem dX6_ending_32 : decode cX6_ending 32 = .ok (.goto 5, 3) := by decide +kernel
theorem dX6_ending_35 : decode cX6_ending 35 = .ok (.bipush 9, 2) := by decide +kernel
theorem dX6_ending_37 : decode cX6_ending 37 = .ok (.iastore, 1) := by decide +kernel
theorem dX6_ending_38 : decode cX6_ending 38 = .ok (.aload_n 0, 1) := by decide +kernel
theorem dX6_ending_39 : decode cX6_ending 39 = .ok (.getfield 49, 3) := by decide +kernel
theorem dX6_ending_42 : decode cX6_ending 42 = .ok (.iload_n 2, 1) := by decide +kernel
theorem dX6_ending_43 : decode cX6_ending 43 = .ok (.iload_n 1, 1) := by decide +kernel
theorem dX6_ending_44 : decode cX6_ending 44 = .ok (.iastore, 1) := by decide +kernel
theorem dX6_ending_45 : decode cX6_ending 45 = .ok (.aload_n 0, 1) := by decide +kernel
theorem dX6_ending_46 : decode cX6_ending 46 = .ok (.getfield 46, 3) := by decide +kernel
theorem dX6_ending_49 : decode cX6_ending 49 = .ok (.iload_n 2, 1) := by decide +kernel
theorem dX6_ending_50 : decode cX6_ending 50 = .ok (.dup2, 1) := by decide +kernel
theorem dX6_ending_51 : decode cX6_ending 51 = .ok (.iaload, 1) := by decide +kernel
theorem dX6_ending_52 : decode cX6_ending 52 = .ok (.iload 4, 2) := by decide +kernel
theorem dX6_ending_54 : decode cX6_ending 54 = .ok (.ifCond .eq 12, 3) := by decide +kernel
theorem dX6_ending_57 : decode cX6_ending 57 = .ok (.aload_n 0, 1) := by decide +kernel
theorem dX6_ending_58 : decode cX6_ending 58 = .ok (.getfield 31, 3) := by decide +kernel
theorem dX6_ending_61 : decode cX6_ending 61 = .ok (.iload_n 3, 1) := by decide +kernel
theorem dX6_ending_62 : decode cX6_ending 62 = .ok (.iaload, 1) := by decide +kernel
theorem dX6_ending_63 : decode cX6_ending 63 = .ok (.goto 4, 3) := by decide +kernel
theorem dX6_ending_66 : decode cX6_ending 66 = .ok (.iconst 0, 1) := by decide +kernel
theorem dX6_ending_67 : decode cX6_ending 67 = .ok (.iadd, 1) := by decide +kernel
theorem dX6_ending_68 : decode cX6_ending 68 = .ok (.iastore, 1) := by decide +kernel
theorem dX6_ending_69 : decode cX6_ending 69 = .ok (.aload_n 0, 1) := by decide +kernel
theorem dX6_ending_70 : decode cX6_ending 70 = .ok (.getfield 61, 3) := by decide +kernel
theorem dX6_ending_73 : decode cX6_ending 73 = .ok (.iload_n 3, 1) := by decide +kernel
theorem dX6_ending_74 : decode cX6_ending 74 = .ok (.dup2, 1) := by decide +kernel
theorem dX6_ending_75 : decode cX6_ending 75 = .ok (.iaload, 1) := by decide +kernel
theorem dX6_ending_76 : decode cX6_ending 76 = .ok (.iload 4, 2) := by decide +kernel
theorem dX6_ending_78 : decode cX6_ending 78 = .ok (.ifCond .eq 7, 3) := by decide +kernel
theorem dX6_ending_81 : decode cX6_ending 81 = .ok (.iconst 1, 1) := by decide +kernel
theorem dX6_ending_82 : decode cX6_ending 82 = .ok (.goto 4, 3) := by decide +kernel
theorem dX6_ending_85 : decode cX6_ending 85 = .ok (.iconst 0, 1) := by decide +kernel
theorem dX6_ending_86 : decode cX6_ending 86 = .ok (.iadd, 1) := by decide +kernel
theorem dX6_ending_87 : decode cX6_ending 87 = .ok (.iastore, 1) := by decide +kernel
theorem dX6_ending_88 : decode cX6_ending 88 = .ok (.aload_n 0, 1) := by decide +kernel
theorem dX6_ending_89 : decode cX6_ending 89 = .ok (.getfield 64, 3) := by decide +kernel
theorem dX6_ending_92 : decode cX6_ending 92 = .ok (.iload_n 3, 1) := by decide +kernel
theorem dX6_ending_93 : decode cX6_ending 93 = .ok (.dup2, 1) := by decide +kernel
theorem dX6_ending_94 : decode cX6_ending 94 = .ok (.iaload, 1) := by decide +kernel
theorem dX6_ending_95 : decode cX6_ending 95 = .ok (.iload 4, 2) := by decide +kernel
theorem dX6_ending_97 : decode cX6_ending 97 = .ok (.ifCond .eq 7, 3) := by decide +kernel
theorem dX6_ending_100 : decode cX6_ending 100 = .ok (.iconst 1, 1) := by decide +kernel
theorem dX6_ending_101 : decode cX6_ending 101 = .ok (.goto 4, 3) := by decide +kernel
theorem dX6_ending_104 : decode cX6_ending 104 = .ok (.iconst 0, 1) := by decide +kernel
theorem dX6_ending_105 : decode cX6_ending 105 = .ok (.iadd, 1) := by decide +kernel
theorem dX6_ending_106 : decode cX6_ending 106 = .ok (.iastore, 1) := by decide +kernel
theorem dX6_ending_107 : decode cX6_ending 107 = .ok (.return_, 1) := by decide +kernel
theorem dX6_falls_0 : decode cX6_falls 0 = .ok (.aload_n 0, 1) := by decide +kernel
theorem dX6_falls_1 : decode cX6_falls 1 = .ok (.aload_n 0, 1) := by decide +kernel
theorem dX6_falls_2 : decode cX6_falls 2 = .ok (.getfield 40, 3) := by decide +kernel
theorem dX6_falls_5 : decode cX6_falls 5 = .ok (.iload_n 2, 1) := by decide +kernel
theorem dX6_falls_6 : decode cX6_falls 6 = .ok (.iaload, 1) := by decide +kernel
theorem dX6_falls_7 : decode cX6_falls 7 = .ok (.aload_n 0, 1) := by decide +kernel
theorem dX6_falls_8 : decode cX6_falls 8 = .ok (.getfield 43, 3) := by decide +kernel
theorem dX6_falls_11 : decode cX6_falls 11 = .ok (.iload_n 2, 1) := by decide +kernel
theorem dX6_falls_12 : decode cX6_falls 12 = .ok (.iaload, 1) := by decide +kernel
theorem dX6_falls_13 : decode cX6_falls 13 = .ok (.invokevirtual 213, 3) := by decide +kernel
theorem dX6_falls_16 : decode cX6_falls 16 = .ok (.istore_n 3, 1) := by decide +kernel
theorem dX6_falls_17 : decode cX6_falls 17 = .ok (.aload_n 0, 1) := by decide +kernel
theorem dX6_falls_18 : decode cX6_falls 18 = .ok (.iload_n 2, 1) := by decide +kernel
theorem dX6_falls_19 : decode cX6_falls 19 = .ok (.iload_n 3, 1) := by decide +kernel
theorem dX6_falls_20 : decode cX6_falls 20 = .ok (.invokevirtual 216, 3) := by decide +kernel
theorem dX6_falls_23 : decode cX6_falls 23 = .ok (.istore 4, 2) := by decide +kernel
theorem dX6_falls_25 : decode cX6_falls 25 = .ok (.aload_n 0, 1) := by decide +kernel
theorem dX6_falls_26 : decode cX6_falls 26 = .ok (.getfield 40, 3) := by decide +kernel
theorem dX6_falls_29 : decode cX6_falls 29 = .ok (.iload_n 2, 1) := by decide +kernel
theorem dX6_falls_30 : decode cX6_falls 30 = .ok (.iaload, 1) := by decide +kernel
theorem dX6_falls_31 : decode cX6_falls 31 = .ok (.bipush 7, 2) := by decide +kernel
theorem dX6_falls_33 : decode cX6_falls 33 = .ok (.if_icmp .ge 42, 3) := by decide +kernel
theorem dX6_falls_36 : decode cX6_falls 36 = .ok (.aload_n 0, 1) := by decide +kernel
theorem dX6_falls_37 : decode cX6_falls 37 = .ok (.aload_n 0, 1) := by decide +kernel
theorem dX6_falls_38 : decode cX6_falls 38 = .ok (.getfield 40, 3) := by decide +kernel
theorem dX6_falls_41 : decode cX6_falls 41 = .ok (.iload_n 2, 1) := by decide +kernel
theorem dX6_falls_42 : decode cX6_falls 42 = .ok (.iaload, 1) := by decide +kernel
theorem dX6_falls_43 : decode cX6_falls 43 = .ok (.iconst 1, 1) := by decide +kernel
theorem dX6_falls_44 : decode cX6_falls 44 = .ok (.iadd, 1) := by decide +kernel
theorem dX6_falls_45 : decode cX6_falls 45 = .ok (.iload 4, 2) := by decide +kernel
theorem dX6_falls_47 : decode cX6_falls 47 = .ok (.invokevirtual 187, 3) := by decide +kernel
theorem dX6_falls_50 : decode cX6_falls 50 = .ok (.iconst (-1), 1) := by decide +kernel
theorem dX6_falls_51 : decode cX6_falls 51 = .ok (.if_icmp .eq 24, 3) := by decide +kernel
theorem dX6_falls_54 : decode cX6_falls 54 = .ok (.aload_n 0, 1) := by decide +kernel
theorem dX6_falls_55 : decode cX6_falls 55 = .ok (.getfield 52, 3) := by decide +kernel
theorem dX6_falls_58 : decode cX6_falls 58 = .ok (.iload_n 2, 1) := by decide +kernel
theorem dX6_falls_59 : decode cX6_falls 59 = .ok (.dup2, 1) := by decide +kernel
theorem dX6_falls_60 : decode cX6_falls 60 = .ok (.iaload, 1) := by decide +kernel
theorem dX6_falls_61 : decode cX6_falls 61 = .ok (.iconst 1, 1) := by decide +kernel
theorem dX6_falls_62 : decode cX6_falls 62 = .ok (.iadd, 1) := by decide +kernel
theorem dX6_falls_63 : decode cX6_falls 63 = .ok (.iastore, 1) := by decide +kernel
theorem dX6_falls_64 : decode cX6_falls 64 = .ok (.aload_n 0, 1) := by decide +kernel
theorem dX6_falls_65 : decode cX6_falls 65 = .ok (.getfield 67, 3) := by decide +kernel
theorem dX6_falls_68 : decode cX6_falls 68 = .ok (.iload_n 1, 1) := by decide +kernel
theorem dX6_falls_69 : decode cX6_falls 69 = .ok (.dup2, 1) := by decide +kernel
theorem dX6_falls_70 : decode cX6_falls 70 = .ok (.iaload, 1) := by decide +kernel
theorem dX6_falls_71 : decode cX6_falls 71 = .ok (.iconst 1, 1) := by decide +kernel
theorem dX6_falls_72 : decode cX6_falls 72 = .ok (.iadd, 1) := by decide +kernel
theorem dX6_falls_73 : decode cX6_falls 73 = .ok (.iastore, 1) := by decide +kernel
theorem dX6_falls_74 : decode cX6_falls 74 = .ok (.return_, 1) := by decide +kernel
theorem dX6_falls_75 : decode cX6_falls 75 = .ok (.iload_n 3, 1) := by decide +kernel
theorem dX6_falls_76 : decode cX6_falls 76 = .ok (.iconst (-1), 1) := by decide +kernel
theorem dX6_falls_77 : decode cX6_falls 77 = .ok (.if_icmp .eq 27, 3) := by decide +kernel
theorem dX6_falls_80 : decode cX6_falls 80 = .ok (.aload_n 0, 1) := by decide +kernel
theorem dX6_falls_81 : decode cX6_falls 81 = .ok (.getfield 55, 3) := by decide +kernel
theorem dX6_falls_84 : decode cX6_falls 84 = .ok (.iload_n 3, 1) := by decide +kernel
theorem dX6_falls_85 : decode cX6_falls 85 = .ok (.iaload, 1) := by decide +kernel
theorem dX6_falls_86 : decode cX6_falls 86 = .ok (.iconst 2, 1) := by decide +kernel
theorem dX6_falls_87 : decode cX6_falls 87 = .ok (.if_icmp .ne 17, 3) := by decide +kernel
theorem dX6_falls_90 : decode cX6_falls 90 = .ok (.aload_n 0, 1) := by decide +kernel
theorem dX6_falls_91 : decode cX6_falls 91 = .ok (.getfield 58, 3) := by decide +kernel
theorem dX6_falls_94 : decode cX6_falls 94 = .ok (.iload_n 3, 1) := by decide +kernel
theorem dX6_falls_95 : decode cX6_falls 95 = .ok (.iconst 1, 1) := by decide +kernel
theorem dX6_falls_96 : decode cX6_falls 96 = .ok (.aload_n 0, 1) := by decide +kernel
theorem dX6_falls_97 : decode cX6_falls 97 = .ok (.getfield 58, 3) := by decide +kernel
theorem dX6_falls_100 : decode cX6_falls 100 = .ok (.iload_n 3, 1) := by decide +kernel
theorem dX6_falls_101 : decode cX6_falls 101 = .ok (.iaload, 1) := by decide +kernel
theorem dX6_falls_102 : decode cX6_falls 102 = .ok (.isub, 1) := by decide +kernel
theorem dX6_falls_103 : decode cX6_falls 103 = .ok (.iastore, 1) := by decide +kernel
theorem dX6_falls_104 : decode cX6_falls 104 = .ok (.iload_n 3, 1) := by decide +kernel
theorem dX6_falls_105 : decode cX6_falls 105 = .ok (.iconst (-1), 1) := by decide +kernel
theorem dX6_falls_106 : decode cX6_falls 106 = .ok (.if_icmp .eq 33, 3) := by decide +kernel
theorem dX6_falls_109 : decode cX6_falls 109 = .ok (.aload_n 0, 1) := by decide +kernel
theorem dX6_falls_110 : decode cX6_falls 110 = .ok (.getfield 55, 3) := by decide +kernel
theorem dX6_falls_113 : decode cX6_falls 113 = .ok (.iload_n 3, 1) := by decide +kernel
theorem dX6_falls_114 : decode cX6_falls 114 = .ok (.iaload, 1) := by decide +kernel
theorem dX6_falls_115 : decode cX6_falls 115 = .ok (.iconst 3, 1) := by decide +kernel
theorem dX6_falls_116 : decode cX6_falls 116 = .ok (.if_icmp .ne 23, 3) := by decide +kernel
theorem dX6_falls_119 : decode cX6_falls 119 = .ok (.aload_n 0, 1) := by decide +kernel
theorem dX6_falls_120 : decode cX6_falls 120 = .ok (.dup, 1) := by decide +kernel
theorem dX6_falls_121 : decode cX6_falls 121 = .ok (.getfield 219, 3) := by decide +kernel
theorem dX6_falls_124 : decode cX6_falls 124 = .ok (.iconst 1, 1) := by decide +kernel
theorem dX6_falls_125 : decode cX6_falls 125 = .ok (.iadd, 1) := by decide +kernel
theorem dX6_falls_126 : decode cX6_falls 126 = .ok (.putfield 219, 3) := by decide +kernel
theorem dX6_falls_129 : decode cX6_falls 129 = .ok (.aload_n 0, 1) := by decide +kernel
theorem dX6_falls_130 : decode cX6_falls 130 = .ok (.getfield 46, 3) := by decide +kernel
theorem dX6_falls_133 : decode cX6_falls 133 = .ok (.iload_n 2, 1) := by decide +kernel
theorem dX6_falls_134 : decode cX6_falls 134 = .ok (.dup2, 1) := by decide +kernel
theorem dX6_falls_135 : decode cX6_falls 135 = .ok (.iaload, 1) := by decide +kernel
theorem dX6_falls_136 : decode cX6_falls 136 = .ok (.iconst 2, 1) := by decide +kernel
theorem dX6_falls_137 : decode cX6_falls 137 = .ok (.iadd, 1) := by decide +kernel
theorem dX6_falls_138 : decode cX6_falls 138 = .ok (.iastore, 1) := by decide +kernel
theorem dX6_falls_139 : decode cX6_falls 139 = .ok (.aload_n 0, 1) := by decide +kernel
theorem dX6_falls_140 : decode cX6_falls 140 = .ok (.getfield 43, 3) := by decide +kernel
theorem dX6_falls_143 : decode cX6_falls 143 = .ok (.iload_n 2, 1) := by decide +kernel
theorem dX6_falls_144 : decode cX6_falls 144 = .ok (.iload 4, 2) := by decide +kernel
theorem dX6_falls_146 : decode cX6_falls 146 = .ok (.iastore, 1) := by decide +kernel
theorem dX6_falls_147 : decode cX6_falls 147 = .ok (.aload_n 0, 1) := by decide +kernel
theorem dX6_falls_148 : decode cX6_falls 148 = .ok (.getfield 40, 3) := by decide +kernel
theorem dX6_falls_151 : decode cX6_falls 151 = .ok (.iload_n 2, 1) := by decide +kernel
theorem dX6_falls_152 : decode cX6_falls 152 = .ok (.iaload, 1) := by decide +kernel
theorem dX6_falls_153 : decode cX6_falls 153 = .ok (.bipush 7, 2) := by decide +kernel
theorem dX6_falls_155 : decode cX6_falls 155 = .ok (.if_icmp .ne 14, 3) := by decide +kernel
theorem dX6_falls_158 : decode cX6_falls 158 = .ok (.aload_n 0, 1) := by decide +kernel
theorem dX6_falls_159 : decode cX6_falls 159 = .ok (.iload_n 1, 1) := by decide +kernel
theorem dX6_falls_160 : decode cX6_falls 160 = .ok (.iload_n 2, 1) := by decide +kernel
theorem dX6_falls_161 : decode cX6_falls 161 = .ok (.iload 4, 2) := by decide +kernel
theorem dX6_falls_163 : decode cX6_falls 163 = .ok (.invokevirtual 222, 3) := by decide +kernel
theorem dX6_falls_166 : decode cX6_falls 166 = .ok (.goto 13, 3) := by decide +kernel
theorem dX6_falls_169 : decode cX6_falls 169 = .ok (.aload_n 0, 1) := by decide +kernel
theorem dX6_falls_170 : decode cX6_falls 170 = .ok (.getfield 40, 3) := by decide +kernel
theorem dX6_falls_173 : decode cX6_falls 173 = .ok (.iload_n 2, 1) := by decide +kernel
theorem dX6_falls_174 : decode cX6_falls 174 = .ok (.dup2, 1) := by decide +kernel
theorem dX6_falls_175 : decode cX6_falls 175 = .ok (.iaload, 1) := by decide +kernel
theorem dX6_falls_176 : decode cX6_falls 176 = .ok (.iconst 1, 1) := by decide +kernel
theorem dX6_falls_177 : decode cX6_falls 177 = .ok (.iadd, 1) := by decide +kernel
theorem dX6_falls_178 : decode cX6_falls 178 = .ok (.iastore, 1) := by decide +kernel
theorem dX6_falls_179 : decode cX6_falls 179 = .ok (.return_, 1) := by decide +kernel
theorem dX6_passes_0 : decode cX6_passes 0 = .ok (.aload_n 0, 1) := by decide +kernel
theorem dX6_passes_1 : decode cX6_passes 1 = .ok (.getfield 67, 3) := by decide +kernel
theorem dX6_passes_4 : decode cX6_passes 4 = .ok (.iload_n 1, 1) := by decide +kernel
theorem dX6_passes_5 : decode cX6_passes 5 = .ok (.iconst 0, 1) := by decide +kernel
theorem dX6_passes_6 : decode cX6_passes 6 = .ok (.iastore, 1) := by decide +kernel
theorem dX6_passes_7 : decode cX6_passes 7 = .ok (.aload_n 0, 1) := by decide +kernel
theorem dX6_passes_8 : decode cX6_passes 8 = .ok (.iload_n 1, 1) := by decide +kernel
theorem dX6_passes_9 : decode cX6_passes 9 = .ok (.invokevirtual 226, 3) := by decide +kernel
theorem dX6_passes_12 : decode cX6_passes 12 = .ok (.iconst 0, 1) := by decide +kernel
theorem dX6_passes_13 : decode cX6_passes 13 = .ok (.istore_n 2, 1) := by decide +kernel
theorem dX6_passes_14 : decode cX6_passes 14 = .ok (.bipush 7, 2) := by decide +kernel
theorem dX6_passes_16 : decode cX6_passes 16 = .ok (.istore_n 3, 1) := by decide +kernel
theorem dX6_passes_17 : decode cX6_passes 17 = .ok (.iload_n 3, 1) := by decide +kernel
theorem dX6_passes_18 : decode cX6_passes 18 = .ok (.ifCond .lt 61, 3) := by decide +kernel
theorem dX6_passes_21 : decode cX6_passes 21 = .ok (.iconst 0, 1) := by decide +kernel
theorem dX6_passes_22 : decode cX6_passes 22 = .ok (.istore 4, 2) := by decide +kernel
theorem dX6_passes_24 : decode cX6_passes 24 = .ok (.iload 4, 2) := by decide +kernel
theorem dX6_passes_26 : decode cX6_passes 26 = .ok (.aload_n 0, 1) := by decide +kernel
theorem dX6_passes_27 : decode cX6_passes 27 = .ok (.getfield 143, 3) := by decide +kernel
theorem dX6_passes_30 : decode cX6_passes 30 = .ok (.if_icmp .ge 43, 3) := by decide +kernel
theorem dX6_passes_33 : decode cX6_passes 33 = .ok (.aload_n 0, 1) := by decide +kernel
theorem dX6_passes_34 : decode cX6_passes 34 = .ok (.getfield 40, 3) := by decide +kernel
theorem dX6_passes_37 : decode cX6_passes 37 = .ok (.iload 4, 2) := by decide +kernel
theorem dX6_passes_39 : decode cX6_passes 39 = .ok (.iaload, 1) := by decide +kernel
theorem dX6_passes_40 : decode cX6_passes 40 = .ok (.iload_n 3, 1) := by decide +kernel
theorem dX6_passes_41 : decode cX6_passes 41 = .ok (.if_icmp .ne 26, 3) := by decide +kernel
theorem dX6_passes_44 : decode cX6_passes 44 = .ok (.iload_n 2, 1) := by decide +kernel
theorem dX6_passes_45 : decode cX6_passes 45 = .ok (.iload 4, 2) := by decide +kernel
theorem dX6_passes_47 : decode cX6_passes 47 = .ok (.invokestatic 196, 3) := by decide +kernel
theorem dX6_passes_50 : decode cX6_passes 50 = .ok (.ifCond .ne 17, 3) := by decide +kernel
theorem dX6_passes_53 : decode cX6_passes 53 = .ok (.iload_n 2, 1) := by decide +kernel
theorem dX6_passes_54 : decode cX6_passes 54 = .ok (.iconst 1, 1) := by decide +kernel
theorem dX6_passes_55 : decode cX6_passes 55 = .ok (.iload 4, 2) := by decide +kernel
theorem dX6_passes_57 : decode cX6_passes 57 = .ok (.ishl, 1) := by decide +kernel
theorem dX6_passes_58 : decode cX6_passes 58 = .ok (.ior, 1) := by decide +kernel
theorem dX6_passes_59 : decode cX6_passes 59 = .ok (.istore_n 2, 1) := by decide +kernel
theorem dX6_passes_60 : decode cX6_passes 60 = .ok (.aload_n 0, 1) := by decide +kernel
theorem dX6_passes_61 : decode cX6_passes 61 = .ok (.iload_n 1, 1) := by decide +kernel
theorem dX6_passes_62 : decode cX6_passes 62 = .ok (.iload 4, 2) := by decide +kernel
theorem dX6_passes_64 : decode cX6_passes 64 = .ok (.invokevirtual 229, 3) := by decide +kernel
theorem dX6_passes_67 : decode cX6_passes 67 = .ok (.iinc 4 1, 3) := by decide +kernel
theorem dX6_passes_70 : decode cX6_passes 70 = .ok (.goto (-46), 3) := by decide +kernel
theorem dX6_passes_73 : decode cX6_passes 73 = .ok (.iinc 3 (-1), 3) := by decide +kernel
theorem dX6_passes_76 : decode cX6_passes 76 = .ok (.goto (-59), 3) := by decide +kernel
theorem dX6_passes_79 : decode cX6_passes 79 = .ok (.iconst 0, 1) := by decide +kernel
theorem dX6_passes_80 : decode cX6_passes 80 = .ok (.istore_n 3, 1) := by decide +kernel
theorem dX6_passes_81 : decode cX6_passes 81 = .ok (.iload_n 3, 1) := by decide +kernel
theorem dX6_passes_82 : decode cX6_passes 82 = .ok (.aload_n 0, 1) := by decide +kernel
theorem dX6_passes_83 : decode cX6_passes 83 = .ok (.getfield 143, 3) := by decide +kernel
theorem dX6_passes_86 : decode cX6_passes 86 = .ok (.if_icmp .ge 71, 3) := by decide +kernel
theorem dX6_passes_89 : decode cX6_passes 89 = .ok (.aload_n 0, 1) := by decide +kernel
theorem dX6_passes_90 : decode cX6_passes 90 = .ok (.getfield 34, 3) := by decide +kernel
theorem dX6_passes_93 : decode cX6_passes 93 = .ok (.iconst 2, 1) := by decide +kernel
theorem dX6_passes_94 : decode cX6_passes 94 = .ok (.iload_n 3, 1) := by decide +kernel
theorem dX6_passes_95 : decode cX6_passes 95 = .ok (.imul, 1) := by decide +kernel
theorem dX6_passes_96 : decode cX6_passes 96 = .ok (.iconst 1, 1) := by decide +kernel
theorem dX6_passes_97 : decode cX6_passes 97 = .ok (.iadd, 1) := by decide +kernel
theorem dX6_passes_98 : decode cX6_passes 98 = .ok (.iaload, 1) := by decide +kernel
theorem dX6_passes_99 : decode cX6_passes 99 = .ok (.iconst 1, 1) := by decide +kernel
theorem dX6_passes_100 : decode cX6_passes 100 = .ok (.isub, 1) := by decide +kernel
theorem dX6_passes_101 : decode cX6_passes 101 = .ok (.istore 4, 2) := by decide +kernel
theorem dX6_passes_103 : decode cX6_passes 103 = .ok (.aload_n 0, 1) := by decide +kernel
theorem dX6_passes_104 : decode cX6_passes 104 = .ok (.getfield 40, 3) := by decide +kernel
theorem dX6_passes_107 : decode cX6_passes 107 = .ok (.iload_n 3, 1) := by decide +kernel
theorem dX6_passes_108 : decode cX6_passes 108 = .ok (.iaload, 1) := by decide +kernel
theorem dX6_passes_109 : decode cX6_passes 109 = .ok (.iconst (-1), 1) := by decide +kernel
theorem dX6_passes_110 : decode cX6_passes 110 = .ok (.if_icmp .ne 41, 3) := by decide +kernel
theorem dX6_passes_113 : decode cX6_passes 113 = .ok (.iload_n 1, 1) := by decide +kernel
theorem dX6_passes_114 : decode cX6_passes 114 = .ok (.aload_n 0, 1) := by decide +kernel
theorem dX6_passes_115 : decode cX6_passes 115 = .ok (.getfield 34, 3) := by decide +kernel
theorem dX6_passes_118 : decode cX6_passes 118 = .ok (.iconst 2, 1) := by decide +kernel
theorem dX6_passes_119 : decode cX6_passes 119 = .ok (.iload_n 3, 1) := by decide +kernel
theorem dX6_passes_120 : decode cX6_passes 120 = .ok (.imul, 1) := by decide +kernel
theorem dX6_passes_121 : decode cX6_passes 121 = .ok (.iaload, 1) := by decide +kernel
theorem dX6_passes_122 : decode cX6_passes 122 = .ok (.if_icmp .lt 29, 3) := by decide +kernel
theorem dX6_passes_125 : decode cX6_passes 125 = .ok (.aload_n 0, 1) := by decide +kernel
theorem dX6_passes_126 : decode cX6_passes 126 = .ok (.iconst 0, 1) := by decide +kernel
theorem dX6_passes_127 : decode cX6_passes 127 = .ok (.iload 4, 2) := by decide +kernel
theorem dX6_passes_129 : decode cX6_passes 129 = .ok (.invokevirtual 187, 3) := by decide +kernel
theorem dX6_passes_132 : decode cX6_passes 132 = .ok (.iconst (-1), 1) := by decide +kernel
theorem dX6_passes_133 : decode cX6_passes 133 = .ok (.if_icmp .ne 18, 3) := by decide +kernel
theorem dX6_passes_136 : decode cX6_passes 136 = .ok (.aload_n 0, 1) := by decide +kernel
theorem dX6_passes_137 : decode cX6_passes 137 = .ok (.getfield 40, 3) := by decide +kernel
theorem dX6_passes_140 : decode cX6_passes 140 = .ok (.iload_n 3, 1) := by decide +kernel
theorem dX6_passes_141 : decode cX6_passes 141 = .ok (.iconst 0, 1) := by decide +kernel
theorem dX6_passes_142 : decode cX6_passes 142 = .ok (.iastore, 1) := by decide +kernel
theorem dX6_passes_143 : decode cX6_passes 143 = .ok (.aload_n 0, 1) := by decide +kernel
theorem dX6_passes_144 : decode cX6_passes 144 = .ok (.getfield 43, 3) := by decide +kernel
theorem dX6_passes_147 : decode cX6_passes 147 = .ok (.iload_n 3, 1) := by decide +kernel
theorem dX6_passes_148 : decode cX6_passes 148 = .ok (.iload 4, 2) := by decide +kernel
theorem dX6_passes_150 : decode cX6_passes 150 = .ok (.iastore, 1) := by decide +kernel
theorem dX6_passes_151 : decode cX6_passes 151 = .ok (.iinc 3 1, 3) := by decide +kernel
theorem dX6_passes_154 : decode cX6_passes 154 = .ok (.goto (-73), 3) := by decide +kernel
theorem dX6_passes_157 : decode cX6_passes 157 = .ok (.iconst 0, 1) := by decide +kernel
theorem dX6_passes_158 : decode cX6_passes 158 = .ok (.istore_n 3, 1) := by decide +kernel
theorem dX6_passes_159 : decode cX6_passes 159 = .ok (.iload_n 3, 1) := by decide +kernel
theorem dX6_passes_160 : decode cX6_passes 160 = .ok (.aload_n 0, 1) := by decide +kernel
theorem dX6_passes_161 : decode cX6_passes 161 = .ok (.getfield 143, 3) := by decide +kernel
theorem dX6_passes_164 : decode cX6_passes 164 = .ok (.if_icmp .ge 43, 3) := by decide +kernel
theorem dX6_passes_167 : decode cX6_passes 167 = .ok (.aload_n 0, 1) := by decide +kernel
theorem dX6_passes_168 : decode cX6_passes 168 = .ok (.getfield 70, 3) := by decide +kernel
theorem dX6_passes_171 : decode cX6_passes 171 = .ok (.bipush 12, 2) := by decide +kernel
theorem dX6_passes_173 : decode cX6_passes 173 = .ok (.iload_n 1, 1) := by decide +kernel
theorem dX6_passes_174 : decode cX6_passes 174 = .ok (.imul, 1) := by decide +kernel
theorem dX6_passes_175 : decode cX6_passes 175 = .ok (.iload_n 3, 1) := by decide +kernel
theorem dX6_passes_176 : decode cX6_passes 176 = .ok (.iadd, 1) := by decide +kernel
theorem dX6_passes_177 : decode cX6_passes 177 = .ok (.aload_n 0, 1) := by decide +kernel
theorem dX6_passes_178 : decode cX6_passes 178 = .ok (.getfield 40, 3) := by decide +kernel
theorem dX6_passes_181 : decode cX6_passes 181 = .ok (.iload_n 3, 1) := by decide +kernel
theorem dX6_passes_182 : decode cX6_passes 182 = .ok (.iaload, 1) := by decide +kernel
theorem dX6_passes_183 : decode cX6_passes 183 = .ok (.iastore, 1) := by decide +kernel
theorem dX6_passes_184 : decode cX6_passes 184 = .ok (.aload_n 0, 1) := by decide +kernel
theorem dX6_passes_185 : decode cX6_passes 185 = .ok (.getfield 73, 3) := by decide +kernel
theorem dX6_passes_188 : decode cX6_passes 188 = .ok (.bipush 12, 2) := by decide +kernel
theorem dX6_passes_190 : decode cX6_passes 190 = .ok (.iload_n 1, 1) := by decide +kernel
theorem dX6_passes_191 : decode cX6_passes 191 = .ok (.imul, 1) := by decide +kernel
theorem dX6_passes_192 : decode cX6_passes 192 = .ok (.iload_n 3, 1) := by decide +kernel
theorem dX6_passes_193 : decode cX6_passes 193 = .ok (.iadd, 1) := by decide +kernel
theorem dX6_passes_194 : decode cX6_passes 194 = .ok (.aload_n 0, 1) := by decide +kernel
theorem dX6_passes_195 : decode cX6_passes 195 = .ok (.getfield 43, 3) := by decide +kernel
theorem dX6_passes_198 : decode cX6_passes 198 = .ok (.iload_n 3, 1) := by decide +kernel
theorem dX6_passes_199 : decode cX6_passes 199 = .ok (.iaload, 1) := by decide +kernel
theorem dX6_passes_200 : decode cX6_passes 200 = .ok (.iastore, 1) := by decide +kernel
theorem dX6_passes_201 : decode cX6_passes 201 = .ok (.iinc 3 1, 3) := by decide +kernel
theorem dX6_passes_204 : decode cX6_passes 204 = .ok (.goto (-45), 3) := by decide +kernel
theorem dX6_passes_207 : decode cX6_passes 207 = .ok (.return_, 1) := by decide +kernel
theorem dX6_lives_0 : decode cX6_lives 0 = .ok (.iconst 0, 1) := by decide +kernel
theorem dX6_lives_1 : decode cX6_lives 1 = .ok (.istore_n 1, 1) := by decide +kernel
theorem dX6_lives_2 : decode cX6_lives 2 = .ok (.iload_n 1, 1) := by decide +kernel
theorem dX6_lives_3 : decode cX6_lives 3 = .ok (.bipush 12, 2) := by decide +kernel
theorem dX6_lives_5 : decode cX6_lives 5 = .ok (.if_icmp .ge 67, 3) := by decide +kernel
theorem dX6_lives_8 : decode cX6_lives 8 = .ok (.aload_n 0, 1) := by decide +kernel
theorem dX6_lives_9 : decode cX6_lives 9 = .ok (.getfield 40, 3) := by decide +kernel
theorem dX6_lives_12 : decode cX6_lives 12 = .ok (.iload_n 1, 1) := by decide +kernel
theorem dX6_lives_13 : decode cX6_lives 13 = .ok (.iconst (-1), 1) := by decide +kernel
theorem dX6_lives_14 : decode cX6_lives 14 = .ok (.iastore, 1) := by decide +kernel
theorem dX6_lives_15 : decode cX6_lives 15 = .ok (.aload_n 0, 1) := by decide +kernel
theorem dX6_lives_16 : decode cX6_lives 16 = .ok (.getfield 43, 3) := by decide +kernel
theorem dX6_lives_19 : decode cX6_lives 19 = .ok (.iload_n 1, 1) := by decide +kernel
theorem dX6_lives_20 : decode cX6_lives 20 = .ok (.iconst (-1), 1) := by decide +kernel
theorem dX6_lives_21 : decode cX6_lives 21 = .ok (.iastore, 1) := by decide +kernel
theorem dX6_lives_22 : decode cX6_lives 22 = .ok (.aload_n 0, 1) := by decide +kernel
theorem dX6_lives_23 : decode cX6_lives 23 = .ok (.getfield 46, 3) := by decide +kernel
theorem dX6_lives_26 : decode cX6_lives 26 = .ok (.iload_n 1, 1) := by decide +kernel
theorem dX6_lives_27 : decode cX6_lives 27 = .ok (.iconst 0, 1) := by decide +kernel
theorem dX6_lives_28 : decode cX6_lives 28 = .ok (.iastore, 1) := by decide +kernel
theorem dX6_lives_29 : decode cX6_lives 29 = .ok (.aload_n 0, 1) := by decide +kernel
theorem dX6_lives_30 : decode cX6_lives 30 = .ok (.getfield 49, 3) := by decide +kernel
theorem dX6_lives_33 : decode cX6_lives 33 = .ok (.iload_n 1, 1) := by decide +kernel
theorem dX6_lives_34 : decode cX6_lives 34 = .ok (.iconst (-1), 1) := by decide +kernel
theorem dX6_lives_35 : decode cX6_lives 35 = .ok (.iastore, 1) := by decide +kernel
theorem dX6_lives_36 : decode cX6_lives 36 = .ok (.aload_n 0, 1) := by decide +kernel
theorem dX6_lives_37 : decode cX6_lives 37 = .ok (.getfield 52, 3) := by decide +kernel
theorem dX6_lives_40 : decode cX6_lives 40 = .ok (.iload_n 1, 1) := by decide +kernel
theorem dX6_lives_41 : decode cX6_lives 41 = .ok (.iconst 0, 1) := by decide +kernel
theorem dX6_lives_42 : decode cX6_lives 42 = .ok (.iastore, 1) := by decide +kernel
theorem dX6_lives_43 : decode cX6_lives 43 = .ok (.aload_n 0, 1) := by decide +kernel
theorem dX6_lives_44 : decode cX6_lives 44 = .ok (.getfield 58, 3) := by decide +kernel
theorem dX6_lives_47 : decode cX6_lives 47 = .ok (.iload_n 1, 1) := by decide +kernel
theorem dX6_lives_48 : decode cX6_lives 48 = .ok (.iconst 0, 1) := by decide +kernel
theorem dX6_lives_49 : decode cX6_lives 49 = .ok (.iastore, 1) := by decide +kernel
theorem dX6_lives_50 : decode cX6_lives 50 = .ok (.aload_n 0, 1) := by decide +kernel
theorem dX6_lives_51 : decode cX6_lives 51 = .ok (.getfield 55, 3) := by decide +kernel
theorem dX6_lives_54 : decode cX6_lives 54 = .ok (.iload_n 1, 1) := by decide +kernel
theorem dX6_lives_55 : decode cX6_lives 55 = .ok (.aload_n 0, 1) := by decide +kernel
theorem dX6_lives_56 : decode cX6_lives 56 = .ok (.getfield 28, 3) := by decide +kernel
theorem dX6_lives_59 : decode cX6_lives 59 = .ok (.iconst 3, 1) := by decide +kernel
theorem dX6_lives_60 : decode cX6_lives 60 = .ok (.iload_n 1, 1) := by decide +kernel
theorem dX6_lives_61 : decode cX6_lives 61 = .ok (.imul, 1) := by decide +kernel
theorem dX6_lives_62 : decode cX6_lives 62 = .ok (.iconst 2, 1) := by decide +kernel
theorem dX6_lives_63 : decode cX6_lives 63 = .ok (.iadd, 1) := by decide +kernel
theorem dX6_lives_64 : decode cX6_lives 64 = .ok (.iaload, 1) := by decide +kernel
theorem dX6_lives_65 : decode cX6_lives 65 = .ok (.iastore, 1) := by decide +kernel
theorem dX6_lives_66 : decode cX6_lives 66 = .ok (.iinc 1 1, 3) := by decide +kernel
theorem dX6_lives_69 : decode cX6_lives 69 = .ok (.goto (-67), 3) := by decide +kernel
theorem dX6_lives_72 : decode cX6_lives 72 = .ok (.iconst 0, 1) := by decide +kernel
theorem dX6_lives_73 : decode cX6_lives 73 = .ok (.istore_n 1, 1) := by decide +kernel
theorem dX6_lives_74 : decode cX6_lives 74 = .ok (.iload_n 1, 1) := by decide +kernel
theorem dX6_lives_75 : decode cX6_lives 75 = .ok (.bipush 9, 2) := by decide +kernel
theorem dX6_lives_77 : decode cX6_lives 77 = .ok (.if_icmp .ge 23, 3) := by decide +kernel
theorem dX6_lives_80 : decode cX6_lives 80 = .ok (.aload_n 0, 1) := by decide +kernel
theorem dX6_lives_81 : decode cX6_lives 81 = .ok (.getfield 61, 3) := by decide +kernel
theorem dX6_lives_84 : decode cX6_lives 84 = .ok (.iload_n 1, 1) := by decide +kernel
theorem dX6_lives_85 : decode cX6_lives 85 = .ok (.iconst 0, 1) := by decide +kernel
theorem dX6_lives_86 : decode cX6_lives 86 = .ok (.iastore, 1) := by decide +kernel
theorem dX6_lives_87 : decode cX6_lives 87 = .ok (.aload_n 0, 1) := by decide +kernel
theorem dX6_lives_88 : decode cX6_lives 88 = .ok (.getfield 64, 3) := by decide +kernel
theorem dX6_lives_91 : decode cX6_lives 91 = .ok (.iload_n 1, 1) := by decide +kernel
theorem dX6_lives_92 : decode cX6_lives 92 = .ok (.iconst 0, 1) := by decide +kernel
theorem dX6_lives_93 : decode cX6_lives 93 = .ok (.iastore, 1) := by decide +kernel
theorem dX6_lives_94 : decode cX6_lives 94 = .ok (.iinc 1 1, 3) := by decide +kernel
theorem dX6_lives_97 : decode cX6_lives 97 = .ok (.goto (-23), 3) := by decide +kernel
theorem dX6_lives_100 : decode cX6_lives 100 = .ok (.aload_n 0, 1) := by decide +kernel
theorem dX6_lives_101 : decode cX6_lives 101 = .ok (.iconst 0, 1) := by decide +kernel
theorem dX6_lives_102 : decode cX6_lives 102 = .ok (.putfield 219, 3) := by decide +kernel
theorem dX6_lives_105 : decode cX6_lives 105 = .ok (.iconst 0, 1) := by decide +kernel
theorem dX6_lives_106 : decode cX6_lives 106 = .ok (.istore_n 1, 1) := by decide +kernel
theorem dX6_lives_107 : decode cX6_lives 107 = .ok (.iload_n 1, 1) := by decide +kernel
theorem dX6_lives_108 : decode cX6_lives 108 = .ok (.bipush 24, 2) := by decide +kernel
theorem dX6_lives_110 : decode cX6_lives 110 = .ok (.if_icmp .ge 14, 3) := by decide +kernel
theorem dX6_lives_113 : decode cX6_lives 113 = .ok (.aload_n 0, 1) := by decide +kernel
theorem dX6_lives_114 : decode cX6_lives 114 = .ok (.iload_n 1, 1) := by decide +kernel
theorem dX6_lives_115 : decode cX6_lives 115 = .ok (.invokevirtual 233, 3) := by decide +kernel
theorem dX6_lives_118 : decode cX6_lives 118 = .ok (.iinc 1 1, 3) := by decide +kernel
theorem dX6_lives_121 : decode cX6_lives 121 = .ok (.goto (-14), 3) := by decide +kernel
theorem dX6_lives_124 : decode cX6_lives 124 = .ok (.return_, 1) := by decide +kernel
theorem dX6_find_0 : decode cX6_find 0 = .ok (.aload_n 0, 1) := by decide +kernel
theorem dX6_find_1 : decode cX6_find 1 = .ok (.invokevirtual 149, 3) := by decide +kernel
theorem dX6_find_4 : decode cX6_find 4 = .ok (.pop, 1) := by decide +kernel
theorem dX6_find_5 : decode cX6_find 5 = .ok (.aload_n 0, 1) := by decide +kernel
theorem dX6_find_6 : decode cX6_find 6 = .ok (.invokevirtual 153, 3) := by decide +kernel
theorem dX6_find_9 : decode cX6_find 9 = .ok (.pop, 1) := by decide +kernel
theorem dX6_find_10 : decode cX6_find 10 = .ok (.aload_n 0, 1) := by decide +kernel
theorem dX6_find_11 : decode cX6_find 11 = .ok (.invokevirtual 156, 3) := by decide +kernel
theorem dX6_find_14 : decode cX6_find 14 = .ok (.pop, 1) := by decide +kernel
theorem dX6_find_15 : decode cX6_find 15 = .ok (.aload_n 0, 1) := by decide +kernel
theorem dX6_find_16 : decode cX6_find 16 = .ok (.invokevirtual 236, 3) := by decide +kernel
theorem dX6_find_19 : decode cX6_find 19 = .ok (.return_, 1) := by decide +kernel
theorem dX6_cupBy_0 : decode cX6_cupBy 0 = .ok (.iload_n 2, 1) := by decide +kernel
theorem dX6_cupBy_1 : decode cX6_cupBy 1 = .ok (.ifCond .ne 12, 3) := by decide +kernel
theorem dX6_cupBy_4 : decode cX6_cupBy 4 = .ok (.aload_n 0, 1) := by decide +kernel
theorem dX6_cupBy_5 : decode cX6_cupBy 5 = .ok (.getfield 31, 3) := by decide +kernel
theorem dX6_cupBy_8 : decode cX6_cupBy 8 = .ok (.iload_n 1, 1) := by decide +kernel
theorem dX6_cupBy_9 : decode cX6_cupBy 9 = .ok (.iaload, 1) := by decide +kernel
theorem dX6_cupBy_10 : decode cX6_cupBy 10 = .ok (.goto 23, 3) := by decide +kernel
theorem dX6_cupBy_13 : decode cX6_cupBy 13 = .ok (.iload_n 2, 1) := by decide +kernel
theorem dX6_cupBy_14 : decode cX6_cupBy 14 = .ok (.iconst 1, 1) := by decide +kernel
theorem dX6_cupBy_15 : decode cX6_cupBy 15 = .ok (.if_icmp .ne 12, 3) := by decide +kernel
theorem dX6_cupBy_18 : decode cX6_cupBy 18 = .ok (.aload_n 0, 1) := by decide +kernel
theorem dX6_cupBy_19 : decode cX6_cupBy 19 = .ok (.getfield 61, 3) := by decide +kernel
theorem dX6_cupBy_22 : decode cX6_cupBy 22 = .ok (.iload_n 1, 1) := by decide +kernel
theorem dX6_cupBy_23 : decode cX6_cupBy 23 = .ok (.iaload, 1) := by decide +kernel
theorem dX6_cupBy_24 : decode cX6_cupBy 24 = .ok (.goto 9, 3) := by decide +kernel
theorem dX6_cupBy_27 : decode cX6_cupBy 27 = .ok (.aload_n 0, 1) := by decide +kernel
theorem dX6_cupBy_28 : decode cX6_cupBy 28 = .ok (.getfield 64, 3) := by decide +kernel
theorem dX6_cupBy_31 : decode cX6_cupBy 31 = .ok (.iload_n 1, 1) := by decide +kernel
theorem dX6_cupBy_32 : decode cX6_cupBy 32 = .ok (.iaload, 1) := by decide +kernel
theorem dX6_cupBy_33 : decode cX6_cupBy 33 = .ok (.ireturn, 1) := by decide +kernel
theorem dX6_cup_0 : decode cX6_cup 0 = .ok (.aload_n 0, 1) := by decide +kernel
theorem dX6_cup_1 : decode cX6_cup 1 = .ok (.invokevirtual 239, 3) := by decide +kernel
theorem dX6_cup_4 : decode cX6_cup 4 = .ok (.iload_n 1, 1) := by decide +kernel
theorem dX6_cup_5 : decode cX6_cup 5 = .ok (.invokestatic 190, 3) := by decide +kernel
theorem dX6_cup_8 : decode cX6_cup 8 = .ok (.ifCond .eq 24, 3) := by decide +kernel
theorem dX6_cup_11 : decode cX6_cup 11 = .ok (.iload_n 2, 1) := by decide +kernel
theorem dX6_cup_12 : decode cX6_cup 12 = .ok (.i2l, 1) := by decide +kernel
theorem dX6_cup_13 : decode cX6_cup 13 = .ok (.lconst 0, 1) := by decide +kernel
theorem dX6_cup_14 : decode cX6_cup 14 = .ok (.ldc2_w 101, 3) := by decide +kernel
theorem dX6_cup_17 : decode cX6_cup 17 = .ok (.invokestatic 88, 3) := by decide +kernel
theorem dX6_cup_20 : decode cX6_cup 20 = .ok (.ifCond .eq 12, 3) := by decide +kernel
theorem dX6_cup_23 : decode cX6_cup 23 = .ok (.aload_n 0, 1) := by decide +kernel
theorem dX6_cup_24 : decode cX6_cup 24 = .ok (.iload_n 1, 1) := by decide +kernel
theorem dX6_cup_25 : decode cX6_cup 25 = .ok (.iload_n 2, 1) := by decide +kernel
theorem dX6_cup_26 : decode cX6_cup 26 = .ok (.invokevirtual 242, 3) := by decide +kernel
theorem dX6_cup_29 : decode cX6_cup 29 = .ok (.goto 5, 3) := by decide +kernel
theorem dX6_cup_32 : decode cX6_cup 32 = .ok (.bipush (-2), 2) := by decide +kernel
theorem dX6_cup_34 : decode cX6_cup 34 = .ok (.ireturn, 1) := by decide +kernel
theorem dX6_atBy_0 : decode cX6_atBy 0 = .ok (.iload_n 3, 1) := by decide +kernel
theorem dX6_atBy_1 : decode cX6_atBy 1 = .ok (.ifCond .ne 17, 3) := by decide +kernel
theorem dX6_atBy_4 : decode cX6_atBy 4 = .ok (.aload_n 0, 1) := by decide +kernel
theorem dX6_atBy_5 : decode cX6_atBy 5 = .ok (.getfield 70, 3) := by decide +kernel
theorem dX6_atBy_8 : decode cX6_atBy 8 = .ok (.bipush 12, 2) := by decide +kernel
theorem dX6_atBy_10 : decode cX6_atBy 10 = .ok (.iload_n 1, 1) := by decide +kernel
theorem dX6_atBy_11 : decode cX6_atBy 11 = .ok (.imul, 1) := by decide +kernel
theorem dX6_atBy_12 : decode cX6_atBy 12 = .ok (.iload_n 2, 1) := by decide +kernel
theorem dX6_atBy_13 : decode cX6_atBy 13 = .ok (.iadd, 1) := by decide +kernel
theorem dX6_atBy_14 : decode cX6_atBy 14 = .ok (.iaload, 1) := by decide +kernel
theorem dX6_atBy_15 : decode cX6_atBy 15 = .ok (.goto 14, 3) := by decide +kernel
theorem dX6_atBy_18 : decode cX6_atBy 18 = .ok (.aload_n 0, 1) := by decide +kernel
theorem dX6_atBy_19 : decode cX6_atBy 19 = .ok (.getfield 73, 3) := by decide +kernel
theorem dX6_atBy_22 : decode cX6_atBy 22 = .ok (.bipush 12, 2) := by decide +kernel
theorem dX6_atBy_24 : decode cX6_atBy 24 = .ok (.iload_n 1, 1) := by decide +kernel
theorem dX6_atBy_25 : decode cX6_atBy 25 = .ok (.imul, 1) := by decide +kernel
theorem dX6_atBy_26 : decode cX6_atBy 26 = .ok (.iload_n 2, 1) := by decide +kernel
theorem dX6_atBy_27 : decode cX6_atBy 27 = .ok (.iadd, 1) := by decide +kernel
theorem dX6_atBy_28 : decode cX6_atBy 28 = .ok (.iaload, 1) := by decide +kernel
theorem dX6_atBy_29 : decode cX6_atBy 29 = .ok (.ireturn, 1) := by decide +kernel
theorem dX6_at_0 : decode cX6_at 0 = .ok (.aload_n 0, 1) := by decide +kernel
theorem dX6_at_1 : decode cX6_at 1 = .ok (.invokevirtual 239, 3) := by decide +kernel
theorem dX6_at_4 : decode cX6_at 4 = .ok (.iload_n 1, 1) := by decide +kernel
theorem dX6_at_5 : decode cX6_at 5 = .ok (.invokestatic 177, 3) := by decide +kernel
theorem dX6_at_8 : decode cX6_at 8 = .ok (.ifCond .eq 28, 3) := by decide +kernel
theorem dX6_at_11 : decode cX6_at 11 = .ok (.aload_n 0, 1) := by decide +kernel
theorem dX6_at_12 : decode cX6_at 12 = .ok (.iload_n 2, 1) := by decide +kernel
theorem dX6_at_13 : decode cX6_at 13 = .ok (.invokevirtual 169, 3) := by decide +kernel
theorem dX6_at_16 : decode cX6_at 16 = .ok (.ifCond .eq 20, 3) := by decide +kernel
theorem dX6_at_19 : decode cX6_at 19 = .ok (.iload_n 3, 1) := by decide +kernel
theorem dX6_at_20 : decode cX6_at 20 = .ok (.invokestatic 172, 3) := by decide +kernel
theorem dX6_at_23 : decode cX6_at 23 = .ok (.ifCond .eq 13, 3) := by decide +kernel
theorem dX6_at_26 : decode cX6_at 26 = .ok (.aload_n 0, 1) := by decide +kernel
theorem dX6_at_27 : decode cX6_at 27 = .ok (.iload_n 1, 1) := by decide +kernel
theorem dX6_at_28 : decode cX6_at 28 = .ok (.iload_n 2, 1) := by decide +kernel
theorem dX6_at_29 : decode cX6_at 29 = .ok (.iload_n 3, 1) := by decide +kernel
theorem dX6_at_30 : decode cX6_at 30 = .ok (.invokevirtual 245, 3) := by decide +kernel
theorem dX6_at_33 : decode cX6_at 33 = .ok (.goto 5, 3) := by decide +kernel
theorem dX6_at_36 : decode cX6_at 36 = .ok (.bipush (-2), 2) := by decide +kernel
theorem dX6_at_38 : decode cX6_at 38 = .ok (.ireturn, 1) := by decide +kernel
theorem dX6_seesBy_0 : decode cX6_seesBy 0 = .ok (.iconst (-1), 1) := by decide +kernel
theorem dX6_seesBy_1 : decode cX6_seesBy 1 = .ok (.istore 4, 2) := by decide +kernel
theorem dX6_seesBy_3 : decode cX6_seesBy 3 = .ok (.iconst 0, 1) := by decide +kernel
theorem dX6_seesBy_4 : decode cX6_seesBy 4 = .ok (.istore 5, 2) := by decide +kernel
theorem dX6_seesBy_6 : decode cX6_seesBy 6 = .ok (.iload 5, 2) := by decide +kernel
theorem dX6_seesBy_8 : decode cX6_seesBy 8 = .ok (.aload_n 0, 1) := by decide +kernel
theorem dX6_seesBy_9 : decode cX6_seesBy 9 = .ok (.getfield 143, 3) := by decide +kernel
theorem dX6_seesBy_12 : decode cX6_seesBy 12 = .ok (.if_icmp .ge 50, 3) := by decide +kernel
theorem dX6_seesBy_15 : decode cX6_seesBy 15 = .ok (.aload_n 0, 1) := by decide +kernel
theorem dX6_seesBy_16 : decode cX6_seesBy 16 = .ok (.getfield 70, 3) := by decide +kernel
theorem dX6_seesBy_19 : decode cX6_seesBy 19 = .ok (.bipush 12, 2) := by decide +kernel
theorem dX6_seesBy_21 : decode cX6_seesBy 21 = .ok (.iload_n 1, 1) := by decide +kernel
theorem dX6_seesBy_22 : decode cX6_seesBy 22 = .ok (.imul, 1) := by decide +kernel
theorem dX6_seesBy_23 : decode cX6_seesBy 23 = .ok (.iload 5, 2) := by decide +kernel
theorem dX6_seesBy_25 : decode cX6_seesBy 25 = .ok (.iadd, 1) := by decide +kernel
theorem dX6_seesBy_26 : decode cX6_seesBy 26 = .ok (.iaload, 1) := by decide +kernel
theorem dX6_seesBy_27 : decode cX6_seesBy 27 = .ok (.iload_n 2, 1) := by decide +kernel
theorem dX6_seesBy_28 : decode cX6_seesBy 28 = .ok (.if_icmp .ne 24, 3) := by decide +kernel
theorem dX6_seesBy_31 : decode cX6_seesBy 31 = .ok (.aload_n 0, 1) := by decide +kernel
theorem dX6_seesBy_32 : decode cX6_seesBy 32 = .ok (.getfield 73, 3) := by decide +kernel
theorem dX6_seesBy_35 : decode cX6_seesBy 35 = .ok (.bipush 12, 2) := by decide +kernel
theorem dX6_seesBy_37 : decode cX6_seesBy 37 = .ok (.iload_n 1, 1) := by decide +kernel
theorem dX6_seesBy_38 : decode cX6_seesBy 38 = .ok (.imul, 1) := by decide +kernel
theorem dX6_seesBy_39 : decode cX6_seesBy 39 = .ok (.iload 5, 2) := by decide +kernel
theorem dX6_seesBy_41 : decode cX6_seesBy 41 = .ok (.iadd, 1) := by decide +kernel
theorem dX6_seesBy_42 : decode cX6_seesBy 42 = .ok (.iaload, 1) := by decide +kernel
theorem dX6_seesBy_43 : decode cX6_seesBy 43 = .ok (.iload_n 3, 1) := by decide +kernel
theorem dX6_seesBy_44 : decode cX6_seesBy 44 = .ok (.if_icmp .ne 8, 3) := by decide +kernel
theorem dX6_seesBy_47 : decode cX6_seesBy 47 = .ok (.iload 5, 2) := by decide +kernel
theorem dX6_seesBy_49 : decode cX6_seesBy 49 = .ok (.goto 5, 3) := by decide +kernel
theorem dX6_seesBy_52 : decode cX6_seesBy 52 = .ok (.iload 4, 2) := by decide +kernel
theorem dX6_seesBy_54 : decode cX6_seesBy 54 = .ok (.istore 4, 2) := by decide +kernel
theorem dX6_seesBy_56 : decode cX6_seesBy 56 = .ok (.iinc 5 1, 3) := by decide +kernel
theorem dX6_seesBy_59 : decode cX6_seesBy 59 = .ok (.goto (-53), 3) := by decide +kernel
theorem dX6_seesBy_62 : decode cX6_seesBy 62 = .ok (.iload 4, 2) := by decide +kernel
theorem dX6_seesBy_64 : decode cX6_seesBy 64 = .ok (.ireturn, 1) := by decide +kernel
theorem dX6_sees_0 : decode cX6_sees 0 = .ok (.aload_n 0, 1) := by decide +kernel
theorem dX6_sees_1 : decode cX6_sees 1 = .ok (.invokevirtual 239, 3) := by decide +kernel
theorem dX6_sees_4 : decode cX6_sees 4 = .ok (.iload_n 1, 1) := by decide +kernel
theorem dX6_sees_5 : decode cX6_sees 5 = .ok (.invokestatic 177, 3) := by decide +kernel
theorem dX6_sees_8 : decode cX6_sees 8 = .ok (.ifCond .eq 32, 3) := by decide +kernel
theorem dX6_sees_11 : decode cX6_sees 11 = .ok (.iload_n 2, 1) := by decide +kernel
theorem dX6_sees_12 : decode cX6_sees 12 = .ok (.i2l, 1) := by decide +kernel
theorem dX6_sees_13 : decode cX6_sees 13 = .ok (.lconst 0, 1) := by decide +kernel
theorem dX6_sees_14 : decode cX6_sees 14 = .ok (.ldc2_w 248, 3) := by decide +kernel
theorem dX6_sees_17 : decode cX6_sees 17 = .ok (.invokestatic 88, 3) := by decide +kernel
theorem dX6_sees_20 : decode cX6_sees 20 = .ok (.ifCond .eq 20, 3) := by decide +kernel
theorem dX6_sees_23 : decode cX6_sees 23 = .ok (.iload_n 3, 1) := by decide +kernel
theorem dX6_sees_24 : decode cX6_sees 24 = .ok (.invokestatic 190, 3) := by decide +kernel
theorem dX6_sees_27 : decode cX6_sees 27 = .ok (.ifCond .eq 13, 3) := by decide +kernel
theorem dX6_sees_30 : decode cX6_sees 30 = .ok (.aload_n 0, 1) := by decide +kernel
theorem dX6_sees_31 : decode cX6_sees 31 = .ok (.iload_n 1, 1) := by decide +kernel
theorem dX6_sees_32 : decode cX6_sees 32 = .ok (.iload_n 2, 1) := by decide +kernel
theorem dX6_sees_33 : decode cX6_sees 33 = .ok (.iload_n 3, 1) := by decide +kernel
theorem dX6_sees_34 : decode cX6_sees 34 = .ok (.invokevirtual 250, 3) := by decide +kernel
theorem dX6_sees_37 : decode cX6_sees 37 = .ok (.goto 5, 3) := by decide +kernel
theorem dX6_sees_40 : decode cX6_sees 40 = .ok (.bipush (-2), 2) := by decide +kernel
theorem dX6_sees_42 : decode cX6_sees 42 = .ok (.ireturn, 1) := by decide +kernel
theorem dX6_endsBy_0 : decode cX6_endsBy 0 = .ok (.iload_n 2, 1) := by decide +kernel
theorem dX6_endsBy_1 : decode cX6_endsBy 1 = .ok (.ifCond .ne 12, 3) := by decide +kernel
theorem dX6_endsBy_4 : decode cX6_endsBy 4 = .ok (.aload_n 0, 1) := by decide +kernel
theorem dX6_endsBy_5 : decode cX6_endsBy 5 = .ok (.getfield 46, 3) := by decide +kernel
theorem dX6_endsBy_8 : decode cX6_endsBy 8 = .ok (.iload_n 1, 1) := by decide +kernel
theorem dX6_endsBy_9 : decode cX6_endsBy 9 = .ok (.iaload, 1) := by decide +kernel
theorem dX6_endsBy_10 : decode cX6_endsBy 10 = .ok (.goto 23, 3) := by decide +kernel
theorem dX6_endsBy_13 : decode cX6_endsBy 13 = .ok (.iload_n 2, 1) := by decide +kernel
theorem dX6_endsBy_14 : decode cX6_endsBy 14 = .ok (.iconst 1, 1) := by decide +kernel
theorem dX6_endsBy_15 : decode cX6_endsBy 15 = .ok (.if_icmp .ne 12, 3) := by decide +kernel
theorem dX6_endsBy_18 : decode cX6_endsBy 18 = .ok (.aload_n 0, 1) := by decide +kernel
theorem dX6_endsBy_19 : decode cX6_endsBy 19 = .ok (.getfield 49, 3) := by decide +kernel
theorem dX6_endsBy_22 : decode cX6_endsBy 22 = .ok (.iload_n 1, 1) := by decide +kernel
theorem dX6_endsBy_23 : decode cX6_endsBy 23 = .ok (.iaload, 1) := by decide +kernel
theorem dX6_endsBy_24 : decode cX6_endsBy 24 = .ok (.goto 9, 3) := by decide +kernel
theorem dX6_endsBy_27 : decode cX6_endsBy 27 = .ok (.aload_n 0, 1) := by decide +kernel
theorem dX6_endsBy_28 : decode cX6_endsBy 28 = .ok (.getfield 52, 3) := by decide +kernel
theorem dX6_endsBy_31 : decode cX6_endsBy 31 = .ok (.iload_n 1, 1) := by decide +kernel
theorem dX6_endsBy_32 : decode cX6_endsBy 32 = .ok (.iaload, 1) := by decide +kernel
theorem dX6_endsBy_33 : decode cX6_endsBy 33 = .ok (.ireturn, 1) := by decide +kernel
theorem dX6_ends_0 : decode cX6_ends 0 = .ok (.aload_n 0, 1) := by decide +kernel
theorem dX6_ends_1 : decode cX6_ends 1 = .ok (.invokevirtual 239, 3) := by decide +kernel
theorem dX6_ends_4 : decode cX6_ends 4 = .ok (.aload_n 0, 1) := by decide +kernel
theorem dX6_ends_5 : decode cX6_ends 5 = .ok (.iload_n 1, 1) := by decide +kernel
theorem dX6_ends_6 : decode cX6_ends 6 = .ok (.invokevirtual 169, 3) := by decide +kernel
theorem dX6_ends_9 : decode cX6_ends 9 = .ok (.ifCond .eq 24, 3) := by decide +kernel
theorem dX6_ends_12 : decode cX6_ends 12 = .ok (.iload_n 2, 1) := by decide +kernel
theorem dX6_ends_13 : decode cX6_ends 13 = .ok (.i2l, 1) := by decide +kernel
theorem dX6_ends_14 : decode cX6_ends 14 = .ok (.lconst 0, 1) := by decide +kernel
theorem dX6_ends_15 : decode cX6_ends 15 = .ok (.ldc2_w 101, 3) := by decide +kernel
theorem dX6_ends_18 : decode cX6_ends 18 = .ok (.invokestatic 88, 3) := by decide +kernel
theorem dX6_ends_21 : decode cX6_ends 21 = .ok (.ifCond .eq 12, 3) := by decide +kernel
theorem dX6_ends_24 : decode cX6_ends 24 = .ok (.aload_n 0, 1) := by decide +kernel
theorem dX6_ends_25 : decode cX6_ends 25 = .ok (.iload_n 1, 1) := by decide +kernel
theorem dX6_ends_26 : decode cX6_ends 26 = .ok (.iload_n 2, 1) := by decide +kernel
theorem dX6_ends_27 : decode cX6_ends 27 = .ok (.invokevirtual 253, 3) := by decide +kernel
theorem dX6_ends_30 : decode cX6_ends 30 = .ok (.goto 5, 3) := by decide +kernel
theorem dX6_ends_33 : decode cX6_ends 33 = .ok (.bipush (-2), 2) := by decide +kernel
theorem dX6_ends_35 : decode cX6_ends 35 = .ok (.ireturn, 1) := by decide +kernel
theorem dX6_score_0 : decode cX6_score 0 = .ok (.iconst 0, 1) := by decide +kernel
theorem dX6_score_1 : decode cX6_score 1 = .ok (.istore_n 1, 1) := by decide +kernel
theorem dX6_score_2 : decode cX6_score 2 = .ok (.iconst 0, 1) := by decide +kernel
theorem dX6_score_3 : decode cX6_score 3 = .ok (.istore_n 2, 1) := by decide +kernel
theorem dX6_score_4 : decode cX6_score 4 = .ok (.iload_n 2, 1) := by decide +kernel
theorem dX6_score_5 : decode cX6_score 5 = .ok (.aload_n 0, 1) := by decide +kernel
theorem dX6_score_6 : decode cX6_score 6 = .ok (.getfield 143, 3) := by decide +kernel
theorem dX6_score_9 : decode cX6_score 9 = .ok (.if_icmp .ge 18, 3) := by decide +kernel
theorem dX6_score_12 : decode cX6_score 12 = .ok (.iload_n 1, 1) := by decide +kernel
theorem dX6_score_13 : decode cX6_score 13 = .ok (.aload_n 0, 1) := by decide +kernel
theorem dX6_score_14 : decode cX6_score 14 = .ok (.getfield 46, 3) := by decide +kernel
theorem dX6_score_17 : decode cX6_score 17 = .ok (.iload_n 2, 1) := by decide +kernel
theorem dX6_score_18 : decode cX6_score 18 = .ok (.iaload, 1) := by decide +kernel
theorem dX6_score_19 : decode cX6_score 19 = .ok (.iadd, 1) := by decide +kernel
theorem dX6_score_20 : decode cX6_score 20 = .ok (.istore_n 1, 1) := by decide +kernel
theorem dX6_score_21 : decode cX6_score 21 = .ok (.iinc 2 1, 3) := by decide +kernel
theorem dX6_score_24 : decode cX6_score 24 = .ok (.goto (-20), 3) := by decide +kernel
theorem dX6_score_27 : decode cX6_score 27 = .ok (.iload_n 1, 1) := by decide +kernel
theorem dX6_score_28 : decode cX6_score 28 = .ok (.ireturn, 1) := by decide +kernel
theorem dX6_manyIn_0 : decode cX6_manyIn 0 = .ok (.iconst 0, 1) := by decide +kernel
theorem dX6_manyIn_1 : decode cX6_manyIn 1 = .ok (.istore_n 2, 1) := by decide +kernel
theorem dX6_manyIn_2 : decode cX6_manyIn 2 = .ok (.iconst 0, 1) := by decide +kernel
theorem dX6_manyIn_3 : decode cX6_manyIn 3 = .ok (.istore_n 3, 1) := by decide +kernel
theorem dX6_manyIn_4 : decode cX6_manyIn 4 = .ok (.iload_n 3, 1) := by decide +kernel
theorem dX6_manyIn_5 : decode cX6_manyIn 5 = .ok (.aload_n 0, 1) := by decide +kernel
theorem dX6_manyIn_6 : decode cX6_manyIn 6 = .ok (.getfield 143, 3) := by decide +kernel
theorem dX6_manyIn_9 : decode cX6_manyIn 9 = .ok (.if_icmp .ge 27, 3) := by decide +kernel
theorem dX6_manyIn_12 : decode cX6_manyIn 12 = .ok (.iload_n 2, 1) := by decide +kernel
theorem dX6_manyIn_13 : decode cX6_manyIn 13 = .ok (.aload_n 0, 1) := by decide +kernel
theorem dX6_manyIn_14 : decode cX6_manyIn 14 = .ok (.getfield 40, 3) := by decide +kernel
theorem dX6_manyIn_17 : decode cX6_manyIn 17 = .ok (.iload_n 3, 1) := by decide +kernel
theorem dX6_manyIn_18 : decode cX6_manyIn 18 = .ok (.iaload, 1) := by decide +kernel
theorem dX6_manyIn_19 : decode cX6_manyIn 19 = .ok (.iload_n 1, 1) := by decide +kernel
theorem dX6_manyIn_20 : decode cX6_manyIn 20 = .ok (.if_icmp .ne 7, 3) := by decide +kernel
theorem dX6_manyIn_23 : decode cX6_manyIn 23 = .ok (.iconst 1, 1) := by decide +kernel
theorem dX6_manyIn_24 : decode cX6_manyIn 24 = .ok (.goto 4, 3) := by decide +kernel
theorem dX6_manyIn_27 : decode cX6_manyIn 27 = .ok (.iconst 0, 1) := by decide +kernel
theorem dX6_manyIn_28 : decode cX6_manyIn 28 = .ok (.iadd, 1) := by decide +kernel
theorem dX6_manyIn_29 : decode cX6_manyIn 29 = .ok (.istore_n 2, 1) := by decide +kernel
theorem dX6_manyIn_30 : decode cX6_manyIn 30 = .ok (.iinc 3 1, 3) := by decide +kernel
theorem dX6_manyIn_33 : decode cX6_manyIn 33 = .ok (.goto (-29), 3) := by decide +kernel
theorem dX6_manyIn_36 : decode cX6_manyIn 36 = .ok (.iload_n 2, 1) := by decide +kernel
theorem dX6_manyIn_37 : decode cX6_manyIn 37 = .ok (.ireturn, 1) := by decide +kernel
theorem dX6_sumBy_0 : decode cX6_sumBy 0 = .ok (.iload_n 1, 1) := by decide +kernel
theorem dX6_sumBy_1 : decode cX6_sumBy 1 = .ok (.ifCond .ne 10, 3) := by decide +kernel
theorem dX6_sumBy_4 : decode cX6_sumBy 4 = .ok (.aload_n 0, 1) := by decide +kernel
theorem dX6_sumBy_5 : decode cX6_sumBy 5 = .ok (.invokevirtual 256, 3) := by decide +kernel
theorem dX6_sumBy_8 : decode cX6_sumBy 8 = .ok (.goto 21, 3) := by decide +kernel
theorem dX6_sumBy_11 : decode cX6_sumBy 11 = .ok (.iload_n 1, 1) := by decide +kernel
theorem dX6_sumBy_12 : decode cX6_sumBy 12 = .ok (.iconst 1, 1) := by decide +kernel
theorem dX6_sumBy_13 : decode cX6_sumBy 13 = .ok (.if_icmp .ne 10, 3) := by decide +kernel
theorem dX6_sumBy_16 : decode cX6_sumBy 16 = .ok (.aload_n 0, 1) := by decide +kernel
theorem dX6_sumBy_17 : decode cX6_sumBy 17 = .ok (.getfield 219, 3) := by decide +kernel
theorem dX6_sumBy_20 : decode cX6_sumBy 20 = .ok (.goto 9, 3) := by decide +kernel
theorem dX6_sumBy_23 : decode cX6_sumBy 23 = .ok (.aload_n 0, 1) := by decide +kernel
theorem dX6_sumBy_24 : decode cX6_sumBy 24 = .ok (.bipush 9, 2) := by decide +kernel
theorem dX6_sumBy_26 : decode cX6_sumBy 26 = .ok (.invokevirtual 259, 3) := by decide +kernel
theorem dX6_sumBy_29 : decode cX6_sumBy 29 = .ok (.ireturn, 1) := by decide +kernel
theorem dX6_sum_0 : decode cX6_sum 0 = .ok (.aload_n 0, 1) := by decide +kernel
theorem dX6_sum_1 : decode cX6_sum 1 = .ok (.invokevirtual 239, 3) := by decide +kernel
theorem dX6_sum_4 : decode cX6_sum 4 = .ok (.iload_n 1, 1) := by decide +kernel
theorem dX6_sum_5 : decode cX6_sum 5 = .ok (.i2l, 1) := by decide +kernel
theorem dX6_sum_6 : decode cX6_sum 6 = .ok (.lconst 0, 1) := by decide +kernel
theorem dX6_sum_7 : decode cX6_sum 7 = .ok (.ldc2_w 101, 3) := by decide +kernel
theorem dX6_sum_10 : decode cX6_sum 10 = .ok (.invokestatic 88, 3) := by decide +kernel
theorem dX6_sum_13 : decode cX6_sum 13 = .ok (.ifCond .eq 11, 3) := by decide +kernel
theorem dX6_sum_16 : decode cX6_sum 16 = .ok (.aload_n 0, 1) := by decide +kernel
theorem dX6_sum_17 : decode cX6_sum 17 = .ok (.iload_n 1, 1) := by decide +kernel
theorem dX6_sum_18 : decode cX6_sum 18 = .ok (.invokevirtual 262, 3) := by decide +kernel
theorem dX6_sum_21 : decode cX6_sum 21 = .ok (.goto 5, 3) := by decide +kernel
theorem dX6_sum_24 : decode cX6_sum 24 = .ok (.bipush (-2), 2) := by decide +kernel
theorem dX6_sum_26 : decode cX6_sum 26 = .ok (.ireturn, 1) := by decide +kernel
theorem dX6_lateNow_0 : decode cX6_lateNow 0 = .ok (.iconst 0, 1) := by decide +kernel
theorem dX6_lateNow_1 : decode cX6_lateNow 1 = .ok (.istore_n 1, 1) := by decide +kernel
theorem dX6_lateNow_2 : decode cX6_lateNow 2 = .ok (.iconst 0, 1) := by decide +kernel
theorem dX6_lateNow_3 : decode cX6_lateNow 3 = .ok (.istore_n 2, 1) := by decide +kernel
theorem dX6_lateNow_4 : decode cX6_lateNow 4 = .ok (.iload_n 2, 1) := by decide +kernel
theorem dX6_lateNow_5 : decode cX6_lateNow 5 = .ok (.aload_n 0, 1) := by decide +kernel
theorem dX6_lateNow_6 : decode cX6_lateNow 6 = .ok (.getfield 143, 3) := by decide +kernel
theorem dX6_lateNow_9 : decode cX6_lateNow 9 = .ok (.if_icmp .ge 29, 3) := by decide +kernel
theorem dX6_lateNow_12 : decode cX6_lateNow 12 = .ok (.iload_n 1, 1) := by decide +kernel
theorem dX6_lateNow_13 : decode cX6_lateNow 13 = .ok (.aload_n 0, 1) := by decide +kernel
theorem dX6_lateNow_14 : decode cX6_lateNow 14 = .ok (.getfield 49, 3) := by decide +kernel
theorem dX6_lateNow_17 : decode cX6_lateNow 17 = .ok (.iload_n 2, 1) := by decide +kernel
theorem dX6_lateNow_18 : decode cX6_lateNow 18 = .ok (.iaload, 1) := by decide +kernel
theorem dX6_lateNow_19 : decode cX6_lateNow 19 = .ok (.iconst (-1), 1) := by decide +kernel
theorem dX6_lateNow_20 : decode cX6_lateNow 20 = .ok (.if_icmp .ne 9, 3) := by decide +kernel
theorem dX6_lateNow_23 : decode cX6_lateNow 23 = .ok (.iconst 1, 1) := by decide +kernel
theorem dX6_lateNow_24 : decode cX6_lateNow 24 = .ok (.iload_n 2, 1) := by decide +kernel
theorem dX6_lateNow_25 : decode cX6_lateNow 25 = .ok (.ishl, 1) := by decide +kernel
theorem dX6_lateNow_26 : decode cX6_lateNow 26 = .ok (.goto 4, 3) := by decide +kernel
theorem dX6_lateNow_29 : decode cX6_lateNow 29 = .ok (.iconst 0, 1) := by decide +kernel
theorem dX6_lateNow_30 : decode cX6_lateNow 30 = .ok (.ior, 1) := by decide +kernel
theorem dX6_lateNow_31 : decode cX6_lateNow 31 = .ok (.istore_n 1, 1) := by decide +kernel
theorem dX6_lateNow_32 : decode cX6_lateNow 32 = .ok (.iinc 2 1, 3) := by decide +kernel
theorem dX6_lateNow_35 : decode cX6_lateNow 35 = .ok (.goto (-31), 3) := by decide +kernel
theorem dX6_lateNow_38 : decode cX6_lateNow 38 = .ok (.iload_n 1, 1) := by decide +kernel
theorem dX6_lateNow_39 : decode cX6_lateNow 39 = .ok (.ireturn, 1) := by decide +kernel
theorem dX6_late_0 : decode cX6_late 0 = .ok (.aload_n 0, 1) := by decide +kernel
theorem dX6_late_1 : decode cX6_late 1 = .ok (.invokevirtual 239, 3) := by decide +kernel
theorem dX6_late_4 : decode cX6_late 4 = .ok (.aload_n 0, 1) := by decide +kernel
theorem dX6_late_5 : decode cX6_late 5 = .ok (.invokevirtual 265, 3) := by decide +kernel
theorem dX6_late_8 : decode cX6_late 8 = .ok (.ireturn, 1) := by decide +kernel
theorem dX6_bestNow_0 : decode cX6_bestNow 0 = .ok (.iconst (-1), 1) := by decide +kernel
theorem dX6_bestNow_1 : decode cX6_bestNow 1 = .ok (.istore_n 1, 1) := by decide +kernel
theorem dX6_bestNow_2 : decode cX6_bestNow 2 = .ok (.iconst 0, 1) := by decide +kernel
theorem dX6_bestNow_3 : decode cX6_bestNow 3 = .ok (.istore_n 2, 1) := by decide +kernel
theorem dX6_bestNow_4 : decode cX6_bestNow 4 = .ok (.iconst 0, 1) := by decide +kernel
theorem dX6_bestNow_5 : decode cX6_bestNow 5 = .ok (.istore_n 3, 1) := by decide +kernel
theorem dX6_bestNow_6 : decode cX6_bestNow 6 = .ok (.iload_n 3, 1) := by decide +kernel
theorem dX6_bestNow_7 : decode cX6_bestNow 7 = .ok (.aload_n 0, 1) := by decide +kernel
theorem dX6_bestNow_8 : decode cX6_bestNow 8 = .ok (.getfield 143, 3) := by decide +kernel
theorem dX6_bestNow_11 : decode cX6_bestNow 11 = .ok (.if_icmp .ge 36, 3) := by decide +kernel
theorem dX6_bestNow_14 : decode cX6_bestNow 14 = .ok (.aload_n 0, 1) := by decide +kernel
theorem dX6_bestNow_15 : decode cX6_bestNow 15 = .ok (.getfield 46, 3) := by decide +kernel
theorem dX6_bestNow_18 : decode cX6_bestNow 18 = .ok (.iload_n 3, 1) := by decide +kernel
theorem dX6_bestNow_19 : decode cX6_bestNow 19 = .ok (.iaload, 1) := by decide +kernel
theorem dX6_bestNow_20 : decode cX6_bestNow 20 = .ok (.iload_n 2, 1) := by decide +kernel
theorem dX6_bestNow_21 : decode cX6_bestNow 21 = .ok (.if_icmp .le 7, 3) := by decide +kernel
theorem dX6_bestNow_24 : decode cX6_bestNow 24 = .ok (.iload_n 3, 1) := by decide +kernel
theorem dX6_bestNow_25 : decode cX6_bestNow 25 = .ok (.goto 4, 3) := by decide +kernel
theorem dX6_bestNow_28 : decode cX6_bestNow 28 = .ok (.iload_n 1, 1) := by decide +kernel
theorem dX6_bestNow_29 : decode cX6_bestNow 29 = .ok (.istore_n 1, 1) := by decide +kernel
theorem dX6_bestNow_30 : decode cX6_bestNow 30 = .ok (.aload_n 0, 1) := by decide +kernel
theorem dX6_bestNow_31 : decode cX6_bestNow 31 = .ok (.getfield 46, 3) := by decide +kernel
theorem dX6_bestNow_34 : decode cX6_bestNow 34 = .ok (.iload_n 3, 1) := by decide +kernel
theorem dX6_bestNow_35 : decode cX6_bestNow 35 = .ok (.iaload, 1) := by decide +kernel
theorem dX6_bestNow_36 : decode cX6_bestNow 36 = .ok (.iload_n 2, 1) := by decide +kernel
theorem dX6_bestNow_37 : decode cX6_bestNow 37 = .ok (.invokestatic 268, 3) := by decide +kernel
theorem dX6_bestNow_40 : decode cX6_bestNow 40 = .ok (.istore_n 2, 1) := by decide +kernel
theorem dX6_bestNow_41 : decode cX6_bestNow 41 = .ok (.iinc 3 1, 3) := by decide +kernel
theorem dX6_bestNow_44 : decode cX6_bestNow 44 = .ok (.goto (-38), 3) := by decide +kernel
theorem dX6_bestNow_47 : decode cX6_bestNow 47 = .ok (.iload_n 1, 1) := by decide +kernel
theorem dX6_bestNow_48 : decode cX6_bestNow 48 = .ok (.ireturn, 1) := by decide +kernel
theorem dX6_best_0 : decode cX6_best 0 = .ok (.aload_n 0, 1) := by decide +kernel
theorem dX6_best_1 : decode cX6_best 1 = .ok (.invokevirtual 239, 3) := by decide +kernel
theorem dX6_best_4 : decode cX6_best 4 = .ok (.aload_n 0, 1) := by decide +kernel
theorem dX6_best_5 : decode cX6_best 5 = .ok (.invokevirtual 271, 3) := by decide +kernel
theorem dX6_best_8 : decode cX6_best 8 = .ok (.ireturn, 1) := by decide +kernel
theorem dX6_jamBy_0 : decode cX6_jamBy 0 = .ok (.iconst 0, 1) := by decide +kernel
theorem dX6_jamBy_1 : decode cX6_jamBy 1 = .ok (.istore_n 2, 1) := by decide +kernel
theorem dX6_jamBy_2 : decode cX6_jamBy 2 = .ok (.iconst 1, 1) := by decide +kernel
theorem dX6_jamBy_3 : decode cX6_jamBy 3 = .ok (.istore_n 3, 1) := by decide +kernel
theorem dX6_jamBy_4 : decode cX6_jamBy 4 = .ok (.iload_n 3, 1) := by decide +kernel
theorem dX6_jamBy_5 : decode cX6_jamBy 5 = .ok (.bipush 24, 2) := by decide +kernel
theorem dX6_jamBy_7 : decode cX6_jamBy 7 = .ok (.if_icmp .ge 30, 3) := by decide +kernel
theorem dX6_jamBy_10 : decode cX6_jamBy 10 = .ok (.aload_n 0, 1) := by decide +kernel
theorem dX6_jamBy_11 : decode cX6_jamBy 11 = .ok (.getfield 67, 3) := by decide +kernel
theorem dX6_jamBy_14 : decode cX6_jamBy 14 = .ok (.iload_n 3, 1) := by decide +kernel
theorem dX6_jamBy_15 : decode cX6_jamBy 15 = .ok (.iaload, 1) := by decide +kernel
theorem dX6_jamBy_16 : decode cX6_jamBy 16 = .ok (.aload_n 0, 1) := by decide +kernel
theorem dX6_jamBy_17 : decode cX6_jamBy 17 = .ok (.getfield 67, 3) := by decide +kernel
theorem dX6_jamBy_20 : decode cX6_jamBy 20 = .ok (.iload_n 2, 1) := by decide +kernel
theorem dX6_jamBy_21 : decode cX6_jamBy 21 = .ok (.iaload, 1) := by decide +kernel
theorem dX6_jamBy_22 : decode cX6_jamBy 22 = .ok (.if_icmp .le 7, 3) := by decide +kernel
theorem dX6_jamBy_25 : decode cX6_jamBy 25 = .ok (.iload_n 3, 1) := by decide +kernel
theorem dX6_jamBy_26 : decode cX6_jamBy 26 = .ok (.goto 4, 3) := by decide +kernel
theorem dX6_jamBy_29 : decode cX6_jamBy 29 = .ok (.iload_n 2, 1) := by decide +kernel
theorem dX6_jamBy_30 : decode cX6_jamBy 30 = .ok (.istore_n 2, 1) := by decide +kernel
theorem dX6_jamBy_31 : decode cX6_jamBy 31 = .ok (.iinc 3 1, 3) := by decide +kernel
theorem dX6_jamBy_34 : decode cX6_jamBy 34 = .ok (.goto (-30), 3) := by decide +kernel
theorem dX6_jamBy_37 : decode cX6_jamBy 37 = .ok (.iload_n 1, 1) := by decide +kernel
theorem dX6_jamBy_38 : decode cX6_jamBy 38 = .ok (.ifCond .ne 7, 3) := by decide +kernel
theorem dX6_jamBy_41 : decode cX6_jamBy 41 = .ok (.iload_n 2, 1) := by decide +kernel
theorem dX6_jamBy_42 : decode cX6_jamBy 42 = .ok (.goto 9, 3) := by decide +kernel
theorem dX6_jamBy_45 : decode cX6_jamBy 45 = .ok (.aload_n 0, 1) := by decide +kernel
theorem dX6_jamBy_46 : decode cX6_jamBy 46 = .ok (.getfield 67, 3) := by decide +kernel
theorem dX6_jamBy_49 : decode cX6_jamBy 49 = .ok (.iload_n 2, 1) := by decide +kernel
theorem dX6_jamBy_50 : decode cX6_jamBy 50 = .ok (.iaload, 1) := by decide +kernel
theorem dX6_jamBy_51 : decode cX6_jamBy 51 = .ok (.ireturn, 1) := by decide +kernel
theorem dX6_jam_0 : decode cX6_jam 0 = .ok (.aload_n 0, 1) := by decide +kernel
theorem dX6_jam_1 : decode cX6_jam 1 = .ok (.invokevirtual 239, 3) := by decide +kernel
theorem dX6_jam_4 : decode cX6_jam 4 = .ok (.iload_n 1, 1) := by decide +kernel
theorem dX6_jam_5 : decode cX6_jam 5 = .ok (.invokestatic 172, 3) := by decide +kernel
theorem dX6_jam_8 : decode cX6_jam 8 = .ok (.ifCond .eq 11, 3) := by decide +kernel
theorem dX6_jam_11 : decode cX6_jam 11 = .ok (.aload_n 0, 1) := by decide +kernel
theorem dX6_jam_12 : decode cX6_jam 12 = .ok (.iload_n 1, 1) := by decide +kernel
theorem dX6_jam_13 : decode cX6_jam 13 = .ok (.invokevirtual 274, 3) := by decide +kernel
theorem dX6_jam_16 : decode cX6_jam 16 = .ok (.goto 5, 3) := by decide +kernel
theorem dX6_jam_19 : decode cX6_jam 19 = .ok (.bipush (-2), 2) := by decide +kernel
theorem dX6_jam_21 : decode cX6_jam 21 = .ok (.ireturn, 1) := by decide +kernel
theorem dX6_ballBetter_0 : decode cX6_ballBetter 0 = .ok (.aload_n 0, 1) := by decide +kernel
theorem dX6_ballBetter_1 : decode cX6_ballBetter 1 = .ok (.getfield 34, 3) := by decide +kernel
theorem dX6_ballBetter_4 : decode cX6_ballBetter 4 = .ok (.iload_n 1, 1) := by decide +kernel
theorem dX6_ballBetter_5 : decode cX6_ballBetter 5 = .ok (.iaload, 1) := by decide +kernel
theorem dX6_ballBetter_6 : decode cX6_ballBetter 6 = .ok (.istore 5, 2) := by decide +kernel
theorem dX6_ballBetter_8 : decode cX6_ballBetter 8 = .ok (.iconst (-1), 1) := by decide +kernel
theorem dX6_ballBetter_9 : decode cX6_ballBetter 9 = .ok (.istore 6, 2) := by decide +kernel
theorem dX6_ballBetter_11 : decode cX6_ballBetter 11 = .ok (.iconst (-1), 1) := by decide +kernel
theorem dX6_ballBetter_12 : decode cX6_ballBetter 12 = .ok (.istore 7, 2) := by decide +kernel
theorem dX6_ballBetter_14 : decode cX6_ballBetter 14 = .ok (.iload_n 2, 1) := by decide +kernel
theorem dX6_ballBetter_15 : decode cX6_ballBetter 15 = .ok (.istore 8, 2) := by decide +kernel
theorem dX6_ballBetter_17 : decode cX6_ballBetter 17 = .ok (.iload 8, 2) := by decide +kernel
theorem dX6_ballBetter_19 : decode cX6_ballBetter 19 = .ok (.iload_n 3, 1) := by decide +kernel
theorem dX6_ballBetter_20 : decode cX6_ballBetter 20 = .ok (.if_icmp .ge 52, 3) := by decide +kernel
theorem dX6_ballBetter_23 : decode cX6_ballBetter 23 = .ok (.aload_n 0, 1) := by decide +kernel
theorem dX6_ballBetter_24 : decode cX6_ballBetter 24 = .ok (.getfield 34, 3) := by decide +kernel
theorem dX6_ballBetter_27 : decode cX6_ballBetter 27 = .ok (.iload_n 1, 1) := by decide +kernel
theorem dX6_ballBetter_28 : decode cX6_ballBetter 28 = .ok (.iload 8, 2) := by decide +kernel
theorem dX6_ballBetter_30 : decode cX6_ballBetter 30 = .ok (.iastore, 1) := by decide +kernel
theorem dX6_ballBetter_31 : decode cX6_ballBetter 31 = .ok (.aload_n 0, 1) := by decide +kernel
theorem dX6_ballBetter_32 : decode cX6_ballBetter 32 = .ok (.invokevirtual 236, 3) := by decide +kernel
theorem dX6_ballBetter_35 : decode cX6_ballBetter 35 = .ok (.aload_n 0, 1) := by decide +kernel
theorem dX6_ballBetter_36 : decode cX6_ballBetter 36 = .ok (.invokevirtual 256, 3) := by decide +kernel
theorem dX6_ballBetter_39 : decode cX6_ballBetter 39 = .ok (.istore 9, 2) := by decide +kernel
theorem dX6_ballBetter_41 : decode cX6_ballBetter 41 = .ok (.iload 9, 2) := by decide +kernel
theorem dX6_ballBetter_43 : decode cX6_ballBetter 43 = .ok (.iload 7, 2) := by decide +kernel
theorem dX6_ballBetter_45 : decode cX6_ballBetter 45 = .ok (.if_icmp .le 8, 3) := by decide +kernel
theorem dX6_ballBetter_48 : decode cX6_ballBetter 48 = .ok (.iload 8, 2) := by decide +kernel
theorem dX6_ballBetter_50 : decode cX6_ballBetter 50 = .ok (.goto 5, 3) := by decide +kernel
theorem dX6_ballBetter_53 : decode cX6_ballBetter 53 = .ok (.iload 6, 2) := by decide +kernel
theorem dX6_ballBetter_55 : decode cX6_ballBetter 55 = .ok (.istore 6, 2) := by decide +kernel
theorem dX6_ballBetter_57 : decode cX6_ballBetter 57 = .ok (.iload 9, 2) := by decide +kernel
theorem dX6_ballBetter_59 : decode cX6_ballBetter 59 = .ok (.iload 7, 2) := by decide +kernel
theorem dX6_ballBetter_61 : decode cX6_ballBetter 61 = .ok (.invokestatic 268, 3) := by decide +kernel
theorem dX6_ballBetter_64 : decode cX6_ballBetter 64 = .ok (.istore 7, 2) := by decide +kernel
theorem dX6_ballBetter_66 : decode cX6_ballBetter 66 = .ok (.iinc 8 1, 3) := by decide +kernel
theorem dX6_ballBetter_69 : decode cX6_ballBetter 69 = .ok (.goto (-52), 3) := by decide +kernel
theorem dX6_ballBetter_72 : decode cX6_ballBetter 72 = .ok (.aload_n 0, 1) := by decide +kernel
theorem dX6_ballBetter_73 : decode cX6_ballBetter 73 = .ok (.getfield 34, 3) := by decide +kernel
theorem dX6_ballBetter_76 : decode cX6_ballBetter 76 = .ok (.iload_n 1, 1) := by decide +kernel
theorem dX6_ballBetter_77 : decode cX6_ballBetter 77 = .ok (.iload 5, 2) := by decide +kernel
theorem dX6_ballBetter_79 : decode cX6_ballBetter 79 = .ok (.iastore, 1) := by decide +kernel
theorem dX6_ballBetter_80 : decode cX6_ballBetter 80 = .ok (.iload 4, 2) := by decide +kernel
theorem dX6_ballBetter_82 : decode cX6_ballBetter 82 = .ok (.ifCond .ne 8, 3) := by decide +kernel
theorem dX6_ballBetter_85 : decode cX6_ballBetter 85 = .ok (.iload 6, 2) := by decide +kernel
theorem dX6_ballBetter_87 : decode cX6_ballBetter 87 = .ok (.goto 5, 3) := by decide +kernel
theorem dX6_ballBetter_90 : decode cX6_ballBetter 90 = .ok (.iload 7, 2) := by decide +kernel
theorem dX6_ballBetter_92 : decode cX6_ballBetter 92 = .ok (.ireturn, 1) := by decide +kernel
theorem dX6_shoot_0 : decode cX6_shoot 0 = .ok (.aload_n 0, 1) := by decide +kernel
theorem dX6_shoot_1 : decode cX6_shoot 1 = .ok (.invokevirtual 239, 3) := by decide +kernel
theorem dX6_shoot_4 : decode cX6_shoot 4 = .ok (.aload_n 0, 1) := by decide +kernel
theorem dX6_shoot_5 : decode cX6_shoot 5 = .ok (.iload_n 1, 1) := by decide +kernel
theorem dX6_shoot_6 : decode cX6_shoot 6 = .ok (.invokevirtual 169, 3) := by decide +kernel
theorem dX6_shoot_9 : decode cX6_shoot 9 = .ok (.ifCond .eq 26, 3) := by decide +kernel
theorem dX6_shoot_12 : decode cX6_shoot 12 = .ok (.iload_n 2, 1) := by decide +kernel
theorem dX6_shoot_13 : decode cX6_shoot 13 = .ok (.invokestatic 172, 3) := by decide +kernel
theorem dX6_shoot_16 : decode cX6_shoot 16 = .ok (.ifCond .eq 19, 3) := by decide +kernel
theorem dX6_shoot_19 : decode cX6_shoot 19 = .ok (.aload_n 0, 1) := by decide +kernel
theorem dX6_shoot_20 : decode cX6_shoot 20 = .ok (.iconst 2, 1) := by decide +kernel
theorem dX6_shoot_21 : decode cX6_shoot 21 = .ok (.iload_n 1, 1) := by decide +kernel
theorem dX6_shoot_22 : decode cX6_shoot 22 = .ok (.imul, 1) := by decide +kernel
theorem dX6_shoot_23 : decode cX6_shoot 23 = .ok (.iconst 1, 1) := by decide +kernel
theorem dX6_shoot_24 : decode cX6_shoot 24 = .ok (.iadd, 1) := by decide +kernel
theorem dX6_shoot_25 : decode cX6_shoot 25 = .ok (.iconst 1, 1) := by decide +kernel
theorem dX6_shoot_26 : decode cX6_shoot 26 = .ok (.bipush 10, 2) := by decide +kernel
theorem dX6_shoot_28 : decode cX6_shoot 28 = .ok (.iload_n 2, 1) := by decide +kernel
theorem dX6_shoot_29 : decode cX6_shoot 29 = .ok (.invokevirtual 277, 3) := by decide +kernel
theorem dX6_shoot_32 : decode cX6_shoot 32 = .ok (.goto 5, 3) := by decide +kernel
theorem dX6_shoot_35 : decode cX6_shoot 35 = .ok (.bipush (-2), 2) := by decide +kernel
theorem dX6_shoot_37 : decode cX6_shoot 37 = .ok (.ireturn, 1) := by decide +kernel
theorem dX6_time_0 : decode cX6_time 0 = .ok (.aload_n 0, 1) := by decide +kernel
theorem dX6_time_1 : decode cX6_time 1 = .ok (.invokevirtual 239, 3) := by decide +kernel
theorem dX6_time_4 : decode cX6_time 4 = .ok (.aload_n 0, 1) := by decide +kernel
theorem dX6_time_5 : decode cX6_time 5 = .ok (.iload_n 1, 1) := by decide +kernel
theorem dX6_time_6 : decode cX6_time 6 = .ok (.invokevirtual 169, 3) := by decide +kernel
theorem dX6_time_9 : decode cX6_time 9 = .ok (.ifCond .eq 24, 3) := by decide +kernel
theorem dX6_time_12 : decode cX6_time 12 = .ok (.iload_n 2, 1) := by decide +kernel
theorem dX6_time_13 : decode cX6_time 13 = .ok (.invokestatic 172, 3) := by decide +kernel
theorem dX6_time_16 : decode cX6_time 16 = .ok (.ifCond .eq 17, 3) := by decide +kernel
theorem dX6_time_19 : decode cX6_time 19 = .ok (.aload_n 0, 1) := by decide +kernel
theorem dX6_time_20 : decode cX6_time 20 = .ok (.iconst 2, 1) := by decide +kernel
theorem dX6_time_21 : decode cX6_time 21 = .ok (.iload_n 1, 1) := by decide +kernel
theorem dX6_time_22 : decode cX6_time 22 = .ok (.imul, 1) := by decide +kernel
theorem dX6_time_23 : decode cX6_time 23 = .ok (.iconst 0, 1) := by decide +kernel
theorem dX6_time_24 : decode cX6_time 24 = .ok (.bipush 24, 2) := by decide +kernel
theorem dX6_time_26 : decode cX6_time 26 = .ok (.iload_n 2, 1) := by decide +kernel
theorem dX6_time_27 : decode cX6_time 27 = .ok (.invokevirtual 277, 3) := by decide +kernel
theorem dX6_time_30 : decode cX6_time 30 = .ok (.goto 5, 3) := by decide +kernel
theorem dX6_time_33 : decode cX6_time 33 = .ok (.bipush (-2), 2) := by decide +kernel
theorem dX6_time_35 : decode cX6_time 35 = .ok (.ireturn, 1) := by decide +kernel
theorem dX6_bendOf_0 : decode cX6_bendOf 0 = .ok (.aload_n 0, 1) := by decide +kernel
theorem dX6_bendOf_1 : decode cX6_bendOf 1 = .ok (.getfield 28, 3) := by decide +kernel
theorem dX6_bendOf_4 : decode cX6_bendOf 4 = .ok (.iconst 3, 1) := by decide +kernel
theorem dX6_bendOf_5 : decode cX6_bendOf 5 = .ok (.iload_n 1, 1) := by decide +kernel
theorem dX6_bendOf_6 : decode cX6_bendOf 6 = .ok (.imul, 1) := by decide +kernel
theorem dX6_bendOf_7 : decode cX6_bendOf 7 = .ok (.iconst 2, 1) := by decide +kernel
theorem dX6_bendOf_8 : decode cX6_bendOf 8 = .ok (.iadd, 1) := by decide +kernel
theorem dX6_bendOf_9 : decode cX6_bendOf 9 = .ok (.iaload, 1) := by decide +kernel
theorem dX6_bendOf_10 : decode cX6_bendOf 10 = .ok (.istore_n 3, 1) := by decide +kernel
theorem dX6_bendOf_11 : decode cX6_bendOf 11 = .ok (.iconst (-1), 1) := by decide +kernel
theorem dX6_bendOf_12 : decode cX6_bendOf 12 = .ok (.istore 4, 2) := by decide +kernel
theorem dX6_bendOf_14 : decode cX6_bendOf 14 = .ok (.iconst (-1), 1) := by decide +kernel
theorem dX6_bendOf_15 : decode cX6_bendOf 15 = .ok (.istore 5, 2) := by decide +kernel
theorem dX6_bendOf_17 : decode cX6_bendOf 17 = .ok (.iconst 0, 1) := by decide +kernel
theorem dX6_bendOf_18 : decode cX6_bendOf 18 = .ok (.istore 6, 2) := by decide +kernel
theorem dX6_bendOf_20 : decode cX6_bendOf 20 = .ok (.iload 6, 2) := by decide +kernel
theorem dX6_bendOf_22 : decode cX6_bendOf 22 = .ok (.iconst 4, 1) := by decide +kernel
theorem dX6_bendOf_23 : decode cX6_bendOf 23 = .ok (.if_icmp .ge 56, 3) := by decide +kernel
theorem dX6_bendOf_26 : decode cX6_bendOf 26 = .ok (.aload_n 0, 1) := by decide +kernel
theorem dX6_bendOf_27 : decode cX6_bendOf 27 = .ok (.getfield 28, 3) := by decide +kernel
theorem dX6_bendOf_30 : decode cX6_bendOf 30 = .ok (.iconst 3, 1) := by decide +kernel
theorem dX6_bendOf_31 : decode cX6_bendOf 31 = .ok (.iload_n 1, 1) := by decide +kernel
theorem dX6_bendOf_32 : decode cX6_bendOf 32 = .ok (.imul, 1) := by decide +kernel
theorem dX6_bendOf_33 : decode cX6_bendOf 33 = .ok (.iconst 2, 1) := by decide +kernel
theorem dX6_bendOf_34 : decode cX6_bendOf 34 = .ok (.iadd, 1) := by decide +kernel
theorem dX6_bendOf_35 : decode cX6_bendOf 35 = .ok (.iload 6, 2) := by decide +kernel
theorem dX6_bendOf_37 : decode cX6_bendOf 37 = .ok (.iastore, 1) := by decide +kernel
theorem dX6_bendOf_38 : decode cX6_bendOf 38 = .ok (.aload_n 0, 1) := by decide +kernel
theorem dX6_bendOf_39 : decode cX6_bendOf 39 = .ok (.invokevirtual 236, 3) := by decide +kernel
theorem dX6_bendOf_42 : decode cX6_bendOf 42 = .ok (.aload_n 0, 1) := by decide +kernel
theorem dX6_bendOf_43 : decode cX6_bendOf 43 = .ok (.invokevirtual 256, 3) := by decide +kernel
theorem dX6_bendOf_46 : decode cX6_bendOf 46 = .ok (.istore 7, 2) := by decide +kernel
theorem dX6_bendOf_48 : decode cX6_bendOf 48 = .ok (.iload 7, 2) := by decide +kernel
theorem dX6_bendOf_50 : decode cX6_bendOf 50 = .ok (.iload 5, 2) := by decide +kernel
theorem dX6_bendOf_52 : decode cX6_bendOf 52 = .ok (.if_icmp .le 8, 3) := by decide +kernel
theorem dX6_bendOf_55 : decode cX6_bendOf 55 = .ok (.iload 6, 2) := by decide +kernel
theorem dX6_bendOf_57 : decode cX6_bendOf 57 = .ok (.goto 5, 3) := by decide +kernel
theorem dX6_bendOf_60 : decode cX6_bendOf 60 = .ok (.iload 4, 2) := by decide +kernel
theorem dX6_bendOf_62 : decode cX6_bendOf 62 = .ok (.istore 4, 2) := by decide +kernel
theorem dX6_bendOf_64 : decode cX6_bendOf 64 = .ok (.iload 7, 2) := by decide +kernel
theorem dX6_bendOf_66 : decode cX6_bendOf 66 = .ok (.iload 5, 2) := by decide +kernel
theorem dX6_bendOf_68 : decode cX6_bendOf 68 = .ok (.invokestatic 268, 3) := by decide +kernel
theorem dX6_bendOf_71 : decode cX6_bendOf 71 = .ok (.istore 5, 2) := by decide +kernel
theorem dX6_bendOf_73 : decode cX6_bendOf 73 = .ok (.iinc 6 1, 3) := by decide +kernel
theorem dX6_bendOf_76 : decode cX6_bendOf 76 = .ok (.goto (-56), 3) := by decide +kernel
theorem dX6_bendOf_79 : decode cX6_bendOf 79 = .ok (.aload_n 0, 1) := by decide +kernel
theorem dX6_bendOf_80 : decode cX6_bendOf 80 = .ok (.getfield 28, 3) := by decide +kernel
theorem dX6_bendOf_83 : decode cX6_bendOf 83 = .ok (.iconst 3, 1) := by decide +kernel
theorem dX6_bendOf_84 : decode cX6_bendOf 84 = .ok (.iload_n 1, 1) := by decide +kernel
theorem dX6_bendOf_85 : decode cX6_bendOf 85 = .ok (.imul, 1) := by decide +kernel
theorem dX6_bendOf_86 : decode cX6_bendOf 86 = .ok (.iconst 2, 1) := by decide +kernel
theorem dX6_bendOf_87 : decode cX6_bendOf 87 = .ok (.iadd, 1) := by decide +kernel
theorem dX6_bendOf_88 : decode cX6_bendOf 88 = .ok (.iload_n 3, 1) := by decide +kernel
theorem dX6_bendOf_89 : decode cX6_bendOf 89 = .ok (.iastore, 1) := by decide +kernel
theorem dX6_bendOf_90 : decode cX6_bendOf 90 = .ok (.iload_n 2, 1) := by decide +kernel
theorem dX6_bendOf_91 : decode cX6_bendOf 91 = .ok (.ifCond .ne 8, 3) := by decide +kernel
theorem dX6_bendOf_94 : decode cX6_bendOf 94 = .ok (.iload 4, 2) := by decide +kernel
theorem dX6_bendOf_96 : decode cX6_bendOf 96 = .ok (.goto 5, 3) := by decide +kernel
theorem dX6_bendOf_99 : decode cX6_bendOf 99 = .ok (.iload 5, 2) := by decide +kernel
theorem dX6_bendOf_101 : decode cX6_bendOf 101 = .ok (.ireturn, 1) := by decide +kernel
theorem dX6_bend_0 : decode cX6_bend 0 = .ok (.aload_n 0, 1) := by decide +kernel
theorem dX6_bend_1 : decode cX6_bend 1 = .ok (.invokevirtual 239, 3) := by decide +kernel
theorem dX6_bend_4 : decode cX6_bend 4 = .ok (.aload_n 0, 1) := by decide +kernel
theorem dX6_bend_5 : decode cX6_bend 5 = .ok (.iload_n 1, 1) := by decide +kernel
theorem dX6_bend_6 : decode cX6_bend 6 = .ok (.invokevirtual 166, 3) := by decide +kernel
theorem dX6_bend_9 : decode cX6_bend 9 = .ok (.ifCond .eq 19, 3) := by decide +kernel
theorem dX6_bend_12 : decode cX6_bend 12 = .ok (.iload_n 2, 1) := by decide +kernel
theorem dX6_bend_13 : decode cX6_bend 13 = .ok (.invokestatic 172, 3) := by decide +kernel
theorem dX6_bend_16 : decode cX6_bend 16 = .ok (.ifCond .eq 12, 3) := by decide +kernel
theorem dX6_bend_19 : decode cX6_bend 19 = .ok (.aload_n 0, 1) := by decide +kernel
theorem dX6_bend_20 : decode cX6_bend 20 = .ok (.iload_n 1, 1) := by decide +kernel
theorem dX6_bend_21 : decode cX6_bend 21 = .ok (.iload_n 2, 1) := by decide +kernel
theorem dX6_bend_22 : decode cX6_bend 22 = .ok (.invokevirtual 281, 3) := by decide +kernel
theorem dX6_bend_25 : decode cX6_bend 25 = .ok (.goto 5, 3) := by decide +kernel
theorem dX6_bend_28 : decode cX6_bend 28 = .ok (.bipush (-2), 2) := by decide +kernel
theorem dX6_bend_30 : decode cX6_bend 30 = .ok (.ireturn, 1) := by decide +kernel
theorem dX6_isSpared_0 : decode cX6_isSpared 0 = .ok (.aload_n 0, 1) := by decide +kernel
theorem dX6_isSpared_1 : decode cX6_isSpared 1 = .ok (.iload_n 1, 1) := by decide +kernel
theorem dX6_isSpared_2 : decode cX6_isSpared 2 = .ok (.putfield 193, 3) := by decide +kernel
theorem dX6_isSpared_5 : decode cX6_isSpared 5 = .ok (.aload_n 0, 1) := by decide +kernel
theorem dX6_isSpared_6 : decode cX6_isSpared 6 = .ok (.invokevirtual 236, 3) := by decide +kernel
theorem dX6_isSpared_9 : decode cX6_isSpared 9 = .ok (.aload_n 0, 1) := by decide +kernel
theorem dX6_isSpared_10 : decode cX6_isSpared 10 = .ok (.iconst 0, 1) := by decide +kernel
theorem dX6_isSpared_11 : decode cX6_isSpared 11 = .ok (.putfield 193, 3) := by decide +kernel
theorem dX6_isSpared_14 : decode cX6_isSpared 14 = .ok (.aload_n 0, 1) := by decide +kernel
theorem dX6_isSpared_15 : decode cX6_isSpared 15 = .ok (.bipush 9, 2) := by decide +kernel
theorem dX6_isSpared_17 : decode cX6_isSpared 17 = .ok (.invokevirtual 259, 3) := by decide +kernel
theorem dX6_isSpared_20 : decode cX6_isSpared 20 = .ok (.ifCond .ne 7, 3) := by decide +kernel
theorem dX6_isSpared_23 : decode cX6_isSpared 23 = .ok (.iconst 1, 1) := by decide +kernel
theorem dX6_isSpared_24 : decode cX6_isSpared 24 = .ok (.goto 4, 3) := by decide +kernel
theorem dX6_isSpared_27 : decode cX6_isSpared 27 = .ok (.iconst 0, 1) := by decide +kernel
theorem dX6_isSpared_28 : decode cX6_isSpared 28 = .ok (.ireturn, 1) := by decide +kernel
theorem dX6_spareBy_0 : decode cX6_spareBy 0 = .ok (.aload_n 0, 1) := by decide +kernel
theorem dX6_spareBy_1 : decode cX6_spareBy 1 = .ok (.iconst 0, 1) := by decide +kernel
theorem dX6_spareBy_2 : decode cX6_spareBy 2 = .ok (.invokevirtual 284, 3) := by decide +kernel
theorem dX6_spareBy_5 : decode cX6_spareBy 5 = .ok (.ifCond .eq 14, 3) := by decide +kernel
theorem dX6_spareBy_8 : decode cX6_spareBy 8 = .ok (.iload_n 1, 1) := by decide +kernel
theorem dX6_spareBy_9 : decode cX6_spareBy 9 = .ok (.iconst (-1), 1) := by decide +kernel
theorem dX6_spareBy_10 : decode cX6_spareBy 10 = .ok (.if_icmp .ne 7, 3) := by decide +kernel
theorem dX6_spareBy_13 : decode cX6_spareBy 13 = .ok (.iconst 0, 1) := by decide +kernel
theorem dX6_spareBy_14 : decode cX6_spareBy 14 = .ok (.goto 4, 3) := by decide +kernel
theorem dX6_spareBy_17 : decode cX6_spareBy 17 = .ok (.iconst (-1), 1) := by decide +kernel
theorem dX6_spareBy_18 : decode cX6_spareBy 18 = .ok (.ireturn, 1) := by decide +kernel
theorem dX6_spareBy_19 : decode cX6_spareBy 19 = .ok (.iconst 0, 1) := by decide +kernel
theorem dX6_spareBy_20 : decode cX6_spareBy 20 = .ok (.istore_n 2, 1) := by decide +kernel
theorem dX6_spareBy_21 : decode cX6_spareBy 21 = .ok (.iload_n 2, 1) := by decide +kernel
theorem dX6_spareBy_22 : decode cX6_spareBy 22 = .ok (.aload_n 0, 1) := by decide +kernel
theorem dX6_spareBy_23 : decode cX6_spareBy 23 = .ok (.getfield 182, 3) := by decide +kernel
theorem dX6_spareBy_26 : decode cX6_spareBy 26 = .ok (.if_icmp .ge 38, 3) := by decide +kernel
theorem dX6_spareBy_29 : decode cX6_spareBy 29 = .ok (.aload_n 0, 1) := by decide +kernel
theorem dX6_spareBy_30 : decode cX6_spareBy 30 = .ok (.iconst 1, 1) := by decide +kernel
theorem dX6_spareBy_31 : decode cX6_spareBy 31 = .ok (.iload_n 2, 1) := by decide +kernel
theorem dX6_spareBy_32 : decode cX6_spareBy 32 = .ok (.ishl, 1) := by decide +kernel
theorem dX6_spareBy_33 : decode cX6_spareBy 33 = .ok (.invokevirtual 284, 3) := by decide +kernel
theorem dX6_spareBy_36 : decode cX6_spareBy 36 = .ok (.ifCond .eq 22, 3) := by decide +kernel
theorem dX6_spareBy_39 : decode cX6_spareBy 39 = .ok (.iload_n 1, 1) := by decide +kernel
theorem dX6_spareBy_40 : decode cX6_spareBy 40 = .ok (.iconst (-1), 1) := by decide +kernel
theorem dX6_spareBy_41 : decode cX6_spareBy 41 = .ok (.if_icmp .ne 7, 3) := by decide +kernel
theorem dX6_spareBy_44 : decode cX6_spareBy 44 = .ok (.iconst 1, 1) := by decide +kernel
theorem dX6_spareBy_45 : decode cX6_spareBy 45 = .ok (.goto 12, 3) := by decide +kernel
theorem dX6_spareBy_48 : decode cX6_spareBy 48 = .ok (.iload_n 1, 1) := by decide +kernel
theorem dX6_spareBy_49 : decode cX6_spareBy 49 = .ok (.ifCond .ne 7, 3) := by decide +kernel
theorem dX6_spareBy_52 : decode cX6_spareBy 52 = .ok (.iload_n 2, 1) := by decide +kernel
theorem dX6_spareBy_53 : decode cX6_spareBy 53 = .ok (.goto 4, 3) := by decide +kernel
theorem dX6_spareBy_56 : decode cX6_spareBy 56 = .ok (.iconst (-1), 1) := by decide +kernel
theorem dX6_spareBy_57 : decode cX6_spareBy 57 = .ok (.ireturn, 1) := by decide +kernel
theorem dX6_spareBy_58 : decode cX6_spareBy 58 = .ok (.iinc 2 1, 3) := by decide +kernel
theorem dX6_spareBy_61 : decode cX6_spareBy 61 = .ok (.goto (-40), 3) := by decide +kernel
theorem dX6_spareBy_64 : decode cX6_spareBy 64 = .ok (.iconst 0, 1) := by decide +kernel
theorem dX6_spareBy_65 : decode cX6_spareBy 65 = .ok (.istore_n 2, 1) := by decide +kernel
theorem dX6_spareBy_66 : decode cX6_spareBy 66 = .ok (.iload_n 2, 1) := by decide +kernel
theorem dX6_spareBy_67 : decode cX6_spareBy 67 = .ok (.aload_n 0, 1) := by decide +kernel
theorem dX6_spareBy_68 : decode cX6_spareBy 68 = .ok (.getfield 182, 3) := by decide +kernel
theorem dX6_spareBy_71 : decode cX6_spareBy 71 = .ok (.if_icmp .ge 60, 3) := by decide +kernel
theorem dX6_spareBy_74 : decode cX6_spareBy 74 = .ok (.iload_n 2, 1) := by decide +kernel
theorem dX6_spareBy_75 : decode cX6_spareBy 75 = .ok (.iconst 1, 1) := by decide +kernel
theorem dX6_spareBy_76 : decode cX6_spareBy 76 = .ok (.iadd, 1) := by decide +kernel
theorem dX6_spareBy_77 : decode cX6_spareBy 77 = .ok (.istore_n 3, 1) := by decide +kernel
theorem dX6_spareBy_78 : decode cX6_spareBy 78 = .ok (.iload_n 3, 1) := by decide +kernel
theorem dX6_spareBy_79 : decode cX6_spareBy 79 = .ok (.aload_n 0, 1) := by decide +kernel
theorem dX6_spareBy_80 : decode cX6_spareBy 80 = .ok (.getfield 182, 3) := by decide +kernel
theorem dX6_spareBy_83 : decode cX6_spareBy 83 = .ok (.if_icmp .ge 42, 3) := by decide +kernel
theorem dX6_spareBy_86 : decode cX6_spareBy 86 = .ok (.aload_n 0, 1) := by decide +kernel
theorem dX6_spareBy_87 : decode cX6_spareBy 87 = .ok (.iconst 1, 1) := by decide +kernel
theorem dX6_spareBy_88 : decode cX6_spareBy 88 = .ok (.iload_n 2, 1) := by decide +kernel
theorem dX6_spareBy_89 : decode cX6_spareBy 89 = .ok (.ishl, 1) := by decide +kernel
theorem dX6_spareBy_90 : decode cX6_spareBy 90 = .ok (.iconst 1, 1) := by decide +kernel
theorem dX6_spareBy_91 : decode cX6_spareBy 91 = .ok (.iload_n 3, 1) := by decide +kernel
theorem dX6_spareBy_92 : decode cX6_spareBy 92 = .ok (.ishl, 1) := by decide +kernel
theorem dX6_spareBy_93 : decode cX6_spareBy 93 = .ok (.ior, 1) := by decide +kernel
theorem dX6_spareBy_94 : decode cX6_spareBy 94 = .ok (.invokevirtual 284, 3) := by decide +kernel
theorem dX6_spareBy_97 : decode cX6_spareBy 97 = .ok (.ifCond .eq 22, 3) := by decide +kernel
theorem dX6_spareBy_100 : decode cX6_spareBy 100 = .ok (.iload_n 1, 1) := by decide +kernel
theorem dX6_spareBy_101 : decode cX6_spareBy 101 = .ok (.iconst (-1), 1) := by decide +kernel
theorem dX6_spareBy_102 : decode cX6_spareBy 102 = .ok (.if_icmp .ne 7, 3) := by decide +kernel
theorem dX6_spareBy_105 : decode cX6_spareBy 105 = .ok (.iconst 2, 1) := by decide +kernel
theorem dX6_spareBy_106 : decode cX6_spareBy 106 = .ok (.goto 12, 3) := by decide +kernel
theorem dX6_spareBy_109 : decode cX6_spareBy 109 = .ok (.iload_n 1, 1) := by decide +kernel
theorem dX6_spareBy_110 : decode cX6_spareBy 110 = .ok (.ifCond .ne 7, 3) := by decide +kernel
theorem dX6_spareBy_113 : decode cX6_spareBy 113 = .ok (.iload_n 2, 1) := by decide +kernel
theorem dX6_spareBy_114 : decode cX6_spareBy 114 = .ok (.goto 4, 3) := by decide +kernel
theorem dX6_spareBy_117 : decode cX6_spareBy 117 = .ok (.iload_n 3, 1) := by decide +kernel
theorem dX6_spareBy_118 : decode cX6_spareBy 118 = .ok (.ireturn, 1) := by decide +kernel
theorem dX6_spareBy_119 : decode cX6_spareBy 119 = .ok (.iinc 3 1, 3) := by decide +kernel
theorem dX6_spareBy_122 : decode cX6_spareBy 122 = .ok (.goto (-44), 3) := by decide +kernel
theorem dX6_spareBy_125 : decode cX6_spareBy 125 = .ok (.iinc 2 1, 3) := by decide +kernel
theorem dX6_spareBy_128 : decode cX6_spareBy 128 = .ok (.goto (-62), 3) := by decide +kernel
theorem dX6_spareBy_131 : decode cX6_spareBy 131 = .ok (.iconst (-1), 1) := by decide +kernel
theorem dX6_spareBy_132 : decode cX6_spareBy 132 = .ok (.ireturn, 1) := by decide +kernel
theorem dX6_spare_0 : decode cX6_spare 0 = .ok (.aload_n 0, 1) := by decide +kernel
theorem dX6_spare_1 : decode cX6_spare 1 = .ok (.invokevirtual 239, 3) := by decide +kernel
theorem dX6_spare_4 : decode cX6_spare 4 = .ok (.iload_n 1, 1) := by decide +kernel
theorem dX6_spare_5 : decode cX6_spare 5 = .ok (.i2l, 1) := by decide +kernel
theorem dX6_spare_6 : decode cX6_spare 6 = .ok (.ldc2_w 287, 3) := by decide +kernel
theorem dX6_spare_9 : decode cX6_spare 9 = .ok (.lconst 1, 1) := by decide +kernel
theorem dX6_spare_10 : decode cX6_spare 10 = .ok (.invokestatic 88, 3) := by decide +kernel
theorem dX6_spare_13 : decode cX6_spare 13 = .ok (.ifCond .eq 11, 3) := by decide +kernel
theorem dX6_spare_16 : decode cX6_spare 16 = .ok (.aload_n 0, 1) := by decide +kernel
theorem dX6_spare_17 : decode cX6_spare 17 = .ok (.iload_n 1, 1) := by decide +kernel
theorem dX6_spare_18 : decode cX6_spare 18 = .ok (.invokevirtual 289, 3) := by decide +kernel
theorem dX6_spare_21 : decode cX6_spare 21 = .ok (.goto 5, 3) := by decide +kernel
theorem dX6_spare_24 : decode cX6_spare 24 = .ok (.bipush (-2), 2) := by decide +kernel
theorem dX6_spare_26 : decode cX6_spare 26 = .ok (.ireturn, 1) := by decide +kernel
theorem dX6_seen_0 : decode cX6_seen 0 = .ok (.iload_n 1, 1) := by decide +kernel
theorem dX6_seen_1 : decode cX6_seen 1 = .ok (.invokestatic 177, 3) := by decide +kernel
theorem dX6_seen_4 : decode cX6_seen 4 = .ok (.ifCond .eq 35, 3) := by decide +kernel
theorem dX6_seen_7 : decode cX6_seen 7 = .ok (.iload_n 2, 1) := by decide +kernel
theorem dX6_seen_8 : decode cX6_seen 8 = .ok (.i2l, 1) := by decide +kernel
theorem dX6_seen_9 : decode cX6_seen 9 = .ok (.lconst 0, 1) := by decide +kernel
theorem dX6_seen_10 : decode cX6_seen 10 = .ok (.ldc2_w 248, 3) := by decide +kernel
theorem dX6_seen_13 : decode cX6_seen 13 = .ok (.invokestatic 88, 3) := by decide +kernel
theorem dX6_seen_16 : decode cX6_seen 16 = .ok (.ifCond .eq 23, 3) := by decide +kernel
theorem dX6_seen_19 : decode cX6_seen 19 = .ok (.iload_n 3, 1) := by decide +kernel
theorem dX6_seen_20 : decode cX6_seen 20 = .ok (.invokestatic 190, 3) := by decide +kernel
theorem dX6_seen_23 : decode cX6_seen 23 = .ok (.ifCond .eq 16, 3) := by decide +kernel
theorem dX6_seen_26 : decode cX6_seen 26 = .ok (.iload 4, 2) := by decide +kernel
theorem dX6_seen_28 : decode cX6_seen 28 = .ok (.i2l, 1) := by decide +kernel
theorem dX6_seen_29 : decode cX6_seen 29 = .ok (.lconst 0, 1) := by decide +kernel
theorem dX6_seen_30 : decode cX6_seen 30 = .ok (.ldc2_w 292, 3) := by decide +kernel
theorem dX6_seen_33 : decode cX6_seen 33 = .ok (.invokestatic 88, 3) := by decide +kernel
theorem dX6_seen_36 : decode cX6_seen 36 = .ok (.ifCond .ne 6, 3) := by decide +kernel
theorem dX6_seen_39 : decode cX6_seen 39 = .ok (.bipush (-2), 2) := by decide +kernel
theorem dX6_seen_41 : decode cX6_seen 41 = .ok (.ireturn, 1) := by decide +kernel
theorem dX6_seen_42 : decode cX6_seen 42 = .ok (.aload_n 0, 1) := by decide +kernel
theorem dX6_seen_43 : decode cX6_seen 43 = .ok (.getfield 294, 3) := by decide +kernel
theorem dX6_seen_46 : decode cX6_seen 46 = .ok (.bipush 8, 2) := by decide +kernel
theorem dX6_seen_48 : decode cX6_seen 48 = .ok (.if_icmp .ne 6, 3) := by decide +kernel
theorem dX6_seen_51 : decode cX6_seen 51 = .ok (.bipush (-4), 2) := by decide +kernel
theorem dX6_seen_53 : decode cX6_seen 53 = .ok (.ireturn, 1) := by decide +kernel
theorem dX6_seen_54 : decode cX6_seen 54 = .ok (.aload_n 0, 1) := by decide +kernel
theorem dX6_seen_55 : decode cX6_seen 55 = .ok (.getfield 76, 3) := by decide +kernel
theorem dX6_seen_58 : decode cX6_seen 58 = .ok (.iconst 4, 1) := by decide +kernel
theorem dX6_seen_59 : decode cX6_seen 59 = .ok (.aload_n 0, 1) := by decide +kernel
theorem dX6_seen_60 : decode cX6_seen 60 = .ok (.getfield 294, 3) := by decide +kernel
theorem dX6_seen_63 : decode cX6_seen 63 = .ok (.imul, 1) := by decide +kernel
theorem dX6_seen_64 : decode cX6_seen 64 = .ok (.iload_n 1, 1) := by decide +kernel
theorem dX6_seen_65 : decode cX6_seen 65 = .ok (.iastore, 1) := by decide +kernel
theorem dX6_seen_66 : decode cX6_seen 66 = .ok (.aload_n 0, 1) := by decide +kernel
theorem dX6_seen_67 : decode cX6_seen 67 = .ok (.getfield 76, 3) := by decide +kernel
theorem dX6_seen_70 : decode cX6_seen 70 = .ok (.iconst 4, 1) := by decide +kernel
theorem dX6_seen_71 : decode cX6_seen 71 = .ok (.aload_n 0, 1) := by decide +kernel
theorem dX6_seen_72 : decode cX6_seen 72 = .ok (.getfield 294, 3) := by decide +kernel
theorem dX6_seen_75 : decode cX6_seen 75 = .ok (.imul, 1) := by decide +kernel
theorem dX6_seen_76 : decode cX6_seen 76 = .ok (.iconst 1, 1) := by decide +kernel
theorem dX6_seen_77 : decode cX6_seen 77 = .ok (.iadd, 1) := by decide +kernel
theorem dX6_seen_78 : decode cX6_seen 78 = .ok (.iload_n 2, 1) := by decide +kernel
theorem dX6_seen_79 : decode cX6_seen 79 = .ok (.iastore, 1) := by decide +kernel
theorem dX6_seen_80 : decode cX6_seen 80 = .ok (.aload_n 0, 1) := by decide +kernel
theorem dX6_seen_81 : decode cX6_seen 81 = .ok (.getfield 76, 3) := by decide +kernel
theorem dX6_seen_84 : decode cX6_seen 84 = .ok (.iconst 4, 1) := by decide +kernel
theorem dX6_seen_85 : decode cX6_seen 85 = .ok (.aload_n 0, 1) := by decide +kernel
theorem dX6_seen_86 : decode cX6_seen 86 = .ok (.getfield 294, 3) := by decide +kernel
theorem dX6_seen_89 : decode cX6_seen 89 = .ok (.imul, 1) := by decide +kernel
theorem dX6_seen_90 : decode cX6_seen 90 = .ok (.iconst 2, 1) := by decide +kernel
theorem dX6_seen_91 : decode cX6_seen 91 = .ok (.iadd, 1) := by decide +kernel
theorem dX6_seen_92 : decode cX6_seen 92 = .ok (.iload_n 3, 1) := by decide +kernel
theorem dX6_seen_93 : decode cX6_seen 93 = .ok (.iastore, 1) := by decide +kernel
theorem dX6_seen_94 : decode cX6_seen 94 = .ok (.aload_n 0, 1) := by decide +kernel
theorem dX6_seen_95 : decode cX6_seen 95 = .ok (.getfield 76, 3) := by decide +kernel
theorem dX6_seen_98 : decode cX6_seen 98 = .ok (.iconst 4, 1) := by decide +kernel
theorem dX6_seen_99 : decode cX6_seen 99 = .ok (.aload_n 0, 1) := by decide +kernel
theorem dX6_seen_100 : decode cX6_seen 100 = .ok (.getfield 294, 3) := by decide +kernel
theorem dX6_seen_103 : decode cX6_seen 103 = .ok (.imul, 1) := by decide +kernel
theorem dX6_seen_104 : decode cX6_seen 104 = .ok (.iconst 3, 1) := by decide +kernel
theorem dX6_seen_105 : decode cX6_seen 105 = .ok (.iadd, 1) := by decide +kernel
theorem dX6_seen_106 : decode cX6_seen 106 = .ok (.iload 4, 2) := by decide +kernel
theorem dX6_seen_108 : decode cX6_seen 108 = .ok (.iastore, 1) := by decide +kernel
theorem dX6_seen_109 : decode cX6_seen 109 = .ok (.aload_n 0, 1) := by decide +kernel
theorem dX6_seen_110 : decode cX6_seen 110 = .ok (.dup, 1) := by decide +kernel
theorem dX6_seen_111 : decode cX6_seen 111 = .ok (.getfield 294, 3) := by decide +kernel
theorem dX6_seen_114 : decode cX6_seen 114 = .ok (.iconst 1, 1) := by decide +kernel
theorem dX6_seen_115 : decode cX6_seen 115 = .ok (.iadd, 1) := by decide +kernel
theorem dX6_seen_116 : decode cX6_seen 116 = .ok (.putfield 294, 3) := by decide +kernel
theorem dX6_seen_119 : decode cX6_seen 119 = .ok (.aload_n 0, 1) := by decide +kernel
theorem dX6_seen_120 : decode cX6_seen 120 = .ok (.getfield 294, 3) := by decide +kernel
theorem dX6_seen_123 : decode cX6_seen 123 = .ok (.ireturn, 1) := by decide +kernel
theorem dX6_forget_0 : decode cX6_forget 0 = .ok (.aload_n 0, 1) := by decide +kernel
theorem dX6_forget_1 : decode cX6_forget 1 = .ok (.getfield 294, 3) := by decide +kernel
theorem dX6_forget_4 : decode cX6_forget 4 = .ok (.istore_n 1, 1) := by decide +kernel
theorem dX6_forget_5 : decode cX6_forget 5 = .ok (.aload_n 0, 1) := by decide +kernel
theorem dX6_forget_6 : decode cX6_forget 6 = .ok (.iconst 0, 1) := by decide +kernel
theorem dX6_forget_7 : decode cX6_forget 7 = .ok (.putfield 294, 3) := by decide +kernel
theorem dX6_forget_10 : decode cX6_forget 10 = .ok (.iload_n 1, 1) := by decide +kernel
theorem dX6_forget_11 : decode cX6_forget 11 = .ok (.ireturn, 1) := by decide +kernel
theorem dX6_isSeen_0 : decode cX6_isSeen 0 = .ok (.aload_n 0, 1) := by decide +kernel
theorem dX6_isSeen_1 : decode cX6_isSeen 1 = .ok (.invokevirtual 236, 3) := by decide +kernel
theorem dX6_isSeen_4 : decode cX6_isSeen 4 = .ok (.iconst 1, 1) := by decide +kernel
theorem dX6_isSeen_5 : decode cX6_isSeen 5 = .ok (.istore_n 1, 1) := by decide +kernel
theorem dX6_isSeen_6 : decode cX6_isSeen 6 = .ok (.iconst 0, 1) := by decide +kernel
theorem dX6_isSeen_7 : decode cX6_isSeen 7 = .ok (.istore_n 2, 1) := by decide +kernel
theorem dX6_isSeen_8 : decode cX6_isSeen 8 = .ok (.iload_n 2, 1) := by decide +kernel
theorem dX6_isSeen_9 : decode cX6_isSeen 9 = .ok (.aload_n 0, 1) := by decide +kernel
theorem dX6_isSeen_10 : decode cX6_isSeen 10 = .ok (.getfield 294, 3) := by decide +kernel
theorem dX6_isSeen_13 : decode cX6_isSeen 13 = .ok (.if_icmp .ge 76, 3) := by decide +kernel
theorem dX6_isSeen_16 : decode cX6_isSeen 16 = .ok (.aload_n 0, 1) := by decide +kernel
theorem dX6_isSeen_17 : decode cX6_isSeen 17 = .ok (.getfield 76, 3) := by decide +kernel
theorem dX6_isSeen_20 : decode cX6_isSeen 20 = .ok (.iconst 4, 1) := by decide +kernel
theorem dX6_isSeen_21 : decode cX6_isSeen 21 = .ok (.iload_n 2, 1) := by decide +kernel
theorem dX6_isSeen_22 : decode cX6_isSeen 22 = .ok (.imul, 1) := by decide +kernel
theorem dX6_isSeen_23 : decode cX6_isSeen 23 = .ok (.iconst 3, 1) := by decide +kernel
theorem dX6_isSeen_24 : decode cX6_isSeen 24 = .ok (.iadd, 1) := by decide +kernel
theorem dX6_isSeen_25 : decode cX6_isSeen 25 = .ok (.iaload, 1) := by decide +kernel
theorem dX6_isSeen_26 : decode cX6_isSeen 26 = .ok (.istore_n 3, 1) := by decide +kernel
theorem dX6_isSeen_27 : decode cX6_isSeen 27 = .ok (.iload_n 1, 1) := by decide +kernel
theorem dX6_isSeen_28 : decode cX6_isSeen 28 = .ok (.ifCond .eq 53, 3) := by decide +kernel
theorem dX6_isSeen_31 : decode cX6_isSeen 31 = .ok (.aload_n 0, 1) := by decide +kernel
theorem dX6_isSeen_32 : decode cX6_isSeen 32 = .ok (.aload_n 0, 1) := by decide +kernel
theorem dX6_isSeen_33 : decode cX6_isSeen 33 = .ok (.getfield 76, 3) := by decide +kernel
theorem dX6_isSeen_36 : decode cX6_isSeen 36 = .ok (.iconst 4, 1) := by decide +kernel
theorem dX6_isSeen_37 : decode cX6_isSeen 37 = .ok (.iload_n 2, 1) := by decide +kernel
theorem dX6_isSeen_38 : decode cX6_isSeen 38 = .ok (.imul, 1) := by decide +kernel
theorem dX6_isSeen_39 : decode cX6_isSeen 39 = .ok (.iaload, 1) := by decide +kernel
theorem dX6_isSeen_40 : decode cX6_isSeen 40 = .ok (.aload_n 0, 1) := by decide +kernel
theorem dX6_isSeen_41 : decode cX6_isSeen 41 = .ok (.getfield 76, 3) := by decide +kernel
theorem dX6_isSeen_44 : decode cX6_isSeen 44 = .ok (.iconst 4, 1) := by decide +kernel
theorem dX6_isSeen_45 : decode cX6_isSeen 45 = .ok (.iload_n 2, 1) := by decide +kernel
theorem dX6_isSeen_46 : decode cX6_isSeen 46 = .ok (.imul, 1) := by decide +kernel
theorem dX6_isSeen_47 : decode cX6_isSeen 47 = .ok (.iconst 1, 1) := by decide +kernel
theorem dX6_isSeen_48 : decode cX6_isSeen 48 = .ok (.iadd, 1) := by decide +kernel
theorem dX6_isSeen_49 : decode cX6_isSeen 49 = .ok (.iaload, 1) := by decide +kernel
theorem dX6_isSeen_50 : decode cX6_isSeen 50 = .ok (.aload_n 0, 1) := by decide +kernel
theorem dX6_isSeen_51 : decode cX6_isSeen 51 = .ok (.getfield 76, 3) := by decide +kernel
theorem dX6_isSeen_54 : decode cX6_isSeen 54 = .ok (.iconst 4, 1) := by decide +kernel
theorem dX6_isSeen_55 : decode cX6_isSeen 55 = .ok (.iload_n 2, 1) := by decide +kernel
theorem dX6_isSeen_56 : decode cX6_isSeen 56 = .ok (.imul, 1) := by decide +kernel
theorem dX6_isSeen_57 : decode cX6_isSeen 57 = .ok (.iconst 2, 1) := by decide +kernel
theorem dX6_isSeen_58 : decode cX6_isSeen 58 = .ok (.iadd, 1) := by decide +kernel
theorem dX6_isSeen_59 : decode cX6_isSeen 59 = .ok (.iaload, 1) := by decide +kernel
theorem dX6_isSeen_60 : decode cX6_isSeen 60 = .ok (.invokevirtual 250, 3) := by decide +kernel
theorem dX6_isSeen_63 : decode cX6_isSeen 63 = .ok (.iload_n 3, 1) := by decide +kernel
theorem dX6_isSeen_64 : decode cX6_isSeen 64 = .ok (.bipush 12, 2) := by decide +kernel
theorem dX6_isSeen_66 : decode cX6_isSeen 66 = .ok (.if_icmp .ne 7, 3) := by decide +kernel
theorem dX6_isSeen_69 : decode cX6_isSeen 69 = .ok (.iconst (-1), 1) := by decide +kernel
theorem dX6_isSeen_70 : decode cX6_isSeen 70 = .ok (.goto 4, 3) := by decide +kernel
theorem dX6_isSeen_73 : decode cX6_isSeen 73 = .ok (.iload_n 3, 1) := by decide +kernel
theorem dX6_isSeen_74 : decode cX6_isSeen 74 = .ok (.if_icmp .ne 7, 3) := by decide +kernel
theorem dX6_isSeen_77 : decode cX6_isSeen 77 = .ok (.iconst 1, 1) := by decide +kernel
theorem dX6_isSeen_78 : decode cX6_isSeen 78 = .ok (.goto 4, 3) := by decide +kernel
theorem dX6_isSeen_81 : decode cX6_isSeen 81 = .ok (.iconst 0, 1) := by decide +kernel
theorem dX6_isSeen_82 : decode cX6_isSeen 82 = .ok (.istore_n 1, 1) := by decide +kernel
theorem dX6_isSeen_83 : decode cX6_isSeen 83 = .ok (.iinc 2 1, 3) := by decide +kernel
theorem dX6_isSeen_86 : decode cX6_isSeen 86 = .ok (.goto (-78), 3) := by decide +kernel
theorem dX6_isSeen_89 : decode cX6_isSeen 89 = .ok (.iload_n 1, 1) := by decide +kernel
theorem dX6_isSeen_90 : decode cX6_isSeen 90 = .ok (.ireturn, 1) := by decide +kernel
theorem dX6_neverNow_0 : decode cX6_neverNow 0 = .ok (.iconst 0, 1) := by decide +kernel
theorem dX6_neverNow_1 : decode cX6_neverNow 1 = .ok (.istore_n 1, 1) := by decide +kernel
theorem dX6_neverNow_2 : decode cX6_neverNow 2 = .ok (.iconst 0, 1) := by decide +kernel
