theorem dX5_within_0 : decode cX5_within 0 = .ok (.iload_n 0, 1) := by decide +kernel
theorem dX5_within_1 : decode cX5_within 1 = .ok (.ifCond .lt 12, 3) := by decide +kernel
theorem dX5_within_4 : decode cX5_within 4 = .ok (.iload_n 0, 1) := by decide +kernel
theorem dX5_within_5 : decode cX5_within 5 = .ok (.iload_n 1, 1) := by decide +kernel
theorem dX5_within_6 : decode cX5_within 6 = .ok (.if_icmp .ge 7, 3) := by decide +kernel
theorem dX5_within_9 : decode cX5_within 9 = .ok (.iconst 1, 1) := by decide +kernel
theorem dX5_within_10 : decode cX5_within 10 = .ok (.goto 4, 3) := by decide +kernel
theorem dX5_within_13 : decode cX5_within 13 = .ok (.iconst 0, 1) := by decide +kernel
theorem dX5_within_14 : decode cX5_within 14 = .ok (.ireturn, 1) := by decide +kernel
theorem dX4_append_0 : decode cX4_append 0 = .ok (.aload_n 0, 1) := by decide +kernel
theorem dX4_append_1 : decode cX4_append 1 = .ok (.getfield 9, 3) := by decide +kernel
theorem dX4_append_4 : decode cX4_append 4 = .ok (.aload_n 0, 1) := by decide +kernel
theorem dX4_append_5 : decode cX4_append 5 = .ok (.getfield 15, 3) := by decide +kernel
theorem dX4_append_8 : decode cX4_append 8 = .ok (.arraylength, 1) := by decide +kernel
theorem dX4_append_9 : decode cX4_append 9 = .ok (.if_icmp .lt 5, 3) := by decide +kernel
theorem dX4_append_12 : decode cX4_append 12 = .ok (.iconst 0, 1) := by decide +kernel
theorem dX4_append_13 : decode cX4_append 13 = .ok (.ireturn, 1) := by decide +kernel
theorem dX4_append_14 : decode cX4_append 14 = .ok (.aload_n 0, 1) := by decide +kernel
theorem dX4_append_15 : decode cX4_append 15 = .ok (.getfield 15, 3) := by decide +kernel
theorem dX4_append_18 : decode cX4_append 18 = .ok (.aload_n 0, 1) := by decide +kernel
theorem dX4_append_19 : decode cX4_append 19 = .ok (.getfield 9, 3) := by decide +kernel
theorem dX4_append_22 : decode cX4_append 22 = .ok (.iload_n 1, 1) := by decide +kernel
theorem dX4_append_23 : decode cX4_append 23 = .ok (.iastore, 1) := by decide +kernel
theorem dX4_append_24 : decode cX4_append 24 = .ok (.aload_n 0, 1) := by decide +kernel
theorem dX4_append_25 : decode cX4_append 25 = .ok (.dup, 1) := by decide +kernel
theorem dX4_append_26 : decode cX4_append 26 = .ok (.getfield 9, 3) := by decide +kernel
theorem dX4_append_29 : decode cX4_append 29 = .ok (.iconst 1, 1) := by decide +kernel
theorem dX4_append_30 : decode cX4_append 30 = .ok (.iadd, 1) := by decide +kernel
theorem dX4_append_31 : decode cX4_append 31 = .ok (.putfield 9, 3) := by decide +kernel
theorem dX4_append_34 : decode cX4_append 34 = .ok (.iconst 1, 1) := by decide +kernel
theorem dX4_append_35 : decode cX4_append 35 = .ok (.ireturn, 1) := by decide +kernel
theorem dX0_clearPins_0 : decode cX0_clearPins 0 = .ok (.aload_n 0, 1) := by decide +kernel
theorem dX0_clearPins_1 : decode cX0_clearPins 1 = .ok (.iconst 0, 1) := by decide +kernel
theorem dX0_clearPins_2 : decode cX0_clearPins 2 = .ok (.putfield 21, 3) := by decide +kernel
theorem dX0_clearPins_5 : decode cX0_clearPins 5 = .ok (.aload_n 0, 1) := by decide +kernel
theorem dX0_clearPins_6 : decode cX0_clearPins 6 = .ok (.getfield 18, 3) := by decide +kernel
theorem dX0_clearPins_9 : decode cX0_clearPins 9 = .ok (.iconst (-1), 1) := by decide +kernel
theorem dX0_clearPins_10 : decode cX0_clearPins 10 = .ok (.invokestatic 47, 3) := by decide +kernel
theorem dX0_clearPins_13 : decode cX0_clearPins 13 = .ok (.return_, 1) := by decide +kernel
theorem dX4_byteAt_0 : decode cX4_byteAt 0 = .ok (.iload_n 1, 1) := by decide +kernel
theorem dX4_byteAt_1 : decode cX4_byteAt 1 = .ok (.ifCond .lt 20, 3) := by decide +kernel
theorem dX4_byteAt_4 : decode cX4_byteAt 4 = .ok (.iload_n 1, 1) := by decide +kernel
theorem dX4_byteAt_5 : decode cX4_byteAt 5 = .ok (.aload_n 0, 1) := by decide +kernel
theorem dX4_byteAt_6 : decode cX4_byteAt 6 = .ok (.getfield 9, 3) := by decide +kernel
theorem dX4_byteAt_9 : decode cX4_byteAt 9 = .ok (.if_icmp .ge 12, 3) := by decide +kernel
theorem dX4_byteAt_12 : decode cX4_byteAt 12 = .ok (.aload_n 0, 1) := by decide +kernel
theorem dX4_byteAt_13 : decode cX4_byteAt 13 = .ok (.getfield 15, 3) := by decide +kernel
theorem dX4_byteAt_16 : decode cX4_byteAt 16 = .ok (.iload_n 1, 1) := by decide +kernel
theorem dX4_byteAt_17 : decode cX4_byteAt 17 = .ok (.iaload, 1) := by decide +kernel
theorem dX4_byteAt_18 : decode cX4_byteAt 18 = .ok (.goto 4, 3) := by decide +kernel
theorem dX4_byteAt_21 : decode cX4_byteAt 21 = .ok (.iconst (-1), 1) := by decide +kernel
theorem dX4_byteAt_22 : decode cX4_byteAt 22 = .ok (.ireturn, 1) := by decide +kernel
theorem dX4_countedFrom_0 : decode cX4_countedFrom 0 = .ok (.aload_n 0, 1) := by decide +kernel
theorem dX4_countedFrom_1 : decode cX4_countedFrom 1 = .ok (.iload_n 2, 1) := by decide +kernel
theorem dX4_countedFrom_2 : decode cX4_countedFrom 2 = .ok (.invokevirtual 19, 3) := by decide +kernel
theorem dX4_countedFrom_5 : decode cX4_countedFrom 5 = .ok (.iload_n 1, 1) := by decide +kernel
theorem dX4_countedFrom_6 : decode cX4_countedFrom 6 = .ok (.isub, 1) := by decide +kernel
theorem dX4_countedFrom_7 : decode cX4_countedFrom 7 = .ok (.istore 4, 2) := by decide +kernel
theorem dX4_countedFrom_9 : decode cX4_countedFrom 9 = .ok (.iload 4, 2) := by decide +kernel
theorem dX4_countedFrom_11 : decode cX4_countedFrom 11 = .ok (.iload_n 3, 1) := by decide +kernel
theorem dX4_countedFrom_12 : decode cX4_countedFrom 12 = .ok (.invokestatic 23, 3) := by decide +kernel
theorem dX4_countedFrom_15 : decode cX4_countedFrom 15 = .ok (.ifCond .eq 8, 3) := by decide +kernel
theorem dX4_countedFrom_18 : decode cX4_countedFrom 18 = .ok (.iload 4, 2) := by decide +kernel
theorem dX4_countedFrom_20 : decode cX4_countedFrom 20 = .ok (.goto 4, 3) := by decide +kernel
theorem dX4_countedFrom_23 : decode cX4_countedFrom 23 = .ok (.iconst (-1), 1) := by decide +kernel
theorem dX4_countedFrom_24 : decode cX4_countedFrom 24 = .ok (.ireturn, 1) := by decide +kernel
theorem dX0_sortOf_0 : decode cX0_sortOf 0 = .ok (.iload_n 0, 1) := by decide +kernel
theorem dX0_sortOf_1 : decode cX0_sortOf 1 = .ok (.lookupswitch 51 #[(98, 49), (108, 43), (114, 45), (116, 47)], 43) := by decide +kernel
theorem dX0_sortOf_44 : decode cX0_sortOf 44 = .ok (.iconst 0, 1) := by decide +kernel
theorem dX0_sortOf_45 : decode cX0_sortOf 45 = .ok (.ireturn, 1) := by decide +kernel
theorem dX0_sortOf_46 : decode cX0_sortOf 46 = .ok (.iconst 1, 1) := by decide +kernel
theorem dX0_sortOf_47 : decode cX0_sortOf 47 = .ok (.ireturn, 1) := by decide +kernel
theorem dX0_sortOf_48 : decode cX0_sortOf 48 = .ok (.iconst 2, 1) := by decide +kernel
theorem dX0_sortOf_49 : decode cX0_sortOf 49 = .ok (.ireturn, 1) := by decide +kernel
theorem dX0_sortOf_50 : decode cX0_sortOf 50 = .ok (.iconst 3, 1) := by decide +kernel
theorem dX0_sortOf_51 : decode cX0_sortOf 51 = .ok (.ireturn, 1) := by decide +kernel
theorem dX0_sortOf_52 : decode cX0_sortOf 52 = .ok (.iconst (-1), 1) := by decide +kernel
theorem dX0_sortOf_53 : decode cX0_sortOf 53 = .ok (.ireturn, 1) := by decide +kernel
theorem dX0_addPin_0 : decode cX0_addPin 0 = .ok (.aload_n 0, 1) := by decide +kernel
theorem dX0_addPin_1 : decode cX0_addPin 1 = .ok (.getfield 9, 3) := by decide +kernel
theorem dX0_addPin_4 : decode cX0_addPin 4 = .ok (.aload_n 0, 1) := by decide +kernel
theorem dX0_addPin_5 : decode cX0_addPin 5 = .ok (.getfield 21, 3) := by decide +kernel
theorem dX0_addPin_8 : decode cX0_addPin 8 = .ok (.iload_n 1, 1) := by decide +kernel
theorem dX0_addPin_9 : decode cX0_addPin 9 = .ok (.iastore, 1) := by decide +kernel
theorem dX0_addPin_10 : decode cX0_addPin 10 = .ok (.aload_n 0, 1) := by decide +kernel
theorem dX0_addPin_11 : decode cX0_addPin 11 = .ok (.getfield 15, 3) := by decide +kernel
theorem dX0_addPin_14 : decode cX0_addPin 14 = .ok (.aload_n 0, 1) := by decide +kernel
theorem dX0_addPin_15 : decode cX0_addPin 15 = .ok (.getfield 21, 3) := by decide +kernel
theorem dX0_addPin_18 : decode cX0_addPin 18 = .ok (.iload_n 2, 1) := by decide +kernel
theorem dX0_addPin_19 : decode cX0_addPin 19 = .ok (.iastore, 1) := by decide +kernel
theorem dX0_addPin_20 : decode cX0_addPin 20 = .ok (.aload_n 0, 1) := by decide +kernel
theorem dX0_addPin_21 : decode cX0_addPin 21 = .ok (.getfield 18, 3) := by decide +kernel
theorem dX0_addPin_24 : decode cX0_addPin 24 = .ok (.iload_n 1, 1) := by decide +kernel
theorem dX0_addPin_25 : decode cX0_addPin 25 = .ok (.aload_n 0, 1) := by decide +kernel
theorem dX0_addPin_26 : decode cX0_addPin 26 = .ok (.getfield 21, 3) := by decide +kernel
theorem dX0_addPin_29 : decode cX0_addPin 29 = .ok (.iastore, 1) := by decide +kernel
theorem dX0_addPin_30 : decode cX0_addPin 30 = .ok (.aload_n 0, 1) := by decide +kernel
theorem dX0_addPin_31 : decode cX0_addPin 31 = .ok (.dup, 1) := by decide +kernel
theorem dX0_addPin_32 : decode cX0_addPin 32 = .ok (.getfield 21, 3) := by decide +kernel
theorem dX0_addPin_35 : decode cX0_addPin 35 = .ok (.iconst 1, 1) := by decide +kernel
theorem dX0_addPin_36 : decode cX0_addPin 36 = .ok (.iadd, 1) := by decide +kernel
theorem dX0_addPin_37 : decode cX0_addPin 37 = .ok (.putfield 21, 3) := by decide +kernel
theorem dX0_addPin_40 : decode cX0_addPin 40 = .ok (.return_, 1) := by decide +kernel
theorem dX0_scanPins_0 : decode cX0_scanPins 0 = .ok (.aload_n 1, 1) := by decide +kernel
theorem dX0_scanPins_1 : decode cX0_scanPins 1 = .ok (.getfield 63, 3) := by decide +kernel
theorem dX0_scanPins_4 : decode cX0_scanPins 4 = .ok (.ifCond .ne 5, 3) := by decide +kernel
theorem dX0_scanPins_7 : decode cX0_scanPins 7 = .ok (.iconst (-1), 1) := by decide +kernel
theorem dX0_scanPins_8 : decode cX0_scanPins 8 = .ok (.ireturn, 1) := by decide +kernel
theorem dX0_scanPins_9 : decode cX0_scanPins 9 = .ok (.iconst 0, 1) := by decide +kernel
theorem dX0_scanPins_10 : decode cX0_scanPins 10 = .ok (.istore_n 2, 1) := by decide +kernel
theorem dX0_scanPins_11 : decode cX0_scanPins 11 = .ok (.iload_n 2, 1) := by decide +kernel
theorem dX0_scanPins_12 : decode cX0_scanPins 12 = .ok (.bipush 12, 2) := by decide +kernel
theorem dX0_scanPins_14 : decode cX0_scanPins 14 = .ok (.if_icmp .ge 136, 3) := by decide +kernel
theorem dX0_scanPins_17 : decode cX0_scanPins 17 = .ok (.iconst 4, 1) := by decide +kernel
theorem dX0_scanPins_18 : decode cX0_scanPins 18 = .ok (.iload_n 2, 1) := by decide +kernel
theorem dX0_scanPins_19 : decode cX0_scanPins 19 = .ok (.imul, 1) := by decide +kernel
theorem dX0_scanPins_20 : decode cX0_scanPins 20 = .ok (.istore_n 3, 1) := by decide +kernel
theorem dX0_scanPins_21 : decode cX0_scanPins 21 = .ok (.aload_n 1, 1) := by decide +kernel
theorem dX0_scanPins_22 : decode cX0_scanPins 22 = .ok (.bipush 48, 2) := by decide +kernel
theorem dX0_scanPins_24 : decode cX0_scanPins 24 = .ok (.iload_n 3, 1) := by decide +kernel
theorem dX0_scanPins_25 : decode cX0_scanPins 25 = .ok (.bipush 8, 2) := by decide +kernel
theorem dX0_scanPins_27 : decode cX0_scanPins 27 = .ok (.invokevirtual 66, 3) := by decide +kernel
theorem dX0_scanPins_30 : decode cX0_scanPins 30 = .ok (.istore 4, 2) := by decide +kernel
theorem dX0_scanPins_32 : decode cX0_scanPins 32 = .ok (.iload 4, 2) := by decide +kernel
theorem dX0_scanPins_34 : decode cX0_scanPins 34 = .ok (.iconst (-1), 1) := by decide +kernel
theorem dX0_scanPins_35 : decode cX0_scanPins 35 = .ok (.if_icmp .ne 5, 3) := by decide +kernel
theorem dX0_scanPins_38 : decode cX0_scanPins 38 = .ok (.iload_n 3, 1) := by decide +kernel
theorem dX0_scanPins_39 : decode cX0_scanPins 39 = .ok (.ireturn, 1) := by decide +kernel
theorem dX0_scanPins_40 : decode cX0_scanPins 40 = .ok (.aload_n 1, 1) := by decide +kernel
theorem dX0_scanPins_41 : decode cX0_scanPins 41 = .ok (.bipush 48, 2) := by decide +kernel
theorem dX0_scanPins_43 : decode cX0_scanPins 43 = .ok (.iload_n 3, 1) := by decide +kernel
theorem dX0_scanPins_44 : decode cX0_scanPins 44 = .ok (.iconst 1, 1) := by decide +kernel
theorem dX0_scanPins_45 : decode cX0_scanPins 45 = .ok (.iadd, 1) := by decide +kernel
theorem dX0_scanPins_46 : decode cX0_scanPins 46 = .ok (.bipush 9, 2) := by decide +kernel
theorem dX0_scanPins_48 : decode cX0_scanPins 48 = .ok (.invokevirtual 66, 3) := by decide +kernel
theorem dX0_scanPins_51 : decode cX0_scanPins 51 = .ok (.istore 5, 2) := by decide +kernel
theorem dX0_scanPins_53 : decode cX0_scanPins 53 = .ok (.iload 5, 2) := by decide +kernel
theorem dX0_scanPins_55 : decode cX0_scanPins 55 = .ok (.iconst (-1), 1) := by decide +kernel
theorem dX0_scanPins_56 : decode cX0_scanPins 56 = .ok (.if_icmp .eq 20, 3) := by decide +kernel
theorem dX0_scanPins_59 : decode cX0_scanPins 59 = .ok (.aload_n 0, 1) := by decide +kernel
theorem dX0_scanPins_60 : decode cX0_scanPins 60 = .ok (.getfield 18, 3) := by decide +kernel
theorem dX0_scanPins_63 : decode cX0_scanPins 63 = .ok (.iload 4, 2) := by decide +kernel
theorem dX0_scanPins_65 : decode cX0_scanPins 65 = .ok (.bipush 9, 2) := by decide +kernel
theorem dX0_scanPins_67 : decode cX0_scanPins 67 = .ok (.imul, 1) := by decide +kernel
theorem dX0_scanPins_68 : decode cX0_scanPins 68 = .ok (.iload 5, 2) := by decide +kernel
theorem dX0_scanPins_70 : decode cX0_scanPins 70 = .ok (.iadd, 1) := by decide +kernel
theorem dX0_scanPins_71 : decode cX0_scanPins 71 = .ok (.iaload, 1) := by decide +kernel
theorem dX0_scanPins_72 : decode cX0_scanPins 72 = .ok (.iconst (-1), 1) := by decide +kernel
theorem dX0_scanPins_73 : decode cX0_scanPins 73 = .ok (.if_icmp .eq 7, 3) := by decide +kernel
theorem dX0_scanPins_76 : decode cX0_scanPins 76 = .ok (.iload_n 3, 1) := by decide +kernel
theorem dX0_scanPins_77 : decode cX0_scanPins 77 = .ok (.iconst 1, 1) := by decide +kernel
theorem dX0_scanPins_78 : decode cX0_scanPins 78 = .ok (.iadd, 1) := by decide +kernel
theorem dX0_scanPins_79 : decode cX0_scanPins 79 = .ok (.ireturn, 1) := by decide +kernel
theorem dX0_scanPins_80 : decode cX0_scanPins 80 = .ok (.aload_n 1, 1) := by decide +kernel
theorem dX0_scanPins_81 : decode cX0_scanPins 81 = .ok (.iload_n 3, 1) := by decide +kernel
theorem dX0_scanPins_82 : decode cX0_scanPins 82 = .ok (.iconst 2, 1) := by decide +kernel
theorem dX0_scanPins_83 : decode cX0_scanPins 83 = .ok (.iadd, 1) := by decide +kernel
theorem dX0_scanPins_84 : decode cX0_scanPins 84 = .ok (.invokevirtual 70, 3) := by decide +kernel
theorem dX0_scanPins_87 : decode cX0_scanPins 87 = .ok (.invokestatic 74, 3) := by decide +kernel
theorem dX0_scanPins_90 : decode cX0_scanPins 90 = .ok (.istore 6, 2) := by decide +kernel
theorem dX0_scanPins_92 : decode cX0_scanPins 92 = .ok (.iload 6, 2) := by decide +kernel
theorem dX0_scanPins_94 : decode cX0_scanPins 94 = .ok (.iconst (-1), 1) := by decide +kernel
theorem dX0_scanPins_95 : decode cX0_scanPins 95 = .ok (.if_icmp .ne 7, 3) := by decide +kernel
theorem dX0_scanPins_98 : decode cX0_scanPins 98 = .ok (.iload_n 3, 1) := by decide +kernel
theorem dX0_scanPins_99 : decode cX0_scanPins 99 = .ok (.iconst 2, 1) := by decide +kernel
theorem dX0_scanPins_100 : decode cX0_scanPins 100 = .ok (.iadd, 1) := by decide +kernel
theorem dX0_scanPins_101 : decode cX0_scanPins 101 = .ok (.ireturn, 1) := by decide +kernel
theorem dX0_scanPins_102 : decode cX0_scanPins 102 = .ok (.aload_n 0, 1) := by decide +kernel
theorem dX0_scanPins_103 : decode cX0_scanPins 103 = .ok (.iload 4, 2) := by decide +kernel
theorem dX0_scanPins_105 : decode cX0_scanPins 105 = .ok (.bipush 9, 2) := by decide +kernel
theorem dX0_scanPins_107 : decode cX0_scanPins 107 = .ok (.imul, 1) := by decide +kernel
theorem dX0_scanPins_108 : decode cX0_scanPins 108 = .ok (.iload 5, 2) := by decide +kernel
theorem dX0_scanPins_110 : decode cX0_scanPins 110 = .ok (.iadd, 1) := by decide +kernel
theorem dX0_scanPins_111 : decode cX0_scanPins 111 = .ok (.iload 6, 2) := by decide +kernel
theorem dX0_scanPins_113 : decode cX0_scanPins 113 = .ok (.invokevirtual 77, 3) := by decide +kernel
theorem dX0_scanPins_116 : decode cX0_scanPins 116 = .ok (.aload_n 1, 1) := by decide +kernel
theorem dX0_scanPins_117 : decode cX0_scanPins 117 = .ok (.getfield 63, 3) := by decide +kernel
theorem dX0_scanPins_120 : decode cX0_scanPins 120 = .ok (.iload_n 3, 1) := by decide +kernel
theorem dX0_scanPins_121 : decode cX0_scanPins 121 = .ok (.iconst 3, 1) := by decide +kernel
theorem dX0_scanPins_122 : decode cX0_scanPins 122 = .ok (.iadd, 1) := by decide +kernel
theorem dX0_scanPins_123 : decode cX0_scanPins 123 = .ok (.if_icmp .ne 5, 3) := by decide +kernel
theorem dX0_scanPins_126 : decode cX0_scanPins 126 = .ok (.iconst (-1), 1) := by decide +kernel
theorem dX0_scanPins_127 : decode cX0_scanPins 127 = .ok (.ireturn, 1) := by decide +kernel
theorem dX0_scanPins_128 : decode cX0_scanPins 128 = .ok (.aload_n 1, 1) := by decide +kernel
theorem dX0_scanPins_129 : decode cX0_scanPins 129 = .ok (.iload_n 3, 1) := by decide +kernel
theorem dX0_scanPins_130 : decode cX0_scanPins 130 = .ok (.iconst 3, 1) := by decide +kernel
theorem dX0_scanPins_131 : decode cX0_scanPins 131 = .ok (.iadd, 1) := by decide +kernel
theorem dX0_scanPins_132 : decode cX0_scanPins 132 = .ok (.invokevirtual 70, 3) := by decide +kernel
theorem dX0_scanPins_135 : decode cX0_scanPins 135 = .ok (.bipush 59, 2) := by decide +kernel
theorem dX0_scanPins_137 : decode cX0_scanPins 137 = .ok (.if_icmp .eq 7, 3) := by decide +kernel
theorem dX0_scanPins_140 : decode cX0_scanPins 140 = .ok (.iload_n 3, 1) := by decide +kernel
theorem dX0_scanPins_141 : decode cX0_scanPins 141 = .ok (.iconst 3, 1) := by decide +kernel
theorem dX0_scanPins_142 : decode cX0_scanPins 142 = .ok (.iadd, 1) := by decide +kernel
theorem dX0_scanPins_143 : decode cX0_scanPins 143 = .ok (.ireturn, 1) := by decide +kernel
theorem dX0_scanPins_144 : decode cX0_scanPins 144 = .ok (.iinc 2 1, 3) := by decide +kernel
theorem dX0_scanPins_147 : decode cX0_scanPins 147 = .ok (.goto (-136), 3) := by decide +kernel
theorem dX0_scanPins_150 : decode cX0_scanPins 150 = .ok (.bipush 48, 2) := by decide +kernel
theorem dX0_scanPins_152 : decode cX0_scanPins 152 = .ok (.ireturn, 1) := by decide +kernel
theorem dX0_takePins_0 : decode cX0_takePins 0 = .ok (.aload_n 0, 1) := by decide +kernel
theorem dX0_takePins_1 : decode cX0_takePins 1 = .ok (.invokevirtual 56, 3) := by decide +kernel
theorem dX0_takePins_4 : decode cX0_takePins 4 = .ok (.aload_n 0, 1) := by decide +kernel
theorem dX0_takePins_5 : decode cX0_takePins 5 = .ok (.aload_n 1, 1) := by decide +kernel
theorem dX0_takePins_6 : decode cX0_takePins 6 = .ok (.invokevirtual 59, 3) := by decide +kernel
theorem dX0_takePins_9 : decode cX0_takePins 9 = .ok (.istore_n 2, 1) := by decide +kernel
theorem dX0_takePins_10 : decode cX0_takePins 10 = .ok (.iload_n 2, 1) := by decide +kernel
theorem dX0_takePins_11 : decode cX0_takePins 11 = .ok (.iconst (-1), 1) := by decide +kernel
theorem dX0_takePins_12 : decode cX0_takePins 12 = .ok (.if_icmp .eq 7, 3) := by decide +kernel
theorem dX0_takePins_15 : decode cX0_takePins 15 = .ok (.aload_n 0, 1) := by decide +kernel
theorem dX0_takePins_16 : decode cX0_takePins 16 = .ok (.invokevirtual 56, 3) := by decide +kernel
theorem dX0_takePins_19 : decode cX0_takePins 19 = .ok (.iload_n 2, 1) := by decide +kernel
theorem dX0_takePins_20 : decode cX0_takePins 20 = .ok (.ireturn, 1) := by decide +kernel
theorem dX0_takeCups_0 : decode cX0_takeCups 0 = .ok (.aload_n 0, 1) := by decide +kernel
theorem dX0_takeCups_1 : decode cX0_takeCups 1 = .ok (.getfield 25, 3) := by decide +kernel
theorem dX0_takeCups_4 : decode cX0_takeCups 4 = .ok (.iconst 0, 1) := by decide +kernel
theorem dX0_takeCups_5 : decode cX0_takeCups 5 = .ok (.invokestatic 47, 3) := by decide +kernel
theorem dX0_takeCups_8 : decode cX0_takeCups 8 = .ok (.iconst 0, 1) := by decide +kernel
theorem dX0_takeCups_9 : decode cX0_takeCups 9 = .ok (.istore_n 2, 1) := by decide +kernel
theorem dX0_takeCups_10 : decode cX0_takeCups 10 = .ok (.iload_n 2, 1) := by decide +kernel
theorem dX0_takeCups_11 : decode cX0_takeCups 11 = .ok (.aload_n 1, 1) := by decide +kernel
theorem dX0_takeCups_12 : decode cX0_takeCups 12 = .ok (.getfield 63, 3) := by decide +kernel
theorem dX0_takeCups_15 : decode cX0_takeCups 15 = .ok (.if_icmp .ge 47, 3) := by decide +kernel
theorem dX0_takeCups_18 : decode cX0_takeCups 18 = .ok (.iload_n 2, 1) := by decide +kernel
theorem dX0_takeCups_19 : decode cX0_takeCups 19 = .ok (.bipush 9, 2) := by decide +kernel
theorem dX0_takeCups_21 : decode cX0_takeCups 21 = .ok (.if_icmp .ge 41, 3) := by decide +kernel
theorem dX0_takeCups_24 : decode cX0_takeCups 24 = .ok (.aload_n 1, 1) := by decide +kernel
theorem dX0_takeCups_25 : decode cX0_takeCups 25 = .ok (.bipush 48, 2) := by decide +kernel
theorem dX0_takeCups_27 : decode cX0_takeCups 27 = .ok (.iload_n 2, 1) := by decide +kernel
theorem dX0_takeCups_28 : decode cX0_takeCups 28 = .ok (.bipush 10, 2) := by decide +kernel
theorem dX0_takeCups_30 : decode cX0_takeCups 30 = .ok (.invokevirtual 66, 3) := by decide +kernel
theorem dX0_takeCups_33 : decode cX0_takeCups 33 = .ok (.istore_n 3, 1) := by decide +kernel
theorem dX0_takeCups_34 : decode cX0_takeCups 34 = .ok (.iload_n 3, 1) := by decide +kernel
theorem dX0_takeCups_35 : decode cX0_takeCups 35 = .ok (.iconst (-1), 1) := by decide +kernel
theorem dX0_takeCups_36 : decode cX0_takeCups 36 = .ok (.if_icmp .ne 13, 3) := by decide +kernel
theorem dX0_takeCups_39 : decode cX0_takeCups 39 = .ok (.aload_n 0, 1) := by decide +kernel
theorem dX0_takeCups_40 : decode cX0_takeCups 40 = .ok (.getfield 25, 3) := by decide +kernel
theorem dX0_takeCups_43 : decode cX0_takeCups 43 = .ok (.iconst 0, 1) := by decide +kernel
theorem dX0_takeCups_44 : decode cX0_takeCups 44 = .ok (.invokestatic 47, 3) := by decide +kernel
theorem dX0_takeCups_47 : decode cX0_takeCups 47 = .ok (.iload_n 2, 1) := by decide +kernel
theorem dX0_takeCups_48 : decode cX0_takeCups 48 = .ok (.ireturn, 1) := by decide +kernel
theorem dX0_takeCups_49 : decode cX0_takeCups 49 = .ok (.aload_n 0, 1) := by decide +kernel
theorem dX0_takeCups_50 : decode cX0_takeCups 50 = .ok (.getfield 25, 3) := by decide +kernel
theorem dX0_takeCups_53 : decode cX0_takeCups 53 = .ok (.iload_n 2, 1) := by decide +kernel
theorem dX0_takeCups_54 : decode cX0_takeCups 54 = .ok (.iload_n 3, 1) := by decide +kernel
theorem dX0_takeCups_55 : decode cX0_takeCups 55 = .ok (.iastore, 1) := by decide +kernel
theorem dX0_takeCups_56 : decode cX0_takeCups 56 = .ok (.iinc 2 1, 3) := by decide +kernel
theorem dX0_takeCups_59 : decode cX0_takeCups 59 = .ok (.goto (-49), 3) := by decide +kernel
theorem dX0_takeCups_62 : decode cX0_takeCups 62 = .ok (.iconst (-1), 1) := by decide +kernel
theorem dX0_takeCups_63 : decode cX0_takeCups 63 = .ok (.ireturn, 1) := by decide +kernel
theorem dX0_scanBalls_0 : decode cX0_scanBalls 0 = .ok (.aload_n 1, 1) := by decide +kernel
theorem dX0_scanBalls_1 : decode cX0_scanBalls 1 = .ok (.getfield 63, 3) := by decide +kernel
theorem dX0_scanBalls_4 : decode cX0_scanBalls 4 = .ok (.ifCond .ne 5, 3) := by decide +kernel
theorem dX0_scanBalls_7 : decode cX0_scanBalls 7 = .ok (.iconst (-1), 1) := by decide +kernel
theorem dX0_scanBalls_8 : decode cX0_scanBalls 8 = .ok (.ireturn, 1) := by decide +kernel
theorem dX0_scanBalls_9 : decode cX0_scanBalls 9 = .ok (.iconst 0, 1) := by decide +kernel
theorem dX0_scanBalls_10 : decode cX0_scanBalls 10 = .ok (.istore_n 2, 1) := by decide +kernel
theorem dX0_scanBalls_11 : decode cX0_scanBalls 11 = .ok (.iload_n 2, 1) := by decide +kernel
theorem dX0_scanBalls_12 : decode cX0_scanBalls 12 = .ok (.bipush 12, 2) := by decide +kernel
theorem dX0_scanBalls_14 : decode cX0_scanBalls 14 = .ok (.if_icmp .ge 111, 3) := by decide +kernel
theorem dX0_scanBalls_17 : decode cX0_scanBalls 17 = .ok (.iconst 3, 1) := by decide +kernel
theorem dX0_scanBalls_18 : decode cX0_scanBalls 18 = .ok (.iload_n 2, 1) := by decide +kernel
theorem dX0_scanBalls_19 : decode cX0_scanBalls 19 = .ok (.imul, 1) := by decide +kernel
theorem dX0_scanBalls_20 : decode cX0_scanBalls 20 = .ok (.istore_n 3, 1) := by decide +kernel
theorem dX0_scanBalls_21 : decode cX0_scanBalls 21 = .ok (.aload_n 1, 1) := by decide +kernel
theorem dX0_scanBalls_22 : decode cX0_scanBalls 22 = .ok (.bipush 97, 2) := by decide +kernel
theorem dX0_scanBalls_24 : decode cX0_scanBalls 24 = .ok (.iload_n 3, 1) := by decide +kernel
theorem dX0_scanBalls_25 : decode cX0_scanBalls 25 = .ok (.bipush 24, 2) := by decide +kernel
theorem dX0_scanBalls_27 : decode cX0_scanBalls 27 = .ok (.invokevirtual 66, 3) := by decide +kernel
theorem dX0_scanBalls_30 : decode cX0_scanBalls 30 = .ok (.istore 4, 2) := by decide +kernel
theorem dX0_scanBalls_32 : decode cX0_scanBalls 32 = .ok (.iload 4, 2) := by decide +kernel
theorem dX0_scanBalls_34 : decode cX0_scanBalls 34 = .ok (.iconst (-1), 1) := by decide +kernel
theorem dX0_scanBalls_35 : decode cX0_scanBalls 35 = .ok (.if_icmp .ne 5, 3) := by decide +kernel
theorem dX0_scanBalls_38 : decode cX0_scanBalls 38 = .ok (.iload_n 3, 1) := by decide +kernel
theorem dX0_scanBalls_39 : decode cX0_scanBalls 39 = .ok (.ireturn, 1) := by decide +kernel
theorem dX0_scanBalls_40 : decode cX0_scanBalls 40 = .ok (.aload_n 1, 1) := by decide +kernel
theorem dX0_scanBalls_41 : decode cX0_scanBalls 41 = .ok (.bipush 49, 2) := by decide +kernel
theorem dX0_scanBalls_43 : decode cX0_scanBalls 43 = .ok (.iload_n 3, 1) := by decide +kernel
theorem dX0_scanBalls_44 : decode cX0_scanBalls 44 = .ok (.iconst 1, 1) := by decide +kernel
theorem dX0_scanBalls_45 : decode cX0_scanBalls 45 = .ok (.iadd, 1) := by decide +kernel
theorem dX0_scanBalls_46 : decode cX0_scanBalls 46 = .ok (.bipush 9, 2) := by decide +kernel
theorem dX0_scanBalls_48 : decode cX0_scanBalls 48 = .ok (.invokevirtual 66, 3) := by decide +kernel
theorem dX0_scanBalls_51 : decode cX0_scanBalls 51 = .ok (.istore 5, 2) := by decide +kernel
theorem dX0_scanBalls_53 : decode cX0_scanBalls 53 = .ok (.iload 5, 2) := by decide +kernel
theorem dX0_scanBalls_55 : decode cX0_scanBalls 55 = .ok (.iconst (-1), 1) := by decide +kernel
theorem dX0_scanBalls_56 : decode cX0_scanBalls 56 = .ok (.if_icmp .ne 7, 3) := by decide +kernel
theorem dX0_scanBalls_59 : decode cX0_scanBalls 59 = .ok (.iload_n 3, 1) := by decide +kernel
theorem dX0_scanBalls_60 : decode cX0_scanBalls 60 = .ok (.iconst 1, 1) := by decide +kernel
theorem dX0_scanBalls_61 : decode cX0_scanBalls 61 = .ok (.iadd, 1) := by decide +kernel
theorem dX0_scanBalls_62 : decode cX0_scanBalls 62 = .ok (.ireturn, 1) := by decide +kernel
theorem dX0_scanBalls_63 : decode cX0_scanBalls 63 = .ok (.aload_n 0, 1) := by decide +kernel
theorem dX0_scanBalls_64 : decode cX0_scanBalls 64 = .ok (.getfield 28, 3) := by decide +kernel
theorem dX0_scanBalls_67 : decode cX0_scanBalls 67 = .ok (.iload_n 2, 1) := by decide +kernel
theorem dX0_scanBalls_68 : decode cX0_scanBalls 68 = .ok (.iload 4, 2) := by decide +kernel
theorem dX0_scanBalls_70 : decode cX0_scanBalls 70 = .ok (.iastore, 1) := by decide +kernel
theorem dX0_scanBalls_71 : decode cX0_scanBalls 71 = .ok (.aload_n 0, 1) := by decide +kernel
theorem dX0_scanBalls_72 : decode cX0_scanBalls 72 = .ok (.getfield 31, 3) := by decide +kernel
theorem dX0_scanBalls_75 : decode cX0_scanBalls 75 = .ok (.iload_n 2, 1) := by decide +kernel
theorem dX0_scanBalls_76 : decode cX0_scanBalls 76 = .ok (.iload 5, 2) := by decide +kernel
theorem dX0_scanBalls_78 : decode cX0_scanBalls 78 = .ok (.iconst 1, 1) := by decide +kernel
theorem dX0_scanBalls_79 : decode cX0_scanBalls 79 = .ok (.iadd, 1) := by decide +kernel
theorem dX0_scanBalls_80 : decode cX0_scanBalls 80 = .ok (.iastore, 1) := by decide +kernel
theorem dX0_scanBalls_81 : decode cX0_scanBalls 81 = .ok (.aload_n 0, 1) := by decide +kernel
theorem dX0_scanBalls_82 : decode cX0_scanBalls 82 = .ok (.dup, 1) := by decide +kernel
theorem dX0_scanBalls_83 : decode cX0_scanBalls 83 = .ok (.getfield 34, 3) := by decide +kernel
theorem dX0_scanBalls_86 : decode cX0_scanBalls 86 = .ok (.iconst 1, 1) := by decide +kernel
theorem dX0_scanBalls_87 : decode cX0_scanBalls 87 = .ok (.iadd, 1) := by decide +kernel
theorem dX0_scanBalls_88 : decode cX0_scanBalls 88 = .ok (.putfield 34, 3) := by decide +kernel
theorem dX0_scanBalls_91 : decode cX0_scanBalls 91 = .ok (.aload_n 1, 1) := by decide +kernel
theorem dX0_scanBalls_92 : decode cX0_scanBalls 92 = .ok (.getfield 63, 3) := by decide +kernel
theorem dX0_scanBalls_95 : decode cX0_scanBalls 95 = .ok (.iload_n 3, 1) := by decide +kernel
theorem dX0_scanBalls_96 : decode cX0_scanBalls 96 = .ok (.iconst 2, 1) := by decide +kernel
theorem dX0_scanBalls_97 : decode cX0_scanBalls 97 = .ok (.iadd, 1) := by decide +kernel
theorem dX0_scanBalls_98 : decode cX0_scanBalls 98 = .ok (.if_icmp .ne 5, 3) := by decide +kernel
theorem dX0_scanBalls_101 : decode cX0_scanBalls 101 = .ok (.iconst (-1), 1) := by decide +kernel
theorem dX0_scanBalls_102 : decode cX0_scanBalls 102 = .ok (.ireturn, 1) := by decide +kernel
theorem dX0_scanBalls_103 : decode cX0_scanBalls 103 = .ok (.aload_n 1, 1) := by decide +kernel
theorem dX0_scanBalls_104 : decode cX0_scanBalls 104 = .ok (.iload_n 3, 1) := by decide +kernel
theorem dX0_scanBalls_105 : decode cX0_scanBalls 105 = .ok (.iconst 2, 1) := by decide +kernel
theorem dX0_scanBalls_106 : decode cX0_scanBalls 106 = .ok (.iadd, 1) := by decide +kernel
theorem dX0_scanBalls_107 : decode cX0_scanBalls 107 = .ok (.invokevirtual 70, 3) := by decide +kernel
theorem dX0_scanBalls_110 : decode cX0_scanBalls 110 = .ok (.bipush 59, 2) := by decide +kernel
theorem dX0_scanBalls_112 : decode cX0_scanBalls 112 = .ok (.if_icmp .eq 7, 3) := by decide +kernel
theorem dX0_scanBalls_115 : decode cX0_scanBalls 115 = .ok (.iload_n 3, 1) := by decide +kernel
theorem dX0_scanBalls_116 : decode cX0_scanBalls 116 = .ok (.iconst 2, 1) := by decide +kernel
theorem dX0_scanBalls_117 : decode cX0_scanBalls 117 = .ok (.iadd, 1) := by decide +kernel
theorem dX0_scanBalls_118 : decode cX0_scanBalls 118 = .ok (.ireturn, 1) := by decide +kernel
theorem dX0_scanBalls_119 : decode cX0_scanBalls 119 = .ok (.iinc 2 1, 3) := by decide +kernel
theorem dX0_scanBalls_122 : decode cX0_scanBalls 122 = .ok (.goto (-111), 3) := by decide +kernel
theorem dX0_scanBalls_125 : decode cX0_scanBalls 125 = .ok (.bipush 36, 2) := by decide +kernel
theorem dX0_scanBalls_127 : decode cX0_scanBalls 127 = .ok (.ireturn, 1) := by decide +kernel
theorem dX0_takeBalls_0 : decode cX0_takeBalls 0 = .ok (.aload_n 0, 1) := by decide +kernel
theorem dX0_takeBalls_1 : decode cX0_takeBalls 1 = .ok (.iconst 0, 1) := by decide +kernel
theorem dX0_takeBalls_2 : decode cX0_takeBalls 2 = .ok (.putfield 34, 3) := by decide +kernel
theorem dX0_takeBalls_5 : decode cX0_takeBalls 5 = .ok (.aload_n 0, 1) := by decide +kernel
theorem dX0_takeBalls_6 : decode cX0_takeBalls 6 = .ok (.aload_n 1, 1) := by decide +kernel
theorem dX0_takeBalls_7 : decode cX0_takeBalls 7 = .ok (.invokevirtual 81, 3) := by decide +kernel
theorem dX0_takeBalls_10 : decode cX0_takeBalls 10 = .ok (.istore_n 2, 1) := by decide +kernel
theorem dX0_takeBalls_11 : decode cX0_takeBalls 11 = .ok (.iload_n 2, 1) := by decide +kernel
theorem dX0_takeBalls_12 : decode cX0_takeBalls 12 = .ok (.iconst (-1), 1) := by decide +kernel
theorem dX0_takeBalls_13 : decode cX0_takeBalls 13 = .ok (.if_icmp .eq 8, 3) := by decide +kernel
theorem dX0_takeBalls_16 : decode cX0_takeBalls 16 = .ok (.aload_n 0, 1) := by decide +kernel
theorem dX0_takeBalls_17 : decode cX0_takeBalls 17 = .ok (.iconst 0, 1) := by decide +kernel
theorem dX0_takeBalls_18 : decode cX0_takeBalls 18 = .ok (.putfield 34, 3) := by decide +kernel
theorem dX0_takeBalls_21 : decode cX0_takeBalls 21 = .ok (.iload_n 2, 1) := by decide +kernel
theorem dX0_takeBalls_22 : decode cX0_takeBalls 22 = .ok (.ireturn, 1) := by decide +kernel
theorem dX5_forgetResults_0 : decode cX5_forgetResults 0 = .ok (.aload_n 0, 1) := by decide +kernel
theorem dX5_forgetResults_1 : decode cX5_forgetResults 1 = .ok (.iconst 0, 1) := by decide +kernel
theorem dX5_forgetResults_2 : decode cX5_forgetResults 2 = .ok (.putfield 55, 3) := by decide +kernel
theorem dX5_forgetResults_5 : decode cX5_forgetResults 5 = .ok (.aload_n 0, 1) := by decide +kernel
theorem dX5_forgetResults_6 : decode cX5_forgetResults 6 = .ok (.iconst (-1), 1) := by decide +kernel
theorem dX5_forgetResults_7 : decode cX5_forgetResults 7 = .ok (.putfield 59, 3) := by decide +kernel
theorem dX5_forgetResults_10 : decode cX5_forgetResults 10 = .ok (.aload_n 0, 1) := by decide +kernel
theorem dX5_forgetResults_11 : decode cX5_forgetResults 11 = .ok (.iconst 0, 1) := by decide +kernel
theorem dX5_forgetResults_12 : decode cX5_forgetResults 12 = .ok (.putfield 68, 3) := by decide +kernel
theorem dX5_forgetResults_15 : decode cX5_forgetResults 15 = .ok (.aload_n 0, 1) := by decide +kernel
theorem dX5_forgetResults_16 : decode cX5_forgetResults 16 = .ok (.iconst 0, 1) := by decide +kernel
theorem dX5_forgetResults_17 : decode cX5_forgetResults 17 = .ok (.putfield 80, 3) := by decide +kernel
theorem dX5_forgetResults_20 : decode cX5_forgetResults 20 = .ok (.return_, 1) := by decide +kernel
theorem dX5_parse_0 : decode cX5_parse 0 = .ok (.iload_n 1, 1) := by decide +kernel
theorem dX5_parse_1 : decode cX5_parse 1 = .ok (.ifCond .ne 25, 3) := by decide +kernel
theorem dX5_parse_4 : decode cX5_parse 4 = .ok (.aload_n 0, 1) := by decide +kernel
theorem dX5_parse_5 : decode cX5_parse 5 = .ok (.getfield 15, 3) := by decide +kernel
theorem dX5_parse_8 : decode cX5_parse 8 = .ok (.iload_n 1, 1) := by decide +kernel
theorem dX5_parse_9 : decode cX5_parse 9 = .ok (.aload_n 0, 1) := by decide +kernel
theorem dX5_parse_10 : decode cX5_parse 10 = .ok (.getfield 22, 3) := by decide +kernel
theorem dX5_parse_13 : decode cX5_parse 13 = .ok (.aload_n 0, 1) := by decide +kernel
theorem dX5_parse_14 : decode cX5_parse 14 = .ok (.getfield 11, 3) := by decide +kernel
theorem dX5_parse_17 : decode cX5_parse 17 = .ok (.iload_n 1, 1) := by decide +kernel
theorem dX5_parse_18 : decode cX5_parse 18 = .ok (.aaload, 1) := by decide +kernel
theorem dX5_parse_19 : decode cX5_parse 19 = .ok (.invokevirtual 371, 3) := by decide +kernel
theorem dX5_parse_22 : decode cX5_parse 22 = .ok (.iastore, 1) := by decide +kernel
theorem dX5_parse_23 : decode cX5_parse 23 = .ok (.goto 49, 3) := by decide +kernel
theorem dX5_parse_26 : decode cX5_parse 26 = .ok (.iload_n 1, 1) := by decide +kernel
theorem dX5_parse_27 : decode cX5_parse 27 = .ok (.iconst 1, 1) := by decide +kernel
theorem dX5_parse_28 : decode cX5_parse 28 = .ok (.if_icmp .ne 25, 3) := by decide +kernel
theorem dX5_parse_31 : decode cX5_parse 31 = .ok (.aload_n 0, 1) := by decide +kernel
theorem dX5_parse_32 : decode cX5_parse 32 = .ok (.getfield 15, 3) := by decide +kernel
theorem dX5_parse_35 : decode cX5_parse 35 = .ok (.iload_n 1, 1) := by decide +kernel
theorem dX5_parse_36 : decode cX5_parse 36 = .ok (.aload_n 0, 1) := by decide +kernel
theorem dX5_parse_37 : decode cX5_parse 37 = .ok (.getfield 22, 3) := by decide +kernel
theorem dX5_parse_40 : decode cX5_parse 40 = .ok (.aload_n 0, 1) := by decide +kernel
theorem dX5_parse_41 : decode cX5_parse 41 = .ok (.getfield 11, 3) := by decide +kernel
theorem dX5_parse_44 : decode cX5_parse 44 = .ok (.iload_n 1, 1) := by decide +kernel
theorem dX5_parse_45 : decode cX5_parse 45 = .ok (.aaload, 1) := by decide +kernel
theorem dX5_parse_46 : decode cX5_parse 46 = .ok (.invokevirtual 375, 3) := by decide +kernel
theorem dX5_parse_49 : decode cX5_parse 49 = .ok (.iastore, 1) := by decide +kernel
theorem dX5_parse_50 : decode cX5_parse 50 = .ok (.goto 22, 3) := by decide +kernel
theorem dX5_parse_53 : decode cX5_parse 53 = .ok (.aload_n 0, 1) := by decide +kernel
theorem dX5_parse_54 : decode cX5_parse 54 = .ok (.getfield 15, 3) := by decide +kernel
theorem dX5_parse_57 : decode cX5_parse 57 = .ok (.iload_n 1, 1) := by decide +kernel
theorem dX5_parse_58 : decode cX5_parse 58 = .ok (.aload_n 0, 1) := by decide +kernel
theorem dX5_parse_59 : decode cX5_parse 59 = .ok (.getfield 22, 3) := by decide +kernel
theorem dX5_parse_62 : decode cX5_parse 62 = .ok (.aload_n 0, 1) := by decide +kernel
theorem dX5_parse_63 : decode cX5_parse 63 = .ok (.getfield 11, 3) := by decide +kernel
theorem dX5_parse_66 : decode cX5_parse 66 = .ok (.iload_n 1, 1) := by decide +kernel
theorem dX5_parse_67 : decode cX5_parse 67 = .ok (.aaload, 1) := by decide +kernel
theorem dX5_parse_68 : decode cX5_parse 68 = .ok (.invokevirtual 378, 3) := by decide +kernel
theorem dX5_parse_71 : decode cX5_parse 71 = .ok (.iastore, 1) := by decide +kernel
theorem dX5_parse_72 : decode cX5_parse 72 = .ok (.aload_n 0, 1) := by decide +kernel
theorem dX5_parse_73 : decode cX5_parse 73 = .ok (.invokevirtual 144, 3) := by decide +kernel
theorem dX5_parse_76 : decode cX5_parse 76 = .ok (.return_, 1) := by decide +kernel
theorem dX5_type_0 : decode cX5_type 0 = .ok (.iload_n 1, 1) := by decide +kernel
theorem dX5_type_1 : decode cX5_type 1 = .ok (.iconst 3, 1) := by decide +kernel
theorem dX5_type_2 : decode cX5_type 2 = .ok (.invokestatic 97, 3) := by decide +kernel
theorem dX5_type_5 : decode cX5_type 5 = .ok (.ifCond .eq 13, 3) := by decide +kernel
theorem dX5_type_8 : decode cX5_type 8 = .ok (.iload_n 2, 1) := by decide +kernel
theorem dX5_type_9 : decode cX5_type 9 = .ok (.sipush 256, 3) := by decide +kernel
theorem dX5_type_12 : decode cX5_type 12 = .ok (.invokestatic 97, 3) := by decide +kernel
theorem dX5_type_15 : decode cX5_type 15 = .ok (.ifCond .ne 6, 3) := by decide +kernel
theorem dX5_type_18 : decode cX5_type 18 = .ok (.bipush (-2), 2) := by decide +kernel
theorem dX5_type_20 : decode cX5_type 20 = .ok (.ireturn, 1) := by decide +kernel
theorem dX5_type_21 : decode cX5_type 21 = .ok (.aload_n 0, 1) := by decide +kernel
theorem dX5_type_22 : decode cX5_type 22 = .ok (.getfield 11, 3) := by decide +kernel
theorem dX5_type_25 : decode cX5_type 25 = .ok (.iload_n 1, 1) := by decide +kernel
theorem dX5_type_26 : decode cX5_type 26 = .ok (.aaload, 1) := by decide +kernel
theorem dX5_type_27 : decode cX5_type 27 = .ok (.iload_n 2, 1) := by decide +kernel
theorem dX5_type_28 : decode cX5_type 28 = .ok (.invokevirtual 101, 3) := by decide +kernel
theorem dX5_type_31 : decode cX5_type 31 = .ok (.ifCond .ne 6, 3) := by decide +kernel
theorem dX5_type_34 : decode cX5_type 34 = .ok (.bipush (-4), 2) := by decide +kernel
theorem dX5_type_36 : decode cX5_type 36 = .ok (.ireturn, 1) := by decide +kernel
theorem dX5_type_37 : decode cX5_type 37 = .ok (.aload_n 0, 1) := by decide +kernel
theorem dX5_type_38 : decode cX5_type 38 = .ok (.iload_n 1, 1) := by decide +kernel
theorem dX5_type_39 : decode cX5_type 39 = .ok (.invokevirtual 105, 3) := by decide +kernel
theorem dX5_type_42 : decode cX5_type 42 = .ok (.aload_n 0, 1) := by decide +kernel
theorem dX5_type_43 : decode cX5_type 43 = .ok (.getfield 11, 3) := by decide +kernel
theorem dX5_type_46 : decode cX5_type 46 = .ok (.iload_n 1, 1) := by decide +kernel
theorem dX5_type_47 : decode cX5_type 47 = .ok (.aaload, 1) := by decide +kernel
theorem dX5_type_48 : decode cX5_type 48 = .ok (.getfield 108, 3) := by decide +kernel
theorem dX5_type_51 : decode cX5_type 51 = .ok (.ireturn, 1) := by decide +kernel
theorem dX5_wipe_0 : decode cX5_wipe 0 = .ok (.iload_n 1, 1) := by decide +kernel
theorem dX5_wipe_1 : decode cX5_wipe 1 = .ok (.iconst 3, 1) := by decide +kernel
theorem dX5_wipe_2 : decode cX5_wipe 2 = .ok (.invokestatic 97, 3) := by decide +kernel
theorem dX5_wipe_5 : decode cX5_wipe 5 = .ok (.ifCond .ne 6, 3) := by decide +kernel
theorem dX5_wipe_8 : decode cX5_wipe 8 = .ok (.bipush (-2), 2) := by decide +kernel
theorem dX5_wipe_10 : decode cX5_wipe 10 = .ok (.ireturn, 1) := by decide +kernel
theorem dX5_wipe_11 : decode cX5_wipe 11 = .ok (.aload_n 0, 1) := by decide +kernel
theorem dX5_wipe_12 : decode cX5_wipe 12 = .ok (.getfield 11, 3) := by decide +kernel
theorem dX5_wipe_15 : decode cX5_wipe 15 = .ok (.iload_n 1, 1) := by decide +kernel
theorem dX5_wipe_16 : decode cX5_wipe 16 = .ok (.aaload, 1) := by decide +kernel
theorem dX5_wipe_17 : decode cX5_wipe 17 = .ok (.getfield 108, 3) := by decide +kernel
theorem dX5_wipe_20 : decode cX5_wipe 20 = .ok (.istore_n 2, 1) := by decide +kernel
theorem dX5_wipe_21 : decode cX5_wipe 21 = .ok (.aload_n 0, 1) := by decide +kernel
theorem dX5_wipe_22 : decode cX5_wipe 22 = .ok (.getfield 11, 3) := by decide +kernel
theorem dX5_wipe_25 : decode cX5_wipe 25 = .ok (.iload_n 1, 1) := by decide +kernel
theorem dX5_wipe_26 : decode cX5_wipe 26 = .ok (.aaload, 1) := by decide +kernel
theorem dX5_wipe_27 : decode cX5_wipe 27 = .ok (.iconst 0, 1) := by decide +kernel
theorem dX5_wipe_28 : decode cX5_wipe 28 = .ok (.putfield 108, 3) := by decide +kernel
theorem dX5_wipe_31 : decode cX5_wipe 31 = .ok (.aload_n 0, 1) := by decide +kernel
theorem dX5_wipe_32 : decode cX5_wipe 32 = .ok (.iload_n 1, 1) := by decide +kernel
theorem dX5_wipe_33 : decode cX5_wipe 33 = .ok (.invokevirtual 105, 3) := by decide +kernel
theorem dX5_wipe_36 : decode cX5_wipe 36 = .ok (.iload_n 2, 1) := by decide +kernel
theorem dX5_wipe_37 : decode cX5_wipe 37 = .ok (.ireturn, 1) := by decide +kernel
theorem dX5_undo_0 : decode cX5_undo 0 = .ok (.iload_n 1, 1) := by decide +kernel
theorem dX5_undo_1 : decode cX5_undo 1 = .ok (.iconst 3, 1) := by decide +kernel
theorem dX5_undo_2 : decode cX5_undo 2 = .ok (.invokestatic 97, 3) := by decide +kernel
theorem dX5_undo_5 : decode cX5_undo 5 = .ok (.ifCond .ne 6, 3) := by decide +kernel
theorem dX5_undo_8 : decode cX5_undo 8 = .ok (.bipush (-2), 2) := by decide +kernel
theorem dX5_undo_10 : decode cX5_undo 10 = .ok (.ireturn, 1) := by decide +kernel
theorem dX5_undo_11 : decode cX5_undo 11 = .ok (.aload_n 0, 1) := by decide +kernel
theorem dX5_undo_12 : decode cX5_undo 12 = .ok (.getfield 11, 3) := by decide +kernel
theorem dX5_undo_15 : decode cX5_undo 15 = .ok (.iload_n 1, 1) := by decide +kernel
theorem dX5_undo_16 : decode cX5_undo 16 = .ok (.aaload, 1) := by decide +kernel
theorem dX5_undo_17 : decode cX5_undo 17 = .ok (.getfield 108, 3) := by decide +kernel
theorem dX5_undo_20 : decode cX5_undo 20 = .ok (.ifCond .ne 6, 3) := by decide +kernel
theorem dX5_undo_23 : decode cX5_undo 23 = .ok (.bipush (-3), 2) := by decide +kernel
theorem dX5_undo_25 : decode cX5_undo 25 = .ok (.ireturn, 1) := by decide +kernel
theorem dX5_undo_26 : decode cX5_undo 26 = .ok (.aload_n 0, 1) := by decide +kernel
theorem dX5_undo_27 : decode cX5_undo 27 = .ok (.getfield 11, 3) := by decide +kernel
theorem dX5_undo_30 : decode cX5_undo 30 = .ok (.iload_n 1, 1) := by decide +kernel
theorem dX5_undo_31 : decode cX5_undo 31 = .ok (.aaload, 1) := by decide +kernel
theorem dX5_undo_32 : decode cX5_undo 32 = .ok (.dup, 1) := by decide +kernel
theorem dX5_undo_33 : decode cX5_undo 33 = .ok (.getfield 108, 3) := by decide +kernel
theorem dX5_undo_36 : decode cX5_undo 36 = .ok (.iconst 1, 1) := by decide +kernel
theorem dX5_undo_37 : decode cX5_undo 37 = .ok (.isub, 1) := by decide +kernel
theorem dX5_undo_38 : decode cX5_undo 38 = .ok (.putfield 108, 3) := by decide +kernel
theorem dX5_undo_41 : decode cX5_undo 41 = .ok (.aload_n 0, 1) := by decide +kernel
theorem dX5_undo_42 : decode cX5_undo 42 = .ok (.iload_n 1, 1) := by decide +kernel
theorem dX5_undo_43 : decode cX5_undo 43 = .ok (.invokevirtual 105, 3) := by decide +kernel
theorem dX5_undo_46 : decode cX5_undo 46 = .ok (.aload_n 0, 1) := by decide +kernel
theorem dX5_undo_47 : decode cX5_undo 47 = .ok (.getfield 11, 3) := by decide +kernel
theorem dX5_undo_50 : decode cX5_undo 50 = .ok (.iload_n 1, 1) := by decide +kernel
theorem dX5_undo_51 : decode cX5_undo 51 = .ok (.aaload, 1) := by decide +kernel
theorem dX5_undo_52 : decode cX5_undo 52 = .ok (.getfield 108, 3) := by decide +kernel
theorem dX5_undo_55 : decode cX5_undo 55 = .ok (.ireturn, 1) := by decide +kernel
theorem dX5_fault_0 : decode cX5_fault 0 = .ok (.iload_n 1, 1) := by decide +kernel
theorem dX5_fault_1 : decode cX5_fault 1 = .ok (.iconst 3, 1) := by decide +kernel
theorem dX5_fault_2 : decode cX5_fault 2 = .ok (.invokestatic 97, 3) := by decide +kernel
theorem dX5_fault_5 : decode cX5_fault 5 = .ok (.ifCond .eq 12, 3) := by decide +kernel
theorem dX5_fault_8 : decode cX5_fault 8 = .ok (.aload_n 0, 1) := by decide +kernel
theorem dX5_fault_9 : decode cX5_fault 9 = .ok (.getfield 15, 3) := by decide +kernel
theorem dX5_fault_12 : decode cX5_fault 12 = .ok (.iload_n 1, 1) := by decide +kernel
theorem dX5_fault_13 : decode cX5_fault 13 = .ok (.iaload, 1) := by decide +kernel
theorem dX5_fault_14 : decode cX5_fault 14 = .ok (.goto 5, 3) := by decide +kernel
theorem dX5_fault_17 : decode cX5_fault 17 = .ok (.bipush (-2), 2) := by decide +kernel
theorem dX5_fault_19 : decode cX5_fault 19 = .ok (.ireturn, 1) := by decide +kernel
theorem dX5_pin_0 : decode cX5_pin 0 = .ok (.iload_n 1, 1) := by decide +kernel
theorem dX5_pin_1 : decode cX5_pin 1 = .ok (.aload_n 0, 1) := by decide +kernel
theorem dX5_pin_2 : decode cX5_pin 2 = .ok (.getfield 22, 3) := by decide +kernel
theorem dX5_pin_5 : decode cX5_pin 5 = .ok (.getfield 111, 3) := by decide +kernel
theorem dX5_pin_8 : decode cX5_pin 8 = .ok (.invokestatic 97, 3) := by decide +kernel
theorem dX5_pin_11 : decode cX5_pin 11 = .ok (.ifCond .ne 6, 3) := by decide +kernel
theorem dX5_pin_14 : decode cX5_pin 14 = .ok (.bipush (-2), 2) := by decide +kernel
theorem dX5_pin_16 : decode cX5_pin 16 = .ok (.ireturn, 1) := by decide +kernel
theorem dX5_pin_17 : decode cX5_pin 17 = .ok (.iload_n 2, 1) := by decide +kernel
theorem dX5_pin_18 : decode cX5_pin 18 = .ok (.tableswitch 62 0 2 #[26, 39, 52], 26) := by decide +kernel
theorem dX5_pin_44 : decode cX5_pin 44 = .ok (.aload_n 0, 1) := by decide +kernel
theorem dX5_pin_45 : decode cX5_pin 45 = .ok (.getfield 22, 3) := by decide +kernel
theorem dX5_pin_48 : decode cX5_pin 48 = .ok (.getfield 114, 3) := by decide +kernel
theorem dX5_pin_51 : decode cX5_pin 51 = .ok (.iload_n 1, 1) := by decide +kernel
theorem dX5_pin_52 : decode cX5_pin 52 = .ok (.iaload, 1) := by decide +kernel
theorem dX5_pin_53 : decode cX5_pin 53 = .ok (.bipush 9, 2) := by decide +kernel
theorem dX5_pin_55 : decode cX5_pin 55 = .ok (.idiv, 1) := by decide +kernel
theorem dX5_pin_56 : decode cX5_pin 56 = .ok (.ireturn, 1) := by decide +kernel
theorem dX5_pin_57 : decode cX5_pin 57 = .ok (.aload_n 0, 1) := by decide +kernel
theorem dX5_pin_58 : decode cX5_pin 58 = .ok (.getfield 22, 3) := by decide +kernel
theorem dX5_pin_61 : decode cX5_pin 61 = .ok (.getfield 114, 3) := by decide +kernel
theorem dX5_pin_64 : decode cX5_pin 64 = .ok (.iload_n 1, 1) := by decide +kernel
theorem dX5_pin_65 : decode cX5_pin 65 = .ok (.iaload, 1) := by decide +kernel
theorem dX5_pin_66 : decode cX5_pin 66 = .ok (.bipush 9, 2) := by decide +kernel
theorem dX5_pin_68 : decode cX5_pin 68 = .ok (.irem, 1) := by decide +kernel
theorem dX5_pin_69 : decode cX5_pin 69 = .ok (.ireturn, 1) := by decide +kernel
theorem dX5_pin_70 : decode cX5_pin 70 = .ok (.aload_n 0, 1) := by decide +kernel
theorem dX5_pin_71 : decode cX5_pin 71 = .ok (.getfield 22, 3) := by decide +kernel
theorem dX5_pin_74 : decode cX5_pin 74 = .ok (.getfield 117, 3) := by decide +kernel
theorem dX5_pin_77 : decode cX5_pin 77 = .ok (.iload_n 1, 1) := by decide +kernel
theorem dX5_pin_78 : decode cX5_pin 78 = .ok (.iaload, 1) := by decide +kernel
theorem dX5_pin_79 : decode cX5_pin 79 = .ok (.ireturn, 1) := by decide +kernel
theorem dX5_pin_80 : decode cX5_pin 80 = .ok (.bipush (-2), 2) := by decide +kernel
theorem dX5_pin_82 : decode cX5_pin 82 = .ok (.ireturn, 1) := by decide +kernel
theorem dX0_allEvents_0 : decode cX0_allEvents 0 = .ok (.iconst 1, 1) := by decide +kernel
theorem dX0_allEvents_1 : decode cX0_allEvents 1 = .ok (.aload_n 0, 1) := by decide +kernel
theorem dX0_allEvents_2 : decode cX0_allEvents 2 = .ok (.getfield 43, 3) := by decide +kernel
theorem dX0_allEvents_5 : decode cX0_allEvents 5 = .ok (.getfield 53, 3) := by decide +kernel
theorem dX0_allEvents_8 : decode cX0_allEvents 8 = .ok (.ishl, 1) := by decide +kernel
theorem dX0_allEvents_9 : decode cX0_allEvents 9 = .ok (.iconst 1, 1) := by decide +kernel
theorem dX0_allEvents_10 : decode cX0_allEvents 10 = .ok (.isub, 1) := by decide +kernel
theorem dX0_allEvents_11 : decode cX0_allEvents 11 = .ok (.ireturn, 1) := by decide +kernel
theorem dX1_takeTold_0 : decode cX1_takeTold 0 = .ok (.aload_n 0, 1) := by decide +kernel
theorem dX1_takeTold_1 : decode cX1_takeTold 1 = .ok (.getfield 67, 3) := by decide +kernel
theorem dX1_takeTold_4 : decode cX1_takeTold 4 = .ok (.getfield 71, 3) := by decide +kernel
theorem dX1_takeTold_7 : decode cX1_takeTold 7 = .ok (.iconst 0, 1) := by decide +kernel
theorem dX1_takeTold_8 : decode cX1_takeTold 8 = .ok (.aload_n 0, 1) := by decide +kernel
theorem dX1_takeTold_9 : decode cX1_takeTold 9 = .ok (.getfield 9, 3) := by decide +kernel
theorem dX1_takeTold_12 : decode cX1_takeTold 12 = .ok (.iconst 0, 1) := by decide +kernel
theorem dX1_takeTold_13 : decode cX1_takeTold 13 = .ok (.bipush 12, 2) := by decide +kernel
theorem dX1_takeTold_15 : decode cX1_takeTold 15 = .ok (.invokestatic 76, 3) := by decide +kernel
theorem dX1_takeTold_18 : decode cX1_takeTold 18 = .ok (.aload_n 0, 1) := by decide +kernel
theorem dX1_takeTold_19 : decode cX1_takeTold 19 = .ok (.getfield 67, 3) := by decide +kernel
theorem dX1_takeTold_22 : decode cX1_takeTold 22 = .ok (.getfield 82, 3) := by decide +kernel
theorem dX1_takeTold_25 : decode cX1_takeTold 25 = .ok (.iconst 0, 1) := by decide +kernel
theorem dX1_takeTold_26 : decode cX1_takeTold 26 = .ok (.aload_n 0, 1) := by decide +kernel
theorem dX1_takeTold_27 : decode cX1_takeTold 27 = .ok (.getfield 15, 3) := by decide +kernel
theorem dX1_takeTold_30 : decode cX1_takeTold 30 = .ok (.iconst 0, 1) := by decide +kernel
theorem dX1_takeTold_31 : decode cX1_takeTold 31 = .ok (.bipush 12, 2) := by decide +kernel
theorem dX1_takeTold_33 : decode cX1_takeTold 33 = .ok (.invokestatic 76, 3) := by decide +kernel
theorem dX1_takeTold_36 : decode cX1_takeTold 36 = .ok (.aload_n 0, 1) := by decide +kernel
theorem dX1_takeTold_37 : decode cX1_takeTold 37 = .ok (.getfield 67, 3) := by decide +kernel
theorem dX1_takeTold_40 : decode cX1_takeTold 40 = .ok (.getfield 85, 3) := by decide +kernel
theorem dX1_takeTold_43 : decode cX1_takeTold 43 = .ok (.iconst 0, 1) := by decide +kernel
theorem dX1_takeTold_44 : decode cX1_takeTold 44 = .ok (.aload_n 0, 1) := by decide +kernel
theorem dX1_takeTold_45 : decode cX1_takeTold 45 = .ok (.getfield 18, 3) := by decide +kernel
theorem dX1_takeTold_48 : decode cX1_takeTold 48 = .ok (.iconst 0, 1) := by decide +kernel
theorem dX1_takeTold_49 : decode cX1_takeTold 49 = .ok (.bipush 12, 2) := by decide +kernel
theorem dX1_takeTold_51 : decode cX1_takeTold 51 = .ok (.invokestatic 76, 3) := by decide +kernel
theorem dX1_takeTold_54 : decode cX1_takeTold 54 = .ok (.aload_n 0, 1) := by decide +kernel
theorem dX1_takeTold_55 : decode cX1_takeTold 55 = .ok (.aload_n 0, 1) := by decide +kernel
theorem dX1_takeTold_56 : decode cX1_takeTold 56 = .ok (.getfield 67, 3) := by decide +kernel
theorem dX1_takeTold_59 : decode cX1_takeTold 59 = .ok (.getfield 88, 3) := by decide +kernel
theorem dX1_takeTold_62 : decode cX1_takeTold 62 = .ok (.putfield 21, 3) := by decide +kernel
theorem dX1_takeTold_65 : decode cX1_takeTold 65 = .ok (.aload_n 0, 1) := by decide +kernel
theorem dX1_takeTold_66 : decode cX1_takeTold 66 = .ok (.aload_n 0, 1) := by decide +kernel
theorem dX1_takeTold_67 : decode cX1_takeTold 67 = .ok (.getfield 67, 3) := by decide +kernel
theorem dX1_takeTold_70 : decode cX1_takeTold 70 = .ok (.invokevirtual 89, 3) := by decide +kernel
theorem dX1_takeTold_73 : decode cX1_takeTold 73 = .ok (.putfield 25, 3) := by decide +kernel
theorem dX1_takeTold_76 : decode cX1_takeTold 76 = .ok (.return_, 1) := by decide +kernel
theorem dX1_begin_0 : decode cX1_begin 0 = .ok (.iconst 0, 1) := by decide +kernel
theorem dX1_begin_1 : decode cX1_begin 1 = .ok (.istore_n 1, 1) := by decide +kernel
theorem dX1_begin_2 : decode cX1_begin 2 = .ok (.iload_n 1, 1) := by decide +kernel
theorem dX1_begin_3 : decode cX1_begin 3 = .ok (.bipush 12, 2) := by decide +kernel
theorem dX1_begin_5 : decode cX1_begin 5 = .ok (.if_icmp .ge 44, 3) := by decide +kernel
theorem dX1_begin_8 : decode cX1_begin 8 = .ok (.aload_n 0, 1) := by decide +kernel
theorem dX1_begin_9 : decode cX1_begin 9 = .ok (.getfield 28, 3) := by decide +kernel
theorem dX1_begin_12 : decode cX1_begin 12 = .ok (.iload_n 1, 1) := by decide +kernel
theorem dX1_begin_13 : decode cX1_begin 13 = .ok (.aload_n 0, 1) := by decide +kernel
theorem dX1_begin_14 : decode cX1_begin 14 = .ok (.getfield 9, 3) := by decide +kernel
theorem dX1_begin_17 : decode cX1_begin 17 = .ok (.iload_n 1, 1) := by decide +kernel
theorem dX1_begin_18 : decode cX1_begin 18 = .ok (.iaload, 1) := by decide +kernel
theorem dX1_begin_19 : decode cX1_begin 19 = .ok (.iconst 3, 1) := by decide +kernel
theorem dX1_begin_20 : decode cX1_begin 20 = .ok (.if_icmp .ne 7, 3) := by decide +kernel
theorem dX1_begin_23 : decode cX1_begin 23 = .ok (.iconst 0, 1) := by decide +kernel
theorem dX1_begin_24 : decode cX1_begin 24 = .ok (.goto 18, 3) := by decide +kernel
theorem dX1_begin_27 : decode cX1_begin 27 = .ok (.aload_n 0, 1) := by decide +kernel
theorem dX1_begin_28 : decode cX1_begin 28 = .ok (.getfield 9, 3) := by decide +kernel
theorem dX1_begin_31 : decode cX1_begin 31 = .ok (.iload_n 1, 1) := by decide +kernel
theorem dX1_begin_32 : decode cX1_begin 32 = .ok (.iaload, 1) := by decide +kernel
theorem dX1_begin_33 : decode cX1_begin 33 = .ok (.iconst 1, 1) := by decide +kernel
theorem dX1_begin_34 : decode cX1_begin 34 = .ok (.if_icmp .ne 7, 3) := by decide +kernel
theorem dX1_begin_37 : decode cX1_begin 37 = .ok (.iconst 1, 1) := by decide +kernel
theorem dX1_begin_38 : decode cX1_begin 38 = .ok (.goto 4, 3) := by decide +kernel
theorem dX1_begin_41 : decode cX1_begin 41 = .ok (.iconst (-1), 1) := by decide +kernel
theorem dX1_begin_42 : decode cX1_begin 42 = .ok (.iastore, 1) := by decide +kernel
theorem dX1_begin_43 : decode cX1_begin 43 = .ok (.iinc 1 1, 3) := by decide +kernel
theorem dX1_begin_46 : decode cX1_begin 46 = .ok (.goto (-44), 3) := by decide +kernel
theorem dX1_begin_49 : decode cX1_begin 49 = .ok (.aload_n 0, 1) := by decide +kernel
theorem dX1_begin_50 : decode cX1_begin 50 = .ok (.getfield 31, 3) := by decide +kernel
theorem dX1_begin_53 : decode cX1_begin 53 = .ok (.iconst (-1), 1) := by decide +kernel
theorem dX1_begin_54 : decode cX1_begin 54 = .ok (.invokestatic 107, 3) := by decide +kernel
theorem dX1_begin_57 : decode cX1_begin 57 = .ok (.aload_n 0, 1) := by decide +kernel
theorem dX1_begin_58 : decode cX1_begin 58 = .ok (.getfield 34, 3) := by decide +kernel
theorem dX1_begin_61 : decode cX1_begin 61 = .ok (.iconst 0, 1) := by decide +kernel
theorem dX1_begin_62 : decode cX1_begin 62 = .ok (.invokestatic 107, 3) := by decide +kernel
theorem dX1_begin_65 : decode cX1_begin 65 = .ok (.aload_n 0, 1) := by decide +kernel
theorem dX1_begin_66 : decode cX1_begin 66 = .ok (.getfield 37, 3) := by decide +kernel
theorem dX1_begin_69 : decode cX1_begin 69 = .ok (.iconst (-1), 1) := by decide +kernel
theorem dX1_begin_70 : decode cX1_begin 70 = .ok (.invokestatic 107, 3) := by decide +kernel
theorem dX1_begin_73 : decode cX1_begin 73 = .ok (.aload_n 0, 1) := by decide +kernel
theorem dX1_begin_74 : decode cX1_begin 74 = .ok (.iconst 1, 1) := by decide +kernel
theorem dX1_begin_75 : decode cX1_begin 75 = .ok (.aload_n 0, 1) := by decide +kernel
theorem dX1_begin_76 : decode cX1_begin 76 = .ok (.getfield 21, 3) := by decide +kernel
theorem dX1_begin_79 : decode cX1_begin 79 = .ok (.ishl, 1) := by decide +kernel
theorem dX1_begin_80 : decode cX1_begin 80 = .ok (.iconst 1, 1) := by decide +kernel
theorem dX1_begin_81 : decode cX1_begin 81 = .ok (.isub, 1) := by decide +kernel
theorem dX1_begin_82 : decode cX1_begin 82 = .ok (.putfield 40, 3) := by decide +kernel
theorem dX1_begin_85 : decode cX1_begin 85 = .ok (.aload_n 0, 1) := by decide +kernel
theorem dX1_begin_86 : decode cX1_begin 86 = .ok (.getfield 46, 3) := by decide +kernel
theorem dX1_begin_89 : decode cX1_begin 89 = .ok (.iconst 0, 1) := by decide +kernel
theorem dX1_begin_90 : decode cX1_begin 90 = .ok (.invokestatic 107, 3) := by decide +kernel
theorem dX1_begin_93 : decode cX1_begin 93 = .ok (.aload_n 0, 1) := by decide +kernel
theorem dX1_begin_94 : decode cX1_begin 94 = .ok (.getfield 49, 3) := by decide +kernel
theorem dX1_begin_97 : decode cX1_begin 97 = .ok (.iconst 0, 1) := by decide +kernel
theorem dX1_begin_98 : decode cX1_begin 98 = .ok (.invokestatic 107, 3) := by decide +kernel
theorem dX1_begin_101 : decode cX1_begin 101 = .ok (.aload_n 0, 1) := by decide +kernel
theorem dX1_begin_102 : decode cX1_begin 102 = .ok (.getfield 52, 3) := by decide +kernel
theorem dX1_begin_105 : decode cX1_begin 105 = .ok (.iconst 0, 1) := by decide +kernel
theorem dX1_begin_106 : decode cX1_begin 106 = .ok (.invokestatic 107, 3) := by decide +kernel
theorem dX1_begin_109 : decode cX1_begin 109 = .ok (.aload_n 0, 1) := by decide +kernel
theorem dX1_begin_110 : decode cX1_begin 110 = .ok (.getfield 55, 3) := by decide +kernel
theorem dX1_begin_113 : decode cX1_begin 113 = .ok (.iconst (-1), 1) := by decide +kernel
theorem dX1_begin_114 : decode cX1_begin 114 = .ok (.invokestatic 107, 3) := by decide +kernel
theorem dX1_begin_117 : decode cX1_begin 117 = .ok (.aload_n 0, 1) := by decide +kernel
theorem dX1_begin_118 : decode cX1_begin 118 = .ok (.getfield 58, 3) := by decide +kernel
theorem dX1_begin_121 : decode cX1_begin 121 = .ok (.iconst 0, 1) := by decide +kernel
theorem dX1_begin_122 : decode cX1_begin 122 = .ok (.invokestatic 107, 3) := by decide +kernel
theorem dX1_begin_125 : decode cX1_begin 125 = .ok (.aload_n 0, 1) := by decide +kernel
theorem dX1_begin_126 : decode cX1_begin 126 = .ok (.getfield 61, 3) := by decide +kernel
theorem dX1_begin_129 : decode cX1_begin 129 = .ok (.iconst 0, 1) := by decide +kernel
theorem dX1_begin_130 : decode cX1_begin 130 = .ok (.invokestatic 107, 3) := by decide +kernel
theorem dX1_begin_133 : decode cX1_begin 133 = .ok (.aload_n 0, 1) := by decide +kernel
theorem dX1_begin_134 : decode cX1_begin 134 = .ok (.iconst 0, 1) := by decide +kernel
theorem dX1_begin_135 : decode cX1_begin 135 = .ok (.putfield 64, 3) := by decide +kernel
theorem dX1_begin_138 : decode cX1_begin 138 = .ok (.return_, 1) := by decide +kernel
theorem dX3_number_0 : decode cX3_number 0 = .ok (.aload_n 0, 1) := by decide +kernel
theorem dX3_number_1 : decode cX3_number 1 = .ok (.getfield 11, 3) := by decide +kernel
theorem dX3_number_4 : decode cX3_number 4 = .ok (.iload_n 1, 1) := by decide +kernel
theorem dX3_number_5 : decode cX3_number 5 = .ok (.iconst 4, 1) := by decide +kernel
theorem dX3_number_6 : decode cX3_number 6 = .ok (.imul, 1) := by decide +kernel
theorem dX3_number_7 : decode cX3_number 7 = .ok (.iload_n 2, 1) := by decide +kernel
theorem dX3_number_8 : decode cX3_number 8 = .ok (.iadd, 1) := by decide +kernel
theorem dX3_number_9 : decode cX3_number 9 = .ok (.iaload, 1) := by decide +kernel
theorem dX3_number_10 : decode cX3_number 10 = .ok (.ireturn, 1) := by decide +kernel
theorem dX1_tilt_0 : decode cX1_tilt 0 = .ok (.iload_n 1, 1) := by decide +kernel
theorem dX1_tilt_1 : decode cX1_tilt 1 = .ok (.ifCond .eq 7, 3) := by decide +kernel
theorem dX1_tilt_4 : decode cX1_tilt 4 = .ok (.iconst 1, 1) := by decide +kernel
theorem dX1_tilt_5 : decode cX1_tilt 5 = .ok (.goto 4, 3) := by decide +kernel
theorem dX1_tilt_8 : decode cX1_tilt 8 = .ok (.iconst (-1), 1) := by decide +kernel
theorem dX1_tilt_9 : decode cX1_tilt 9 = .ok (.istore_n 2, 1) := by decide +kernel
theorem dX1_tilt_10 : decode cX1_tilt 10 = .ok (.iconst 1, 1) := by decide +kernel
theorem dX1_tilt_11 : decode cX1_tilt 11 = .ok (.istore_n 3, 1) := by decide +kernel
theorem dX1_tilt_12 : decode cX1_tilt 12 = .ok (.iload_n 3, 1) := by decide +kernel
theorem dX1_tilt_13 : decode cX1_tilt 13 = .ok (.bipush 9, 2) := by decide +kernel
theorem dX1_tilt_15 : decode cX1_tilt 15 = .ok (.if_icmp .ge 107, 3) := by decide +kernel
theorem dX1_tilt_18 : decode cX1_tilt 18 = .ok (.iload_n 1, 1) := by decide +kernel
theorem dX1_tilt_19 : decode cX1_tilt 19 = .ok (.ifCond .eq 10, 3) := by decide +kernel
theorem dX1_tilt_22 : decode cX1_tilt 22 = .ok (.bipush 8, 2) := by decide +kernel
theorem dX1_tilt_24 : decode cX1_tilt 24 = .ok (.iload_n 3, 1) := by decide +kernel
theorem dX1_tilt_25 : decode cX1_tilt 25 = .ok (.isub, 1) := by decide +kernel
theorem dX1_tilt_26 : decode cX1_tilt 26 = .ok (.goto 4, 3) := by decide +kernel
theorem dX1_tilt_29 : decode cX1_tilt 29 = .ok (.iload_n 3, 1) := by decide +kernel
theorem dX1_tilt_30 : decode cX1_tilt 30 = .ok (.istore 4, 2) := by decide +kernel
theorem dX1_tilt_32 : decode cX1_tilt 32 = .ok (.iconst 0, 1) := by decide +kernel
theorem dX1_tilt_33 : decode cX1_tilt 33 = .ok (.istore 5, 2) := by decide +kernel
theorem dX1_tilt_35 : decode cX1_tilt 35 = .ok (.iload 5, 2) := by decide +kernel
theorem dX1_tilt_37 : decode cX1_tilt 37 = .ok (.bipush 8, 2) := by decide +kernel
theorem dX1_tilt_39 : decode cX1_tilt 39 = .ok (.if_icmp .ge 77, 3) := by decide +kernel
theorem dX1_tilt_42 : decode cX1_tilt 42 = .ok (.iload 5, 2) := by decide +kernel
theorem dX1_tilt_44 : decode cX1_tilt 44 = .ok (.bipush 9, 2) := by decide +kernel
theorem dX1_tilt_46 : decode cX1_tilt 46 = .ok (.imul, 1) := by decide +kernel
theorem dX1_tilt_47 : decode cX1_tilt 47 = .ok (.iload 4, 2) := by decide +kernel
theorem dX1_tilt_49 : decode cX1_tilt 49 = .ok (.iadd, 1) := by decide +kernel
theorem dX1_tilt_50 : decode cX1_tilt 50 = .ok (.istore 6, 2) := by decide +kernel
theorem dX1_tilt_52 : decode cX1_tilt 52 = .ok (.aload_n 0, 1) := by decide +kernel
theorem dX1_tilt_53 : decode cX1_tilt 53 = .ok (.getfield 31, 3) := by decide +kernel
theorem dX1_tilt_56 : decode cX1_tilt 56 = .ok (.iload 6, 2) := by decide +kernel
theorem dX1_tilt_58 : decode cX1_tilt 58 = .ok (.iaload, 1) := by decide +kernel
theorem dX1_tilt_59 : decode cX1_tilt 59 = .ok (.istore 7, 2) := by decide +kernel
theorem dX1_tilt_61 : decode cX1_tilt 61 = .ok (.iload 7, 2) := by decide +kernel
theorem dX1_tilt_63 : decode cX1_tilt 63 = .ok (.iconst (-1), 1) := by decide +kernel
theorem dX1_tilt_64 : decode cX1_tilt 64 = .ok (.if_icmp .eq 46, 3) := by decide +kernel
theorem dX1_tilt_67 : decode cX1_tilt 67 = .ok (.aload_n 0, 1) := by decide +kernel
theorem dX1_tilt_68 : decode cX1_tilt 68 = .ok (.getfield 31, 3) := by decide +kernel
theorem dX1_tilt_71 : decode cX1_tilt 71 = .ok (.iload 6, 2) := by decide +kernel
theorem dX1_tilt_73 : decode cX1_tilt 73 = .ok (.iload_n 2, 1) := by decide +kernel
theorem dX1_tilt_74 : decode cX1_tilt 74 = .ok (.iadd, 1) := by decide +kernel
theorem dX1_tilt_75 : decode cX1_tilt 75 = .ok (.iaload, 1) := by decide +kernel
theorem dX1_tilt_76 : decode cX1_tilt 76 = .ok (.iconst (-1), 1) := by decide +kernel
theorem dX1_tilt_77 : decode cX1_tilt 77 = .ok (.if_icmp .ne 33, 3) := by decide +kernel
theorem dX1_tilt_80 : decode cX1_tilt 80 = .ok (.aload_n 0, 1) := by decide +kernel
theorem dX1_tilt_81 : decode cX1_tilt 81 = .ok (.getfield 31, 3) := by decide +kernel
theorem dX1_tilt_84 : decode cX1_tilt 84 = .ok (.iload 6, 2) := by decide +kernel
theorem dX1_tilt_86 : decode cX1_tilt 86 = .ok (.iconst (-1), 1) := by decide +kernel
theorem dX1_tilt_87 : decode cX1_tilt 87 = .ok (.iastore, 1) := by decide +kernel
theorem dX1_tilt_88 : decode cX1_tilt 88 = .ok (.aload_n 0, 1) := by decide +kernel
theorem dX1_tilt_89 : decode cX1_tilt 89 = .ok (.getfield 31, 3) := by decide +kernel
theorem dX1_tilt_92 : decode cX1_tilt 92 = .ok (.iload 6, 2) := by decide +kernel
theorem dX1_tilt_94 : decode cX1_tilt 94 = .ok (.iload_n 2, 1) := by decide +kernel
theorem dX1_tilt_95 : decode cX1_tilt 95 = .ok (.iadd, 1) := by decide +kernel
theorem dX1_tilt_96 : decode cX1_tilt 96 = .ok (.iload 7, 2) := by decide +kernel
theorem dX1_tilt_98 : decode cX1_tilt 98 = .ok (.iastore, 1) := by decide +kernel
theorem dX1_tilt_99 : decode cX1_tilt 99 = .ok (.aload_n 0, 1) := by decide +kernel
theorem dX1_tilt_100 : decode cX1_tilt 100 = .ok (.getfield 37, 3) := by decide +kernel
theorem dX1_tilt_103 : decode cX1_tilt 103 = .ok (.iload 7, 2) := by decide +kernel
theorem dX1_tilt_105 : decode cX1_tilt 105 = .ok (.iload 6, 2) := by decide +kernel
theorem dX1_tilt_107 : decode cX1_tilt 107 = .ok (.iload_n 2, 1) := by decide +kernel
theorem dX1_tilt_108 : decode cX1_tilt 108 = .ok (.iadd, 1) := by decide +kernel
theorem dX1_tilt_109 : decode cX1_tilt 109 = .ok (.iastore, 1) := by decide +kernel
theorem dX1_tilt_110 : decode cX1_tilt 110 = .ok (.iinc 5 1, 3) := by decide +kernel
theorem dX1_tilt_113 : decode cX1_tilt 113 = .ok (.goto (-78), 3) := by decide +kernel
theorem dX1_tilt_116 : decode cX1_tilt 116 = .ok (.iinc 3 1, 3) := by decide +kernel
theorem dX1_tilt_119 : decode cX1_tilt 119 = .ok (.goto (-107), 3) := by decide +kernel
theorem dX1_tilt_122 : decode cX1_tilt 122 = .ok (.return_, 1) := by decide +kernel
theorem dX1_doEvents_0 : decode cX1_doEvents 0 = .ok (.aload_n 0, 1) := by decide +kernel
theorem dX1_doEvents_1 : decode cX1_doEvents 1 = .ok (.getfield 67, 3) := by decide +kernel
theorem dX1_doEvents_4 : decode cX1_doEvents 4 = .ok (.getfield 113, 3) := by decide +kernel
theorem dX1_doEvents_7 : decode cX1_doEvents 7 = .ok (.astore_n 2, 1) := by decide +kernel
theorem dX1_doEvents_8 : decode cX1_doEvents 8 = .ok (.iconst 0, 1) := by decide +kernel
theorem dX1_doEvents_9 : decode cX1_doEvents 9 = .ok (.istore_n 3, 1) := by decide +kernel
theorem dX1_doEvents_10 : decode cX1_doEvents 10 = .ok (.iload_n 3, 1) := by decide +kernel
theorem dX1_doEvents_11 : decode cX1_doEvents 11 = .ok (.aload_n 2, 1) := by decide +kernel
theorem dX1_doEvents_12 : decode cX1_doEvents 12 = .ok (.getfield 117, 3) := by decide +kernel
theorem dX1_doEvents_15 : decode cX1_doEvents 15 = .ok (.if_icmp .ge 131, 3) := by decide +kernel
theorem dX1_doEvents_18 : decode cX1_doEvents 18 = .ok (.aload_n 0, 1) := by decide +kernel
theorem dX1_doEvents_19 : decode cX1_doEvents 19 = .ok (.getfield 25, 3) := by decide +kernel
theorem dX1_doEvents_22 : decode cX1_doEvents 22 = .ok (.iload_n 3, 1) := by decide +kernel
theorem dX1_doEvents_23 : decode cX1_doEvents 23 = .ok (.ishr, 1) := by decide +kernel
theorem dX1_doEvents_24 : decode cX1_doEvents 24 = .ok (.iconst 1, 1) := by decide +kernel
theorem dX1_doEvents_25 : decode cX1_doEvents 25 = .ok (.iand, 1) := by decide +kernel
theorem dX1_doEvents_26 : decode cX1_doEvents 26 = .ok (.ifCond .eq 114, 3) := by decide +kernel
theorem dX1_doEvents_29 : decode cX1_doEvents 29 = .ok (.aload_n 2, 1) := by decide +kernel
theorem dX1_doEvents_30 : decode cX1_doEvents 30 = .ok (.iload_n 3, 1) := by decide +kernel
theorem dX1_doEvents_31 : decode cX1_doEvents 31 = .ok (.iconst 1, 1) := by decide +kernel
theorem dX1_doEvents_32 : decode cX1_doEvents 32 = .ok (.invokevirtual 122, 3) := by decide +kernel
theorem dX1_doEvents_35 : decode cX1_doEvents 35 = .ok (.iload_n 1, 1) := by decide +kernel
theorem dX1_doEvents_36 : decode cX1_doEvents 36 = .ok (.if_icmp .eq 6, 3) := by decide +kernel
theorem dX1_doEvents_39 : decode cX1_doEvents 39 = .ok (.goto 101, 3) := by decide +kernel
theorem dX1_doEvents_42 : decode cX1_doEvents 42 = .ok (.aload_n 2, 1) := by decide +kernel
theorem dX1_doEvents_43 : decode cX1_doEvents 43 = .ok (.iload_n 3, 1) := by decide +kernel
theorem dX1_doEvents_44 : decode cX1_doEvents 44 = .ok (.iconst 0, 1) := by decide +kernel
theorem dX1_doEvents_45 : decode cX1_doEvents 45 = .ok (.invokevirtual 122, 3) := by decide +kernel
theorem dX1_doEvents_48 : decode cX1_doEvents 48 = .ok (.istore 4, 2) := by decide +kernel
theorem dX1_doEvents_50 : decode cX1_doEvents 50 = .ok (.aload_n 2, 1) := by decide +kernel
theorem dX1_doEvents_51 : decode cX1_doEvents 51 = .ok (.iload_n 3, 1) := by decide +kernel
theorem dX1_doEvents_52 : decode cX1_doEvents 52 = .ok (.iconst 2, 1) := by decide +kernel
theorem dX1_doEvents_53 : decode cX1_doEvents 53 = .ok (.invokevirtual 122, 3) := by decide +kernel
theorem dX1_doEvents_56 : decode cX1_doEvents 56 = .ok (.istore 5, 2) := by decide +kernel
theorem dX1_doEvents_58 : decode cX1_doEvents 58 = .ok (.iload 4, 2) := by decide +kernel
theorem dX1_doEvents_60 : decode cX1_doEvents 60 = .ok (.ifCond .ne 23, 3) := by decide +kernel
theorem dX1_doEvents_63 : decode cX1_doEvents 63 = .ok (.aload_n 0, 1) := by decide +kernel
theorem dX1_doEvents_64 : decode cX1_doEvents 64 = .ok (.iload 5, 2) := by decide +kernel
theorem dX1_doEvents_66 : decode cX1_doEvents 66 = .ok (.iconst 2, 1) := by decide +kernel
theorem dX1_doEvents_67 : decode cX1_doEvents 67 = .ok (.irem, 1) := by decide +kernel
theorem dX1_doEvents_68 : decode cX1_doEvents 68 = .ok (.iconst 1, 1) := by decide +kernel
theorem dX1_doEvents_69 : decode cX1_doEvents 69 = .ok (.if_icmp .ne 7, 3) := by decide +kernel
theorem dX1_doEvents_72 : decode cX1_doEvents 72 = .ok (.iconst 1, 1) := by decide +kernel
theorem dX1_doEvents_73 : decode cX1_doEvents 73 = .ok (.goto 4, 3) := by decide +kernel
theorem dX1_doEvents_76 : decode cX1_doEvents 76 = .ok (.iconst 0, 1) := by decide +kernel
theorem dX1_doEvents_77 : decode cX1_doEvents 77 = .ok (.invokevirtual 126, 3) := by decide +kernel
theorem dX1_doEvents_80 : decode cX1_doEvents 80 = .ok (.goto 60, 3) := by decide +kernel
theorem dX1_doEvents_83 : decode cX1_doEvents 83 = .ok (.iload 4, 2) := by decide +kernel
theorem dX1_doEvents_85 : decode cX1_doEvents 85 = .ok (.iconst 1, 1) := by decide +kernel
theorem dX1_doEvents_86 : decode cX1_doEvents 86 = .ok (.if_icmp .ne 33, 3) := by decide +kernel
theorem dX1_doEvents_89 : decode cX1_doEvents 89 = .ok (.iload 5, 2) := by decide +kernel
theorem dX1_doEvents_91 : decode cX1_doEvents 91 = .ok (.aload_n 0, 1) := by decide +kernel
theorem dX1_doEvents_92 : decode cX1_doEvents 92 = .ok (.getfield 67, 3) := by decide +kernel
theorem dX1_doEvents_95 : decode cX1_doEvents 95 = .ok (.getfield 130, 3) := by decide +kernel
theorem dX1_doEvents_98 : decode cX1_doEvents 98 = .ok (.if_icmp .ge 21, 3) := by decide +kernel
theorem dX1_doEvents_101 : decode cX1_doEvents 101 = .ok (.aload_n 0, 1) := by decide +kernel
theorem dX1_doEvents_102 : decode cX1_doEvents 102 = .ok (.getfield 28, 3) := by decide +kernel
theorem dX1_doEvents_105 : decode cX1_doEvents 105 = .ok (.iload 5, 2) := by decide +kernel
theorem dX1_doEvents_107 : decode cX1_doEvents 107 = .ok (.aload_n 0, 1) := by decide +kernel
theorem dX1_doEvents_108 : decode cX1_doEvents 108 = .ok (.getfield 28, 3) := by decide +kernel
theorem dX1_doEvents_111 : decode cX1_doEvents 111 = .ok (.iload 5, 2) := by decide +kernel
theorem dX1_doEvents_113 : decode cX1_doEvents 113 = .ok (.iaload, 1) := by decide +kernel
theorem dX1_doEvents_114 : decode cX1_doEvents 114 = .ok (.ineg, 1) := by decide +kernel
theorem dX1_doEvents_115 : decode cX1_doEvents 115 = .ok (.iastore, 1) := by decide +kernel
theorem dX1_doEvents_116 : decode cX1_doEvents 116 = .ok (.goto 24, 3) := by decide +kernel
theorem dX1_doEvents_119 : decode cX1_doEvents 119 = .ok (.iload 4, 2) := by decide +kernel
theorem dX1_doEvents_121 : decode cX1_doEvents 121 = .ok (.iconst 2, 1) := by decide +kernel
theorem dX1_doEvents_122 : decode cX1_doEvents 122 = .ok (.if_icmp .ne 18, 3) := by decide +kernel
theorem dX1_doEvents_125 : decode cX1_doEvents 125 = .ok (.iload 5, 2) := by decide +kernel
theorem dX1_doEvents_127 : decode cX1_doEvents 127 = .ok (.bipush 9, 2) := by decide +kernel
theorem dX1_doEvents_129 : decode cX1_doEvents 129 = .ok (.if_icmp .ge 11, 3) := by decide +kernel
theorem dX1_doEvents_132 : decode cX1_doEvents 132 = .ok (.aload_n 0, 1) := by decide +kernel
theorem dX1_doEvents_133 : decode cX1_doEvents 133 = .ok (.getfield 46, 3) := by decide +kernel
theorem dX1_doEvents_136 : decode cX1_doEvents 136 = .ok (.iload 5, 2) := by decide +kernel
theorem dX1_doEvents_138 : decode cX1_doEvents 138 = .ok (.iconst 0, 1) := by decide +kernel
theorem dX1_doEvents_139 : decode cX1_doEvents 139 = .ok (.iastore, 1) := by decide +kernel
theorem dX1_doEvents_140 : decode cX1_doEvents 140 = .ok (.iinc 3 1, 3) := by decide +kernel
theorem dX1_doEvents_143 : decode cX1_doEvents 143 = .ok (.goto (-133), 3) := by decide +kernel
theorem dX1_doEvents_146 : decode cX1_doEvents 146 = .ok (.return_, 1) := by decide +kernel
theorem dX1_columnFrom_0 : decode cX1_columnFrom 0 = .ok (.iload_n 2, 1) := by decide +kernel
theorem dX1_columnFrom_1 : decode cX1_columnFrom 1 = .ok (.iconst (-1), 1) := by decide +kernel
theorem dX1_columnFrom_2 : decode cX1_columnFrom 2 = .ok (.if_icmp .ne 5, 3) := by decide +kernel
theorem dX1_columnFrom_5 : decode cX1_columnFrom 5 = .ok (.iload_n 1, 1) := by decide +kernel
theorem dX1_columnFrom_6 : decode cX1_columnFrom 6 = .ok (.ireturn, 1) := by decide +kernel
theorem dX1_columnFrom_7 : decode cX1_columnFrom 7 = .ok (.iload_n 1, 1) := by decide +kernel
theorem dX1_columnFrom_8 : decode cX1_columnFrom 8 = .ok (.aload_n 0, 1) := by decide +kernel
theorem dX1_columnFrom_9 : decode cX1_columnFrom 9 = .ok (.getfield 28, 3) := by decide +kernel
theorem dX1_columnFrom_12 : decode cX1_columnFrom 12 = .ok (.iload_n 2, 1) := by decide +kernel
theorem dX1_columnFrom_13 : decode cX1_columnFrom 13 = .ok (.iaload, 1) := by decide +kernel
theorem dX1_columnFrom_14 : decode cX1_columnFrom 14 = .ok (.iadd, 1) := by decide +kernel
theorem dX1_columnFrom_15 : decode cX1_columnFrom 15 = .ok (.istore_n 3, 1) := by decide +kernel
theorem dX1_columnFrom_16 : decode cX1_columnFrom 16 = .ok (.iload_n 3, 1) := by decide +kernel
theorem dX1_columnFrom_17 : decode cX1_columnFrom 17 = .ok (.ifCond .lt 9, 3) := by decide +kernel
theorem dX1_columnFrom_20 : decode cX1_columnFrom 20 = .ok (.iload_n 3, 1) := by decide +kernel
theorem dX1_columnFrom_21 : decode cX1_columnFrom 21 = .ok (.bipush 9, 2) := by decide +kernel
theorem dX1_columnFrom_23 : decode cX1_columnFrom 23 = .ok (.if_icmp .lt 7, 3) := by decide +kernel
theorem dX1_columnFrom_26 : decode cX1_columnFrom 26 = .ok (.iload_n 1, 1) := by decide +kernel
theorem dX1_columnFrom_27 : decode cX1_columnFrom 27 = .ok (.goto 4, 3) := by decide +kernel
theorem dX1_columnFrom_30 : decode cX1_columnFrom 30 = .ok (.iload_n 3, 1) := by decide +kernel
theorem dX1_columnFrom_31 : decode cX1_columnFrom 31 = .ok (.ireturn, 1) := by decide +kernel
theorem dX1_pass_0 : decode cX1_pass 0 = .ok (.iload_n 1, 1) := by decide +kernel
theorem dX1_pass_1 : decode cX1_pass 1 = .ok (.iconst (-1), 1) := by decide +kernel
theorem dX1_pass_2 : decode cX1_pass 2 = .ok (.if_icmp .ne 4, 3) := by decide +kernel
theorem dX1_pass_5 : decode cX1_pass 5 = .ok (.return_, 1) := by decide +kernel
theorem dX1_pass_6 : decode cX1_pass 6 = .ok (.aload_n 0, 1) := by decide +kernel
theorem dX1_pass_7 : decode cX1_pass 7 = .ok (.getfield 9, 3) := by decide +kernel
theorem dX1_pass_10 : decode cX1_pass 10 = .ok (.iload_n 1, 1) := by decide +kernel
theorem dX1_pass_11 : decode cX1_pass 11 = .ok (.iaload, 1) := by decide +kernel
theorem dX1_pass_12 : decode cX1_pass 12 = .ok (.iconst 2, 1) := by decide +kernel
theorem dX1_pass_13 : decode cX1_pass 13 = .ok (.if_icmp .ne 19, 3) := by decide +kernel
theorem dX1_pass_16 : decode cX1_pass 16 = .ok (.aload_n 0, 1) := by decide +kernel
theorem dX1_pass_17 : decode cX1_pass 17 = .ok (.getfield 28, 3) := by decide +kernel
theorem dX1_pass_20 : decode cX1_pass 20 = .ok (.iload_n 1, 1) := by decide +kernel
theorem dX1_pass_21 : decode cX1_pass 21 = .ok (.aload_n 0, 1) := by decide +kernel
theorem dX1_pass_22 : decode cX1_pass 22 = .ok (.getfield 28, 3) := by decide +kernel
theorem dX1_pass_25 : decode cX1_pass 25 = .ok (.iload_n 1, 1) := by decide +kernel
theorem dX1_pass_26 : decode cX1_pass 26 = .ok (.iaload, 1) := by decide +kernel
theorem dX1_pass_27 : decode cX1_pass 27 = .ok (.ineg, 1) := by decide +kernel
theorem dX1_pass_28 : decode cX1_pass 28 = .ok (.iastore, 1) := by decide +kernel
theorem dX1_pass_29 : decode cX1_pass 29 = .ok (.goto 33, 3) := by decide +kernel
theorem dX1_pass_32 : decode cX1_pass 32 = .ok (.aload_n 0, 1) := by decide +kernel
theorem dX1_pass_33 : decode cX1_pass 33 = .ok (.getfield 9, 3) := by decide +kernel
theorem dX1_pass_36 : decode cX1_pass 36 = .ok (.iload_n 1, 1) := by decide +kernel
theorem dX1_pass_37 : decode cX1_pass 37 = .ok (.iaload, 1) := by decide +kernel
theorem dX1_pass_38 : decode cX1_pass 38 = .ok (.iconst 3, 1) := by decide +kernel
theorem dX1_pass_39 : decode cX1_pass 39 = .ok (.if_icmp .ne 23, 3) := by decide +kernel
theorem dX1_pass_42 : decode cX1_pass 42 = .ok (.aload_n 0, 1) := by decide +kernel
theorem dX1_pass_43 : decode cX1_pass 43 = .ok (.dup, 1) := by decide +kernel
theorem dX1_pass_44 : decode cX1_pass 44 = .ok (.getfield 64, 3) := by decide +kernel
theorem dX1_pass_47 : decode cX1_pass 47 = .ok (.iconst 1, 1) := by decide +kernel
theorem dX1_pass_48 : decode cX1_pass 48 = .ok (.iadd, 1) := by decide +kernel
theorem dX1_pass_49 : decode cX1_pass 49 = .ok (.putfield 64, 3) := by decide +kernel
theorem dX1_pass_52 : decode cX1_pass 52 = .ok (.aload_n 0, 1) := by decide +kernel
theorem dX1_pass_53 : decode cX1_pass 53 = .ok (.getfield 52, 3) := by decide +kernel
theorem dX1_pass_56 : decode cX1_pass 56 = .ok (.iload_n 2, 1) := by decide +kernel
theorem dX1_pass_57 : decode cX1_pass 57 = .ok (.dup2, 1) := by decide +kernel
theorem dX1_pass_58 : decode cX1_pass 58 = .ok (.iaload, 1) := by decide +kernel
theorem dX1_pass_59 : decode cX1_pass 59 = .ok (.iconst 2, 1) := by decide +kernel
theorem dX1_pass_60 : decode cX1_pass 60 = .ok (.iadd, 1) := by decide +kernel
theorem dX1_pass_61 : decode cX1_pass 61 = .ok (.iastore, 1) := by decide +kernel
theorem dX1_pass_62 : decode cX1_pass 62 = .ok (.return_, 1) := by decide +kernel
theorem dX1_settle_0 : decode cX1_settle 0 = .ok (.aload_n 0, 1) := by decide +kernel
theorem dX1_settle_1 : decode cX1_settle 1 = .ok (.getfield 31, 3) := by decide +kernel
theorem dX1_settle_4 : decode cX1_settle 4 = .ok (.iload_n 2, 1) := by decide +kernel
theorem dX1_settle_5 : decode cX1_settle 5 = .ok (.iload_n 1, 1) := by decide +kernel
theorem dX1_settle_6 : decode cX1_settle 6 = .ok (.iastore, 1) := by decide +kernel
theorem dX1_settle_7 : decode cX1_settle 7 = .ok (.aload_n 0, 1) := by decide +kernel
theorem dX1_settle_8 : decode cX1_settle 8 = .ok (.getfield 34, 3) := by decide +kernel
theorem dX1_settle_11 : decode cX1_settle 11 = .ok (.iload_n 3, 1) := by decide +kernel
theorem dX1_settle_12 : decode cX1_settle 12 = .ok (.dup2, 1) := by decide +kernel
theorem dX1_settle_13 : decode cX1_settle 13 = .ok (.iaload, 1) := by decide +kernel
theorem dX1_settle_14 : decode cX1_settle 14 = .ok (.iconst 1, 1) := by decide +kernel
theorem dX1_settle_15 : decode cX1_settle 15 = .ok (.iload_n 1, 1) := by decide +kernel
theorem dX1_settle_16 : decode cX1_settle 16 = .ok (.ishl, 1) := by decide +kernel
theorem dX1_settle_17 : decode cX1_settle 17 = .ok (.ior, 1) := by decide +kernel
theorem dX1_settle_18 : decode cX1_settle 18 = .ok (.iastore, 1) := by decide +kernel
theorem dX1_settle_19 : decode cX1_settle 19 = .ok (.aload_n 0, 1) := by decide +kernel
theorem dX1_settle_20 : decode cX1_settle 20 = .ok (.getfield 37, 3) := by decide +kernel
theorem dX1_settle_23 : decode cX1_settle 23 = .ok (.iload_n 1, 1) := by decide +kernel
theorem dX1_settle_24 : decode cX1_settle 24 = .ok (.iload_n 2, 1) := by decide +kernel
theorem dX1_settle_25 : decode cX1_settle 25 = .ok (.iastore, 1) := by decide +kernel
theorem dX1_settle_26 : decode cX1_settle 26 = .ok (.return_, 1) := by decide +kernel
theorem dX1_drop_0 : decode cX1_drop 0 = .ok (.aload_n 0, 1) := by decide +kernel
theorem dX1_drop_1 : decode cX1_drop 1 = .ok (.getfield 55, 3) := by decide +kernel
theorem dX1_drop_4 : decode cX1_drop 4 = .ok (.iload_n 1, 1) := by decide +kernel
theorem dX1_drop_5 : decode cX1_drop 5 = .ok (.iload_n 3, 1) := by decide +kernel
theorem dX1_drop_6 : decode cX1_drop 6 = .ok (.iastore, 1) := by decide +kernel
theorem dX1_drop_7 : decode cX1_drop 7 = .ok (.aload_n 0, 1) := by decide +kernel
theorem dX1_drop_8 : decode cX1_drop 8 = .ok (.getfield 46, 3) := by decide +kernel
theorem dX1_drop_11 : decode cX1_drop 11 = .ok (.iload_n 2, 1) := by decide +kernel
theorem dX1_drop_12 : decode cX1_drop 12 = .ok (.iaload, 1) := by decide +kernel
theorem dX1_drop_13 : decode cX1_drop 13 = .ok (.aload_n 0, 1) := by decide +kernel
theorem dX1_drop_14 : decode cX1_drop 14 = .ok (.getfield 67, 3) := by decide +kernel
theorem dX1_drop_17 : decode cX1_drop 17 = .ok (.getfield 149, 3) := by decide +kernel
theorem dX1_drop_20 : decode cX1_drop 20 = .ok (.if_icmp .ge 54, 3) := by decide +kernel
theorem dX1_drop_23 : decode cX1_drop 23 = .ok (.aload_n 0, 1) := by decide +kernel
theorem dX1_drop_24 : decode cX1_drop 24 = .ok (.getfield 46, 3) := by decide +kernel
theorem dX1_drop_27 : decode cX1_drop 27 = .ok (.iload_n 2, 1) := by decide +kernel
theorem dX1_drop_28 : decode cX1_drop 28 = .ok (.dup2, 1) := by decide +kernel
theorem dX1_drop_29 : decode cX1_drop 29 = .ok (.iaload, 1) := by decide +kernel
theorem dX1_drop_30 : decode cX1_drop 30 = .ok (.iconst 1, 1) := by decide +kernel
theorem dX1_drop_31 : decode cX1_drop 31 = .ok (.iadd, 1) := by decide +kernel
theorem dX1_drop_32 : decode cX1_drop 32 = .ok (.iastore, 1) := by decide +kernel
theorem dX1_drop_33 : decode cX1_drop 33 = .ok (.aload_n 0, 1) := by decide +kernel
theorem dX1_drop_34 : decode cX1_drop 34 = .ok (.getfield 49, 3) := by decide +kernel
theorem dX1_drop_37 : decode cX1_drop 37 = .ok (.iload_n 2, 1) := by decide +kernel
theorem dX1_drop_38 : decode cX1_drop 38 = .ok (.dup2, 1) := by decide +kernel
theorem dX1_drop_39 : decode cX1_drop 39 = .ok (.iaload, 1) := by decide +kernel
theorem dX1_drop_40 : decode cX1_drop 40 = .ok (.iconst 1, 1) := by decide +kernel
theorem dX1_drop_41 : decode cX1_drop 41 = .ok (.iadd, 1) := by decide +kernel
theorem dX1_drop_42 : decode cX1_drop 42 = .ok (.iastore, 1) := by decide +kernel
theorem dX1_drop_43 : decode cX1_drop 43 = .ok (.aload_n 0, 1) := by decide +kernel
theorem dX1_drop_44 : decode cX1_drop 44 = .ok (.getfield 52, 3) := by decide +kernel
theorem dX1_drop_47 : decode cX1_drop 47 = .ok (.iload_n 1, 1) := by decide +kernel
theorem dX1_drop_48 : decode cX1_drop 48 = .ok (.dup2, 1) := by decide +kernel
theorem dX1_drop_49 : decode cX1_drop 49 = .ok (.iaload, 1) := by decide +kernel
theorem dX1_drop_50 : decode cX1_drop 50 = .ok (.aload_n 0, 1) := by decide +kernel
theorem dX1_drop_51 : decode cX1_drop 51 = .ok (.getfield 67, 3) := by decide +kernel
theorem dX1_drop_54 : decode cX1_drop 54 = .ok (.getfield 152, 3) := by decide +kernel
theorem dX1_drop_57 : decode cX1_drop 57 = .ok (.iload_n 2, 1) := by decide +kernel
theorem dX1_drop_58 : decode cX1_drop 58 = .ok (.iaload, 1) := by decide +kernel
theorem dX1_drop_59 : decode cX1_drop 59 = .ok (.iadd, 1) := by decide +kernel
theorem dX1_drop_60 : decode cX1_drop 60 = .ok (.iastore, 1) := by decide +kernel
theorem dX1_drop_61 : decode cX1_drop 61 = .ok (.aload_n 0, 1) := by decide +kernel
theorem dX1_drop_62 : decode cX1_drop 62 = .ok (.getfield 37, 3) := by decide +kernel
theorem dX1_drop_65 : decode cX1_drop 65 = .ok (.iload_n 1, 1) := by decide +kernel
theorem dX1_drop_66 : decode cX1_drop 66 = .ok (.bipush 72, 2) := by decide +kernel
theorem dX1_drop_68 : decode cX1_drop 68 = .ok (.iload_n 2, 1) := by decide +kernel
theorem dX1_drop_69 : decode cX1_drop 69 = .ok (.iadd, 1) := by decide +kernel
theorem dX1_drop_70 : decode cX1_drop 70 = .ok (.iastore, 1) := by decide +kernel
theorem dX1_drop_71 : decode cX1_drop 71 = .ok (.goto 13, 3) := by decide +kernel
theorem dX1_drop_74 : decode cX1_drop 74 = .ok (.aload_n 0, 1) := by decide +kernel
theorem dX1_drop_75 : decode cX1_drop 75 = .ok (.getfield 37, 3) := by decide +kernel
theorem dX1_drop_78 : decode cX1_drop 78 = .ok (.iload_n 1, 1) := by decide +kernel
theorem dX1_drop_79 : decode cX1_drop 79 = .ok (.bipush 81, 2) := by decide +kernel
theorem dX1_drop_81 : decode cX1_drop 81 = .ok (.iload_n 2, 1) := by decide +kernel
theorem dX1_drop_82 : decode cX1_drop 82 = .ok (.iadd, 1) := by decide +kernel
theorem dX1_drop_83 : decode cX1_drop 83 = .ok (.iastore, 1) := by decide +kernel
theorem dX1_drop_84 : decode cX1_drop 84 = .ok (.return_, 1) := by decide +kernel
theorem dX1_fallFrom_0 : decode cX1_fallFrom 0 = .ok (.aload_n 0, 1) := by decide +kernel
theorem dX1_fallFrom_1 : decode cX1_fallFrom 1 = .ok (.getfield 34, 3) := by decide +kernel
theorem dX1_fallFrom_4 : decode cX1_fallFrom 4 = .ok (.iload_n 1, 1) := by decide +kernel
theorem dX1_fallFrom_5 : decode cX1_fallFrom 5 = .ok (.iaload, 1) := by decide +kernel
theorem dX1_fallFrom_6 : decode cX1_fallFrom 6 = .ok (.istore_n 3, 1) := by decide +kernel
theorem dX1_fallFrom_7 : decode cX1_fallFrom 7 = .ok (.iconst 0, 1) := by decide +kernel
theorem dX1_fallFrom_8 : decode cX1_fallFrom 8 = .ok (.istore 4, 2) := by decide +kernel
theorem dX1_fallFrom_10 : decode cX1_fallFrom 10 = .ok (.iload 4, 2) := by decide +kernel
theorem dX1_fallFrom_12 : decode cX1_fallFrom 12 = .ok (.aload_n 0, 1) := by decide +kernel
theorem dX1_fallFrom_13 : decode cX1_fallFrom 13 = .ok (.getfield 21, 3) := by decide +kernel
theorem dX1_fallFrom_16 : decode cX1_fallFrom 16 = .ok (.if_icmp .ge 167, 3) := by decide +kernel
theorem dX1_fallFrom_19 : decode cX1_fallFrom 19 = .ok (.iload_n 3, 1) := by decide +kernel
theorem dX1_fallFrom_20 : decode cX1_fallFrom 20 = .ok (.iload 4, 2) := by decide +kernel
theorem dX1_fallFrom_22 : decode cX1_fallFrom 22 = .ok (.ishr, 1) := by decide +kernel
theorem dX1_fallFrom_23 : decode cX1_fallFrom 23 = .ok (.iconst 1, 1) := by decide +kernel
theorem dX1_fallFrom_24 : decode cX1_fallFrom 24 = .ok (.iand, 1) := by decide +kernel
theorem dX1_fallFrom_25 : decode cX1_fallFrom 25 = .ok (.ifCond .ne 6, 3) := by decide +kernel
theorem dX1_fallFrom_28 : decode cX1_fallFrom 28 = .ok (.goto 149, 3) := by decide +kernel
theorem dX1_fallFrom_31 : decode cX1_fallFrom 31 = .ok (.aload_n 0, 1) := by decide +kernel
theorem dX1_fallFrom_32 : decode cX1_fallFrom 32 = .ok (.getfield 37, 3) := by decide +kernel
theorem dX1_fallFrom_35 : decode cX1_fallFrom 35 = .ok (.iload 4, 2) := by decide +kernel
theorem dX1_fallFrom_37 : decode cX1_fallFrom 37 = .ok (.iaload, 1) := by decide +kernel
theorem dX1_fallFrom_38 : decode cX1_fallFrom 38 = .ok (.istore 5, 2) := by decide +kernel
theorem dX1_fallFrom_40 : decode cX1_fallFrom 40 = .ok (.aload_n 0, 1) := by decide +kernel
theorem dX1_fallFrom_41 : decode cX1_fallFrom 41 = .ok (.getfield 67, 3) := by decide +kernel
theorem dX1_fallFrom_44 : decode cX1_fallFrom 44 = .ok (.getfield 133, 3) := by decide +kernel
theorem dX1_fallFrom_47 : decode cX1_fallFrom 47 = .ok (.iload 5, 2) := by decide +kernel
theorem dX1_fallFrom_49 : decode cX1_fallFrom 49 = .ok (.iaload, 1) := by decide +kernel
theorem dX1_fallFrom_50 : decode cX1_fallFrom 50 = .ok (.istore 6, 2) := by decide +kernel
theorem dX1_fallFrom_52 : decode cX1_fallFrom 52 = .ok (.aload_n 0, 1) := by decide +kernel
theorem dX1_fallFrom_53 : decode cX1_fallFrom 53 = .ok (.iload 5, 2) := by decide +kernel
theorem dX1_fallFrom_55 : decode cX1_fallFrom 55 = .ok (.bipush 9, 2) := by decide +kernel
theorem dX1_fallFrom_57 : decode cX1_fallFrom 57 = .ok (.irem, 1) := by decide +kernel
theorem dX1_fallFrom_58 : decode cX1_fallFrom 58 = .ok (.iload 6, 2) := by decide +kernel
theorem dX1_fallFrom_60 : decode cX1_fallFrom 60 = .ok (.invokevirtual 136, 3) := by decide +kernel
theorem dX1_fallFrom_63 : decode cX1_fallFrom 63 = .ok (.istore 7, 2) := by decide +kernel
theorem dX1_fallFrom_65 : decode cX1_fallFrom 65 = .ok (.iload_n 1, 1) := by decide +kernel
theorem dX1_fallFrom_66 : decode cX1_fallFrom 66 = .ok (.iconst 1, 1) := by decide +kernel
theorem dX1_fallFrom_67 : decode cX1_fallFrom 67 = .ok (.iadd, 1) := by decide +kernel
theorem dX1_fallFrom_68 : decode cX1_fallFrom 68 = .ok (.bipush 9, 2) := by decide +kernel
theorem dX1_fallFrom_70 : decode cX1_fallFrom 70 = .ok (.imul, 1) := by decide +kernel
theorem dX1_fallFrom_71 : decode cX1_fallFrom 71 = .ok (.iload 7, 2) := by decide +kernel
theorem dX1_fallFrom_73 : decode cX1_fallFrom 73 = .ok (.iadd, 1) := by decide +kernel
theorem dX1_fallFrom_74 : decode cX1_fallFrom 74 = .ok (.istore 8, 2) := by decide +kernel
theorem dX1_fallFrom_76 : decode cX1_fallFrom 76 = .ok (.iload_n 1, 1) := by decide +kernel
theorem dX1_fallFrom_77 : decode cX1_fallFrom 77 = .ok (.bipush 7, 2) := by decide +kernel
theorem dX1_fallFrom_79 : decode cX1_fallFrom 79 = .ok (.if_icmp .ge 38, 3) := by decide +kernel
theorem dX1_fallFrom_82 : decode cX1_fallFrom 82 = .ok (.aload_n 0, 1) := by decide +kernel
theorem dX1_fallFrom_83 : decode cX1_fallFrom 83 = .ok (.getfield 31, 3) := by decide +kernel
theorem dX1_fallFrom_86 : decode cX1_fallFrom 86 = .ok (.iload 8, 2) := by decide +kernel
theorem dX1_fallFrom_88 : decode cX1_fallFrom 88 = .ok (.iaload, 1) := by decide +kernel
theorem dX1_fallFrom_89 : decode cX1_fallFrom 89 = .ok (.iconst (-1), 1) := by decide +kernel
theorem dX1_fallFrom_90 : decode cX1_fallFrom 90 = .ok (.if_icmp .eq 27, 3) := by decide +kernel
theorem dX1_fallFrom_93 : decode cX1_fallFrom 93 = .ok (.aload_n 0, 1) := by decide +kernel
theorem dX1_fallFrom_94 : decode cX1_fallFrom 94 = .ok (.getfield 58, 3) := by decide +kernel
theorem dX1_fallFrom_97 : decode cX1_fallFrom 97 = .ok (.iload 4, 2) := by decide +kernel
theorem dX1_fallFrom_99 : decode cX1_fallFrom 99 = .ok (.dup2, 1) := by decide +kernel
theorem dX1_fallFrom_100 : decode cX1_fallFrom 100 = .ok (.iaload, 1) := by decide +kernel
theorem dX1_fallFrom_101 : decode cX1_fallFrom 101 = .ok (.iconst 1, 1) := by decide +kernel
theorem dX1_fallFrom_102 : decode cX1_fallFrom 102 = .ok (.iadd, 1) := by decide +kernel
theorem dX1_fallFrom_103 : decode cX1_fallFrom 103 = .ok (.iastore, 1) := by decide +kernel
theorem dX1_fallFrom_104 : decode cX1_fallFrom 104 = .ok (.aload_n 0, 1) := by decide +kernel
theorem dX1_fallFrom_105 : decode cX1_fallFrom 105 = .ok (.getfield 61, 3) := by decide +kernel
theorem dX1_fallFrom_108 : decode cX1_fallFrom 108 = .ok (.iload_n 2, 1) := by decide +kernel
theorem dX1_fallFrom_109 : decode cX1_fallFrom 109 = .ok (.dup2, 1) := by decide +kernel
theorem dX1_fallFrom_110 : decode cX1_fallFrom 110 = .ok (.iaload, 1) := by decide +kernel
theorem dX1_fallFrom_111 : decode cX1_fallFrom 111 = .ok (.iconst 1, 1) := by decide +kernel
theorem dX1_fallFrom_112 : decode cX1_fallFrom 112 = .ok (.iadd, 1) := by decide +kernel
theorem dX1_fallFrom_113 : decode cX1_fallFrom 113 = .ok (.iastore, 1) := by decide +kernel
theorem dX1_fallFrom_114 : decode cX1_fallFrom 114 = .ok (.goto 63, 3) := by decide +kernel
theorem dX1_fallFrom_117 : decode cX1_fallFrom 117 = .ok (.aload_n 0, 1) := by decide +kernel
theorem dX1_fallFrom_118 : decode cX1_fallFrom 118 = .ok (.iload 6, 2) := by decide +kernel
theorem dX1_fallFrom_120 : decode cX1_fallFrom 120 = .ok (.iload 4, 2) := by decide +kernel
theorem dX1_fallFrom_122 : decode cX1_fallFrom 122 = .ok (.invokevirtual 139, 3) := by decide +kernel
theorem dX1_fallFrom_125 : decode cX1_fallFrom 125 = .ok (.aload_n 0, 1) := by decide +kernel
theorem dX1_fallFrom_126 : decode cX1_fallFrom 126 = .ok (.getfield 31, 3) := by decide +kernel
theorem dX1_fallFrom_129 : decode cX1_fallFrom 129 = .ok (.iload 5, 2) := by decide +kernel
theorem dX1_fallFrom_131 : decode cX1_fallFrom 131 = .ok (.iconst (-1), 1) := by decide +kernel
theorem dX1_fallFrom_132 : decode cX1_fallFrom 132 = .ok (.iastore, 1) := by decide +kernel
theorem dX1_fallFrom_133 : decode cX1_fallFrom 133 = .ok (.aload_n 0, 1) := by decide +kernel
theorem dX1_fallFrom_134 : decode cX1_fallFrom 134 = .ok (.getfield 34, 3) := by decide +kernel
theorem dX1_fallFrom_137 : decode cX1_fallFrom 137 = .ok (.iload_n 1, 1) := by decide +kernel
theorem dX1_fallFrom_138 : decode cX1_fallFrom 138 = .ok (.dup2, 1) := by decide +kernel
theorem dX1_fallFrom_139 : decode cX1_fallFrom 139 = .ok (.iaload, 1) := by decide +kernel
theorem dX1_fallFrom_140 : decode cX1_fallFrom 140 = .ok (.iconst 1, 1) := by decide +kernel
theorem dX1_fallFrom_141 : decode cX1_fallFrom 141 = .ok (.iload 4, 2) := by decide +kernel
theorem dX1_fallFrom_143 : decode cX1_fallFrom 143 = .ok (.ishl, 1) := by decide +kernel
theorem dX1_fallFrom_144 : decode cX1_fallFrom 144 = .ok (.iconst (-1), 1) := by decide +kernel
theorem dX1_fallFrom_145 : decode cX1_fallFrom 145 = .ok (.ixor, 1) := by decide +kernel
theorem dX1_fallFrom_146 : decode cX1_fallFrom 146 = .ok (.iand, 1) := by decide +kernel
theorem dX1_fallFrom_147 : decode cX1_fallFrom 147 = .ok (.iastore, 1) := by decide +kernel
theorem dX1_fallFrom_148 : decode cX1_fallFrom 148 = .ok (.iload_n 1, 1) := by decide +kernel
theorem dX1_fallFrom_149 : decode cX1_fallFrom 149 = .ok (.bipush 7, 2) := by decide +kernel
theorem dX1_fallFrom_151 : decode cX1_fallFrom 151 = .ok (.if_icmp .ge 17, 3) := by decide +kernel
theorem dX1_fallFrom_154 : decode cX1_fallFrom 154 = .ok (.aload_n 0, 1) := by decide +kernel
theorem dX1_fallFrom_155 : decode cX1_fallFrom 155 = .ok (.iload 4, 2) := by decide +kernel
theorem dX1_fallFrom_157 : decode cX1_fallFrom 157 = .ok (.iload 8, 2) := by decide +kernel
theorem dX1_fallFrom_159 : decode cX1_fallFrom 159 = .ok (.iload_n 1, 1) := by decide +kernel
theorem dX1_fallFrom_160 : decode cX1_fallFrom 160 = .ok (.iconst 1, 1) := by decide +kernel
theorem dX1_fallFrom_161 : decode cX1_fallFrom 161 = .ok (.iadd, 1) := by decide +kernel
theorem dX1_fallFrom_162 : decode cX1_fallFrom 162 = .ok (.invokevirtual 142, 3) := by decide +kernel
theorem dX1_fallFrom_165 : decode cX1_fallFrom 165 = .ok (.goto 12, 3) := by decide +kernel
theorem dX1_fallFrom_168 : decode cX1_fallFrom 168 = .ok (.aload_n 0, 1) := by decide +kernel
theorem dX1_fallFrom_169 : decode cX1_fallFrom 169 = .ok (.iload 4, 2) := by decide +kernel
theorem dX1_fallFrom_171 : decode cX1_fallFrom 171 = .ok (.iload 7, 2) := by decide +kernel
theorem dX1_fallFrom_173 : decode cX1_fallFrom 173 = .ok (.iload_n 2, 1) := by decide +kernel
theorem dX1_fallFrom_174 : decode cX1_fallFrom 174 = .ok (.invokevirtual 146, 3) := by decide +kernel
theorem dX1_fallFrom_177 : decode cX1_fallFrom 177 = .ok (.iinc 4 1, 3) := by decide +kernel
theorem dX1_fallFrom_180 : decode cX1_fallFrom 180 = .ok (.goto (-170), 3) := by decide +kernel
theorem dX1_fallFrom_183 : decode cX1_fallFrom 183 = .ok (.return_, 1) := by decide +kernel
theorem dX1_letIn_0 : decode cX1_letIn 0 = .ok (.iconst 0, 1) := by decide +kernel
theorem dX1_letIn_1 : decode cX1_letIn 1 = .ok (.istore_n 2, 1) := by decide +kernel
theorem dX1_letIn_2 : decode cX1_letIn 2 = .ok (.iload_n 2, 1) := by decide +kernel
theorem dX1_letIn_3 : decode cX1_letIn 3 = .ok (.aload_n 0, 1) := by decide +kernel
theorem dX1_letIn_4 : decode cX1_letIn 4 = .ok (.getfield 21, 3) := by decide +kernel
theorem dX1_letIn_7 : decode cX1_letIn 7 = .ok (.if_icmp .ge 70, 3) := by decide +kernel
theorem dX1_letIn_10 : decode cX1_letIn 10 = .ok (.aload_n 0, 1) := by decide +kernel
theorem dX1_letIn_11 : decode cX1_letIn 11 = .ok (.getfield 18, 3) := by decide +kernel
theorem dX1_letIn_14 : decode cX1_letIn 14 = .ok (.iload_n 2, 1) := by decide +kernel
theorem dX1_letIn_15 : decode cX1_letIn 15 = .ok (.iaload, 1) := by decide +kernel
theorem dX1_letIn_16 : decode cX1_letIn 16 = .ok (.iconst 1, 1) := by decide +kernel
theorem dX1_letIn_17 : decode cX1_letIn 17 = .ok (.isub, 1) := by decide +kernel
theorem dX1_letIn_18 : decode cX1_letIn 18 = .ok (.istore_n 3, 1) := by decide +kernel
theorem dX1_letIn_19 : decode cX1_letIn 19 = .ok (.aload_n 0, 1) := by decide +kernel
theorem dX1_letIn_20 : decode cX1_letIn 20 = .ok (.getfield 40, 3) := by decide +kernel
theorem dX1_letIn_23 : decode cX1_letIn 23 = .ok (.iload_n 2, 1) := by decide +kernel
theorem dX1_letIn_24 : decode cX1_letIn 24 = .ok (.ishr, 1) := by decide +kernel
theorem dX1_letIn_25 : decode cX1_letIn 25 = .ok (.iconst 1, 1) := by decide +kernel
theorem dX1_letIn_26 : decode cX1_letIn 26 = .ok (.iand, 1) := by decide +kernel
theorem dX1_letIn_27 : decode cX1_letIn 27 = .ok (.ifCond .eq 44, 3) := by decide +kernel
theorem dX1_letIn_30 : decode cX1_letIn 30 = .ok (.aload_n 0, 1) := by decide +kernel
theorem dX1_letIn_31 : decode cX1_letIn 31 = .ok (.getfield 15, 3) := by decide +kernel
theorem dX1_letIn_34 : decode cX1_letIn 34 = .ok (.iload_n 2, 1) := by decide +kernel
theorem dX1_letIn_35 : decode cX1_letIn 35 = .ok (.iaload, 1) := by decide +kernel
theorem dX1_letIn_36 : decode cX1_letIn 36 = .ok (.iload_n 1, 1) := by decide +kernel
theorem dX1_letIn_37 : decode cX1_letIn 37 = .ok (.if_icmp .gt 34, 3) := by decide +kernel
theorem dX1_letIn_40 : decode cX1_letIn 40 = .ok (.aload_n 0, 1) := by decide +kernel
theorem dX1_letIn_41 : decode cX1_letIn 41 = .ok (.getfield 31, 3) := by decide +kernel
theorem dX1_letIn_44 : decode cX1_letIn 44 = .ok (.iload_n 3, 1) := by decide +kernel
theorem dX1_letIn_45 : decode cX1_letIn 45 = .ok (.iaload, 1) := by decide +kernel
theorem dX1_letIn_46 : decode cX1_letIn 46 = .ok (.iconst (-1), 1) := by decide +kernel
theorem dX1_letIn_47 : decode cX1_letIn 47 = .ok (.if_icmp .ne 24, 3) := by decide +kernel
theorem dX1_letIn_50 : decode cX1_letIn 50 = .ok (.aload_n 0, 1) := by decide +kernel
theorem dX1_letIn_51 : decode cX1_letIn 51 = .ok (.dup, 1) := by decide +kernel
theorem dX1_letIn_52 : decode cX1_letIn 52 = .ok (.getfield 40, 3) := by decide +kernel
theorem dX1_letIn_55 : decode cX1_letIn 55 = .ok (.iconst 1, 1) := by decide +kernel
theorem dX1_letIn_56 : decode cX1_letIn 56 = .ok (.iload_n 2, 1) := by decide +kernel
theorem dX1_letIn_57 : decode cX1_letIn 57 = .ok (.ishl, 1) := by decide +kernel
theorem dX1_letIn_58 : decode cX1_letIn 58 = .ok (.iconst (-1), 1) := by decide +kernel
theorem dX1_letIn_59 : decode cX1_letIn 59 = .ok (.ixor, 1) := by decide +kernel
theorem dX1_letIn_60 : decode cX1_letIn 60 = .ok (.iand, 1) := by decide +kernel
theorem dX1_letIn_61 : decode cX1_letIn 61 = .ok (.putfield 40, 3) := by decide +kernel
theorem dX1_letIn_64 : decode cX1_letIn 64 = .ok (.aload_n 0, 1) := by decide +kernel
theorem dX1_letIn_65 : decode cX1_letIn 65 = .ok (.iload_n 2, 1) := by decide +kernel
theorem dX1_letIn_66 : decode cX1_letIn 66 = .ok (.iload_n 3, 1) := by decide +kernel
theorem dX1_letIn_67 : decode cX1_letIn 67 = .ok (.iconst 0, 1) := by decide +kernel
theorem dX1_letIn_68 : decode cX1_letIn 68 = .ok (.invokevirtual 142, 3) := by decide +kernel
theorem dX1_letIn_71 : decode cX1_letIn 71 = .ok (.iinc 2 1, 3) := by decide +kernel
theorem dX1_letIn_74 : decode cX1_letIn 74 = .ok (.goto (-72), 3) := by decide +kernel
theorem dX1_letIn_77 : decode cX1_letIn 77 = .ok (.return_, 1) := by decide +kernel
theorem dX1_run_0 : decode cX1_run 0 = .ok (.aload_n 0, 1) := by decide +kernel
theorem dX1_run_1 : decode cX1_run 1 = .ok (.invokevirtual 93, 3) := by decide +kernel
theorem dX1_run_4 : decode cX1_run 4 = .ok (.iconst 0, 1) := by decide +kernel
theorem dX1_run_5 : decode cX1_run 5 = .ok (.istore_n 1, 1) := by decide +kernel
theorem dX1_run_6 : decode cX1_run 6 = .ok (.iload_n 1, 1) := by decide +kernel
theorem dX1_run_7 : decode cX1_run 7 = .ok (.bipush 24, 2) := by decide +kernel
theorem dX1_run_9 : decode cX1_run 9 = .ok (.if_icmp .ge 79, 3) := by decide +kernel
theorem dX1_run_12 : decode cX1_run 12 = .ok (.aload_n 0, 1) := by decide +kernel
theorem dX1_run_13 : decode cX1_run 13 = .ok (.getfield 25, 3) := by decide +kernel
theorem dX1_run_16 : decode cX1_run 16 = .ok (.ifCond .eq 8, 3) := by decide +kernel
theorem dX1_run_19 : decode cX1_run 19 = .ok (.aload_n 0, 1) := by decide +kernel
theorem dX1_run_20 : decode cX1_run 20 = .ok (.iload_n 1, 1) := by decide +kernel
theorem dX1_run_21 : decode cX1_run 21 = .ok (.invokevirtual 96, 3) := by decide +kernel
theorem dX1_run_24 : decode cX1_run 24 = .ok (.bipush 7, 2) := by decide +kernel
theorem dX1_run_26 : decode cX1_run 26 = .ok (.istore_n 2, 1) := by decide +kernel
theorem dX1_run_27 : decode cX1_run 27 = .ok (.iload_n 2, 1) := by decide +kernel
theorem dX1_run_28 : decode cX1_run 28 = .ok (.ifCond .lt 24, 3) := by decide +kernel
theorem dX1_run_31 : decode cX1_run 31 = .ok (.aload_n 0, 1) := by decide +kernel
theorem dX1_run_32 : decode cX1_run 32 = .ok (.getfield 34, 3) := by decide +kernel
theorem dX1_run_35 : decode cX1_run 35 = .ok (.iload_n 2, 1) := by decide +kernel
theorem dX1_run_36 : decode cX1_run 36 = .ok (.iaload, 1) := by decide +kernel
theorem dX1_run_37 : decode cX1_run 37 = .ok (.ifCond .eq 9, 3) := by decide +kernel
theorem dX1_run_40 : decode cX1_run 40 = .ok (.aload_n 0, 1) := by decide +kernel
theorem dX1_run_41 : decode cX1_run 41 = .ok (.iload_n 2, 1) := by decide +kernel
theorem dX1_run_42 : decode cX1_run 42 = .ok (.iload_n 1, 1) := by decide +kernel
theorem dX1_run_43 : decode cX1_run 43 = .ok (.invokevirtual 100, 3) := by decide +kernel
theorem dX1_run_46 : decode cX1_run 46 = .ok (.iinc 2 (-1), 3) := by decide +kernel
theorem dX1_run_49 : decode cX1_run 49 = .ok (.goto (-22), 3) := by decide +kernel
theorem dX1_run_52 : decode cX1_run 52 = .ok (.aload_n 0, 1) := by decide +kernel
theorem dX1_run_53 : decode cX1_run 53 = .ok (.getfield 40, 3) := by decide +kernel
theorem dX1_run_56 : decode cX1_run 56 = .ok (.ifCond .eq 8, 3) := by decide +kernel
theorem dX1_run_59 : decode cX1_run 59 = .ok (.aload_n 0, 1) := by decide +kernel
theorem dX1_run_60 : decode cX1_run 60 = .ok (.iload_n 1, 1) := by decide +kernel
theorem dX1_run_61 : decode cX1_run 61 = .ok (.invokevirtual 104, 3) := by decide +kernel
theorem dX1_run_64 : decode cX1_run 64 = .ok (.aload_n 0, 1) := by decide +kernel
theorem dX1_run_65 : decode cX1_run 65 = .ok (.getfield 37, 3) := by decide +kernel
theorem dX1_run_68 : decode cX1_run 68 = .ok (.iconst 0, 1) := by decide +kernel
theorem dX1_run_69 : decode cX1_run 69 = .ok (.aload_n 0, 1) := by decide +kernel
theorem dX1_run_70 : decode cX1_run 70 = .ok (.getfield 43, 3) := by decide +kernel
theorem dX1_run_73 : decode cX1_run 73 = .ok (.iload_n 1, 1) := by decide +kernel
theorem dX1_run_74 : decode cX1_run 74 = .ok (.bipush 12, 2) := by decide +kernel
theorem dX1_run_76 : decode cX1_run 76 = .ok (.imul, 1) := by decide +kernel
theorem dX1_run_77 : decode cX1_run 77 = .ok (.bipush 12, 2) := by decide +kernel
theorem dX1_run_79 : decode cX1_run 79 = .ok (.invokestatic 76, 3) := by decide +kernel
theorem dX1_run_82 : decode cX1_run 82 = .ok (.iinc 1 1, 3) := by decide +kernel
theorem dX1_run_85 : decode cX1_run 85 = .ok (.goto (-79), 3) := by decide +kernel
theorem dX1_run_88 : decode cX1_run 88 = .ok (.return_, 1) := by decide +kernel
theorem dX5_runTold_0 : decode cX5_runTold 0 = .ok (.aload_n 0, 1) := by decide +kernel
theorem dX5_runTold_1 : decode cX5_runTold 1 = .ok (.getfield 55, 3) := by decide +kernel
theorem dX5_runTold_4 : decode cX5_runTold 4 = .ok (.ifCond .ne 22, 3) := by decide +kernel
theorem dX5_runTold_7 : decode cX5_runTold 7 = .ok (.aload_n 0, 1) := by decide +kernel
theorem dX5_runTold_8 : decode cX5_runTold 8 = .ok (.getfield 31, 3) := by decide +kernel
theorem dX5_runTold_11 : decode cX5_runTold 11 = .ok (.invokevirtual 215, 3) := by decide +kernel
theorem dX5_runTold_14 : decode cX5_runTold 14 = .ok (.aload_n 0, 1) := by decide +kernel
theorem dX5_runTold_15 : decode cX5_runTold 15 = .ok (.getfield 31, 3) := by decide +kernel
theorem dX5_runTold_18 : decode cX5_runTold 18 = .ok (.invokevirtual 221, 3) := by decide +kernel
theorem dX5_runTold_21 : decode cX5_runTold 21 = .ok (.aload_n 0, 1) := by decide +kernel
theorem dX5_runTold_22 : decode cX5_runTold 22 = .ok (.iconst 1, 1) := by decide +kernel
theorem dX5_runTold_23 : decode cX5_runTold 23 = .ok (.putfield 55, 3) := by decide +kernel
theorem dX5_runTold_26 : decode cX5_runTold 26 = .ok (.return_, 1) := by decide +kernel
theorem dX5_cup_0 : decode cX5_cup 0 = .ok (.iload_n 1, 1) := by decide +kernel
theorem dX5_cup_1 : decode cX5_cup 1 = .ok (.bipush 9, 2) := by decide +kernel
theorem dX5_cup_3 : decode cX5_cup 3 = .ok (.invokestatic 97, 3) := by decide +kernel
theorem dX5_cup_6 : decode cX5_cup 6 = .ok (.ifCond .ne 6, 3) := by decide +kernel
theorem dX5_cup_9 : decode cX5_cup 9 = .ok (.bipush (-2), 2) := by decide +kernel
theorem dX5_cup_11 : decode cX5_cup 11 = .ok (.ireturn, 1) := by decide +kernel
theorem dX5_cup_12 : decode cX5_cup 12 = .ok (.iload_n 2, 1) := by decide +kernel
theorem dX5_cup_13 : decode cX5_cup 13 = .ok (.tableswitch 65 0 2 #[27, 37, 51], 27) := by decide +kernel
theorem dX5_cup_40 : decode cX5_cup 40 = .ok (.aload_n 0, 1) := by decide +kernel
theorem dX5_cup_41 : decode cX5_cup 41 = .ok (.getfield 22, 3) := by decide +kernel
theorem dX5_cup_44 : decode cX5_cup 44 = .ok (.getfield 120, 3) := by decide +kernel
theorem dX5_cup_47 : decode cX5_cup 47 = .ok (.iload_n 1, 1) := by decide +kernel
theorem dX5_cup_48 : decode cX5_cup 48 = .ok (.iaload, 1) := by decide +kernel
theorem dX5_cup_49 : decode cX5_cup 49 = .ok (.ireturn, 1) := by decide +kernel
theorem dX5_cup_50 : decode cX5_cup 50 = .ok (.aload_n 0, 1) := by decide +kernel
theorem dX5_cup_51 : decode cX5_cup 51 = .ok (.invokevirtual 123, 3) := by decide +kernel
theorem dX5_cup_54 : decode cX5_cup 54 = .ok (.aload_n 0, 1) := by decide +kernel
theorem dX5_cup_55 : decode cX5_cup 55 = .ok (.getfield 31, 3) := by decide +kernel
theorem dX5_cup_58 : decode cX5_cup 58 = .ok (.getfield 126, 3) := by decide +kernel
theorem dX5_cup_61 : decode cX5_cup 61 = .ok (.iload_n 1, 1) := by decide +kernel
theorem dX5_cup_62 : decode cX5_cup 62 = .ok (.iaload, 1) := by decide +kernel
theorem dX5_cup_63 : decode cX5_cup 63 = .ok (.ireturn, 1) := by decide +kernel
theorem dX5_cup_64 : decode cX5_cup 64 = .ok (.aload_n 0, 1) := by decide +kernel
theorem dX5_cup_65 : decode cX5_cup 65 = .ok (.invokevirtual 123, 3) := by decide +kernel
theorem dX5_cup_68 : decode cX5_cup 68 = .ok (.aload_n 0, 1) := by decide +kernel
theorem dX5_cup_69 : decode cX5_cup 69 = .ok (.getfield 31, 3) := by decide +kernel
theorem dX5_cup_72 : decode cX5_cup 72 = .ok (.getfield 129, 3) := by decide +kernel
theorem dX5_cup_75 : decode cX5_cup 75 = .ok (.iload_n 1, 1) := by decide +kernel
theorem dX5_cup_76 : decode cX5_cup 76 = .ok (.iaload, 1) := by decide +kernel
theorem dX5_cup_77 : decode cX5_cup 77 = .ok (.ireturn, 1) := by decide +kernel
theorem dX5_cup_78 : decode cX5_cup 78 = .ok (.bipush (-2), 2) := by decide +kernel
theorem dX5_cup_80 : decode cX5_cup 80 = .ok (.ireturn, 1) := by decide +kernel
theorem dX5_ball_0 : decode cX5_ball 0 = .ok (.iload_n 1, 1) := by decide +kernel
theorem dX5_ball_1 : decode cX5_ball 1 = .ok (.aload_n 0, 1) := by decide +kernel
theorem dX5_ball_2 : decode cX5_ball 2 = .ok (.getfield 22, 3) := by decide +kernel
theorem dX5_ball_5 : decode cX5_ball 5 = .ok (.getfield 132, 3) := by decide +kernel
theorem dX5_ball_8 : decode cX5_ball 8 = .ok (.invokestatic 97, 3) := by decide +kernel
theorem dX5_ball_11 : decode cX5_ball 11 = .ok (.ifCond .ne 6, 3) := by decide +kernel
theorem dX5_ball_14 : decode cX5_ball 14 = .ok (.bipush (-2), 2) := by decide +kernel
theorem dX5_ball_16 : decode cX5_ball 16 = .ok (.ireturn, 1) := by decide +kernel
theorem dX5_ball_17 : decode cX5_ball 17 = .ok (.iload_n 2, 1) := by decide +kernel
theorem dX5_ball_18 : decode cX5_ball 18 = .ok (.lookupswitch 46 #[(0, 26), (1, 36)], 26) := by decide +kernel
theorem dX5_ball_44 : decode cX5_ball 44 = .ok (.aload_n 0, 1) := by decide +kernel
theorem dX5_ball_45 : decode cX5_ball 45 = .ok (.getfield 22, 3) := by decide +kernel
theorem dX5_ball_48 : decode cX5_ball 48 = .ok (.getfield 135, 3) := by decide +kernel
theorem dX5_ball_51 : decode cX5_ball 51 = .ok (.iload_n 1, 1) := by decide +kernel
theorem dX5_ball_52 : decode cX5_ball 52 = .ok (.iaload, 1) := by decide +kernel
theorem dX5_ball_53 : decode cX5_ball 53 = .ok (.ireturn, 1) := by decide +kernel
theorem dX5_ball_54 : decode cX5_ball 54 = .ok (.aload_n 0, 1) := by decide +kernel
theorem dX5_ball_55 : decode cX5_ball 55 = .ok (.getfield 22, 3) := by decide +kernel
theorem dX5_ball_58 : decode cX5_ball 58 = .ok (.getfield 138, 3) := by decide +kernel
theorem dX5_ball_61 : decode cX5_ball 61 = .ok (.iload_n 1, 1) := by decide +kernel
theorem dX5_ball_62 : decode cX5_ball 62 = .ok (.iaload, 1) := by decide +kernel
theorem dX5_ball_63 : decode cX5_ball 63 = .ok (.ireturn, 1) := by decide +kernel
theorem dX5_ball_64 : decode cX5_ball 64 = .ok (.bipush (-2), 2) := by decide +kernel
theorem dX5_ball_66 : decode cX5_ball 66 = .ok (.ireturn, 1) := by decide +kernel
theorem dX5_room_0 : decode cX5_room 0 = .ok (.iload_n 1, 1) := by decide +kernel
theorem dX5_room_1 : decode cX5_room 1 = .ok (.iconst 1, 1) := by decide +kernel
theorem dX5_room_2 : decode cX5_room 2 = .ok (.if_icmp .lt 9, 3) := by decide +kernel
theorem dX5_room_5 : decode cX5_room 5 = .ok (.iload_n 1, 1) := by decide +kernel
theorem dX5_room_6 : decode cX5_room 6 = .ok (.bipush 9, 2) := by decide +kernel
theorem dX5_room_8 : decode cX5_room 8 = .ok (.if_icmp .le 6, 3) := by decide +kernel
theorem dX5_room_11 : decode cX5_room 11 = .ok (.bipush (-2), 2) := by decide +kernel
theorem dX5_room_13 : decode cX5_room 13 = .ok (.ireturn, 1) := by decide +kernel
theorem dX5_room_14 : decode cX5_room 14 = .ok (.aload_n 0, 1) := by decide +kernel
theorem dX5_room_15 : decode cX5_room 15 = .ok (.getfield 22, 3) := by decide +kernel
theorem dX5_room_18 : decode cX5_room 18 = .ok (.getfield 141, 3) := by decide +kernel
theorem dX5_room_21 : decode cX5_room 21 = .ok (.istore_n 2, 1) := by decide +kernel
theorem dX5_room_22 : decode cX5_room 22 = .ok (.aload_n 0, 1) := by decide +kernel
theorem dX5_room_23 : decode cX5_room 23 = .ok (.getfield 22, 3) := by decide +kernel
theorem dX5_room_26 : decode cX5_room 26 = .ok (.iload_n 1, 1) := by decide +kernel
theorem dX5_room_27 : decode cX5_room 27 = .ok (.putfield 141, 3) := by decide +kernel
theorem dX5_room_30 : decode cX5_room 30 = .ok (.aload_n 0, 1) := by decide +kernel
theorem dX5_room_31 : decode cX5_room 31 = .ok (.invokevirtual 144, 3) := by decide +kernel
theorem dX5_room_34 : decode cX5_room 34 = .ok (.iload_n 2, 1) := by decide +kernel
theorem dX5_room_35 : decode cX5_room 35 = .ok (.ireturn, 1) := by decide +kernel
theorem dX5_isEvent_0 : decode cX5_isEvent 0 = .ok (.iload_n 0, 1) := by decide +kernel
theorem dX5_isEvent_1 : decode cX5_isEvent 1 = .ok (.iconst 3, 1) := by decide +kernel
theorem dX5_isEvent_2 : decode cX5_isEvent 2 = .ok (.invokestatic 97, 3) := by decide +kernel
theorem dX5_isEvent_5 : decode cX5_isEvent 5 = .ok (.ifCond .eq 25, 3) := by decide +kernel
theorem dX5_isEvent_8 : decode cX5_isEvent 8 = .ok (.iload_n 1, 1) := by decide +kernel
theorem dX5_isEvent_9 : decode cX5_isEvent 9 = .ok (.bipush 24, 2) := by decide +kernel
theorem dX5_isEvent_11 : decode cX5_isEvent 11 = .ok (.invokestatic 97, 3) := by decide +kernel
theorem dX5_isEvent_14 : decode cX5_isEvent 14 = .ok (.ifCond .eq 16, 3) := by decide +kernel
theorem dX5_isEvent_17 : decode cX5_isEvent 17 = .ok (.iload_n 2, 1) := by decide +kernel
theorem dX5_isEvent_18 : decode cX5_isEvent 18 = .ok (.bipush 12, 2) := by decide +kernel
theorem dX5_isEvent_20 : decode cX5_isEvent 20 = .ok (.invokestatic 97, 3) := by decide +kernel
theorem dX5_isEvent_23 : decode cX5_isEvent 23 = .ok (.ifCond .eq 7, 3) := by decide +kernel
theorem dX5_isEvent_26 : decode cX5_isEvent 26 = .ok (.iconst 1, 1) := by decide +kernel
theorem dX5_isEvent_27 : decode cX5_isEvent 27 = .ok (.goto 4, 3) := by decide +kernel
theorem dX5_isEvent_30 : decode cX5_isEvent 30 = .ok (.iconst 0, 1) := by decide +kernel
theorem dX5_isEvent_31 : decode cX5_isEvent 31 = .ok (.ireturn, 1) := by decide +kernel
theorem dX3_isFull_0 : decode cX3_isFull 0 = .ok (.aload_n 0, 1) := by decide +kernel
theorem dX3_isFull_1 : decode cX3_isFull 1 = .ok (.getfield 15, 3) := by decide +kernel
theorem dX3_isFull_4 : decode cX3_isFull 4 = .ok (.bipush 8, 2) := by decide +kernel
theorem dX3_isFull_6 : decode cX3_isFull 6 = .ok (.if_icmp .lt 7, 3) := by decide +kernel
theorem dX3_isFull_9 : decode cX3_isFull 9 = .ok (.iconst 1, 1) := by decide +kernel
theorem dX3_isFull_10 : decode cX3_isFull 10 = .ok (.goto 4, 3) := by decide +kernel
theorem dX3_isFull_13 : decode cX3_isFull 13 = .ok (.iconst 0, 1) := by decide +kernel
theorem dX3_isFull_14 : decode cX3_isFull 14 = .ok (.ireturn, 1) := by decide +kernel
theorem dX3_append_0 : decode cX3_append 0 = .ok (.aload_n 0, 1) := by decide +kernel
theorem dX3_append_1 : decode cX3_append 1 = .ok (.invokevirtual 19, 3) := by decide +kernel
theorem dX3_append_4 : decode cX3_append 4 = .ok (.ifCond .eq 4, 3) := by decide +kernel
theorem dX3_append_7 : decode cX3_append 7 = .ok (.return_, 1) := by decide +kernel
theorem dX3_append_8 : decode cX3_append 8 = .ok (.aload_n 0, 1) := by decide +kernel
theorem dX3_append_9 : decode cX3_append 9 = .ok (.getfield 15, 3) := by decide +kernel
theorem dX3_append_12 : decode cX3_append 12 = .ok (.iconst 4, 1) := by decide +kernel
theorem dX3_append_13 : decode cX3_append 13 = .ok (.imul, 1) := by decide +kernel
theorem dX3_append_14 : decode cX3_append 14 = .ok (.istore 5, 2) := by decide +kernel
theorem dX3_append_16 : decode cX3_append 16 = .ok (.aload_n 0, 1) := by decide +kernel
theorem dX3_append_17 : decode cX3_append 17 = .ok (.getfield 11, 3) := by decide +kernel
theorem dX3_append_20 : decode cX3_append 20 = .ok (.iload 5, 2) := by decide +kernel
theorem dX3_append_22 : decode cX3_append 22 = .ok (.iload_n 1, 1) := by decide +kernel
theorem dX3_append_23 : decode cX3_append 23 = .ok (.iastore, 1) := by decide +kernel
theorem dX3_append_24 : decode cX3_append 24 = .ok (.aload_n 0, 1) := by decide +kernel
theorem dX3_append_25 : decode cX3_append 25 = .ok (.getfield 11, 3) := by decide +kernel
theorem dX3_append_28 : decode cX3_append 28 = .ok (.iload 5, 2) := by decide +kernel
theorem dX3_append_30 : decode cX3_append 30 = .ok (.iconst 1, 1) := by decide +kernel
theorem dX3_append_31 : decode cX3_append 31 = .ok (.iadd, 1) := by decide +kernel
theorem dX3_append_32 : decode cX3_append 32 = .ok (.iload_n 2, 1) := by decide +kernel
theorem dX3_append_33 : decode cX3_append 33 = .ok (.iastore, 1) := by decide +kernel
theorem dX3_append_34 : decode cX3_append 34 = .ok (.aload_n 0, 1) := by decide +kernel
theorem dX3_append_35 : decode cX3_append 35 = .ok (.getfield 11, 3) := by decide +kernel
theorem dX3_append_38 : decode cX3_append 38 = .ok (.iload 5, 2) := by decide +kernel
theorem dX3_append_40 : decode cX3_append 40 = .ok (.iconst 2, 1) := by decide +kernel
theorem dX3_append_41 : decode cX3_append 41 = .ok (.iadd, 1) := by decide +kernel
theorem dX3_append_42 : decode cX3_append 42 = .ok (.iload_n 3, 1) := by decide +kernel
theorem dX3_append_43 : decode cX3_append 43 = .ok (.iastore, 1) := by decide +kernel
theorem dX3_append_44 : decode cX3_append 44 = .ok (.aload_n 0, 1) := by decide +kernel
theorem dX3_append_45 : decode cX3_append 45 = .ok (.getfield 11, 3) := by decide +kernel
theorem dX3_append_48 : decode cX3_append 48 = .ok (.iload 5, 2) := by decide +kernel
theorem dX3_append_50 : decode cX3_append 50 = .ok (.iconst 3, 1) := by decide +kernel
theorem dX3_append_51 : decode cX3_append 51 = .ok (.iadd, 1) := by decide +kernel
theorem dX3_append_52 : decode cX3_append 52 = .ok (.iload 4, 2) := by decide +kernel
theorem dX3_append_54 : decode cX3_append 54 = .ok (.iastore, 1) := by decide +kernel
theorem dX3_append_55 : decode cX3_append 55 = .ok (.aload_n 0, 1) := by decide +kernel
theorem dX3_append_56 : decode cX3_append 56 = .ok (.dup, 1) := by decide +kernel
theorem dX3_append_57 : decode cX3_append 57 = .ok (.getfield 15, 3) := by decide +kernel
theorem dX3_append_60 : decode cX3_append 60 = .ok (.iconst 1, 1) := by decide +kernel
theorem dX3_append_61 : decode cX3_append 61 = .ok (.iadd, 1) := by decide +kernel
theorem dX3_append_62 : decode cX3_append 62 = .ok (.putfield 15, 3) := by decide +kernel
theorem dX3_append_65 : decode cX3_append 65 = .ok (.return_, 1) := by decide +kernel
theorem dX5_event_0 : decode cX5_event 0 = .ok (.iload_n 1, 1) := by decide +kernel
theorem dX5_event_1 : decode cX5_event 1 = .ok (.iload_n 2, 1) := by decide +kernel
theorem dX5_event_2 : decode cX5_event 2 = .ok (.iload_n 3, 1) := by decide +kernel
theorem dX5_event_3 : decode cX5_event 3 = .ok (.invokestatic 147, 3) := by decide +kernel
theorem dX5_event_6 : decode cX5_event 6 = .ok (.ifCond .ne 6, 3) := by decide +kernel
theorem dX5_event_9 : decode cX5_event 9 = .ok (.bipush (-2), 2) := by decide +kernel
theorem dX5_event_11 : decode cX5_event 11 = .ok (.ireturn, 1) := by decide +kernel
theorem dX5_event_12 : decode cX5_event 12 = .ok (.aload_n 0, 1) := by decide +kernel
theorem dX5_event_13 : decode cX5_event 13 = .ok (.getfield 22, 3) := by decide +kernel
theorem dX5_event_16 : decode cX5_event 16 = .ok (.getfield 151, 3) := by decide +kernel
theorem dX5_event_19 : decode cX5_event 19 = .ok (.invokevirtual 154, 3) := by decide +kernel
theorem dX5_event_22 : decode cX5_event 22 = .ok (.ifCond .eq 6, 3) := by decide +kernel
theorem dX5_event_25 : decode cX5_event 25 = .ok (.bipush (-4), 2) := by decide +kernel
theorem dX5_event_27 : decode cX5_event 27 = .ok (.ireturn, 1) := by decide +kernel
theorem dX5_event_28 : decode cX5_event 28 = .ok (.aload_n 0, 1) := by decide +kernel
theorem dX5_event_29 : decode cX5_event 29 = .ok (.getfield 22, 3) := by decide +kernel
theorem dX5_event_32 : decode cX5_event 32 = .ok (.getfield 151, 3) := by decide +kernel
theorem dX5_event_35 : decode cX5_event 35 = .ok (.iload_n 1, 1) := by decide +kernel
theorem dX5_event_36 : decode cX5_event 36 = .ok (.iload_n 2, 1) := by decide +kernel
theorem dX5_event_37 : decode cX5_event 37 = .ok (.iload_n 3, 1) := by decide +kernel
theorem dX5_event_38 : decode cX5_event 38 = .ok (.iconst 0, 1) := by decide +kernel
theorem dX5_event_39 : decode cX5_event 39 = .ok (.invokevirtual 158, 3) := by decide +kernel
theorem dX5_event_42 : decode cX5_event 42 = .ok (.aload_n 0, 1) := by decide +kernel
theorem dX5_event_43 : decode cX5_event 43 = .ok (.invokevirtual 144, 3) := by decide +kernel
theorem dX5_event_46 : decode cX5_event 46 = .ok (.aload_n 0, 1) := by decide +kernel
theorem dX5_event_47 : decode cX5_event 47 = .ok (.getfield 22, 3) := by decide +kernel
theorem dX5_event_50 : decode cX5_event 50 = .ok (.getfield 151, 3) := by decide +kernel
theorem dX5_event_53 : decode cX5_event 53 = .ok (.getfield 161, 3) := by decide +kernel
theorem dX5_event_56 : decode cX5_event 56 = .ok (.ireturn, 1) := by decide +kernel
theorem dX5_back_0 : decode cX5_back 0 = .ok (.aload_n 0, 1) := by decide +kernel
theorem dX5_back_1 : decode cX5_back 1 = .ok (.getfield 22, 3) := by decide +kernel
theorem dX5_back_4 : decode cX5_back 4 = .ok (.getfield 151, 3) := by decide +kernel
theorem dX5_back_7 : decode cX5_back 7 = .ok (.getfield 161, 3) := by decide +kernel
theorem dX5_back_10 : decode cX5_back 10 = .ok (.ifCond .ne 6, 3) := by decide +kernel
theorem dX5_back_13 : decode cX5_back 13 = .ok (.bipush (-3), 2) := by decide +kernel
theorem dX5_back_15 : decode cX5_back 15 = .ok (.ireturn, 1) := by decide +kernel
theorem dX5_back_16 : decode cX5_back 16 = .ok (.aload_n 0, 1) := by decide +kernel
theorem dX5_back_17 : decode cX5_back 17 = .ok (.getfield 22, 3) := by decide +kernel
theorem dX5_back_20 : decode cX5_back 20 = .ok (.getfield 151, 3) := by decide +kernel
theorem dX5_back_23 : decode cX5_back 23 = .ok (.dup, 1) := by decide +kernel
theorem dX5_back_24 : decode cX5_back 24 = .ok (.getfield 161, 3) := by decide +kernel
theorem dX5_back_27 : decode cX5_back 27 = .ok (.iconst 1, 1) := by decide +kernel
theorem dX5_back_28 : decode cX5_back 28 = .ok (.isub, 1) := by decide +kernel
theorem dX5_back_29 : decode cX5_back 29 = .ok (.putfield 161, 3) := by decide +kernel
theorem dX5_back_32 : decode cX5_back 32 = .ok (.aload_n 0, 1) := by decide +kernel
theorem dX5_back_33 : decode cX5_back 33 = .ok (.invokevirtual 144, 3) := by decide +kernel
theorem dX5_back_36 : decode cX5_back 36 = .ok (.aload_n 0, 1) := by decide +kernel
theorem dX5_back_37 : decode cX5_back 37 = .ok (.getfield 22, 3) := by decide +kernel
theorem dX5_back_40 : decode cX5_back 40 = .ok (.getfield 151, 3) := by decide +kernel
theorem dX5_back_43 : decode cX5_back 43 = .ok (.getfield 161, 3) := by decide +kernel
theorem dX5_back_46 : decode cX5_back 46 = .ok (.ireturn, 1) := by decide +kernel
theorem dX5_found_0 : decode cX5_found 0 = .ok (.aload_n 0, 1) := by decide +kernel
theorem dX5_found_1 : decode cX5_found 1 = .ok (.iload_n 1, 1) := by decide +kernel
theorem dX5_found_2 : decode cX5_found 2 = .ok (.putfield 51, 3) := by decide +kernel
theorem dX5_found_5 : decode cX5_found 5 = .ok (.bipush (-10), 2) := by decide +kernel
theorem dX5_found_7 : decode cX5_found 7 = .ok (.iload_n 1, 1) := by decide +kernel
theorem dX5_found_8 : decode cX5_found 8 = .ok (.isub, 1) := by decide +kernel
theorem dX5_found_9 : decode cX5_found 9 = .ok (.ireturn, 1) := by decide +kernel
theorem dX5_read_0 : decode cX5_read 0 = .ok (.iload_n 1, 1) := by decide +kernel
theorem dX5_read_1 : decode cX5_read 1 = .ok (.iconst 4, 1) := by decide +kernel
theorem dX5_read_2 : decode cX5_read 2 = .ok (.invokestatic 97, 3) := by decide +kernel
theorem dX5_read_5 : decode cX5_read 5 = .ok (.ifCond .ne 6, 3) := by decide +kernel
theorem dX5_read_8 : decode cX5_read 8 = .ok (.bipush (-2), 2) := by decide +kernel
theorem dX5_read_10 : decode cX5_read 10 = .ok (.ireturn, 1) := by decide +kernel
theorem dX5_read_11 : decode cX5_read 11 = .ok (.aload_n 0, 1) := by decide +kernel
theorem dX5_read_12 : decode cX5_read 12 = .ok (.getfield 47, 3) := by decide +kernel
theorem dX5_read_15 : decode cX5_read 15 = .ok (.iload_n 1, 1) := by decide +kernel
theorem dX5_read_16 : decode cX5_read 16 = .ok (.aaload, 1) := by decide +kernel
theorem dX5_read_17 : decode cX5_read 17 = .ok (.getfield 162, 3) := by decide +kernel
theorem dX5_read_20 : decode cX5_read 20 = .ok (.ifCond .eq 9, 3) := by decide +kernel
theorem dX5_read_23 : decode cX5_read 23 = .ok (.aload_n 0, 1) := by decide +kernel
theorem dX5_read_24 : decode cX5_read 24 = .ok (.iconst 1, 1) := by decide +kernel
theorem dX5_read_25 : decode cX5_read 25 = .ok (.invokevirtual 165, 3) := by decide +kernel
theorem dX5_read_28 : decode cX5_read 28 = .ok (.ireturn, 1) := by decide +kernel
theorem dX5_read_29 : decode cX5_read 29 = .ok (.aload_n 0, 1) := by decide +kernel
theorem dX5_read_30 : decode cX5_read 30 = .ok (.getfield 47, 3) := by decide +kernel
theorem dX5_read_33 : decode cX5_read 33 = .ok (.iload_n 1, 1) := by decide +kernel
theorem dX5_read_34 : decode cX5_read 34 = .ok (.aaload, 1) := by decide +kernel
theorem dX5_read_35 : decode cX5_read 35 = .ok (.getfield 169, 3) := by decide +kernel
theorem dX5_read_38 : decode cX5_read 38 = .ok (.astore_n 2, 1) := by decide +kernel
theorem dX5_read_39 : decode cX5_read 39 = .ok (.aload_n 0, 1) := by decide +kernel
theorem dX5_read_40 : decode cX5_read 40 = .ok (.getfield 47, 3) := by decide +kernel
theorem dX5_read_43 : decode cX5_read 43 = .ok (.iload_n 1, 1) := by decide +kernel
theorem dX5_read_44 : decode cX5_read 44 = .ok (.aaload, 1) := by decide +kernel
theorem dX5_read_45 : decode cX5_read 45 = .ok (.getfield 172, 3) := by decide +kernel
theorem dX5_read_48 : decode cX5_read 48 = .ok (.iconst 3, 1) := by decide +kernel
theorem dX5_read_49 : decode cX5_read 49 = .ok (.idiv, 1) := by decide +kernel
theorem dX5_read_50 : decode cX5_read 50 = .ok (.istore_n 3, 1) := by decide +kernel
theorem dX5_read_51 : decode cX5_read 51 = .ok (.iconst 0, 1) := by decide +kernel
theorem dX5_read_52 : decode cX5_read 52 = .ok (.istore 4, 2) := by decide +kernel
theorem dX5_read_54 : decode cX5_read 54 = .ok (.iconst 0, 1) := by decide +kernel
theorem dX5_read_55 : decode cX5_read 55 = .ok (.istore 5, 2) := by decide +kernel
theorem dX5_read_57 : decode cX5_read 57 = .ok (.iload 5, 2) := by decide +kernel
theorem dX5_read_59 : decode cX5_read 59 = .ok (.iload_n 3, 1) := by decide +kernel
theorem dX5_read_60 : decode cX5_read 60 = .ok (.if_icmp .ge 44, 3) := by decide +kernel
theorem dX5_read_63 : decode cX5_read 63 = .ok (.aload_n 0, 1) := by decide +kernel
theorem dX5_read_64 : decode cX5_read 64 = .ok (.aload_n 2, 1) := by decide +kernel
theorem dX5_read_65 : decode cX5_read 65 = .ok (.iconst 3, 1) := by decide +kernel
theorem dX5_read_66 : decode cX5_read 66 = .ok (.iload 5, 2) := by decide +kernel
theorem dX5_read_68 : decode cX5_read 68 = .ok (.imul, 1) := by decide +kernel
theorem dX5_read_69 : decode cX5_read 69 = .ok (.iaload, 1) := by decide +kernel
theorem dX5_read_70 : decode cX5_read 70 = .ok (.aload_n 2, 1) := by decide +kernel
theorem dX5_read_71 : decode cX5_read 71 = .ok (.iconst 3, 1) := by decide +kernel
theorem dX5_read_72 : decode cX5_read 72 = .ok (.iload 5, 2) := by decide +kernel
theorem dX5_read_74 : decode cX5_read 74 = .ok (.imul, 1) := by decide +kernel
theorem dX5_read_75 : decode cX5_read 75 = .ok (.iconst 1, 1) := by decide +kernel
theorem dX5_read_76 : decode cX5_read 76 = .ok (.iadd, 1) := by decide +kernel
theorem dX5_read_77 : decode cX5_read 77 = .ok (.iaload, 1) := by decide +kernel
theorem dX5_read_78 : decode cX5_read 78 = .ok (.aload_n 2, 1) := by decide +kernel
theorem dX5_read_79 : decode cX5_read 79 = .ok (.iconst 3, 1) := by decide +kernel
theorem dX5_read_80 : decode cX5_read 80 = .ok (.iload 5, 2) := by decide +kernel
theorem dX5_read_82 : decode cX5_read 82 = .ok (.imul, 1) := by decide +kernel
theorem dX5_read_83 : decode cX5_read 83 = .ok (.iconst 2, 1) := by decide +kernel
theorem dX5_read_84 : decode cX5_read 84 = .ok (.iadd, 1) := by decide +kernel
theorem dX5_read_85 : decode cX5_read 85 = .ok (.iaload, 1) := by decide +kernel
theorem dX5_read_86 : decode cX5_read 86 = .ok (.invokevirtual 173, 3) := by decide +kernel
theorem dX5_read_89 : decode cX5_read 89 = .ok (.ifCond .ge 6, 3) := by decide +kernel
theorem dX5_read_92 : decode cX5_read 92 = .ok (.goto 12, 3) := by decide +kernel
theorem dX5_read_95 : decode cX5_read 95 = .ok (.iinc 4 1, 3) := by decide +kernel
theorem dX5_read_98 : decode cX5_read 98 = .ok (.iinc 5 1, 3) := by decide +kernel
theorem dX5_read_101 : decode cX5_read 101 = .ok (.goto (-44), 3) := by decide +kernel
theorem dX5_read_104 : decode cX5_read 104 = .ok (.iload 4, 2) := by decide +kernel
theorem dX5_read_106 : decode cX5_read 106 = .ok (.ireturn, 1) := by decide +kernel
theorem dX1_rowOf_0 : decode cX1_rowOf 0 = .ok (.aload_n 0, 1) := by decide +kernel
theorem dX1_rowOf_1 : decode cX1_rowOf 1 = .ok (.getfield 43, 3) := by decide +kernel
theorem dX1_rowOf_4 : decode cX1_rowOf 4 = .ok (.iload_n 1, 1) := by decide +kernel
theorem dX1_rowOf_5 : decode cX1_rowOf 5 = .ok (.bipush 12, 2) := by decide +kernel
theorem dX1_rowOf_7 : decode cX1_rowOf 7 = .ok (.imul, 1) := by decide +kernel
theorem dX1_rowOf_8 : decode cX1_rowOf 8 = .ok (.iload_n 2, 1) := by decide +kernel
theorem dX1_rowOf_9 : decode cX1_rowOf 9 = .ok (.iadd, 1) := by decide +kernel
theorem dX1_rowOf_10 : decode cX1_rowOf 10 = .ok (.iaload, 1) := by decide +kernel
theorem dX1_rowOf_11 : decode cX1_rowOf 11 = .ok (.istore_n 3, 1) := by decide +kernel
theorem dX1_rowOf_12 : decode cX1_rowOf 12 = .ok (.iload_n 3, 1) := by decide +kernel
theorem dX1_rowOf_13 : decode cX1_rowOf 13 = .ok (.iconst (-1), 1) := by decide +kernel
theorem dX1_rowOf_14 : decode cX1_rowOf 14 = .ok (.if_icmp .ne 7, 3) := by decide +kernel
theorem dX1_rowOf_17 : decode cX1_rowOf 17 = .ok (.iconst (-1), 1) := by decide +kernel
theorem dX1_rowOf_18 : decode cX1_rowOf 18 = .ok (.goto 7, 3) := by decide +kernel
theorem dX1_rowOf_21 : decode cX1_rowOf 21 = .ok (.iload_n 3, 1) := by decide +kernel
theorem dX1_rowOf_22 : decode cX1_rowOf 22 = .ok (.bipush 9, 2) := by decide +kernel
theorem dX1_rowOf_24 : decode cX1_rowOf 24 = .ok (.idiv, 1) := by decide +kernel
theorem dX1_rowOf_25 : decode cX1_rowOf 25 = .ok (.ireturn, 1) := by decide +kernel
theorem dX1_columnOf_0 : decode cX1_columnOf 0 = .ok (.aload_n 0, 1) := by decide +kernel
theorem dX1_columnOf_1 : decode cX1_columnOf 1 = .ok (.getfield 43, 3) := by decide +kernel
theorem dX1_columnOf_4 : decode cX1_columnOf 4 = .ok (.iload_n 1, 1) := by decide +kernel
theorem dX1_columnOf_5 : decode cX1_columnOf 5 = .ok (.bipush 12, 2) := by decide +kernel
theorem dX1_columnOf_7 : decode cX1_columnOf 7 = .ok (.imul, 1) := by decide +kernel
theorem dX1_columnOf_8 : decode cX1_columnOf 8 = .ok (.iload_n 2, 1) := by decide +kernel
theorem dX1_columnOf_9 : decode cX1_columnOf 9 = .ok (.iadd, 1) := by decide +kernel
theorem dX1_columnOf_10 : decode cX1_columnOf 10 = .ok (.iaload, 1) := by decide +kernel
theorem dX1_columnOf_11 : decode cX1_columnOf 11 = .ok (.istore_n 3, 1) := by decide +kernel
theorem dX1_columnOf_12 : decode cX1_columnOf 12 = .ok (.iload_n 3, 1) := by decide +kernel
theorem dX1_columnOf_13 : decode cX1_columnOf 13 = .ok (.iconst (-1), 1) := by decide +kernel
theorem dX1_columnOf_14 : decode cX1_columnOf 14 = .ok (.if_icmp .ne 7, 3) := by decide +kernel
theorem dX1_columnOf_17 : decode cX1_columnOf 17 = .ok (.iconst (-1), 1) := by decide +kernel
theorem dX1_columnOf_18 : decode cX1_columnOf 18 = .ok (.goto 7, 3) := by decide +kernel
theorem dX1_columnOf_21 : decode cX1_columnOf 21 = .ok (.iload_n 3, 1) := by decide +kernel
theorem dX1_columnOf_22 : decode cX1_columnOf 22 = .ok (.bipush 9, 2) := by decide +kernel
theorem dX1_columnOf_24 : decode cX1_columnOf 24 = .ok (.irem, 1) := by decide +kernel
theorem dX1_columnOf_25 : decode cX1_columnOf 25 = .ok (.ireturn, 1) := by decide +kernel
theorem dX5_at_0 : decode cX5_at 0 = .ok (.iload_n 1, 1) := by decide +kernel
theorem dX5_at_1 : decode cX5_at 1 = .ok (.bipush 24, 2) := by decide +kernel
theorem dX5_at_3 : decode cX5_at 3 = .ok (.invokestatic 97, 3) := by decide +kernel
theorem dX5_at_6 : decode cX5_at 6 = .ok (.ifCond .eq 25, 3) := by decide +kernel
theorem dX5_at_9 : decode cX5_at 9 = .ok (.iload_n 2, 1) := by decide +kernel
theorem dX5_at_10 : decode cX5_at 10 = .ok (.aload_n 0, 1) := by decide +kernel
theorem dX5_at_11 : decode cX5_at 11 = .ok (.getfield 22, 3) := by decide +kernel
theorem dX5_at_14 : decode cX5_at 14 = .ok (.getfield 132, 3) := by decide +kernel
theorem dX5_at_17 : decode cX5_at 17 = .ok (.invokestatic 97, 3) := by decide +kernel
theorem dX5_at_20 : decode cX5_at 20 = .ok (.ifCond .eq 11, 3) := by decide +kernel
theorem dX5_at_23 : decode cX5_at 23 = .ok (.iload_n 3, 1) := by decide +kernel
theorem dX5_at_24 : decode cX5_at 24 = .ok (.iconst 2, 1) := by decide +kernel
theorem dX5_at_25 : decode cX5_at 25 = .ok (.invokestatic 97, 3) := by decide +kernel
theorem dX5_at_28 : decode cX5_at 28 = .ok (.ifCond .ne 6, 3) := by decide +kernel
theorem dX5_at_31 : decode cX5_at 31 = .ok (.bipush (-2), 2) := by decide +kernel
theorem dX5_at_33 : decode cX5_at 33 = .ok (.ireturn, 1) := by decide +kernel
theorem dX5_at_34 : decode cX5_at 34 = .ok (.aload_n 0, 1) := by decide +kernel
theorem dX5_at_35 : decode cX5_at 35 = .ok (.invokevirtual 123, 3) := by decide +kernel
theorem dX5_at_38 : decode cX5_at 38 = .ok (.iload_n 3, 1) := by decide +kernel
theorem dX5_at_39 : decode cX5_at 39 = .ok (.ifCond .ne 15, 3) := by decide +kernel
theorem dX5_at_42 : decode cX5_at 42 = .ok (.aload_n 0, 1) := by decide +kernel
theorem dX5_at_43 : decode cX5_at 43 = .ok (.getfield 31, 3) := by decide +kernel
theorem dX5_at_46 : decode cX5_at 46 = .ok (.iload_n 1, 1) := by decide +kernel
theorem dX5_at_47 : decode cX5_at 47 = .ok (.iload_n 2, 1) := by decide +kernel
theorem dX5_at_48 : decode cX5_at 48 = .ok (.invokevirtual 177, 3) := by decide +kernel
theorem dX5_at_51 : decode cX5_at 51 = .ok (.goto 12, 3) := by decide +kernel
theorem dX5_at_54 : decode cX5_at 54 = .ok (.aload_n 0, 1) := by decide +kernel
theorem dX5_at_55 : decode cX5_at 55 = .ok (.getfield 31, 3) := by decide +kernel
theorem dX5_at_58 : decode cX5_at 58 = .ok (.iload_n 1, 1) := by decide +kernel
theorem dX5_at_59 : decode cX5_at 59 = .ok (.iload_n 2, 1) := by decide +kernel
theorem dX5_at_60 : decode cX5_at 60 = .ok (.invokevirtual 181, 3) := by decide +kernel
theorem dX5_at_63 : decode cX5_at 63 = .ok (.ireturn, 1) := by decide +kernel
theorem dX1_ballIn_0 : decode cX1_ballIn 0 = .ok (.iconst 0, 1) := by decide +kernel
theorem dX1_ballIn_1 : decode cX1_ballIn 1 = .ok (.istore_n 3, 1) := by decide +kernel
theorem dX1_ballIn_2 : decode cX1_ballIn 2 = .ok (.iload_n 3, 1) := by decide +kernel
theorem dX1_ballIn_3 : decode cX1_ballIn 3 = .ok (.aload_n 0, 1) := by decide +kernel
theorem dX1_ballIn_4 : decode cX1_ballIn 4 = .ok (.getfield 21, 3) := by decide +kernel
theorem dX1_ballIn_7 : decode cX1_ballIn 7 = .ok (.if_icmp .ge 26, 3) := by decide +kernel
theorem dX1_ballIn_10 : decode cX1_ballIn 10 = .ok (.aload_n 0, 1) := by decide +kernel
theorem dX1_ballIn_11 : decode cX1_ballIn 11 = .ok (.getfield 43, 3) := by decide +kernel
theorem dX1_ballIn_14 : decode cX1_ballIn 14 = .ok (.iload_n 1, 1) := by decide +kernel
theorem dX1_ballIn_15 : decode cX1_ballIn 15 = .ok (.bipush 12, 2) := by decide +kernel
theorem dX1_ballIn_17 : decode cX1_ballIn 17 = .ok (.imul, 1) := by decide +kernel
theorem dX1_ballIn_18 : decode cX1_ballIn 18 = .ok (.iload_n 3, 1) := by decide +kernel
theorem dX1_ballIn_19 : decode cX1_ballIn 19 = .ok (.iadd, 1) := by decide +kernel
theorem dX1_ballIn_20 : decode cX1_ballIn 20 = .ok (.iaload, 1) := by decide +kernel
theorem dX1_ballIn_21 : decode cX1_ballIn 21 = .ok (.iload_n 2, 1) := by decide +kernel
theorem dX1_ballIn_22 : decode cX1_ballIn 22 = .ok (.if_icmp .ne 5, 3) := by decide +kernel
theorem dX1_ballIn_25 : decode cX1_ballIn 25 = .ok (.iload_n 3, 1) := by decide +kernel
theorem dX1_ballIn_26 : decode cX1_ballIn 26 = .ok (.ireturn, 1) := by decide +kernel
theorem dX1_ballIn_27 : decode cX1_ballIn 27 = .ok (.iinc 3 1, 3) := by decide +kernel
theorem dX1_ballIn_30 : decode cX1_ballIn 30 = .ok (.goto (-28), 3) := by decide +kernel
theorem dX1_ballIn_33 : decode cX1_ballIn 33 = .ok (.iconst (-1), 1) := by decide +kernel
theorem dX1_ballIn_34 : decode cX1_ballIn 34 = .ok (.ireturn, 1) := by decide +kernel
theorem dX5_sees_0 : decode cX5_sees 0 = .ok (.iload_n 1, 1) := by decide +kernel
theorem dX5_sees_1 : decode cX5_sees 1 = .ok (.bipush 24, 2) := by decide +kernel
theorem dX5_sees_3 : decode cX5_sees 3 = .ok (.invokestatic 97, 3) := by decide +kernel
theorem dX5_sees_6 : decode cX5_sees 6 = .ok (.ifCond .eq 21, 3) := by decide +kernel
theorem dX5_sees_9 : decode cX5_sees 9 = .ok (.iload_n 2, 1) := by decide +kernel
theorem dX5_sees_10 : decode cX5_sees 10 = .ok (.bipush 8, 2) := by decide +kernel
theorem dX5_sees_12 : decode cX5_sees 12 = .ok (.invokestatic 97, 3) := by decide +kernel
theorem dX5_sees_15 : decode cX5_sees 15 = .ok (.ifCond .eq 12, 3) := by decide +kernel
theorem dX5_sees_18 : decode cX5_sees 18 = .ok (.iload_n 3, 1) := by decide +kernel
theorem dX5_sees_19 : decode cX5_sees 19 = .ok (.bipush 9, 2) := by decide +kernel
theorem dX5_sees_21 : decode cX5_sees 21 = .ok (.invokestatic 97, 3) := by decide +kernel
theorem dX5_sees_24 : decode cX5_sees 24 = .ok (.ifCond .ne 6, 3) := by decide +kernel
theorem dX5_sees_27 : decode cX5_sees 27 = .ok (.bipush (-2), 2) := by decide +kernel
theorem dX5_sees_29 : decode cX5_sees 29 = .ok (.ireturn, 1) := by decide +kernel
theorem dX5_sees_30 : decode cX5_sees 30 = .ok (.aload_n 0, 1) := by decide +kernel
theorem dX5_sees_31 : decode cX5_sees 31 = .ok (.invokevirtual 123, 3) := by decide +kernel
theorem dX5_sees_34 : decode cX5_sees 34 = .ok (.aload_n 0, 1) := by decide +kernel
theorem dX5_sees_35 : decode cX5_sees 35 = .ok (.getfield 31, 3) := by decide +kernel
theorem dX5_sees_38 : decode cX5_sees 38 = .ok (.iload_n 1, 1) := by decide +kernel
theorem dX5_sees_39 : decode cX5_sees 39 = .ok (.iload_n 2, 1) := by decide +kernel
theorem dX5_sees_40 : decode cX5_sees 40 = .ok (.bipush 9, 2) := by decide +kernel
theorem dX5_sees_42 : decode cX5_sees 42 = .ok (.imul, 1) := by decide +kernel
theorem dX5_sees_43 : decode cX5_sees 43 = .ok (.iload_n 3, 1) := by decide +kernel
theorem dX5_sees_44 : decode cX5_sees 44 = .ok (.iadd, 1) := by decide +kernel
theorem dX5_sees_45 : decode cX5_sees 45 = .ok (.invokevirtual 184, 3) := by decide +kernel
theorem dX5_sees_48 : decode cX5_sees 48 = .ok (.ireturn, 1) := by decide +kernel
theorem dX5_ends_0 : decode cX5_ends 0 = .ok (.iload_n 1, 1) := by decide +kernel
theorem dX5_ends_1 : decode cX5_ends 1 = .ok (.aload_n 0, 1) := by decide +kernel
theorem dX5_ends_2 : decode cX5_ends 2 = .ok (.getfield 22, 3) := by decide +kernel
theorem dX5_ends_5 : decode cX5_ends 5 = .ok (.getfield 132, 3) := by decide +kernel
theorem dX5_ends_8 : decode cX5_ends 8 = .ok (.invokestatic 97, 3) := by decide +kernel
theorem dX5_ends_11 : decode cX5_ends 11 = .ok (.ifCond .eq 11, 3) := by decide +kernel
theorem dX5_ends_14 : decode cX5_ends 14 = .ok (.iload_n 2, 1) := by decide +kernel
theorem dX5_ends_15 : decode cX5_ends 15 = .ok (.iconst 3, 1) := by decide +kernel
theorem dX5_ends_16 : decode cX5_ends 16 = .ok (.invokestatic 97, 3) := by decide +kernel
theorem dX5_ends_19 : decode cX5_ends 19 = .ok (.ifCond .ne 6, 3) := by decide +kernel
theorem dX5_ends_22 : decode cX5_ends 22 = .ok (.bipush (-2), 2) := by decide +kernel
theorem dX5_ends_24 : decode cX5_ends 24 = .ok (.ireturn, 1) := by decide +kernel
theorem dX5_ends_25 : decode cX5_ends 25 = .ok (.aload_n 0, 1) := by decide +kernel
theorem dX5_ends_26 : decode cX5_ends 26 = .ok (.invokevirtual 123, 3) := by decide +kernel
theorem dX5_ends_29 : decode cX5_ends 29 = .ok (.iload_n 2, 1) := by decide +kernel
theorem dX5_ends_30 : decode cX5_ends 30 = .ok (.lookupswitch 46 #[(0, 26), (1, 36)], 26) := by decide +kernel
theorem dX5_ends_56 : decode cX5_ends 56 = .ok (.aload_n 0, 1) := by decide +kernel
theorem dX5_ends_57 : decode cX5_ends 57 = .ok (.getfield 31, 3) := by decide +kernel
theorem dX5_ends_60 : decode cX5_ends 60 = .ok (.getfield 187, 3) := by decide +kernel
theorem dX5_ends_63 : decode cX5_ends 63 = .ok (.iload_n 1, 1) := by decide +kernel
theorem dX5_ends_64 : decode cX5_ends 64 = .ok (.iaload, 1) := by decide +kernel
theorem dX5_ends_65 : decode cX5_ends 65 = .ok (.ireturn, 1) := by decide +kernel
theorem dX5_ends_66 : decode cX5_ends 66 = .ok (.aload_n 0, 1) := by decide +kernel
theorem dX5_ends_67 : decode cX5_ends 67 = .ok (.getfield 31, 3) := by decide +kernel
theorem dX5_ends_70 : decode cX5_ends 70 = .ok (.getfield 190, 3) := by decide +kernel
theorem dX5_ends_73 : decode cX5_ends 73 = .ok (.iload_n 1, 1) := by decide +kernel
theorem dX5_ends_74 : decode cX5_ends 74 = .ok (.iaload, 1) := by decide +kernel
theorem dX5_ends_75 : decode cX5_ends 75 = .ok (.ireturn, 1) := by decide +kernel
theorem dX5_ends_76 : decode cX5_ends 76 = .ok (.aload_n 0, 1) := by decide +kernel
theorem dX5_ends_77 : decode cX5_ends 77 = .ok (.getfield 31, 3) := by decide +kernel
theorem dX5_ends_80 : decode cX5_ends 80 = .ok (.getfield 193, 3) := by decide +kernel
theorem dX5_ends_83 : decode cX5_ends 83 = .ok (.iload_n 1, 1) := by decide +kernel
theorem dX5_ends_84 : decode cX5_ends 84 = .ok (.iaload, 1) := by decide +kernel
theorem dX5_ends_85 : decode cX5_ends 85 = .ok (.ireturn, 1) := by decide +kernel
theorem dX1_score_0 : decode cX1_score 0 = .ok (.iconst 0, 1) := by decide +kernel
theorem dX1_score_1 : decode cX1_score 1 = .ok (.istore_n 1, 1) := by decide +kernel
theorem dX1_score_2 : decode cX1_score 2 = .ok (.iconst 0, 1) := by decide +kernel
theorem dX1_score_3 : decode cX1_score 3 = .ok (.istore_n 2, 1) := by decide +kernel
theorem dX1_score_4 : decode cX1_score 4 = .ok (.iload_n 2, 1) := by decide +kernel
theorem dX1_score_5 : decode cX1_score 5 = .ok (.aload_n 0, 1) := by decide +kernel
theorem dX1_score_6 : decode cX1_score 6 = .ok (.getfield 21, 3) := by decide +kernel
theorem dX1_score_9 : decode cX1_score 9 = .ok (.if_icmp .ge 18, 3) := by decide +kernel
theorem dX1_score_12 : decode cX1_score 12 = .ok (.iload_n 1, 1) := by decide +kernel
theorem dX1_score_13 : decode cX1_score 13 = .ok (.aload_n 0, 1) := by decide +kernel
theorem dX1_score_14 : decode cX1_score 14 = .ok (.getfield 52, 3) := by decide +kernel
theorem dX1_score_17 : decode cX1_score 17 = .ok (.iload_n 2, 1) := by decide +kernel
theorem dX1_score_18 : decode cX1_score 18 = .ok (.iaload, 1) := by decide +kernel
theorem dX1_score_19 : decode cX1_score 19 = .ok (.iadd, 1) := by decide +kernel
theorem dX1_score_20 : decode cX1_score 20 = .ok (.istore_n 1, 1) := by decide +kernel
theorem dX1_score_21 : decode cX1_score 21 = .ok (.iinc 2 1, 3) := by decide +kernel
theorem dX1_score_24 : decode cX1_score 24 = .ok (.goto (-20), 3) := by decide +kernel
theorem dX1_score_27 : decode cX1_score 27 = .ok (.iload_n 1, 1) := by decide +kernel
theorem dX1_score_28 : decode cX1_score 28 = .ok (.ireturn, 1) := by decide +kernel
theorem dX1_lost_0 : decode cX1_lost 0 = .ok (.iconst 0, 1) := by decide +kernel
theorem dX1_lost_1 : decode cX1_lost 1 = .ok (.istore_n 1, 1) := by decide +kernel
theorem dX1_lost_2 : decode cX1_lost 2 = .ok (.iconst 0, 1) := by decide +kernel
theorem dX1_lost_3 : decode cX1_lost 3 = .ok (.istore_n 2, 1) := by decide +kernel
theorem dX1_lost_4 : decode cX1_lost 4 = .ok (.iload_n 2, 1) := by decide +kernel
theorem dX1_lost_5 : decode cX1_lost 5 = .ok (.aload_n 0, 1) := by decide +kernel
theorem dX1_lost_6 : decode cX1_lost 6 = .ok (.getfield 21, 3) := by decide +kernel
theorem dX1_lost_9 : decode cX1_lost 9 = .ok (.if_icmp .ge 23, 3) := by decide +kernel
theorem dX1_lost_12 : decode cX1_lost 12 = .ok (.aload_n 0, 1) := by decide +kernel
theorem dX1_lost_13 : decode cX1_lost 13 = .ok (.getfield 37, 3) := by decide +kernel
theorem dX1_lost_16 : decode cX1_lost 16 = .ok (.iload_n 2, 1) := by decide +kernel
theorem dX1_lost_17 : decode cX1_lost 17 = .ok (.iaload, 1) := by decide +kernel
theorem dX1_lost_18 : decode cX1_lost 18 = .ok (.bipush 81, 2) := by decide +kernel
theorem dX1_lost_20 : decode cX1_lost 20 = .ok (.if_icmp .lt 6, 3) := by decide +kernel
theorem dX1_lost_23 : decode cX1_lost 23 = .ok (.iinc 1 1, 3) := by decide +kernel
theorem dX1_lost_26 : decode cX1_lost 26 = .ok (.iinc 2 1, 3) := by decide +kernel
theorem dX1_lost_29 : decode cX1_lost 29 = .ok (.goto (-25), 3) := by decide +kernel
theorem dX1_lost_32 : decode cX1_lost 32 = .ok (.iload_n 1, 1) := by decide +kernel
theorem dX1_lost_33 : decode cX1_lost 33 = .ok (.ireturn, 1) := by decide +kernel
theorem dX5_sum_0 : decode cX5_sum 0 = .ok (.iload_n 1, 1) := by decide +kernel
theorem dX5_sum_1 : decode cX5_sum 1 = .ok (.iconst 3, 1) := by decide +kernel
theorem dX5_sum_2 : decode cX5_sum 2 = .ok (.invokestatic 97, 3) := by decide +kernel
theorem dX5_sum_5 : decode cX5_sum 5 = .ok (.ifCond .ne 6, 3) := by decide +kernel
theorem dX5_sum_8 : decode cX5_sum 8 = .ok (.bipush (-2), 2) := by decide +kernel
theorem dX5_sum_10 : decode cX5_sum 10 = .ok (.ireturn, 1) := by decide +kernel
theorem dX5_sum_11 : decode cX5_sum 11 = .ok (.aload_n 0, 1) := by decide +kernel
theorem dX5_sum_12 : decode cX5_sum 12 = .ok (.invokevirtual 123, 3) := by decide +kernel
theorem dX5_sum_15 : decode cX5_sum 15 = .ok (.iload_n 1, 1) := by decide +kernel
theorem dX5_sum_16 : decode cX5_sum 16 = .ok (.lookupswitch 44 #[(0, 28), (1, 36)], 28) := by decide +kernel
theorem dX5_sum_44 : decode cX5_sum 44 = .ok (.aload_n 0, 1) := by decide +kernel
theorem dX5_sum_45 : decode cX5_sum 45 = .ok (.getfield 31, 3) := by decide +kernel
theorem dX5_sum_48 : decode cX5_sum 48 = .ok (.invokevirtual 196, 3) := by decide +kernel
theorem dX5_sum_51 : decode cX5_sum 51 = .ok (.ireturn, 1) := by decide +kernel
theorem dX5_sum_52 : decode cX5_sum 52 = .ok (.aload_n 0, 1) := by decide +kernel
theorem dX5_sum_53 : decode cX5_sum 53 = .ok (.getfield 31, 3) := by decide +kernel
theorem dX5_sum_56 : decode cX5_sum 56 = .ok (.getfield 200, 3) := by decide +kernel
theorem dX5_sum_59 : decode cX5_sum 59 = .ok (.ireturn, 1) := by decide +kernel
theorem dX5_sum_60 : decode cX5_sum 60 = .ok (.aload_n 0, 1) := by decide +kernel
theorem dX5_sum_61 : decode cX5_sum 61 = .ok (.getfield 31, 3) := by decide +kernel
theorem dX5_sum_64 : decode cX5_sum 64 = .ok (.invokevirtual 203, 3) := by decide +kernel
theorem dX5_sum_67 : decode cX5_sum 67 = .ok (.ireturn, 1) := by decide +kernel
theorem dX5_late_0 : decode cX5_late 0 = .ok (.aload_n 0, 1) := by decide +kernel
theorem dX5_late_1 : decode cX5_late 1 = .ok (.invokevirtual 123, 3) := by decide +kernel
theorem dX5_late_4 : decode cX5_late 4 = .ok (.iconst 0, 1) := by decide +kernel
theorem dX5_late_5 : decode cX5_late 5 = .ok (.istore_n 1, 1) := by decide +kernel
theorem dX5_late_6 : decode cX5_late 6 = .ok (.iconst 0, 1) := by decide +kernel
theorem dX5_late_7 : decode cX5_late 7 = .ok (.istore_n 2, 1) := by decide +kernel
theorem dX5_late_8 : decode cX5_late 8 = .ok (.iload_n 2, 1) := by decide +kernel
theorem dX5_late_9 : decode cX5_late 9 = .ok (.aload_n 0, 1) := by decide +kernel
theorem dX5_late_10 : decode cX5_late 10 = .ok (.getfield 22, 3) := by decide +kernel
theorem dX5_late_13 : decode cX5_late 13 = .ok (.getfield 132, 3) := by decide +kernel
theorem dX5_late_16 : decode cX5_late 16 = .ok (.if_icmp .ge 28, 3) := by decide +kernel
theorem dX5_late_19 : decode cX5_late 19 = .ok (.aload_n 0, 1) := by decide +kernel
theorem dX5_late_20 : decode cX5_late 20 = .ok (.getfield 31, 3) := by decide +kernel
theorem dX5_late_23 : decode cX5_late 23 = .ok (.getfield 190, 3) := by decide +kernel
theorem dX5_late_26 : decode cX5_late 26 = .ok (.iload_n 2, 1) := by decide +kernel
theorem dX5_late_27 : decode cX5_late 27 = .ok (.iaload, 1) := by decide +kernel
theorem dX5_late_28 : decode cX5_late 28 = .ok (.iconst (-1), 1) := by decide +kernel
theorem dX5_late_29 : decode cX5_late 29 = .ok (.if_icmp .ne 9, 3) := by decide +kernel
theorem dX5_late_32 : decode cX5_late 32 = .ok (.iload_n 1, 1) := by decide +kernel
theorem dX5_late_33 : decode cX5_late 33 = .ok (.iconst 1, 1) := by decide +kernel
theorem dX5_late_34 : decode cX5_late 34 = .ok (.iload_n 2, 1) := by decide +kernel
theorem dX5_late_35 : decode cX5_late 35 = .ok (.ishl, 1) := by decide +kernel
theorem dX5_late_36 : decode cX5_late 36 = .ok (.ior, 1) := by decide +kernel
theorem dX5_late_37 : decode cX5_late 37 = .ok (.istore_n 1, 1) := by decide +kernel
theorem dX5_late_38 : decode cX5_late 38 = .ok (.iinc 2 1, 3) := by decide +kernel
theorem dX5_late_41 : decode cX5_late 41 = .ok (.goto (-33), 3) := by decide +kernel
theorem dX5_late_44 : decode cX5_late 44 = .ok (.iload_n 1, 1) := by decide +kernel
theorem dX5_late_45 : decode cX5_late 45 = .ok (.ireturn, 1) := by decide +kernel
theorem dX5_best_0 : decode cX5_best 0 = .ok (.aload_n 0, 1) := by decide +kernel
theorem dX5_best_1 : decode cX5_best 1 = .ok (.invokevirtual 123, 3) := by decide +kernel
theorem dX5_best_4 : decode cX5_best 4 = .ok (.iconst (-1), 1) := by decide +kernel
theorem dX5_best_5 : decode cX5_best 5 = .ok (.istore_n 1, 1) := by decide +kernel
theorem dX5_best_6 : decode cX5_best 6 = .ok (.iconst 0, 1) := by decide +kernel
theorem dX5_best_7 : decode cX5_best 7 = .ok (.istore_n 2, 1) := by decide +kernel
theorem dX5_best_8 : decode cX5_best 8 = .ok (.iconst 0, 1) := by decide +kernel
theorem dX5_best_9 : decode cX5_best 9 = .ok (.istore_n 3, 1) := by decide +kernel
theorem dX5_best_10 : decode cX5_best 10 = .ok (.iload_n 3, 1) := by decide +kernel
theorem dX5_best_11 : decode cX5_best 11 = .ok (.aload_n 0, 1) := by decide +kernel
theorem dX5_best_12 : decode cX5_best 12 = .ok (.getfield 22, 3) := by decide +kernel
theorem dX5_best_15 : decode cX5_best 15 = .ok (.getfield 132, 3) := by decide +kernel
theorem dX5_best_18 : decode cX5_best 18 = .ok (.if_icmp .ge 34, 3) := by decide +kernel
theorem dX5_best_21 : decode cX5_best 21 = .ok (.aload_n 0, 1) := by decide +kernel
theorem dX5_best_22 : decode cX5_best 22 = .ok (.getfield 31, 3) := by decide +kernel
theorem dX5_best_25 : decode cX5_best 25 = .ok (.getfield 187, 3) := by decide +kernel
theorem dX5_best_28 : decode cX5_best 28 = .ok (.iload_n 3, 1) := by decide +kernel
theorem dX5_best_29 : decode cX5_best 29 = .ok (.iaload, 1) := by decide +kernel
theorem dX5_best_30 : decode cX5_best 30 = .ok (.iload_n 2, 1) := by decide +kernel
theorem dX5_best_31 : decode cX5_best 31 = .ok (.if_icmp .le 15, 3) := by decide +kernel
theorem dX5_best_34 : decode cX5_best 34 = .ok (.aload_n 0, 1) := by decide +kernel
theorem dX5_best_35 : decode cX5_best 35 = .ok (.getfield 31, 3) := by decide +kernel
theorem dX5_best_38 : decode cX5_best 38 = .ok (.getfield 187, 3) := by decide +kernel
theorem dX5_best_41 : decode cX5_best 41 = .ok (.iload_n 3, 1) := by decide +kernel
theorem dX5_best_42 : decode cX5_best 42 = .ok (.iaload, 1) := by decide +kernel
theorem dX5_best_43 : decode cX5_best 43 = .ok (.istore_n 2, 1) := by decide +kernel
theorem dX5_best_44 : decode cX5_best 44 = .ok (.iload_n 3, 1) := by decide +kernel
theorem dX5_best_45 : decode cX5_best 45 = .ok (.istore_n 1, 1) := by decide +kernel
theorem dX5_best_46 : decode cX5_best 46 = .ok (.iinc 3 1, 3) := by decide +kernel
theorem dX5_best_49 : decode cX5_best 49 = .ok (.goto (-39), 3) := by decide +kernel
theorem dX5_best_52 : decode cX5_best 52 = .ok (.iload_n 1, 1) := by decide +kernel
theorem dX5_best_53 : decode cX5_best 53 = .ok (.ireturn, 1) := by decide +kernel
theorem dX5_jam_0 : decode cX5_jam 0 = .ok (.iload_n 1, 1) := by decide +kernel
theorem dX5_jam_1 : decode cX5_jam 1 = .ok (.iconst 2, 1) := by decide +kernel
theorem dX5_jam_2 : decode cX5_jam 2 = .ok (.invokestatic 97, 3) := by decide +kernel
theorem dX5_jam_5 : decode cX5_jam 5 = .ok (.ifCond .ne 6, 3) := by decide +kernel
theorem dX5_jam_8 : decode cX5_jam 8 = .ok (.bipush (-2), 2) := by decide +kernel
theorem dX5_jam_10 : decode cX5_jam 10 = .ok (.ireturn, 1) := by decide +kernel
theorem dX5_jam_11 : decode cX5_jam 11 = .ok (.aload_n 0, 1) := by decide +kernel
theorem dX5_jam_12 : decode cX5_jam 12 = .ok (.invokevirtual 123, 3) := by decide +kernel
theorem dX5_jam_15 : decode cX5_jam 15 = .ok (.iconst 0, 1) := by decide +kernel
theorem dX5_jam_16 : decode cX5_jam 16 = .ok (.istore_n 2, 1) := by decide +kernel
theorem dX5_jam_17 : decode cX5_jam 17 = .ok (.iconst 1, 1) := by decide +kernel
theorem dX5_jam_18 : decode cX5_jam 18 = .ok (.istore_n 3, 1) := by decide +kernel
theorem dX5_jam_19 : decode cX5_jam 19 = .ok (.iload_n 3, 1) := by decide +kernel
theorem dX5_jam_20 : decode cX5_jam 20 = .ok (.bipush 24, 2) := by decide +kernel
theorem dX5_jam_22 : decode cX5_jam 22 = .ok (.if_icmp .ge 32, 3) := by decide +kernel
theorem dX5_jam_25 : decode cX5_jam 25 = .ok (.aload_n 0, 1) := by decide +kernel
theorem dX5_jam_26 : decode cX5_jam 26 = .ok (.getfield 31, 3) := by decide +kernel
theorem dX5_jam_29 : decode cX5_jam 29 = .ok (.getfield 206, 3) := by decide +kernel
theorem dX5_jam_32 : decode cX5_jam 32 = .ok (.iload_n 3, 1) := by decide +kernel
theorem dX5_jam_33 : decode cX5_jam 33 = .ok (.iaload, 1) := by decide +kernel
theorem dX5_jam_34 : decode cX5_jam 34 = .ok (.aload_n 0, 1) := by decide +kernel
theorem dX5_jam_35 : decode cX5_jam 35 = .ok (.getfield 31, 3) := by decide +kernel
theorem dX5_jam_38 : decode cX5_jam 38 = .ok (.getfield 206, 3) := by decide +kernel
theorem dX5_jam_41 : decode cX5_jam 41 = .ok (.iload_n 2, 1) := by decide +kernel
theorem dX5_jam_42 : decode cX5_jam 42 = .ok (.iaload, 1) := by decide +kernel
theorem dX5_jam_43 : decode cX5_jam 43 = .ok (.if_icmp .le 5, 3) := by decide +kernel
theorem dX5_jam_46 : decode cX5_jam 46 = .ok (.iload_n 3, 1) := by decide +kernel
theorem dX5_jam_47 : decode cX5_jam 47 = .ok (.istore_n 2, 1) := by decide +kernel
theorem dX5_jam_48 : decode cX5_jam 48 = .ok (.iinc 3 1, 3) := by decide +kernel
theorem dX5_jam_51 : decode cX5_jam 51 = .ok (.goto (-32), 3) := by decide +kernel
theorem dX5_jam_54 : decode cX5_jam 54 = .ok (.iload_n 1, 1) := by decide +kernel
theorem dX5_jam_55 : decode cX5_jam 55 = .ok (.ifCond .ne 7, 3) := by decide +kernel
theorem dX5_jam_58 : decode cX5_jam 58 = .ok (.iload_n 2, 1) := by decide +kernel
theorem dX5_jam_59 : decode cX5_jam 59 = .ok (.goto 12, 3) := by decide +kernel
theorem dX5_jam_62 : decode cX5_jam 62 = .ok (.aload_n 0, 1) := by decide +kernel
theorem dX5_jam_63 : decode cX5_jam 63 = .ok (.getfield 31, 3) := by decide +kernel
theorem dX5_jam_66 : decode cX5_jam 66 = .ok (.getfield 206, 3) := by decide +kernel
theorem dX5_jam_69 : decode cX5_jam 69 = .ok (.iload_n 2, 1) := by decide +kernel
theorem dX5_jam_70 : decode cX5_jam 70 = .ok (.iaload, 1) := by decide +kernel
theorem dX5_jam_71 : decode cX5_jam 71 = .ok (.ireturn, 1) := by decide +kernel
theorem dX1_choose_0 : decode cX1_choose 0 = .ok (.iload_n 1, 1) := by decide +kernel
theorem dX1_choose_1 : decode cX1_choose 1 = .ok (.ifCond .ne 13, 3) := by decide +kernel
theorem dX1_choose_4 : decode cX1_choose 4 = .ok (.aload_n 0, 1) := by decide +kernel
theorem dX1_choose_5 : decode cX1_choose 5 = .ok (.getfield 18, 3) := by decide +kernel
theorem dX1_choose_8 : decode cX1_choose 8 = .ok (.iload_n 2, 1) := by decide +kernel
theorem dX1_choose_9 : decode cX1_choose 9 = .ok (.iload_n 3, 1) := by decide +kernel
theorem dX1_choose_10 : decode cX1_choose 10 = .ok (.iastore, 1) := by decide +kernel
theorem dX1_choose_11 : decode cX1_choose 11 = .ok (.goto 25, 3) := by decide +kernel
theorem dX1_choose_14 : decode cX1_choose 14 = .ok (.iload_n 1, 1) := by decide +kernel
theorem dX1_choose_15 : decode cX1_choose 15 = .ok (.iconst 1, 1) := by decide +kernel
theorem dX1_choose_16 : decode cX1_choose 16 = .ok (.if_icmp .ne 13, 3) := by decide +kernel
theorem dX1_choose_19 : decode cX1_choose 19 = .ok (.aload_n 0, 1) := by decide +kernel
theorem dX1_choose_20 : decode cX1_choose 20 = .ok (.getfield 15, 3) := by decide +kernel
theorem dX1_choose_23 : decode cX1_choose 23 = .ok (.iload_n 2, 1) := by decide +kernel
theorem dX1_choose_24 : decode cX1_choose 24 = .ok (.iload_n 3, 1) := by decide +kernel
theorem dX1_choose_25 : decode cX1_choose 25 = .ok (.iastore, 1) := by decide +kernel
theorem dX1_choose_26 : decode cX1_choose 26 = .ok (.goto 10, 3) := by decide +kernel
theorem dX1_choose_29 : decode cX1_choose 29 = .ok (.aload_n 0, 1) := by decide +kernel
theorem dX1_choose_30 : decode cX1_choose 30 = .ok (.getfield 9, 3) := by decide +kernel
theorem dX1_choose_33 : decode cX1_choose 33 = .ok (.iload_n 2, 1) := by decide +kernel
theorem dX1_choose_34 : decode cX1_choose 34 = .ok (.iload_n 3, 1) := by decide +kernel
theorem dX1_choose_35 : decode cX1_choose 35 = .ok (.iastore, 1) := by decide +kernel
theorem dX1_choose_36 : decode cX1_choose 36 = .ok (.return_, 1) := by decide +kernel
theorem dX5_bestChoice_0 : decode cX5_bestChoice 0 = .ok (.iload_n 1, 1) := by decide +kernel
theorem dX5_bestChoice_1 : decode cX5_bestChoice 1 = .ok (.bipush 12, 2) := by decide +kernel
theorem dX5_bestChoice_3 : decode cX5_bestChoice 3 = .ok (.imul, 1) := by decide +kernel
theorem dX5_bestChoice_4 : decode cX5_bestChoice 4 = .ok (.iload_n 2, 1) := by decide +kernel
theorem dX5_bestChoice_5 : decode cX5_bestChoice 5 = .ok (.iadd, 1) := by decide +kernel
theorem dX5_bestChoice_6 : decode cX5_bestChoice 6 = .ok (.istore 4, 2) := by decide +kernel
theorem dX5_bestChoice_8 : decode cX5_bestChoice 8 = .ok (.aload_n 0, 1) := by decide +kernel
theorem dX5_bestChoice_9 : decode cX5_bestChoice 9 = .ok (.getfield 59, 3) := by decide +kernel
theorem dX5_bestChoice_12 : decode cX5_bestChoice 12 = .ok (.iload 4, 2) := by decide +kernel
theorem dX5_bestChoice_14 : decode cX5_bestChoice 14 = .ok (.if_icmp .eq 92, 3) := by decide +kernel
theorem dX5_bestChoice_17 : decode cX5_bestChoice 17 = .ok (.aload_n 0, 1) := by decide +kernel
theorem dX5_bestChoice_18 : decode cX5_bestChoice 18 = .ok (.iload 4, 2) := by decide +kernel
theorem dX5_bestChoice_20 : decode cX5_bestChoice 20 = .ok (.putfield 59, 3) := by decide +kernel
theorem dX5_bestChoice_23 : decode cX5_bestChoice 23 = .ok (.aload_n 0, 1) := by decide +kernel
theorem dX5_bestChoice_24 : decode cX5_bestChoice 24 = .ok (.iconst (-1), 1) := by decide +kernel
theorem dX5_bestChoice_25 : decode cX5_bestChoice 25 = .ok (.putfield 65, 3) := by decide +kernel
theorem dX5_bestChoice_28 : decode cX5_bestChoice 28 = .ok (.aload_n 0, 1) := by decide +kernel
theorem dX5_bestChoice_29 : decode cX5_bestChoice 29 = .ok (.getfield 35, 3) := by decide +kernel
theorem dX5_bestChoice_32 : decode cX5_bestChoice 32 = .ok (.invokevirtual 215, 3) := by decide +kernel
theorem dX5_bestChoice_35 : decode cX5_bestChoice 35 = .ok (.getstatic 381, 3) := by decide +kernel
theorem dX5_bestChoice_38 : decode cX5_bestChoice 38 = .ok (.iload_n 1, 1) := by decide +kernel
theorem dX5_bestChoice_39 : decode cX5_bestChoice 39 = .ok (.iaload, 1) := by decide +kernel
theorem dX5_bestChoice_40 : decode cX5_bestChoice 40 = .ok (.istore 5, 2) := by decide +kernel
theorem dX5_bestChoice_42 : decode cX5_bestChoice 42 = .ok (.iload 5, 2) := by decide +kernel
theorem dX5_bestChoice_44 : decode cX5_bestChoice 44 = .ok (.getstatic 384, 3) := by decide +kernel
theorem dX5_bestChoice_47 : decode cX5_bestChoice 47 = .ok (.iload_n 1, 1) := by decide +kernel
theorem dX5_bestChoice_48 : decode cX5_bestChoice 48 = .ok (.iaload, 1) := by decide +kernel
theorem dX5_bestChoice_49 : decode cX5_bestChoice 49 = .ok (.if_icmp .gt 57, 3) := by decide +kernel
theorem dX5_bestChoice_52 : decode cX5_bestChoice 52 = .ok (.aload_n 0, 1) := by decide +kernel
theorem dX5_bestChoice_53 : decode cX5_bestChoice 53 = .ok (.getfield 35, 3) := by decide +kernel
theorem dX5_bestChoice_56 : decode cX5_bestChoice 56 = .ok (.iload_n 1, 1) := by decide +kernel
theorem dX5_bestChoice_57 : decode cX5_bestChoice 57 = .ok (.iload_n 2, 1) := by decide +kernel
theorem dX5_bestChoice_58 : decode cX5_bestChoice 58 = .ok (.iload 5, 2) := by decide +kernel
theorem dX5_bestChoice_60 : decode cX5_bestChoice 60 = .ok (.invokevirtual 387, 3) := by decide +kernel
theorem dX5_bestChoice_63 : decode cX5_bestChoice 63 = .ok (.aload_n 0, 1) := by decide +kernel
theorem dX5_bestChoice_64 : decode cX5_bestChoice 64 = .ok (.getfield 35, 3) := by decide +kernel
theorem dX5_bestChoice_67 : decode cX5_bestChoice 67 = .ok (.invokevirtual 221, 3) := by decide +kernel
theorem dX5_bestChoice_70 : decode cX5_bestChoice 70 = .ok (.aload_n 0, 1) := by decide +kernel
theorem dX5_bestChoice_71 : decode cX5_bestChoice 71 = .ok (.getfield 35, 3) := by decide +kernel
theorem dX5_bestChoice_74 : decode cX5_bestChoice 74 = .ok (.invokevirtual 196, 3) := by decide +kernel
theorem dX5_bestChoice_77 : decode cX5_bestChoice 77 = .ok (.istore 6, 2) := by decide +kernel
theorem dX5_bestChoice_79 : decode cX5_bestChoice 79 = .ok (.iload 6, 2) := by decide +kernel
theorem dX5_bestChoice_81 : decode cX5_bestChoice 81 = .ok (.aload_n 0, 1) := by decide +kernel
theorem dX5_bestChoice_82 : decode cX5_bestChoice 82 = .ok (.getfield 65, 3) := by decide +kernel
theorem dX5_bestChoice_85 : decode cX5_bestChoice 85 = .ok (.if_icmp .le 15, 3) := by decide +kernel
theorem dX5_bestChoice_88 : decode cX5_bestChoice 88 = .ok (.aload_n 0, 1) := by decide +kernel
theorem dX5_bestChoice_89 : decode cX5_bestChoice 89 = .ok (.iload 5, 2) := by decide +kernel
theorem dX5_bestChoice_91 : decode cX5_bestChoice 91 = .ok (.putfield 62, 3) := by decide +kernel
theorem dX5_bestChoice_94 : decode cX5_bestChoice 94 = .ok (.aload_n 0, 1) := by decide +kernel
theorem dX5_bestChoice_95 : decode cX5_bestChoice 95 = .ok (.iload 6, 2) := by decide +kernel
theorem dX5_bestChoice_97 : decode cX5_bestChoice 97 = .ok (.putfield 65, 3) := by decide +kernel
theorem dX5_bestChoice_100 : decode cX5_bestChoice 100 = .ok (.iinc 5 1, 3) := by decide +kernel
theorem dX5_bestChoice_103 : decode cX5_bestChoice 103 = .ok (.goto (-61), 3) := by decide +kernel
theorem dX5_bestChoice_106 : decode cX5_bestChoice 106 = .ok (.iload_n 3, 1) := by decide +kernel
theorem dX5_bestChoice_107 : decode cX5_bestChoice 107 = .ok (.ifCond .ne 10, 3) := by decide +kernel
theorem dX5_bestChoice_110 : decode cX5_bestChoice 110 = .ok (.aload_n 0, 1) := by decide +kernel
theorem dX5_bestChoice_111 : decode cX5_bestChoice 111 = .ok (.getfield 62, 3) := by decide +kernel
theorem dX5_bestChoice_114 : decode cX5_bestChoice 114 = .ok (.goto 7, 3) := by decide +kernel
theorem dX5_bestChoice_117 : decode cX5_bestChoice 117 = .ok (.aload_n 0, 1) := by decide +kernel
theorem dX5_bestChoice_118 : decode cX5_bestChoice 118 = .ok (.getfield 65, 3) := by decide +kernel
theorem dX5_bestChoice_121 : decode cX5_bestChoice 121 = .ok (.ireturn, 1) := by decide +kernel
theorem dX5_shoot_0 : decode cX5_shoot 0 = .ok (.iload_n 1, 1) := by decide +kernel
theorem dX5_shoot_1 : decode cX5_shoot 1 = .ok (.aload_n 0, 1) := by decide +kernel
theorem dX5_shoot_2 : decode cX5_shoot 2 = .ok (.getfield 22, 3) := by decide +kernel
theorem dX5_shoot_5 : decode cX5_shoot 5 = .ok (.getfield 132, 3) := by decide +kernel
theorem dX5_shoot_8 : decode cX5_shoot 8 = .ok (.invokestatic 97, 3) := by decide +kernel
theorem dX5_shoot_11 : decode cX5_shoot 11 = .ok (.ifCond .eq 11, 3) := by decide +kernel
theorem dX5_shoot_14 : decode cX5_shoot 14 = .ok (.iload_n 2, 1) := by decide +kernel
theorem dX5_shoot_15 : decode cX5_shoot 15 = .ok (.iconst 2, 1) := by decide +kernel
theorem dX5_shoot_16 : decode cX5_shoot 16 = .ok (.invokestatic 97, 3) := by decide +kernel
theorem dX5_shoot_19 : decode cX5_shoot 19 = .ok (.ifCond .ne 6, 3) := by decide +kernel
theorem dX5_shoot_22 : decode cX5_shoot 22 = .ok (.bipush (-2), 2) := by decide +kernel
theorem dX5_shoot_24 : decode cX5_shoot 24 = .ok (.ireturn, 1) := by decide +kernel
theorem dX5_shoot_25 : decode cX5_shoot 25 = .ok (.aload_n 0, 1) := by decide +kernel
theorem dX5_shoot_26 : decode cX5_shoot 26 = .ok (.iconst 0, 1) := by decide +kernel
theorem dX5_shoot_27 : decode cX5_shoot 27 = .ok (.iload_n 1, 1) := by decide +kernel
theorem dX5_shoot_28 : decode cX5_shoot 28 = .ok (.iload_n 2, 1) := by decide +kernel
theorem dX5_shoot_29 : decode cX5_shoot 29 = .ok (.invokevirtual 209, 3) := by decide +kernel
theorem dX5_shoot_32 : decode cX5_shoot 32 = .ok (.ireturn, 1) := by decide +kernel
theorem dX5_time_0 : decode cX5_time 0 = .ok (.iload_n 1, 1) := by decide +kernel
theorem dX5_time_1 : decode cX5_time 1 = .ok (.aload_n 0, 1) := by decide +kernel
theorem dX5_time_2 : decode cX5_time 2 = .ok (.getfield 22, 3) := by decide +kernel
theorem dX5_time_5 : decode cX5_time 5 = .ok (.getfield 132, 3) := by decide +kernel
theorem dX5_time_8 : decode cX5_time 8 = .ok (.invokestatic 97, 3) := by decide +kernel
theorem dX5_time_11 : decode cX5_time 11 = .ok (.ifCond .eq 11, 3) := by decide +kernel
theorem dX5_time_14 : decode cX5_time 14 = .ok (.iload_n 2, 1) := by decide +kernel
theorem dX5_time_15 : decode cX5_time 15 = .ok (.iconst 2, 1) := by decide +kernel
theorem dX5_time_16 : decode cX5_time 16 = .ok (.invokestatic 97, 3) := by decide +kernel
theorem dX5_time_19 : decode cX5_time 19 = .ok (.ifCond .ne 6, 3) := by decide +kernel
theorem dX5_time_22 : decode cX5_time 22 = .ok (.bipush (-2), 2) := by decide +kernel
theorem dX5_time_24 : decode cX5_time 24 = .ok (.ireturn, 1) := by decide +kernel
theorem dX5_time_25 : decode cX5_time 25 = .ok (.aload_n 0, 1) := by decide +kernel
theorem dX5_time_26 : decode cX5_time 26 = .ok (.iconst 1, 1) := by decide +kernel
theorem dX5_time_27 : decode cX5_time 27 = .ok (.iload_n 1, 1) := by decide +kernel
theorem dX5_time_28 : decode cX5_time 28 = .ok (.iload_n 2, 1) := by decide +kernel
theorem dX5_time_29 : decode cX5_time 29 = .ok (.invokevirtual 209, 3) := by decide +kernel
theorem dX5_time_32 : decode cX5_time 32 = .ok (.ireturn, 1) := by decide +kernel
theorem dX5_bend_0 : decode cX5_bend 0 = .ok (.iload_n 1, 1) := by decide +kernel
theorem dX5_bend_1 : decode cX5_bend 1 = .ok (.aload_n 0, 1) := by decide +kernel
theorem dX5_bend_2 : decode cX5_bend 2 = .ok (.getfield 22, 3) := by decide +kernel
theorem dX5_bend_5 : decode cX5_bend 5 = .ok (.getfield 111, 3) := by decide +kernel
theorem dX5_bend_8 : decode cX5_bend 8 = .ok (.invokestatic 97, 3) := by decide +kernel
theorem dX5_bend_11 : decode cX5_bend 11 = .ok (.ifCond .eq 11, 3) := by decide +kernel
theorem dX5_bend_14 : decode cX5_bend 14 = .ok (.iload_n 2, 1) := by decide +kernel
theorem dX5_bend_15 : decode cX5_bend 15 = .ok (.iconst 2, 1) := by decide +kernel
theorem dX5_bend_16 : decode cX5_bend 16 = .ok (.invokestatic 97, 3) := by decide +kernel
theorem dX5_bend_19 : decode cX5_bend 19 = .ok (.ifCond .ne 6, 3) := by decide +kernel
theorem dX5_bend_22 : decode cX5_bend 22 = .ok (.bipush (-2), 2) := by decide +kernel
theorem dX5_bend_24 : decode cX5_bend 24 = .ok (.ireturn, 1) := by decide +kernel
theorem dX5_bend_25 : decode cX5_bend 25 = .ok (.aload_n 0, 1) := by decide +kernel
theorem dX5_bend_26 : decode cX5_bend 26 = .ok (.iconst 2, 1) := by decide +kernel
theorem dX5_bend_27 : decode cX5_bend 27 = .ok (.iload_n 1, 1) := by decide +kernel
theorem dX5_bend_28 : decode cX5_bend 28 = .ok (.iload_n 2, 1) := by decide +kernel
theorem dX5_bend_29 : decode cX5_bend 29 = .ok (.invokevirtual 209, 3) := by decide +kernel
theorem dX5_bend_32 : decode cX5_bend 32 = .ok (.ireturn, 1) := by decide +kernel
theorem dX5_losesNoneWithout_0 : decode cX5_losesNoneWithout 0 = .ok (.aload_n 0, 1) := by decide +kernel
theorem dX5_losesNoneWithout_1 : decode cX5_losesNoneWithout 1 = .ok (.getfield 35, 3) := by decide +kernel
theorem dX5_losesNoneWithout_4 : decode cX5_losesNoneWithout 4 = .ok (.aload_n 0, 1) := by decide +kernel
theorem dX5_losesNoneWithout_5 : decode cX5_losesNoneWithout 5 = .ok (.getfield 22, 3) := by decide +kernel
theorem dX5_losesNoneWithout_8 : decode cX5_losesNoneWithout 8 = .ok (.invokevirtual 394, 3) := by decide +kernel
theorem dX5_losesNoneWithout_11 : decode cX5_losesNoneWithout 11 = .ok (.iload_n 1, 1) := by decide +kernel
theorem dX5_losesNoneWithout_12 : decode cX5_losesNoneWithout 12 = .ok (.iconst (-1), 1) := by decide +kernel
theorem dX5_losesNoneWithout_13 : decode cX5_losesNoneWithout 13 = .ok (.ixor, 1) := by decide +kernel
theorem dX5_losesNoneWithout_14 : decode cX5_losesNoneWithout 14 = .ok (.iand, 1) := by decide +kernel
theorem dX5_losesNoneWithout_15 : decode cX5_losesNoneWithout 15 = .ok (.putfield 218, 3) := by decide +kernel
theorem dX5_losesNoneWithout_18 : decode cX5_losesNoneWithout 18 = .ok (.aload_n 0, 1) := by decide +kernel
theorem dX5_losesNoneWithout_19 : decode cX5_losesNoneWithout 19 = .ok (.getfield 35, 3) := by decide +kernel
theorem dX5_losesNoneWithout_22 : decode cX5_losesNoneWithout 22 = .ok (.invokevirtual 221, 3) := by decide +kernel
theorem dX5_losesNoneWithout_25 : decode cX5_losesNoneWithout 25 = .ok (.aload_n 0, 1) := by decide +kernel
theorem dX5_losesNoneWithout_26 : decode cX5_losesNoneWithout 26 = .ok (.getfield 35, 3) := by decide +kernel
theorem dX5_losesNoneWithout_29 : decode cX5_losesNoneWithout 29 = .ok (.invokevirtual 203, 3) := by decide +kernel
theorem dX5_losesNoneWithout_32 : decode cX5_losesNoneWithout 32 = .ok (.ifCond .ne 7, 3) := by decide +kernel
theorem dX5_losesNoneWithout_35 : decode cX5_losesNoneWithout 35 = .ok (.iconst 1, 1) := by decide +kernel
theorem dX5_losesNoneWithout_36 : decode cX5_losesNoneWithout 36 = .ok (.goto 4, 3) := by decide +kernel
theorem dX5_losesNoneWithout_39 : decode cX5_losesNoneWithout 39 = .ok (.iconst 0, 1) := by decide +kernel
theorem dX5_losesNoneWithout_40 : decode cX5_losesNoneWithout 40 = .ok (.ireturn, 1) := by decide +kernel
theorem dX5_findSpares_0 : decode cX5_findSpares 0 = .ok (.aload_n 0, 1) := by decide +kernel
theorem dX5_findSpares_1 : decode cX5_findSpares 1 = .ok (.getfield 35, 3) := by decide +kernel
theorem dX5_findSpares_4 : decode cX5_findSpares 4 = .ok (.invokevirtual 215, 3) := by decide +kernel
theorem dX5_findSpares_7 : decode cX5_findSpares 7 = .ok (.aload_n 0, 1) := by decide +kernel
theorem dX5_findSpares_8 : decode cX5_findSpares 8 = .ok (.getfield 22, 3) := by decide +kernel
theorem dX5_findSpares_11 : decode cX5_findSpares 11 = .ok (.getfield 151, 3) := by decide +kernel
theorem dX5_findSpares_14 : decode cX5_findSpares 14 = .ok (.getfield 161, 3) := by decide +kernel
theorem dX5_findSpares_17 : decode cX5_findSpares 17 = .ok (.istore_n 1, 1) := by decide +kernel
theorem dX5_findSpares_18 : decode cX5_findSpares 18 = .ok (.aload_n 0, 1) := by decide +kernel
theorem dX5_findSpares_19 : decode cX5_findSpares 19 = .ok (.iconst (-1), 1) := by decide +kernel
theorem dX5_findSpares_20 : decode cX5_findSpares 20 = .ok (.putfield 71, 3) := by decide +kernel
theorem dX5_findSpares_23 : decode cX5_findSpares 23 = .ok (.aload_n 0, 1) := by decide +kernel
theorem dX5_findSpares_24 : decode cX5_findSpares 24 = .ok (.iconst (-1), 1) := by decide +kernel
theorem dX5_findSpares_25 : decode cX5_findSpares 25 = .ok (.putfield 74, 3) := by decide +kernel
theorem dX5_findSpares_28 : decode cX5_findSpares 28 = .ok (.aload_n 0, 1) := by decide +kernel
theorem dX5_findSpares_29 : decode cX5_findSpares 29 = .ok (.iconst (-1), 1) := by decide +kernel
theorem dX5_findSpares_30 : decode cX5_findSpares 30 = .ok (.putfield 77, 3) := by decide +kernel
theorem dX5_findSpares_33 : decode cX5_findSpares 33 = .ok (.aload_n 0, 1) := by decide +kernel
theorem dX5_findSpares_34 : decode cX5_findSpares 34 = .ok (.iconst 0, 1) := by decide +kernel
theorem dX5_findSpares_35 : decode cX5_findSpares 35 = .ok (.invokevirtual 391, 3) := by decide +kernel
theorem dX5_findSpares_38 : decode cX5_findSpares 38 = .ok (.ifCond .eq 9, 3) := by decide +kernel
theorem dX5_findSpares_41 : decode cX5_findSpares 41 = .ok (.aload_n 0, 1) := by decide +kernel
theorem dX5_findSpares_42 : decode cX5_findSpares 42 = .ok (.iconst 0, 1) := by decide +kernel
theorem dX5_findSpares_43 : decode cX5_findSpares 43 = .ok (.putfield 71, 3) := by decide +kernel
theorem dX5_findSpares_46 : decode cX5_findSpares 46 = .ok (.return_, 1) := by decide +kernel
theorem dX5_findSpares_47 : decode cX5_findSpares 47 = .ok (.iconst 0, 1) := by decide +kernel
theorem dX5_findSpares_48 : decode cX5_findSpares 48 = .ok (.istore_n 2, 1) := by decide +kernel
theorem dX5_findSpares_49 : decode cX5_findSpares 49 = .ok (.iload_n 2, 1) := by decide +kernel
theorem dX5_findSpares_50 : decode cX5_findSpares 50 = .ok (.iload_n 1, 1) := by decide +kernel
theorem dX5_findSpares_51 : decode cX5_findSpares 51 = .ok (.if_icmp .ge 30, 3) := by decide +kernel
theorem dX5_findSpares_54 : decode cX5_findSpares 54 = .ok (.aload_n 0, 1) := by decide +kernel
theorem dX5_findSpares_55 : decode cX5_findSpares 55 = .ok (.iconst 1, 1) := by decide +kernel
theorem dX5_findSpares_56 : decode cX5_findSpares 56 = .ok (.iload_n 2, 1) := by decide +kernel
theorem dX5_findSpares_57 : decode cX5_findSpares 57 = .ok (.ishl, 1) := by decide +kernel
theorem dX5_findSpares_58 : decode cX5_findSpares 58 = .ok (.invokevirtual 391, 3) := by decide +kernel
theorem dX5_findSpares_61 : decode cX5_findSpares 61 = .ok (.ifCond .eq 14, 3) := by decide +kernel
theorem dX5_findSpares_64 : decode cX5_findSpares 64 = .ok (.aload_n 0, 1) := by decide +kernel
theorem dX5_findSpares_65 : decode cX5_findSpares 65 = .ok (.iconst 1, 1) := by decide +kernel
theorem dX5_findSpares_66 : decode cX5_findSpares 66 = .ok (.putfield 71, 3) := by decide +kernel
theorem dX5_findSpares_69 : decode cX5_findSpares 69 = .ok (.aload_n 0, 1) := by decide +kernel
theorem dX5_findSpares_70 : decode cX5_findSpares 70 = .ok (.iload_n 2, 1) := by decide +kernel
theorem dX5_findSpares_71 : decode cX5_findSpares 71 = .ok (.putfield 74, 3) := by decide +kernel
theorem dX5_findSpares_74 : decode cX5_findSpares 74 = .ok (.return_, 1) := by decide +kernel
theorem dX5_findSpares_75 : decode cX5_findSpares 75 = .ok (.iinc 2 1, 3) := by decide +kernel
theorem dX5_findSpares_78 : decode cX5_findSpares 78 = .ok (.goto (-29), 3) := by decide +kernel
theorem dX5_findSpares_81 : decode cX5_findSpares 81 = .ok (.iconst 0, 1) := by decide +kernel
theorem dX5_findSpares_82 : decode cX5_findSpares 82 = .ok (.istore_n 2, 1) := by decide +kernel
theorem dX5_findSpares_83 : decode cX5_findSpares 83 = .ok (.iload_n 2, 1) := by decide +kernel
theorem dX5_findSpares_84 : decode cX5_findSpares 84 = .ok (.iload_n 1, 1) := by decide +kernel
theorem dX5_findSpares_85 : decode cX5_findSpares 85 = .ok (.if_icmp .ge 54, 3) := by decide +kernel
theorem dX5_findSpares_88 : decode cX5_findSpares 88 = .ok (.iload_n 2, 1) := by decide +kernel
theorem dX5_findSpares_89 : decode cX5_findSpares 89 = .ok (.iconst 1, 1) := by decide +kernel
theorem dX5_findSpares_90 : decode cX5_findSpares 90 = .ok (.iadd, 1) := by decide +kernel
theorem dX5_findSpares_91 : decode cX5_findSpares 91 = .ok (.istore_n 3, 1) := by decide +kernel
theorem dX5_findSpares_92 : decode cX5_findSpares 92 = .ok (.iload_n 3, 1) := by decide +kernel
theorem dX5_findSpares_93 : decode cX5_findSpares 93 = .ok (.iload_n 1, 1) := by decide +kernel
theorem dX5_findSpares_94 : decode cX5_findSpares 94 = .ok (.if_icmp .ge 39, 3) := by decide +kernel
theorem dX5_findSpares_97 : decode cX5_findSpares 97 = .ok (.aload_n 0, 1) := by decide +kernel
theorem dX5_findSpares_98 : decode cX5_findSpares 98 = .ok (.iconst 1, 1) := by decide +kernel
theorem dX5_findSpares_99 : decode cX5_findSpares 99 = .ok (.iload_n 2, 1) := by decide +kernel
theorem dX5_findSpares_100 : decode cX5_findSpares 100 = .ok (.ishl, 1) := by decide +kernel
theorem dX5_findSpares_101 : decode cX5_findSpares 101 = .ok (.iconst 1, 1) := by decide +kernel
theorem dX5_findSpares_102 : decode cX5_findSpares 102 = .ok (.iload_n 3, 1) := by decide +kernel
theorem dX5_findSpares_103 : decode cX5_findSpares 103 = .ok (.ishl, 1) := by decide +kernel
theorem dX5_findSpares_104 : decode cX5_findSpares 104 = .ok (.ior, 1) := by decide +kernel
theorem dX5_findSpares_105 : decode cX5_findSpares 105 = .ok (.invokevirtual 391, 3) := by decide +kernel
theorem dX5_findSpares_108 : decode cX5_findSpares 108 = .ok (.ifCond .eq 19, 3) := by decide +kernel
theorem dX5_findSpares_111 : decode cX5_findSpares 111 = .ok (.aload_n 0, 1) := by decide +kernel
theorem dX5_findSpares_112 : decode cX5_findSpares 112 = .ok (.iconst 2, 1) := by decide +kernel
theorem dX5_findSpares_113 : decode cX5_findSpares 113 = .ok (.putfield 71, 3) := by decide +kernel
theorem dX5_findSpares_116 : decode cX5_findSpares 116 = .ok (.aload_n 0, 1) := by decide +kernel
theorem dX5_findSpares_117 : decode cX5_findSpares 117 = .ok (.iload_n 2, 1) := by decide +kernel
theorem dX5_findSpares_118 : decode cX5_findSpares 118 = .ok (.putfield 74, 3) := by decide +kernel
theorem dX5_findSpares_121 : decode cX5_findSpares 121 = .ok (.aload_n 0, 1) := by decide +kernel
theorem dX5_findSpares_122 : decode cX5_findSpares 122 = .ok (.iload_n 3, 1) := by decide +kernel
theorem dX5_findSpares_123 : decode cX5_findSpares 123 = .ok (.putfield 77, 3) := by decide +kernel
theorem dX5_findSpares_126 : decode cX5_findSpares 126 = .ok (.return_, 1) := by decide +kernel
theorem dX5_findSpares_127 : decode cX5_findSpares 127 = .ok (.iinc 3 1, 3) := by decide +kernel
theorem dX5_findSpares_130 : decode cX5_findSpares 130 = .ok (.goto (-38), 3) := by decide +kernel
theorem dX5_findSpares_133 : decode cX5_findSpares 133 = .ok (.iinc 2 1, 3) := by decide +kernel
theorem dX5_findSpares_136 : decode cX5_findSpares 136 = .ok (.goto (-53), 3) := by decide +kernel
theorem dX5_findSpares_139 : decode cX5_findSpares 139 = .ok (.return_, 1) := by decide +kernel
theorem dX5_spare_0 : decode cX5_spare 0 = .ok (.iload_n 1, 1) := by decide +kernel
theorem dX5_spare_1 : decode cX5_spare 1 = .ok (.iconst (-1), 1) := by decide +kernel
theorem dX5_spare_2 : decode cX5_spare 2 = .ok (.if_icmp .lt 8, 3) := by decide +kernel
theorem dX5_spare_5 : decode cX5_spare 5 = .ok (.iload_n 1, 1) := by decide +kernel
theorem dX5_spare_6 : decode cX5_spare 6 = .ok (.iconst 1, 1) := by decide +kernel
theorem dX5_spare_7 : decode cX5_spare 7 = .ok (.if_icmp .le 6, 3) := by decide +kernel
theorem dX5_spare_10 : decode cX5_spare 10 = .ok (.bipush (-2), 2) := by decide +kernel
theorem dX5_spare_12 : decode cX5_spare 12 = .ok (.ireturn, 1) := by decide +kernel
theorem dX5_spare_13 : decode cX5_spare 13 = .ok (.aload_n 0, 1) := by decide +kernel
theorem dX5_spare_14 : decode cX5_spare 14 = .ok (.getfield 68, 3) := by decide +kernel
theorem dX5_spare_17 : decode cX5_spare 17 = .ok (.ifCond .ne 12, 3) := by decide +kernel
theorem dX5_spare_20 : decode cX5_spare 20 = .ok (.aload_n 0, 1) := by decide +kernel
theorem dX5_spare_21 : decode cX5_spare 21 = .ok (.invokevirtual 212, 3) := by decide +kernel
theorem dX5_spare_24 : decode cX5_spare 24 = .ok (.aload_n 0, 1) := by decide +kernel
theorem dX5_spare_25 : decode cX5_spare 25 = .ok (.iconst 1, 1) := by decide +kernel
theorem dX5_spare_26 : decode cX5_spare 26 = .ok (.putfield 68, 3) := by decide +kernel
