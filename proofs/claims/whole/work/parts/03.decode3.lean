theorem dX6_neverNow_3 : decode cX6_neverNow 3 = .ok (.istore_n 2, 1) := by decide +kernel
theorem dX6_neverNow_4 : decode cX6_neverNow 4 = .ok (.iload_n 2, 1) := by decide +kernel
theorem dX6_neverNow_5 : decode cX6_neverNow 5 = .ok (.aload_n 0, 1) := by decide +kernel
theorem dX6_neverNow_6 : decode cX6_neverNow 6 = .ok (.getfield 182, 3) := by decide +kernel
theorem dX6_neverNow_9 : decode cX6_neverNow 9 = .ok (.if_icmp .ge 33, 3) := by decide +kernel
theorem dX6_neverNow_12 : decode cX6_neverNow 12 = .ok (.aload_n 0, 1) := by decide +kernel
theorem dX6_neverNow_13 : decode cX6_neverNow 13 = .ok (.iconst 1, 1) := by decide +kernel
theorem dX6_neverNow_14 : decode cX6_neverNow 14 = .ok (.iload_n 2, 1) := by decide +kernel
theorem dX6_neverNow_15 : decode cX6_neverNow 15 = .ok (.ishl, 1) := by decide +kernel
theorem dX6_neverNow_16 : decode cX6_neverNow 16 = .ok (.putfield 193, 3) := by decide +kernel
theorem dX6_neverNow_19 : decode cX6_neverNow 19 = .ok (.iload_n 1, 1) := by decide +kernel
theorem dX6_neverNow_20 : decode cX6_neverNow 20 = .ok (.aload_n 0, 1) := by decide +kernel
theorem dX6_neverNow_21 : decode cX6_neverNow 21 = .ok (.invokevirtual 297, 3) := by decide +kernel
theorem dX6_neverNow_24 : decode cX6_neverNow 24 = .ok (.ifCond .eq 9, 3) := by decide +kernel
theorem dX6_neverNow_27 : decode cX6_neverNow 27 = .ok (.iconst 1, 1) := by decide +kernel
theorem dX6_neverNow_28 : decode cX6_neverNow 28 = .ok (.iload_n 2, 1) := by decide +kernel
theorem dX6_neverNow_29 : decode cX6_neverNow 29 = .ok (.ishl, 1) := by decide +kernel
theorem dX6_neverNow_30 : decode cX6_neverNow 30 = .ok (.goto 4, 3) := by decide +kernel
theorem dX6_neverNow_33 : decode cX6_neverNow 33 = .ok (.iconst 0, 1) := by decide +kernel
theorem dX6_neverNow_34 : decode cX6_neverNow 34 = .ok (.ior, 1) := by decide +kernel
theorem dX6_neverNow_35 : decode cX6_neverNow 35 = .ok (.istore_n 1, 1) := by decide +kernel
theorem dX6_neverNow_36 : decode cX6_neverNow 36 = .ok (.iinc 2 1, 3) := by decide +kernel
theorem dX6_neverNow_39 : decode cX6_neverNow 39 = .ok (.goto (-35), 3) := by decide +kernel
theorem dX6_neverNow_42 : decode cX6_neverNow 42 = .ok (.aload_n 0, 1) := by decide +kernel
theorem dX6_neverNow_43 : decode cX6_neverNow 43 = .ok (.iconst 0, 1) := by decide +kernel
theorem dX6_neverNow_44 : decode cX6_neverNow 44 = .ok (.putfield 193, 3) := by decide +kernel
theorem dX6_neverNow_47 : decode cX6_neverNow 47 = .ok (.iload_n 1, 1) := by decide +kernel
theorem dX6_neverNow_48 : decode cX6_neverNow 48 = .ok (.ireturn, 1) := by decide +kernel
theorem dX6_never_0 : decode cX6_never 0 = .ok (.aload_n 0, 1) := by decide +kernel
theorem dX6_never_1 : decode cX6_never 1 = .ok (.invokevirtual 239, 3) := by decide +kernel
theorem dX6_never_4 : decode cX6_never 4 = .ok (.aload_n 0, 1) := by decide +kernel
theorem dX6_never_5 : decode cX6_never 5 = .ok (.invokevirtual 301, 3) := by decide +kernel
theorem dX6_never_8 : decode cX6_never 8 = .ok (.ireturn, 1) := by decide +kernel
theorem dX6_forcesOf_0 : decode cX6_forcesOf 0 = .ok (.aload_n 0, 1) := by decide +kernel
theorem dX6_forcesOf_1 : decode cX6_forcesOf 1 = .ok (.getfield 34, 3) := by decide +kernel
theorem dX6_forcesOf_4 : decode cX6_forcesOf 4 = .ok (.iconst 2, 1) := by decide +kernel
theorem dX6_forcesOf_5 : decode cX6_forcesOf 5 = .ok (.iload_n 1, 1) := by decide +kernel
theorem dX6_forcesOf_6 : decode cX6_forcesOf 6 = .ok (.imul, 1) := by decide +kernel
theorem dX6_forcesOf_7 : decode cX6_forcesOf 7 = .ok (.iconst 1, 1) := by decide +kernel
theorem dX6_forcesOf_8 : decode cX6_forcesOf 8 = .ok (.iadd, 1) := by decide +kernel
theorem dX6_forcesOf_9 : decode cX6_forcesOf 9 = .ok (.iaload, 1) := by decide +kernel
theorem dX6_forcesOf_10 : decode cX6_forcesOf 10 = .ok (.istore_n 2, 1) := by decide +kernel
theorem dX6_forcesOf_11 : decode cX6_forcesOf 11 = .ok (.iconst 0, 1) := by decide +kernel
theorem dX6_forcesOf_12 : decode cX6_forcesOf 12 = .ok (.istore_n 3, 1) := by decide +kernel
theorem dX6_forcesOf_13 : decode cX6_forcesOf 13 = .ok (.iconst 1, 1) := by decide +kernel
theorem dX6_forcesOf_14 : decode cX6_forcesOf 14 = .ok (.istore 4, 2) := by decide +kernel
theorem dX6_forcesOf_16 : decode cX6_forcesOf 16 = .ok (.iload 4, 2) := by decide +kernel
theorem dX6_forcesOf_18 : decode cX6_forcesOf 18 = .ok (.bipush 10, 2) := by decide +kernel
theorem dX6_forcesOf_20 : decode cX6_forcesOf 20 = .ok (.if_icmp .ge 104, 3) := by decide +kernel
theorem dX6_forcesOf_23 : decode cX6_forcesOf 23 = .ok (.aload_n 0, 1) := by decide +kernel
theorem dX6_forcesOf_24 : decode cX6_forcesOf 24 = .ok (.getfield 34, 3) := by decide +kernel
theorem dX6_forcesOf_27 : decode cX6_forcesOf 27 = .ok (.iconst 2, 1) := by decide +kernel
theorem dX6_forcesOf_28 : decode cX6_forcesOf 28 = .ok (.iload_n 1, 1) := by decide +kernel
theorem dX6_forcesOf_29 : decode cX6_forcesOf 29 = .ok (.imul, 1) := by decide +kernel
theorem dX6_forcesOf_30 : decode cX6_forcesOf 30 = .ok (.iconst 1, 1) := by decide +kernel
theorem dX6_forcesOf_31 : decode cX6_forcesOf 31 = .ok (.iadd, 1) := by decide +kernel
theorem dX6_forcesOf_32 : decode cX6_forcesOf 32 = .ok (.iload 4, 2) := by decide +kernel
theorem dX6_forcesOf_34 : decode cX6_forcesOf 34 = .ok (.iastore, 1) := by decide +kernel
theorem dX6_forcesOf_35 : decode cX6_forcesOf 35 = .ok (.iload_n 3, 1) := by decide +kernel
theorem dX6_forcesOf_36 : decode cX6_forcesOf 36 = .ok (.aload_n 0, 1) := by decide +kernel
theorem dX6_forcesOf_37 : decode cX6_forcesOf 37 = .ok (.invokevirtual 297, 3) := by decide +kernel
theorem dX6_forcesOf_40 : decode cX6_forcesOf 40 = .ok (.ifCond .eq 10, 3) := by decide +kernel
theorem dX6_forcesOf_43 : decode cX6_forcesOf 43 = .ok (.iconst 1, 1) := by decide +kernel
theorem dX6_forcesOf_44 : decode cX6_forcesOf 44 = .ok (.iload 4, 2) := by decide +kernel
theorem dX6_forcesOf_46 : decode cX6_forcesOf 46 = .ok (.ishl, 1) := by decide +kernel
theorem dX6_forcesOf_47 : decode cX6_forcesOf 47 = .ok (.goto 4, 3) := by decide +kernel
theorem dX6_forcesOf_50 : decode cX6_forcesOf 50 = .ok (.iconst 0, 1) := by decide +kernel
theorem dX6_forcesOf_51 : decode cX6_forcesOf 51 = .ok (.ior, 1) := by decide +kernel
theorem dX6_forcesOf_52 : decode cX6_forcesOf 52 = .ok (.istore_n 3, 1) := by decide +kernel
theorem dX6_forcesOf_53 : decode cX6_forcesOf 53 = .ok (.iconst 0, 1) := by decide +kernel
theorem dX6_forcesOf_54 : decode cX6_forcesOf 54 = .ok (.istore 5, 2) := by decide +kernel
theorem dX6_forcesOf_56 : decode cX6_forcesOf 56 = .ok (.iload 5, 2) := by decide +kernel
theorem dX6_forcesOf_58 : decode cX6_forcesOf 58 = .ok (.sipush 288, 3) := by decide +kernel
theorem dX6_forcesOf_61 : decode cX6_forcesOf 61 = .ok (.if_icmp .ge 57, 3) := by decide +kernel
theorem dX6_forcesOf_64 : decode cX6_forcesOf 64 = .ok (.aload_n 0, 1) := by decide +kernel
theorem dX6_forcesOf_65 : decode cX6_forcesOf 65 = .ok (.getfield 79, 3) := by decide +kernel
theorem dX6_forcesOf_68 : decode cX6_forcesOf 68 = .ok (.sipush 288, 3) := by decide +kernel
theorem dX6_forcesOf_71 : decode cX6_forcesOf 71 = .ok (.iload 4, 2) := by decide +kernel
theorem dX6_forcesOf_73 : decode cX6_forcesOf 73 = .ok (.imul, 1) := by decide +kernel
theorem dX6_forcesOf_74 : decode cX6_forcesOf 74 = .ok (.iload 5, 2) := by decide +kernel
theorem dX6_forcesOf_76 : decode cX6_forcesOf 76 = .ok (.iadd, 1) := by decide +kernel
theorem dX6_forcesOf_77 : decode cX6_forcesOf 77 = .ok (.iload 5, 2) := by decide +kernel
theorem dX6_forcesOf_79 : decode cX6_forcesOf 79 = .ok (.bipush 12, 2) := by decide +kernel
theorem dX6_forcesOf_81 : decode cX6_forcesOf 81 = .ok (.irem, 1) := by decide +kernel
theorem dX6_forcesOf_82 : decode cX6_forcesOf 82 = .ok (.aload_n 0, 1) := by decide +kernel
theorem dX6_forcesOf_83 : decode cX6_forcesOf 83 = .ok (.getfield 143, 3) := by decide +kernel
theorem dX6_forcesOf_86 : decode cX6_forcesOf 86 = .ok (.if_icmp .ge 24, 3) := by decide +kernel
theorem dX6_forcesOf_89 : decode cX6_forcesOf 89 = .ok (.bipush 10, 2) := by decide +kernel
theorem dX6_forcesOf_91 : decode cX6_forcesOf 91 = .ok (.aload_n 0, 1) := by decide +kernel
theorem dX6_forcesOf_92 : decode cX6_forcesOf 92 = .ok (.getfield 70, 3) := by decide +kernel
theorem dX6_forcesOf_95 : decode cX6_forcesOf 95 = .ok (.iload 5, 2) := by decide +kernel
theorem dX6_forcesOf_97 : decode cX6_forcesOf 97 = .ok (.iaload, 1) := by decide +kernel
theorem dX6_forcesOf_98 : decode cX6_forcesOf 98 = .ok (.imul, 1) := by decide +kernel
theorem dX6_forcesOf_99 : decode cX6_forcesOf 99 = .ok (.aload_n 0, 1) := by decide +kernel
theorem dX6_forcesOf_100 : decode cX6_forcesOf 100 = .ok (.getfield 73, 3) := by decide +kernel
theorem dX6_forcesOf_103 : decode cX6_forcesOf 103 = .ok (.iload 5, 2) := by decide +kernel
theorem dX6_forcesOf_105 : decode cX6_forcesOf 105 = .ok (.iaload, 1) := by decide +kernel
theorem dX6_forcesOf_106 : decode cX6_forcesOf 106 = .ok (.iadd, 1) := by decide +kernel
theorem dX6_forcesOf_107 : decode cX6_forcesOf 107 = .ok (.goto 4, 3) := by decide +kernel
theorem dX6_forcesOf_110 : decode cX6_forcesOf 110 = .ok (.iconst 0, 1) := by decide +kernel
theorem dX6_forcesOf_111 : decode cX6_forcesOf 111 = .ok (.iastore, 1) := by decide +kernel
theorem dX6_forcesOf_112 : decode cX6_forcesOf 112 = .ok (.iinc 5 1, 3) := by decide +kernel
theorem dX6_forcesOf_115 : decode cX6_forcesOf 115 = .ok (.goto (-59), 3) := by decide +kernel
theorem dX6_forcesOf_118 : decode cX6_forcesOf 118 = .ok (.iinc 4 1, 3) := by decide +kernel
theorem dX6_forcesOf_121 : decode cX6_forcesOf 121 = .ok (.goto (-105), 3) := by decide +kernel
theorem dX6_forcesOf_124 : decode cX6_forcesOf 124 = .ok (.aload_n 0, 1) := by decide +kernel
theorem dX6_forcesOf_125 : decode cX6_forcesOf 125 = .ok (.getfield 34, 3) := by decide +kernel
theorem dX6_forcesOf_128 : decode cX6_forcesOf 128 = .ok (.iconst 2, 1) := by decide +kernel
theorem dX6_forcesOf_129 : decode cX6_forcesOf 129 = .ok (.iload_n 1, 1) := by decide +kernel
theorem dX6_forcesOf_130 : decode cX6_forcesOf 130 = .ok (.imul, 1) := by decide +kernel
theorem dX6_forcesOf_131 : decode cX6_forcesOf 131 = .ok (.iconst 1, 1) := by decide +kernel
theorem dX6_forcesOf_132 : decode cX6_forcesOf 132 = .ok (.iadd, 1) := by decide +kernel
theorem dX6_forcesOf_133 : decode cX6_forcesOf 133 = .ok (.iload_n 2, 1) := by decide +kernel
theorem dX6_forcesOf_134 : decode cX6_forcesOf 134 = .ok (.iastore, 1) := by decide +kernel
theorem dX6_forcesOf_135 : decode cX6_forcesOf 135 = .ok (.iload_n 3, 1) := by decide +kernel
theorem dX6_forcesOf_136 : decode cX6_forcesOf 136 = .ok (.ireturn, 1) := by decide +kernel
theorem dX6_forces_0 : decode cX6_forces 0 = .ok (.aload_n 0, 1) := by decide +kernel
theorem dX6_forces_1 : decode cX6_forces 1 = .ok (.invokevirtual 239, 3) := by decide +kernel
theorem dX6_forces_4 : decode cX6_forces 4 = .ok (.aload_n 0, 1) := by decide +kernel
theorem dX6_forces_5 : decode cX6_forces 5 = .ok (.iload_n 1, 1) := by decide +kernel
theorem dX6_forces_6 : decode cX6_forces 6 = .ok (.invokevirtual 169, 3) := by decide +kernel
theorem dX6_forces_9 : decode cX6_forces 9 = .ok (.ifCond .eq 11, 3) := by decide +kernel
theorem dX6_forces_12 : decode cX6_forces 12 = .ok (.aload_n 0, 1) := by decide +kernel
theorem dX6_forces_13 : decode cX6_forces 13 = .ok (.iload_n 1, 1) := by decide +kernel
theorem dX6_forces_14 : decode cX6_forces 14 = .ok (.invokevirtual 304, 3) := by decide +kernel
theorem dX6_forces_17 : decode cX6_forces 17 = .ok (.goto 5, 3) := by decide +kernel
theorem dX6_forces_20 : decode cX6_forces 20 = .ok (.bipush (-2), 2) := by decide +kernel
theorem dX6_forces_22 : decode cX6_forces 22 = .ok (.ireturn, 1) := by decide +kernel
theorem dX6_kindOf_0 : decode cX6_kindOf 0 = .ok (.aload_n 0, 1) := by decide +kernel
theorem dX6_kindOf_1 : decode cX6_kindOf 1 = .ok (.getfield 28, 3) := by decide +kernel
theorem dX6_kindOf_4 : decode cX6_kindOf 4 = .ok (.iconst 3, 1) := by decide +kernel
theorem dX6_kindOf_5 : decode cX6_kindOf 5 = .ok (.iload_n 1, 1) := by decide +kernel
theorem dX6_kindOf_6 : decode cX6_kindOf 6 = .ok (.imul, 1) := by decide +kernel
theorem dX6_kindOf_7 : decode cX6_kindOf 7 = .ok (.iconst 2, 1) := by decide +kernel
theorem dX6_kindOf_8 : decode cX6_kindOf 8 = .ok (.iadd, 1) := by decide +kernel
theorem dX6_kindOf_9 : decode cX6_kindOf 9 = .ok (.iaload, 1) := by decide +kernel
theorem dX6_kindOf_10 : decode cX6_kindOf 10 = .ok (.istore_n 2, 1) := by decide +kernel
theorem dX6_kindOf_11 : decode cX6_kindOf 11 = .ok (.iconst 0, 1) := by decide +kernel
theorem dX6_kindOf_12 : decode cX6_kindOf 12 = .ok (.istore_n 3, 1) := by decide +kernel
theorem dX6_kindOf_13 : decode cX6_kindOf 13 = .ok (.iconst 0, 1) := by decide +kernel
theorem dX6_kindOf_14 : decode cX6_kindOf 14 = .ok (.istore 4, 2) := by decide +kernel
theorem dX6_kindOf_16 : decode cX6_kindOf 16 = .ok (.iload 4, 2) := by decide +kernel
theorem dX6_kindOf_18 : decode cX6_kindOf 18 = .ok (.iconst 4, 1) := by decide +kernel
theorem dX6_kindOf_19 : decode cX6_kindOf 19 = .ok (.if_icmp .ge 39, 3) := by decide +kernel
theorem dX6_kindOf_22 : decode cX6_kindOf 22 = .ok (.aload_n 0, 1) := by decide +kernel
theorem dX6_kindOf_23 : decode cX6_kindOf 23 = .ok (.getfield 28, 3) := by decide +kernel
theorem dX6_kindOf_26 : decode cX6_kindOf 26 = .ok (.iconst 3, 1) := by decide +kernel
theorem dX6_kindOf_27 : decode cX6_kindOf 27 = .ok (.iload_n 1, 1) := by decide +kernel
theorem dX6_kindOf_28 : decode cX6_kindOf 28 = .ok (.imul, 1) := by decide +kernel
theorem dX6_kindOf_29 : decode cX6_kindOf 29 = .ok (.iconst 2, 1) := by decide +kernel
theorem dX6_kindOf_30 : decode cX6_kindOf 30 = .ok (.iadd, 1) := by decide +kernel
theorem dX6_kindOf_31 : decode cX6_kindOf 31 = .ok (.iload 4, 2) := by decide +kernel
theorem dX6_kindOf_33 : decode cX6_kindOf 33 = .ok (.iastore, 1) := by decide +kernel
theorem dX6_kindOf_34 : decode cX6_kindOf 34 = .ok (.iload_n 3, 1) := by decide +kernel
theorem dX6_kindOf_35 : decode cX6_kindOf 35 = .ok (.aload_n 0, 1) := by decide +kernel
theorem dX6_kindOf_36 : decode cX6_kindOf 36 = .ok (.invokevirtual 297, 3) := by decide +kernel
theorem dX6_kindOf_39 : decode cX6_kindOf 39 = .ok (.ifCond .eq 10, 3) := by decide +kernel
theorem dX6_kindOf_42 : decode cX6_kindOf 42 = .ok (.iconst 1, 1) := by decide +kernel
theorem dX6_kindOf_43 : decode cX6_kindOf 43 = .ok (.iload 4, 2) := by decide +kernel
theorem dX6_kindOf_45 : decode cX6_kindOf 45 = .ok (.ishl, 1) := by decide +kernel
theorem dX6_kindOf_46 : decode cX6_kindOf 46 = .ok (.goto 4, 3) := by decide +kernel
theorem dX6_kindOf_49 : decode cX6_kindOf 49 = .ok (.iconst 0, 1) := by decide +kernel
theorem dX6_kindOf_50 : decode cX6_kindOf 50 = .ok (.ior, 1) := by decide +kernel
theorem dX6_kindOf_51 : decode cX6_kindOf 51 = .ok (.istore_n 3, 1) := by decide +kernel
theorem dX6_kindOf_52 : decode cX6_kindOf 52 = .ok (.iinc 4 1, 3) := by decide +kernel
theorem dX6_kindOf_55 : decode cX6_kindOf 55 = .ok (.goto (-39), 3) := by decide +kernel
theorem dX6_kindOf_58 : decode cX6_kindOf 58 = .ok (.aload_n 0, 1) := by decide +kernel
theorem dX6_kindOf_59 : decode cX6_kindOf 59 = .ok (.getfield 28, 3) := by decide +kernel
theorem dX6_kindOf_62 : decode cX6_kindOf 62 = .ok (.iconst 3, 1) := by decide +kernel
theorem dX6_kindOf_63 : decode cX6_kindOf 63 = .ok (.iload_n 1, 1) := by decide +kernel
theorem dX6_kindOf_64 : decode cX6_kindOf 64 = .ok (.imul, 1) := by decide +kernel
theorem dX6_kindOf_65 : decode cX6_kindOf 65 = .ok (.iconst 2, 1) := by decide +kernel
theorem dX6_kindOf_66 : decode cX6_kindOf 66 = .ok (.iadd, 1) := by decide +kernel
theorem dX6_kindOf_67 : decode cX6_kindOf 67 = .ok (.iload_n 2, 1) := by decide +kernel
theorem dX6_kindOf_68 : decode cX6_kindOf 68 = .ok (.iastore, 1) := by decide +kernel
theorem dX6_kindOf_69 : decode cX6_kindOf 69 = .ok (.iload_n 3, 1) := by decide +kernel
theorem dX6_kindOf_70 : decode cX6_kindOf 70 = .ok (.ireturn, 1) := by decide +kernel
theorem dX6_kind_0 : decode cX6_kind 0 = .ok (.aload_n 0, 1) := by decide +kernel
theorem dX6_kind_1 : decode cX6_kind 1 = .ok (.invokevirtual 239, 3) := by decide +kernel
theorem dX6_kind_4 : decode cX6_kind 4 = .ok (.aload_n 0, 1) := by decide +kernel
theorem dX6_kind_5 : decode cX6_kind 5 = .ok (.iload_n 1, 1) := by decide +kernel
theorem dX6_kind_6 : decode cX6_kind 6 = .ok (.invokevirtual 166, 3) := by decide +kernel
theorem dX6_kind_9 : decode cX6_kind 9 = .ok (.ifCond .eq 11, 3) := by decide +kernel
theorem dX6_kind_12 : decode cX6_kind 12 = .ok (.aload_n 0, 1) := by decide +kernel
theorem dX6_kind_13 : decode cX6_kind 13 = .ok (.iload_n 1, 1) := by decide +kernel
theorem dX6_kind_14 : decode cX6_kind 14 = .ok (.invokevirtual 307, 3) := by decide +kernel
theorem dX6_kind_17 : decode cX6_kind 17 = .ok (.goto 5, 3) := by decide +kernel
theorem dX6_kind_20 : decode cX6_kind 20 = .ok (.bipush (-2), 2) := by decide +kernel
theorem dX6_kind_22 : decode cX6_kind 22 = .ok (.ireturn, 1) := by decide +kernel
theorem dX6_same_0 : decode cX6_same 0 = .ok (.iconst 1, 1) := by decide +kernel
theorem dX6_same_1 : decode cX6_same 1 = .ok (.istore 4, 2) := by decide +kernel
theorem dX6_same_3 : decode cX6_same 3 = .ok (.bipush 12, 2) := by decide +kernel
theorem dX6_same_5 : decode cX6_same 5 = .ok (.iload_n 3, 1) := by decide +kernel
theorem dX6_same_6 : decode cX6_same 6 = .ok (.imul, 1) := by decide +kernel
theorem dX6_same_7 : decode cX6_same 7 = .ok (.istore 5, 2) := by decide +kernel
theorem dX6_same_9 : decode cX6_same 9 = .ok (.iload 5, 2) := by decide +kernel
theorem dX6_same_11 : decode cX6_same 11 = .ok (.bipush 12, 2) := by decide +kernel
theorem dX6_same_13 : decode cX6_same 13 = .ok (.iload_n 3, 1) := by decide +kernel
theorem dX6_same_14 : decode cX6_same 14 = .ok (.imul, 1) := by decide +kernel
theorem dX6_same_15 : decode cX6_same 15 = .ok (.bipush 12, 2) := by decide +kernel
theorem dX6_same_17 : decode cX6_same 17 = .ok (.iadd, 1) := by decide +kernel
theorem dX6_same_18 : decode cX6_same 18 = .ok (.if_icmp .ge 50, 3) := by decide +kernel
theorem dX6_same_21 : decode cX6_same 21 = .ok (.iload 4, 2) := by decide +kernel
theorem dX6_same_23 : decode cX6_same 23 = .ok (.ifCond .eq 36, 3) := by decide +kernel
theorem dX6_same_26 : decode cX6_same 26 = .ok (.aload_n 0, 1) := by decide +kernel
theorem dX6_same_27 : decode cX6_same 27 = .ok (.getfield 79, 3) := by decide +kernel
theorem dX6_same_30 : decode cX6_same 30 = .ok (.sipush 288, 3) := by decide +kernel
theorem dX6_same_33 : decode cX6_same 33 = .ok (.iload_n 1, 1) := by decide +kernel
theorem dX6_same_34 : decode cX6_same 34 = .ok (.imul, 1) := by decide +kernel
theorem dX6_same_35 : decode cX6_same 35 = .ok (.iload 5, 2) := by decide +kernel
theorem dX6_same_37 : decode cX6_same 37 = .ok (.iadd, 1) := by decide +kernel
theorem dX6_same_38 : decode cX6_same 38 = .ok (.iaload, 1) := by decide +kernel
theorem dX6_same_39 : decode cX6_same 39 = .ok (.aload_n 0, 1) := by decide +kernel
theorem dX6_same_40 : decode cX6_same 40 = .ok (.getfield 79, 3) := by decide +kernel
theorem dX6_same_43 : decode cX6_same 43 = .ok (.sipush 288, 3) := by decide +kernel
theorem dX6_same_46 : decode cX6_same 46 = .ok (.iload_n 2, 1) := by decide +kernel
theorem dX6_same_47 : decode cX6_same 47 = .ok (.imul, 1) := by decide +kernel
theorem dX6_same_48 : decode cX6_same 48 = .ok (.iload 5, 2) := by decide +kernel
theorem dX6_same_50 : decode cX6_same 50 = .ok (.iadd, 1) := by decide +kernel
theorem dX6_same_51 : decode cX6_same 51 = .ok (.iaload, 1) := by decide +kernel
theorem dX6_same_52 : decode cX6_same 52 = .ok (.if_icmp .ne 7, 3) := by decide +kernel
theorem dX6_same_55 : decode cX6_same 55 = .ok (.iconst 1, 1) := by decide +kernel
theorem dX6_same_56 : decode cX6_same 56 = .ok (.goto 4, 3) := by decide +kernel
theorem dX6_same_59 : decode cX6_same 59 = .ok (.iconst 0, 1) := by decide +kernel
theorem dX6_same_60 : decode cX6_same 60 = .ok (.istore 4, 2) := by decide +kernel
theorem dX6_same_62 : decode cX6_same 62 = .ok (.iinc 5 1, 3) := by decide +kernel
theorem dX6_same_65 : decode cX6_same 65 = .ok (.goto (-56), 3) := by decide +kernel
theorem dX6_same_68 : decode cX6_same 68 = .ok (.iload 4, 2) := by decide +kernel
theorem dX6_same_70 : decode cX6_same 70 = .ok (.ireturn, 1) := by decide +kernel
theorem dX6_alike_0 : decode cX6_alike 0 = .ok (.iconst 0, 1) := by decide +kernel
theorem dX6_alike_1 : decode cX6_alike 1 = .ok (.istore_n 3, 1) := by decide +kernel
theorem dX6_alike_2 : decode cX6_alike 2 = .ok (.iconst 1, 1) := by decide +kernel
theorem dX6_alike_3 : decode cX6_alike 3 = .ok (.istore 4, 2) := by decide +kernel
theorem dX6_alike_5 : decode cX6_alike 5 = .ok (.iload 4, 2) := by decide +kernel
theorem dX6_alike_7 : decode cX6_alike 7 = .ok (.bipush 10, 2) := by decide +kernel
theorem dX6_alike_9 : decode cX6_alike 9 = .ok (.if_icmp .ge 75, 3) := by decide +kernel
theorem dX6_alike_12 : decode cX6_alike 12 = .ok (.iconst 0, 1) := by decide +kernel
theorem dX6_alike_13 : decode cX6_alike 13 = .ok (.istore 5, 2) := by decide +kernel
theorem dX6_alike_15 : decode cX6_alike 15 = .ok (.iconst 1, 1) := by decide +kernel
theorem dX6_alike_16 : decode cX6_alike 16 = .ok (.istore 6, 2) := by decide +kernel
theorem dX6_alike_18 : decode cX6_alike 18 = .ok (.iload 6, 2) := by decide +kernel
theorem dX6_alike_20 : decode cX6_alike 20 = .ok (.bipush 10, 2) := by decide +kernel
theorem dX6_alike_22 : decode cX6_alike 22 = .ok (.if_icmp .ge 49, 3) := by decide +kernel
theorem dX6_alike_25 : decode cX6_alike 25 = .ok (.iload 5, 2) := by decide +kernel
theorem dX6_alike_27 : decode cX6_alike 27 = .ok (.iload_n 1, 1) := by decide +kernel
theorem dX6_alike_28 : decode cX6_alike 28 = .ok (.iload 4, 2) := by decide +kernel
theorem dX6_alike_30 : decode cX6_alike 30 = .ok (.invokestatic 196, 3) := by decide +kernel
theorem dX6_alike_33 : decode cX6_alike 33 = .ok (.ifCond .eq 28, 3) := by decide +kernel
theorem dX6_alike_36 : decode cX6_alike 36 = .ok (.iload_n 1, 1) := by decide +kernel
theorem dX6_alike_37 : decode cX6_alike 37 = .ok (.iload 6, 2) := by decide +kernel
theorem dX6_alike_39 : decode cX6_alike 39 = .ok (.invokestatic 196, 3) := by decide +kernel
theorem dX6_alike_42 : decode cX6_alike 42 = .ok (.ifCond .eq 19, 3) := by decide +kernel
theorem dX6_alike_45 : decode cX6_alike 45 = .ok (.aload_n 0, 1) := by decide +kernel
theorem dX6_alike_46 : decode cX6_alike 46 = .ok (.iload 4, 2) := by decide +kernel
theorem dX6_alike_48 : decode cX6_alike 48 = .ok (.iload 6, 2) := by decide +kernel
theorem dX6_alike_50 : decode cX6_alike 50 = .ok (.iload_n 2, 1) := by decide +kernel
theorem dX6_alike_51 : decode cX6_alike 51 = .ok (.invokevirtual 310, 3) := by decide +kernel
theorem dX6_alike_54 : decode cX6_alike 54 = .ok (.ifCond .eq 7, 3) := by decide +kernel
theorem dX6_alike_57 : decode cX6_alike 57 = .ok (.iconst 1, 1) := by decide +kernel
theorem dX6_alike_58 : decode cX6_alike 58 = .ok (.goto 4, 3) := by decide +kernel
theorem dX6_alike_61 : decode cX6_alike 61 = .ok (.iconst 0, 1) := by decide +kernel
theorem dX6_alike_62 : decode cX6_alike 62 = .ok (.iadd, 1) := by decide +kernel
theorem dX6_alike_63 : decode cX6_alike 63 = .ok (.istore 5, 2) := by decide +kernel
theorem dX6_alike_65 : decode cX6_alike 65 = .ok (.iinc 6 1, 3) := by decide +kernel
theorem dX6_alike_68 : decode cX6_alike 68 = .ok (.goto (-50), 3) := by decide +kernel
theorem dX6_alike_71 : decode cX6_alike 71 = .ok (.iload 5, 2) := by decide +kernel
theorem dX6_alike_73 : decode cX6_alike 73 = .ok (.iload_n 3, 1) := by decide +kernel
theorem dX6_alike_74 : decode cX6_alike 74 = .ok (.invokestatic 268, 3) := by decide +kernel
theorem dX6_alike_77 : decode cX6_alike 77 = .ok (.istore_n 3, 1) := by decide +kernel
theorem dX6_alike_78 : decode cX6_alike 78 = .ok (.iinc 4 1, 3) := by decide +kernel
theorem dX6_alike_81 : decode cX6_alike 81 = .ok (.goto (-76), 3) := by decide +kernel
theorem dX6_alike_84 : decode cX6_alike 84 = .ok (.iload_n 3, 1) := by decide +kernel
theorem dX6_alike_85 : decode cX6_alike 85 = .ok (.ireturn, 1) := by decide +kernel
theorem dX6_askOf_0 : decode cX6_askOf 0 = .ok (.aload_n 0, 1) := by decide +kernel
theorem dX6_askOf_1 : decode cX6_askOf 1 = .ok (.iload_n 1, 1) := by decide +kernel
theorem dX6_askOf_2 : decode cX6_askOf 2 = .ok (.invokevirtual 304, 3) := by decide +kernel
theorem dX6_askOf_5 : decode cX6_askOf 5 = .ok (.istore_n 2, 1) := by decide +kernel
theorem dX6_askOf_6 : decode cX6_askOf 6 = .ok (.iconst 0, 1) := by decide +kernel
theorem dX6_askOf_7 : decode cX6_askOf 7 = .ok (.istore_n 3, 1) := by decide +kernel
theorem dX6_askOf_8 : decode cX6_askOf 8 = .ok (.aload_n 0, 1) := by decide +kernel
theorem dX6_askOf_9 : decode cX6_askOf 9 = .ok (.iload_n 2, 1) := by decide +kernel
theorem dX6_askOf_10 : decode cX6_askOf 10 = .ok (.iconst 0, 1) := by decide +kernel
theorem dX6_askOf_11 : decode cX6_askOf 11 = .ok (.invokevirtual 314, 3) := by decide +kernel
theorem dX6_askOf_14 : decode cX6_askOf 14 = .ok (.istore 4, 2) := by decide +kernel
theorem dX6_askOf_16 : decode cX6_askOf 16 = .ok (.iconst 1, 1) := by decide +kernel
theorem dX6_askOf_17 : decode cX6_askOf 17 = .ok (.istore 5, 2) := by decide +kernel
theorem dX6_askOf_19 : decode cX6_askOf 19 = .ok (.iload 5, 2) := by decide +kernel
theorem dX6_askOf_21 : decode cX6_askOf 21 = .ok (.bipush 24, 2) := by decide +kernel
theorem dX6_askOf_23 : decode cX6_askOf 23 = .ok (.if_icmp .ge 41, 3) := by decide +kernel
theorem dX6_askOf_26 : decode cX6_askOf 26 = .ok (.aload_n 0, 1) := by decide +kernel
theorem dX6_askOf_27 : decode cX6_askOf 27 = .ok (.iload_n 2, 1) := by decide +kernel
theorem dX6_askOf_28 : decode cX6_askOf 28 = .ok (.iload 5, 2) := by decide +kernel
theorem dX6_askOf_30 : decode cX6_askOf 30 = .ok (.invokevirtual 314, 3) := by decide +kernel
theorem dX6_askOf_33 : decode cX6_askOf 33 = .ok (.istore 6, 2) := by decide +kernel
theorem dX6_askOf_35 : decode cX6_askOf 35 = .ok (.iload 6, 2) := by decide +kernel
theorem dX6_askOf_37 : decode cX6_askOf 37 = .ok (.iload 4, 2) := by decide +kernel
theorem dX6_askOf_39 : decode cX6_askOf 39 = .ok (.if_icmp .ge 8, 3) := by decide +kernel
theorem dX6_askOf_42 : decode cX6_askOf 42 = .ok (.iload 5, 2) := by decide +kernel
theorem dX6_askOf_44 : decode cX6_askOf 44 = .ok (.goto 4, 3) := by decide +kernel
theorem dX6_askOf_47 : decode cX6_askOf 47 = .ok (.iload_n 3, 1) := by decide +kernel
theorem dX6_askOf_48 : decode cX6_askOf 48 = .ok (.istore_n 3, 1) := by decide +kernel
theorem dX6_askOf_49 : decode cX6_askOf 49 = .ok (.iload 6, 2) := by decide +kernel
theorem dX6_askOf_51 : decode cX6_askOf 51 = .ok (.iload 4, 2) := by decide +kernel
theorem dX6_askOf_53 : decode cX6_askOf 53 = .ok (.invokestatic 317, 3) := by decide +kernel
theorem dX6_askOf_56 : decode cX6_askOf 56 = .ok (.istore 4, 2) := by decide +kernel
theorem dX6_askOf_58 : decode cX6_askOf 58 = .ok (.iinc 5 1, 3) := by decide +kernel
theorem dX6_askOf_61 : decode cX6_askOf 61 = .ok (.goto (-42), 3) := by decide +kernel
theorem dX6_askOf_64 : decode cX6_askOf 64 = .ok (.iload_n 3, 1) := by decide +kernel
theorem dX6_askOf_65 : decode cX6_askOf 65 = .ok (.ireturn, 1) := by decide +kernel
theorem dX6_ask_0 : decode cX6_ask 0 = .ok (.aload_n 0, 1) := by decide +kernel
theorem dX6_ask_1 : decode cX6_ask 1 = .ok (.invokevirtual 239, 3) := by decide +kernel
theorem dX6_ask_4 : decode cX6_ask 4 = .ok (.aload_n 0, 1) := by decide +kernel
theorem dX6_ask_5 : decode cX6_ask 5 = .ok (.iload_n 1, 1) := by decide +kernel
theorem dX6_ask_6 : decode cX6_ask 6 = .ok (.invokevirtual 169, 3) := by decide +kernel
theorem dX6_ask_9 : decode cX6_ask 9 = .ok (.ifCond .eq 11, 3) := by decide +kernel
theorem dX6_ask_12 : decode cX6_ask 12 = .ok (.aload_n 0, 1) := by decide +kernel
theorem dX6_ask_13 : decode cX6_ask 13 = .ok (.iload_n 1, 1) := by decide +kernel
theorem dX6_ask_14 : decode cX6_ask 14 = .ok (.invokevirtual 320, 3) := by decide +kernel
theorem dX6_ask_17 : decode cX6_ask 17 = .ok (.goto 5, 3) := by decide +kernel
theorem dX6_ask_20 : decode cX6_ask 20 = .ok (.bipush (-2), 2) := by decide +kernel
theorem dX6_ask_22 : decode cX6_ask 22 = .ok (.ireturn, 1) := by decide +kernel
theorem dX6_chanceOf_0 : decode cX6_chanceOf 0 = .ok (.lconst 0, 1) := by decide +kernel
theorem dX6_chanceOf_1 : decode cX6_chanceOf 1 = .ok (.lstore 4, 2) := by decide +kernel
theorem dX6_chanceOf_3 : decode cX6_chanceOf 3 = .ok (.iconst 0, 1) := by decide +kernel
theorem dX6_chanceOf_4 : decode cX6_chanceOf 4 = .ok (.istore 6, 2) := by decide +kernel
theorem dX6_chanceOf_6 : decode cX6_chanceOf 6 = .ok (.iload 6, 2) := by decide +kernel
theorem dX6_chanceOf_8 : decode cX6_chanceOf 8 = .ok (.iconst 1, 1) := by decide +kernel
theorem dX6_chanceOf_9 : decode cX6_chanceOf 9 = .ok (.aload_n 0, 1) := by decide +kernel
theorem dX6_chanceOf_10 : decode cX6_chanceOf 10 = .ok (.getfield 182, 3) := by decide +kernel
theorem dX6_chanceOf_13 : decode cX6_chanceOf 13 = .ok (.ishl, 1) := by decide +kernel
theorem dX6_chanceOf_14 : decode cX6_chanceOf 14 = .ok (.if_icmp .ge 85, 3) := by decide +kernel
theorem dX6_chanceOf_17 : decode cX6_chanceOf 17 = .ok (.aload_n 0, 1) := by decide +kernel
theorem dX6_chanceOf_18 : decode cX6_chanceOf 18 = .ok (.iload 6, 2) := by decide +kernel
theorem dX6_chanceOf_20 : decode cX6_chanceOf 20 = .ok (.putfield 193, 3) := by decide +kernel
theorem dX6_chanceOf_23 : decode cX6_chanceOf 23 = .ok (.aload_n 0, 1) := by decide +kernel
theorem dX6_chanceOf_24 : decode cX6_chanceOf 24 = .ok (.invokevirtual 236, 3) := by decide +kernel
theorem dX6_chanceOf_27 : decode cX6_chanceOf 27 = .ok (.aload_n 0, 1) := by decide +kernel
theorem dX6_chanceOf_28 : decode cX6_chanceOf 28 = .ok (.getfield 46, 3) := by decide +kernel
theorem dX6_chanceOf_31 : decode cX6_chanceOf 31 = .ok (.iload_n 2, 1) := by decide +kernel
theorem dX6_chanceOf_32 : decode cX6_chanceOf 32 = .ok (.iaload, 1) := by decide +kernel
theorem dX6_chanceOf_33 : decode cX6_chanceOf 33 = .ok (.ifCond .le 7, 3) := by decide +kernel
theorem dX6_chanceOf_36 : decode cX6_chanceOf 36 = .ok (.lconst 1, 1) := by decide +kernel
theorem dX6_chanceOf_37 : decode cX6_chanceOf 37 = .ok (.goto 4, 3) := by decide +kernel
theorem dX6_chanceOf_40 : decode cX6_chanceOf 40 = .ok (.lconst 0, 1) := by decide +kernel
theorem dX6_chanceOf_41 : decode cX6_chanceOf 41 = .ok (.lstore 7, 2) := by decide +kernel
theorem dX6_chanceOf_43 : decode cX6_chanceOf 43 = .ok (.iconst 0, 1) := by decide +kernel
theorem dX6_chanceOf_44 : decode cX6_chanceOf 44 = .ok (.istore 9, 2) := by decide +kernel
theorem dX6_chanceOf_46 : decode cX6_chanceOf 46 = .ok (.iload 9, 2) := by decide +kernel
theorem dX6_chanceOf_48 : decode cX6_chanceOf 48 = .ok (.aload_n 0, 1) := by decide +kernel
theorem dX6_chanceOf_49 : decode cX6_chanceOf 49 = .ok (.getfield 182, 3) := by decide +kernel
theorem dX6_chanceOf_52 : decode cX6_chanceOf 52 = .ok (.if_icmp .ge 34, 3) := by decide +kernel
theorem dX6_chanceOf_55 : decode cX6_chanceOf 55 = .ok (.lload 7, 2) := by decide +kernel
theorem dX6_chanceOf_57 : decode cX6_chanceOf 57 = .ok (.iload 6, 2) := by decide +kernel
theorem dX6_chanceOf_59 : decode cX6_chanceOf 59 = .ok (.iload 9, 2) := by decide +kernel
theorem dX6_chanceOf_61 : decode cX6_chanceOf 61 = .ok (.invokestatic 196, 3) := by decide +kernel
theorem dX6_chanceOf_64 : decode cX6_chanceOf 64 = .ok (.ifCond .eq 11, 3) := by decide +kernel
theorem dX6_chanceOf_67 : decode cX6_chanceOf 67 = .ok (.bipush 16, 2) := by decide +kernel
theorem dX6_chanceOf_69 : decode cX6_chanceOf 69 = .ok (.iload_n 1, 1) := by decide +kernel
theorem dX6_chanceOf_70 : decode cX6_chanceOf 70 = .ok (.isub, 1) := by decide +kernel
theorem dX6_chanceOf_71 : decode cX6_chanceOf 71 = .ok (.i2l, 1) := by decide +kernel
theorem dX6_chanceOf_72 : decode cX6_chanceOf 72 = .ok (.goto 5, 3) := by decide +kernel
theorem dX6_chanceOf_75 : decode cX6_chanceOf 75 = .ok (.iload_n 1, 1) := by decide +kernel
theorem dX6_chanceOf_76 : decode cX6_chanceOf 76 = .ok (.i2l, 1) := by decide +kernel
theorem dX6_chanceOf_77 : decode cX6_chanceOf 77 = .ok (.lmul, 1) := by decide +kernel
theorem dX6_chanceOf_78 : decode cX6_chanceOf 78 = .ok (.lstore 7, 2) := by decide +kernel
theorem dX6_chanceOf_80 : decode cX6_chanceOf 80 = .ok (.iinc 9 1, 3) := by decide +kernel
theorem dX6_chanceOf_83 : decode cX6_chanceOf 83 = .ok (.goto (-37), 3) := by decide +kernel
theorem dX6_chanceOf_86 : decode cX6_chanceOf 86 = .ok (.lload 4, 2) := by decide +kernel
theorem dX6_chanceOf_88 : decode cX6_chanceOf 88 = .ok (.lload 7, 2) := by decide +kernel
theorem dX6_chanceOf_90 : decode cX6_chanceOf 90 = .ok (.ladd, 1) := by decide +kernel
theorem dX6_chanceOf_91 : decode cX6_chanceOf 91 = .ok (.lstore 4, 2) := by decide +kernel
theorem dX6_chanceOf_93 : decode cX6_chanceOf 93 = .ok (.iinc 6 1, 3) := by decide +kernel
theorem dX6_chanceOf_96 : decode cX6_chanceOf 96 = .ok (.goto (-90), 3) := by decide +kernel
theorem dX6_chanceOf_99 : decode cX6_chanceOf 99 = .ok (.aload_n 0, 1) := by decide +kernel
theorem dX6_chanceOf_100 : decode cX6_chanceOf 100 = .ok (.iconst 0, 1) := by decide +kernel
theorem dX6_chanceOf_101 : decode cX6_chanceOf 101 = .ok (.putfield 193, 3) := by decide +kernel
theorem dX6_chanceOf_104 : decode cX6_chanceOf 104 = .ok (.lload 4, 2) := by decide +kernel
theorem dX6_chanceOf_106 : decode cX6_chanceOf 106 = .ok (.lconst 1, 1) := by decide +kernel
theorem dX6_chanceOf_107 : decode cX6_chanceOf 107 = .ok (.iconst 4, 1) := by decide +kernel
theorem dX6_chanceOf_108 : decode cX6_chanceOf 108 = .ok (.aload_n 0, 1) := by decide +kernel
theorem dX6_chanceOf_109 : decode cX6_chanceOf 109 = .ok (.getfield 182, 3) := by decide +kernel
theorem dX6_chanceOf_112 : decode cX6_chanceOf 112 = .ok (.imul, 1) := by decide +kernel
theorem dX6_chanceOf_113 : decode cX6_chanceOf 113 = .ok (.lshl, 1) := by decide +kernel
theorem dX6_chanceOf_114 : decode cX6_chanceOf 114 = .ok (.iload_n 3, 1) := by decide +kernel
theorem dX6_chanceOf_115 : decode cX6_chanceOf 115 = .ok (.invokestatic 323, 3) := by decide +kernel
theorem dX6_chanceOf_118 : decode cX6_chanceOf 118 = .ok (.lreturn, 1) := by decide +kernel
theorem dX6_chance_0 : decode cX6_chance 0 = .ok (.aload_n 0, 1) := by decide +kernel
theorem dX6_chance_1 : decode cX6_chance 1 = .ok (.invokevirtual 239, 3) := by decide +kernel
theorem dX6_chance_4 : decode cX6_chance 4 = .ok (.iload_n 1, 1) := by decide +kernel
theorem dX6_chance_5 : decode cX6_chance 5 = .ok (.i2l, 1) := by decide +kernel
theorem dX6_chance_6 : decode cX6_chance 6 = .ok (.lconst 0, 1) := by decide +kernel
theorem dX6_chance_7 : decode cX6_chance 7 = .ok (.ldc2_w 327, 3) := by decide +kernel
theorem dX6_chance_10 : decode cX6_chance 10 = .ok (.invokestatic 88, 3) := by decide +kernel
theorem dX6_chance_13 : decode cX6_chance 13 = .ok (.ifCond .eq 28, 3) := by decide +kernel
theorem dX6_chance_16 : decode cX6_chance 16 = .ok (.aload_n 0, 1) := by decide +kernel
theorem dX6_chance_17 : decode cX6_chance 17 = .ok (.iload_n 2, 1) := by decide +kernel
theorem dX6_chance_18 : decode cX6_chance 18 = .ok (.invokevirtual 169, 3) := by decide +kernel
theorem dX6_chance_21 : decode cX6_chance 21 = .ok (.ifCond .eq 20, 3) := by decide +kernel
theorem dX6_chance_24 : decode cX6_chance 24 = .ok (.iload_n 3, 1) := by decide +kernel
theorem dX6_chance_25 : decode cX6_chance 25 = .ok (.invokestatic 172, 3) := by decide +kernel
theorem dX6_chance_28 : decode cX6_chance 28 = .ok (.ifCond .eq 13, 3) := by decide +kernel
theorem dX6_chance_31 : decode cX6_chance 31 = .ok (.aload_n 0, 1) := by decide +kernel
theorem dX6_chance_32 : decode cX6_chance 32 = .ok (.iload_n 1, 1) := by decide +kernel
theorem dX6_chance_33 : decode cX6_chance 33 = .ok (.iload_n 2, 1) := by decide +kernel
theorem dX6_chance_34 : decode cX6_chance 34 = .ok (.iload_n 3, 1) := by decide +kernel
theorem dX6_chance_35 : decode cX6_chance 35 = .ok (.invokevirtual 329, 3) := by decide +kernel
theorem dX6_chance_38 : decode cX6_chance 38 = .ok (.goto 8, 3) := by decide +kernel
theorem dX6_chance_41 : decode cX6_chance 41 = .ok (.bipush (-2), 2) := by decide +kernel
theorem dX6_chance_43 : decode cX6_chance 43 = .ok (.invokestatic 333, 3) := by decide +kernel
theorem dX6_chance_46 : decode cX6_chance 46 = .ok (.lreturn, 1) := by decide +kernel
theorem dX6_lot_0 : decode cX6_lot 0 = .ok (.aload_n 0, 1) := by decide +kernel
theorem dX6_lot_1 : decode cX6_lot 1 = .ok (.ldc_w 337, 3) := by decide +kernel
theorem dX6_lot_4 : decode cX6_lot 4 = .ok (.aload_n 0, 1) := by decide +kernel
theorem dX6_lot_5 : decode cX6_lot 5 = .ok (.getfield 338, 3) := by decide +kernel
theorem dX6_lot_8 : decode cX6_lot 8 = .ok (.imul, 1) := by decide +kernel
theorem dX6_lot_9 : decode cX6_lot 9 = .ok (.sipush 12345, 3) := by decide +kernel
theorem dX6_lot_12 : decode cX6_lot 12 = .ok (.iadd, 1) := by decide +kernel
theorem dX6_lot_13 : decode cX6_lot 13 = .ok (.putfield 338, 3) := by decide +kernel
theorem dX6_lot_16 : decode cX6_lot 16 = .ok (.aload_n 0, 1) := by decide +kernel
theorem dX6_lot_17 : decode cX6_lot 17 = .ok (.getfield 338, 3) := by decide +kernel
theorem dX6_lot_20 : decode cX6_lot 20 = .ok (.bipush 16, 2) := by decide +kernel
theorem dX6_lot_22 : decode cX6_lot 22 = .ok (.iushr, 1) := by decide +kernel
theorem dX6_lot_23 : decode cX6_lot 23 = .ok (.iload_n 1, 1) := by decide +kernel
theorem dX6_lot_24 : decode cX6_lot 24 = .ok (.irem, 1) := by decide +kernel
theorem dX6_lot_25 : decode cX6_lot 25 = .ok (.ireturn, 1) := by decide +kernel
theorem dX6_sundaysOf_0 : decode cX6_sundaysOf 0 = .ok (.aload_n 0, 1) := by decide +kernel
theorem dX6_sundaysOf_1 : decode cX6_sundaysOf 1 = .ok (.iload_n 1, 1) := by decide +kernel
theorem dX6_sundaysOf_2 : decode cX6_sundaysOf 2 = .ok (.putfield 338, 3) := by decide +kernel
theorem dX6_sundaysOf_5 : decode cX6_sundaysOf 5 = .ok (.aload_n 0, 1) := by decide +kernel
theorem dX6_sundaysOf_6 : decode cX6_sundaysOf 6 = .ok (.iload_n 2, 1) := by decide +kernel
theorem dX6_sundaysOf_7 : decode cX6_sundaysOf 7 = .ok (.putfield 143, 3) := by decide +kernel
theorem dX6_sundaysOf_10 : decode cX6_sundaysOf 10 = .ok (.iconst 0, 1) := by decide +kernel
theorem dX6_sundaysOf_11 : decode cX6_sundaysOf 11 = .ok (.istore 4, 2) := by decide +kernel
theorem dX6_sundaysOf_13 : decode cX6_sundaysOf 13 = .ok (.iload 4, 2) := by decide +kernel
theorem dX6_sundaysOf_15 : decode cX6_sundaysOf 15 = .ok (.iload_n 2, 1) := by decide +kernel
theorem dX6_sundaysOf_16 : decode cX6_sundaysOf 16 = .ok (.if_icmp .ge 43, 3) := by decide +kernel
theorem dX6_sundaysOf_19 : decode cX6_sundaysOf 19 = .ok (.aload_n 0, 1) := by decide +kernel
theorem dX6_sundaysOf_20 : decode cX6_sundaysOf 20 = .ok (.getfield 34, 3) := by decide +kernel
theorem dX6_sundaysOf_23 : decode cX6_sundaysOf 23 = .ok (.iconst 2, 1) := by decide +kernel
theorem dX6_sundaysOf_24 : decode cX6_sundaysOf 24 = .ok (.iload 4, 2) := by decide +kernel
theorem dX6_sundaysOf_26 : decode cX6_sundaysOf 26 = .ok (.imul, 1) := by decide +kernel
theorem dX6_sundaysOf_27 : decode cX6_sundaysOf 27 = .ok (.aload_n 0, 1) := by decide +kernel
theorem dX6_sundaysOf_28 : decode cX6_sundaysOf 28 = .ok (.bipush 24, 2) := by decide +kernel
theorem dX6_sundaysOf_30 : decode cX6_sundaysOf 30 = .ok (.invokevirtual 341, 3) := by decide +kernel
theorem dX6_sundaysOf_33 : decode cX6_sundaysOf 33 = .ok (.iastore, 1) := by decide +kernel
theorem dX6_sundaysOf_34 : decode cX6_sundaysOf 34 = .ok (.aload_n 0, 1) := by decide +kernel
theorem dX6_sundaysOf_35 : decode cX6_sundaysOf 35 = .ok (.getfield 34, 3) := by decide +kernel
theorem dX6_sundaysOf_38 : decode cX6_sundaysOf 38 = .ok (.iconst 2, 1) := by decide +kernel
theorem dX6_sundaysOf_39 : decode cX6_sundaysOf 39 = .ok (.iload 4, 2) := by decide +kernel
theorem dX6_sundaysOf_41 : decode cX6_sundaysOf 41 = .ok (.imul, 1) := by decide +kernel
theorem dX6_sundaysOf_42 : decode cX6_sundaysOf 42 = .ok (.iconst 1, 1) := by decide +kernel
theorem dX6_sundaysOf_43 : decode cX6_sundaysOf 43 = .ok (.iadd, 1) := by decide +kernel
theorem dX6_sundaysOf_44 : decode cX6_sundaysOf 44 = .ok (.aload_n 0, 1) := by decide +kernel
theorem dX6_sundaysOf_45 : decode cX6_sundaysOf 45 = .ok (.bipush 9, 2) := by decide +kernel
theorem dX6_sundaysOf_47 : decode cX6_sundaysOf 47 = .ok (.invokevirtual 341, 3) := by decide +kernel
theorem dX6_sundaysOf_50 : decode cX6_sundaysOf 50 = .ok (.iconst 1, 1) := by decide +kernel
theorem dX6_sundaysOf_51 : decode cX6_sundaysOf 51 = .ok (.iadd, 1) := by decide +kernel
theorem dX6_sundaysOf_52 : decode cX6_sundaysOf 52 = .ok (.iastore, 1) := by decide +kernel
theorem dX6_sundaysOf_53 : decode cX6_sundaysOf 53 = .ok (.iinc 4 1, 3) := by decide +kernel
theorem dX6_sundaysOf_56 : decode cX6_sundaysOf 56 = .ok (.goto (-43), 3) := by decide +kernel
theorem dX6_sundaysOf_59 : decode cX6_sundaysOf 59 = .ok (.aload_n 0, 1) := by decide +kernel
theorem dX6_sundaysOf_60 : decode cX6_sundaysOf 60 = .ok (.invokevirtual 236, 3) := by decide +kernel
theorem dX6_sundaysOf_63 : decode cX6_sundaysOf 63 = .ok (.iload_n 3, 1) := by decide +kernel
theorem dX6_sundaysOf_64 : decode cX6_sundaysOf 64 = .ok (.ifCond .ne 10, 3) := by decide +kernel
theorem dX6_sundaysOf_67 : decode cX6_sundaysOf 67 = .ok (.aload_n 0, 1) := by decide +kernel
theorem dX6_sundaysOf_68 : decode cX6_sundaysOf 68 = .ok (.invokevirtual 256, 3) := by decide +kernel
theorem dX6_sundaysOf_71 : decode cX6_sundaysOf 71 = .ok (.goto 9, 3) := by decide +kernel
theorem dX6_sundaysOf_74 : decode cX6_sundaysOf 74 = .ok (.aload_n 0, 1) := by decide +kernel
theorem dX6_sundaysOf_75 : decode cX6_sundaysOf 75 = .ok (.bipush 9, 2) := by decide +kernel
theorem dX6_sundaysOf_77 : decode cX6_sundaysOf 77 = .ok (.invokevirtual 259, 3) := by decide +kernel
theorem dX6_sundaysOf_80 : decode cX6_sundaysOf 80 = .ok (.istore 4, 2) := by decide +kernel
theorem dX6_sundaysOf_82 : decode cX6_sundaysOf 82 = .ok (.aload_n 0, 1) := by decide +kernel
theorem dX6_sundaysOf_83 : decode cX6_sundaysOf 83 = .ok (.invokevirtual 156, 3) := by decide +kernel
theorem dX6_sundaysOf_86 : decode cX6_sundaysOf 86 = .ok (.pop, 1) := by decide +kernel
theorem dX6_sundaysOf_87 : decode cX6_sundaysOf 87 = .ok (.iload 4, 2) := by decide +kernel
theorem dX6_sundaysOf_89 : decode cX6_sundaysOf 89 = .ok (.ireturn, 1) := by decide +kernel
theorem dX6_sundays_0 : decode cX6_sundays 0 = .ok (.aload_n 0, 1) := by decide +kernel
theorem dX6_sundays_1 : decode cX6_sundays 1 = .ok (.invokevirtual 239, 3) := by decide +kernel
theorem dX6_sundays_4 : decode cX6_sundays 4 = .ok (.iload_n 2, 1) := by decide +kernel
theorem dX6_sundays_5 : decode cX6_sundays 5 = .ok (.i2l, 1) := by decide +kernel
theorem dX6_sundays_6 : decode cX6_sundays 6 = .ok (.lconst 0, 1) := by decide +kernel
theorem dX6_sundays_7 : decode cX6_sundays 7 = .ok (.ldc2_w 292, 3) := by decide +kernel
theorem dX6_sundays_10 : decode cX6_sundays 10 = .ok (.invokestatic 88, 3) := by decide +kernel
theorem dX6_sundays_13 : decode cX6_sundays 13 = .ok (.ifCond .eq 20, 3) := by decide +kernel
theorem dX6_sundays_16 : decode cX6_sundays 16 = .ok (.iload_n 3, 1) := by decide +kernel
theorem dX6_sundays_17 : decode cX6_sundays 17 = .ok (.invokestatic 172, 3) := by decide +kernel
theorem dX6_sundays_20 : decode cX6_sundays 20 = .ok (.ifCond .eq 13, 3) := by decide +kernel
theorem dX6_sundays_23 : decode cX6_sundays 23 = .ok (.aload_n 0, 1) := by decide +kernel
theorem dX6_sundays_24 : decode cX6_sundays 24 = .ok (.iload_n 1, 1) := by decide +kernel
theorem dX6_sundays_25 : decode cX6_sundays 25 = .ok (.iload_n 2, 1) := by decide +kernel
theorem dX6_sundays_26 : decode cX6_sundays 26 = .ok (.iload_n 3, 1) := by decide +kernel
theorem dX6_sundays_27 : decode cX6_sundays 27 = .ok (.invokevirtual 344, 3) := by decide +kernel
theorem dX6_sundays_30 : decode cX6_sundays 30 = .ok (.goto 5, 3) := by decide +kernel
theorem dX6_sundays_33 : decode cX6_sundays 33 = .ok (.bipush (-2), 2) := by decide +kernel
theorem dX6_sundays_35 : decode cX6_sundays 35 = .ok (.ireturn, 1) := by decide +kernel
theorem dX6_write_0 : decode cX6_write 0 = .ok (.aload_n 0, 1) := by decide +kernel
theorem dX6_write_1 : decode cX6_write 1 = .ok (.invokevirtual 239, 3) := by decide +kernel
theorem dX6_write_4 : decode cX6_write 4 = .ok (.aload_n 0, 1) := by decide +kernel
theorem dX6_write_5 : decode cX6_write 5 = .ok (.iload_n 1, 1) := by decide +kernel
theorem dX6_write_6 : decode cX6_write 6 = .ok (.invokevirtual 169, 3) := by decide +kernel
theorem dX6_write_9 : decode cX6_write 9 = .ok (.ifCond .eq 10, 3) := by decide +kernel
theorem dX6_write_12 : decode cX6_write 12 = .ok (.iload_n 2, 1) := by decide +kernel
theorem dX6_write_13 : decode cX6_write 13 = .ok (.invokestatic 97, 3) := by decide +kernel
theorem dX6_write_16 : decode cX6_write 16 = .ok (.ifCond .ne 6, 3) := by decide +kernel
theorem dX6_write_19 : decode cX6_write 19 = .ok (.bipush (-2), 2) := by decide +kernel
theorem dX6_write_21 : decode cX6_write 21 = .ok (.ireturn, 1) := by decide +kernel
theorem dX6_write_22 : decode cX6_write 22 = .ok (.aload_n 0, 1) := by decide +kernel
theorem dX6_write_23 : decode cX6_write 23 = .ok (.getfield 7, 3) := by decide +kernel
theorem dX6_write_26 : decode cX6_write 26 = .ok (.iload_n 2, 1) := by decide +kernel
theorem dX6_write_27 : decode cX6_write 27 = .ok (.iaload, 1) := by decide +kernel
theorem dX6_write_28 : decode cX6_write 28 = .ok (.ifCond .ge 9, 3) := by decide +kernel
theorem dX6_write_31 : decode cX6_write 31 = .ok (.aload_n 0, 1) := by decide +kernel
theorem dX6_write_32 : decode cX6_write 32 = .ok (.iconst 1, 1) := by decide +kernel
theorem dX6_write_33 : decode cX6_write 33 = .ok (.invokevirtual 103, 3) := by decide +kernel
theorem dX6_write_36 : decode cX6_write 36 = .ok (.ireturn, 1) := by decide +kernel
theorem dX6_write_37 : decode cX6_write 37 = .ok (.aload_n 0, 1) := by decide +kernel
theorem dX6_write_38 : decode cX6_write 38 = .ok (.getfield 13, 3) := by decide +kernel
theorem dX6_write_41 : decode cX6_write 41 = .ok (.iload_n 2, 1) := by decide +kernel
theorem dX6_write_42 : decode cX6_write 42 = .ok (.iaload, 1) := by decide +kernel
theorem dX6_write_43 : decode cX6_write 43 = .ok (.bipush 24, 2) := by decide +kernel
theorem dX6_write_45 : decode cX6_write 45 = .ok (.invokestatic 317, 3) := by decide +kernel
theorem dX6_write_48 : decode cX6_write 48 = .ok (.istore_n 3, 1) := by decide +kernel
theorem dX6_write_49 : decode cX6_write 49 = .ok (.iconst 0, 1) := by decide +kernel
theorem dX6_write_50 : decode cX6_write 50 = .ok (.istore 4, 2) := by decide +kernel
theorem dX6_write_52 : decode cX6_write 52 = .ok (.iload 4, 2) := by decide +kernel
theorem dX6_write_54 : decode cX6_write 54 = .ok (.iload_n 3, 1) := by decide +kernel
theorem dX6_write_55 : decode cX6_write 55 = .ok (.if_icmp .ge 42, 3) := by decide +kernel
theorem dX6_write_58 : decode cX6_write 58 = .ok (.aload_n 0, 1) := by decide +kernel
theorem dX6_write_59 : decode cX6_write 59 = .ok (.getfield 16, 3) := by decide +kernel
theorem dX6_write_62 : decode cX6_write 62 = .ok (.bipush 60, 2) := by decide +kernel
theorem dX6_write_64 : decode cX6_write 64 = .ok (.iload_n 2, 1) := by decide +kernel
theorem dX6_write_65 : decode cX6_write 65 = .ok (.imul, 1) := by decide +kernel
theorem dX6_write_66 : decode cX6_write 66 = .ok (.iload 4, 2) := by decide +kernel
theorem dX6_write_68 : decode cX6_write 68 = .ok (.iadd, 1) := by decide +kernel
theorem dX6_write_69 : decode cX6_write 69 = .ok (.aload_n 0, 1) := by decide +kernel
theorem dX6_write_70 : decode cX6_write 70 = .ok (.getfield 7, 3) := by decide +kernel
theorem dX6_write_73 : decode cX6_write 73 = .ok (.iload_n 2, 1) := by decide +kernel
theorem dX6_write_74 : decode cX6_write 74 = .ok (.iaload, 1) := by decide +kernel
theorem dX6_write_75 : decode cX6_write 75 = .ok (.aload_n 0, 1) := by decide +kernel
theorem dX6_write_76 : decode cX6_write 76 = .ok (.getfield 70, 3) := by decide +kernel
theorem dX6_write_79 : decode cX6_write 79 = .ok (.bipush 12, 2) := by decide +kernel
theorem dX6_write_81 : decode cX6_write 81 = .ok (.iload 4, 2) := by decide +kernel
theorem dX6_write_83 : decode cX6_write 83 = .ok (.imul, 1) := by decide +kernel
theorem dX6_write_84 : decode cX6_write 84 = .ok (.iload_n 1, 1) := by decide +kernel
theorem dX6_write_85 : decode cX6_write 85 = .ok (.iadd, 1) := by decide +kernel
theorem dX6_write_86 : decode cX6_write 86 = .ok (.iaload, 1) := by decide +kernel
theorem dX6_write_87 : decode cX6_write 87 = .ok (.invokestatic 111, 3) := by decide +kernel
theorem dX6_write_90 : decode cX6_write 90 = .ok (.iastore, 1) := by decide +kernel
theorem dX6_write_91 : decode cX6_write 91 = .ok (.iinc 4 1, 3) := by decide +kernel
theorem dX6_write_94 : decode cX6_write 94 = .ok (.goto (-42), 3) := by decide +kernel
theorem dX6_write_97 : decode cX6_write 97 = .ok (.iload_n 3, 1) := by decide +kernel
theorem dX6_write_98 : decode cX6_write 98 = .ok (.ireturn, 1) := by decide +kernel
theorem dX6_onBoard_0 : decode cX6_onBoard 0 = .ok (.iconst 0, 1) := by decide +kernel
theorem dX6_onBoard_1 : decode cX6_onBoard 1 = .ok (.istore_n 1, 1) := by decide +kernel
theorem dX6_onBoard_2 : decode cX6_onBoard 2 = .ok (.iconst 0, 1) := by decide +kernel
theorem dX6_onBoard_3 : decode cX6_onBoard 3 = .ok (.istore_n 2, 1) := by decide +kernel
theorem dX6_onBoard_4 : decode cX6_onBoard 4 = .ok (.iload_n 2, 1) := by decide +kernel
theorem dX6_onBoard_5 : decode cX6_onBoard 5 = .ok (.aload_n 0, 1) := by decide +kernel
theorem dX6_onBoard_6 : decode cX6_onBoard 6 = .ok (.getfield 143, 3) := by decide +kernel
theorem dX6_onBoard_9 : decode cX6_onBoard 9 = .ok (.if_icmp .ge 34, 3) := by decide +kernel
theorem dX6_onBoard_12 : decode cX6_onBoard 12 = .ok (.iload_n 1, 1) := by decide +kernel
theorem dX6_onBoard_13 : decode cX6_onBoard 13 = .ok (.aload_n 0, 1) := by decide +kernel
theorem dX6_onBoard_14 : decode cX6_onBoard 14 = .ok (.getfield 40, 3) := by decide +kernel
theorem dX6_onBoard_17 : decode cX6_onBoard 17 = .ok (.iload_n 2, 1) := by decide +kernel
theorem dX6_onBoard_18 : decode cX6_onBoard 18 = .ok (.iaload, 1) := by decide +kernel
theorem dX6_onBoard_19 : decode cX6_onBoard 19 = .ok (.i2l, 1) := by decide +kernel
theorem dX6_onBoard_20 : decode cX6_onBoard 20 = .ok (.lconst 0, 1) := by decide +kernel
theorem dX6_onBoard_21 : decode cX6_onBoard 21 = .ok (.ldc2_w 248, 3) := by decide +kernel
theorem dX6_onBoard_24 : decode cX6_onBoard 24 = .ok (.invokestatic 88, 3) := by decide +kernel
theorem dX6_onBoard_27 : decode cX6_onBoard 27 = .ok (.ifCond .eq 7, 3) := by decide +kernel
theorem dX6_onBoard_30 : decode cX6_onBoard 30 = .ok (.iconst 1, 1) := by decide +kernel
theorem dX6_onBoard_31 : decode cX6_onBoard 31 = .ok (.goto 4, 3) := by decide +kernel
theorem dX6_onBoard_34 : decode cX6_onBoard 34 = .ok (.iconst 0, 1) := by decide +kernel
theorem dX6_onBoard_35 : decode cX6_onBoard 35 = .ok (.iadd, 1) := by decide +kernel
theorem dX6_onBoard_36 : decode cX6_onBoard 36 = .ok (.istore_n 1, 1) := by decide +kernel
theorem dX6_onBoard_37 : decode cX6_onBoard 37 = .ok (.iinc 2 1, 3) := by decide +kernel
theorem dX6_onBoard_40 : decode cX6_onBoard 40 = .ok (.goto (-36), 3) := by decide +kernel
theorem dX6_onBoard_43 : decode cX6_onBoard 43 = .ok (.iload_n 1, 1) := by decide +kernel
theorem dX6_onBoard_44 : decode cX6_onBoard 44 = .ok (.ireturn, 1) := by decide +kernel
theorem dX6_count_0 : decode cX6_count 0 = .ok (.aload_n 0, 1) := by decide +kernel
theorem dX6_count_1 : decode cX6_count 1 = .ok (.invokevirtual 239, 3) := by decide +kernel
theorem dX6_count_4 : decode cX6_count 4 = .ok (.iload_n 1, 1) := by decide +kernel
theorem dX6_count_5 : decode cX6_count 5 = .ok (.tableswitch 112 0 8 #[51, 56, 61, 82, 87, 92, 97, 102, 107], 51) := by decide +kernel
theorem dX6_count_56 : decode cX6_count 56 = .ok (.aload_n 0, 1) := by decide +kernel
theorem dX6_count_57 : decode cX6_count 57 = .ok (.getfield 127, 3) := by decide +kernel
theorem dX6_count_60 : decode cX6_count 60 = .ok (.ireturn, 1) := by decide +kernel
theorem dX6_count_61 : decode cX6_count 61 = .ok (.aload_n 0, 1) := by decide +kernel
theorem dX6_count_62 : decode cX6_count 62 = .ok (.getfield 143, 3) := by decide +kernel
theorem dX6_count_65 : decode cX6_count 65 = .ok (.ireturn, 1) := by decide +kernel
theorem dX6_count_66 : decode cX6_count 66 = .ok (.aload_n 0, 1) := by decide +kernel
theorem dX6_count_67 : decode cX6_count 67 = .ok (.getfield 25, 3) := by decide +kernel
theorem dX6_count_70 : decode cX6_count 70 = .ok (.iconst 0, 1) := by decide +kernel
theorem dX6_count_71 : decode cX6_count 71 = .ok (.iaload, 1) := by decide +kernel
theorem dX6_count_72 : decode cX6_count 72 = .ok (.aload_n 0, 1) := by decide +kernel
theorem dX6_count_73 : decode cX6_count 73 = .ok (.getfield 25, 3) := by decide +kernel
theorem dX6_count_76 : decode cX6_count 76 = .ok (.iconst 1, 1) := by decide +kernel
theorem dX6_count_77 : decode cX6_count 77 = .ok (.iaload, 1) := by decide +kernel
theorem dX6_count_78 : decode cX6_count 78 = .ok (.iadd, 1) := by decide +kernel
theorem dX6_count_79 : decode cX6_count 79 = .ok (.aload_n 0, 1) := by decide +kernel
theorem dX6_count_80 : decode cX6_count 80 = .ok (.getfield 25, 3) := by decide +kernel
theorem dX6_count_83 : decode cX6_count 83 = .ok (.iconst 2, 1) := by decide +kernel
theorem dX6_count_84 : decode cX6_count 84 = .ok (.iaload, 1) := by decide +kernel
theorem dX6_count_85 : decode cX6_count 85 = .ok (.iadd, 1) := by decide +kernel
theorem dX6_count_86 : decode cX6_count 86 = .ok (.ireturn, 1) := by decide +kernel
theorem dX6_count_87 : decode cX6_count 87 = .ok (.aload_n 0, 1) := by decide +kernel
theorem dX6_count_88 : decode cX6_count 88 = .ok (.getfield 182, 3) := by decide +kernel
theorem dX6_count_91 : decode cX6_count 91 = .ok (.ireturn, 1) := by decide +kernel
theorem dX6_count_92 : decode cX6_count 92 = .ok (.aload_n 0, 1) := by decide +kernel
theorem dX6_count_93 : decode cX6_count 93 = .ok (.invokevirtual 256, 3) := by decide +kernel
theorem dX6_count_96 : decode cX6_count 96 = .ok (.ireturn, 1) := by decide +kernel
theorem dX6_count_97 : decode cX6_count 97 = .ok (.aload_n 0, 1) := by decide +kernel
theorem dX6_count_98 : decode cX6_count 98 = .ok (.getfield 82, 3) := by decide +kernel
theorem dX6_count_101 : decode cX6_count 101 = .ok (.ireturn, 1) := by decide +kernel
theorem dX6_count_102 : decode cX6_count 102 = .ok (.aload_n 0, 1) := by decide +kernel
theorem dX6_count_103 : decode cX6_count 103 = .ok (.invokevirtual 347, 3) := by decide +kernel
theorem dX6_count_106 : decode cX6_count 106 = .ok (.ireturn, 1) := by decide +kernel
theorem dX6_count_107 : decode cX6_count 107 = .ok (.aload_n 0, 1) := by decide +kernel
theorem dX6_count_108 : decode cX6_count 108 = .ok (.getfield 294, 3) := by decide +kernel
theorem dX6_count_111 : decode cX6_count 111 = .ok (.ireturn, 1) := by decide +kernel
theorem dX6_count_112 : decode cX6_count 112 = .ok (.aload_n 0, 1) := by decide +kernel
theorem dX6_count_113 : decode cX6_count 113 = .ok (.getfield 92, 3) := by decide +kernel
theorem dX6_count_116 : decode cX6_count 116 = .ok (.ireturn, 1) := by decide +kernel
theorem dX6_count_117 : decode cX6_count 117 = .ok (.bipush (-2), 2) := by decide +kernel
theorem dX6_count_119 : decode cX6_count 119 = .ok (.ireturn, 1) := by decide +kernel
theorem dX6_tellsPin_0 : decode cX6_tellsPin 0 = .ok (.lload_n 1, 1) := by decide +kernel
theorem dX6_tellsPin_1 : decode cX6_tellsPin 1 = .ok (.lstore 4, 2) := by decide +kernel
theorem dX6_tellsPin_3 : decode cX6_tellsPin 3 = .ok (.iconst 0, 1) := by decide +kernel
theorem dX6_tellsPin_4 : decode cX6_tellsPin 4 = .ok (.istore 6, 2) := by decide +kernel
theorem dX6_tellsPin_6 : decode cX6_tellsPin 6 = .ok (.iload 6, 2) := by decide +kernel
theorem dX6_tellsPin_8 : decode cX6_tellsPin 8 = .ok (.iconst 3, 1) := by decide +kernel
theorem dX6_tellsPin_9 : decode cX6_tellsPin 9 = .ok (.if_icmp .ge 30, 3) := by decide +kernel
theorem dX6_tellsPin_12 : decode cX6_tellsPin 12 = .ok (.ldc2_w 350, 3) := by decide +kernel
theorem dX6_tellsPin_15 : decode cX6_tellsPin 15 = .ok (.lload 4, 2) := by decide +kernel
theorem dX6_tellsPin_17 : decode cX6_tellsPin 17 = .ok (.lmul, 1) := by decide +kernel
theorem dX6_tellsPin_18 : decode cX6_tellsPin 18 = .ok (.aload_n 0, 1) := by decide +kernel
theorem dX6_tellsPin_19 : decode cX6_tellsPin 19 = .ok (.getfield 28, 3) := by decide +kernel
theorem dX6_tellsPin_22 : decode cX6_tellsPin 22 = .ok (.iconst 3, 1) := by decide +kernel
theorem dX6_tellsPin_23 : decode cX6_tellsPin 23 = .ok (.iload_n 3, 1) := by decide +kernel
theorem dX6_tellsPin_24 : decode cX6_tellsPin 24 = .ok (.imul, 1) := by decide +kernel
theorem dX6_tellsPin_25 : decode cX6_tellsPin 25 = .ok (.iload 6, 2) := by decide +kernel
theorem dX6_tellsPin_27 : decode cX6_tellsPin 27 = .ok (.iadd, 1) := by decide +kernel
theorem dX6_tellsPin_28 : decode cX6_tellsPin 28 = .ok (.iaload, 1) := by decide +kernel
theorem dX6_tellsPin_29 : decode cX6_tellsPin 29 = .ok (.i2l, 1) := by decide +kernel
theorem dX6_tellsPin_30 : decode cX6_tellsPin 30 = .ok (.ladd, 1) := by decide +kernel
theorem dX6_tellsPin_31 : decode cX6_tellsPin 31 = .ok (.lstore 4, 2) := by decide +kernel
theorem dX6_tellsPin_33 : decode cX6_tellsPin 33 = .ok (.iinc 6 1, 3) := by decide +kernel
theorem dX6_tellsPin_36 : decode cX6_tellsPin 36 = .ok (.goto (-30), 3) := by decide +kernel
theorem dX6_tellsPin_39 : decode cX6_tellsPin 39 = .ok (.ldc2_w 350, 3) := by decide +kernel
theorem dX6_tellsPin_42 : decode cX6_tellsPin 42 = .ok (.lload 4, 2) := by decide +kernel
theorem dX6_tellsPin_44 : decode cX6_tellsPin 44 = .ok (.lmul, 1) := by decide +kernel
theorem dX6_tellsPin_45 : decode cX6_tellsPin 45 = .ok (.aload_n 0, 1) := by decide +kernel
theorem dX6_tellsPin_46 : decode cX6_tellsPin 46 = .ok (.iload_n 3, 1) := by decide +kernel
theorem dX6_tellsPin_47 : decode cX6_tellsPin 47 = .ok (.iconst 0, 1) := by decide +kernel
theorem dX6_tellsPin_48 : decode cX6_tellsPin 48 = .ok (.invokevirtual 281, 3) := by decide +kernel
theorem dX6_tellsPin_51 : decode cX6_tellsPin 51 = .ok (.i2l, 1) := by decide +kernel
theorem dX6_tellsPin_52 : decode cX6_tellsPin 52 = .ok (.ladd, 1) := by decide +kernel
theorem dX6_tellsPin_53 : decode cX6_tellsPin 53 = .ok (.lstore 4, 2) := by decide +kernel
theorem dX6_tellsPin_55 : decode cX6_tellsPin 55 = .ok (.ldc2_w 350, 3) := by decide +kernel
theorem dX6_tellsPin_58 : decode cX6_tellsPin 58 = .ok (.lload 4, 2) := by decide +kernel
theorem dX6_tellsPin_60 : decode cX6_tellsPin 60 = .ok (.lmul, 1) := by decide +kernel
theorem dX6_tellsPin_61 : decode cX6_tellsPin 61 = .ok (.aload_n 0, 1) := by decide +kernel
theorem dX6_tellsPin_62 : decode cX6_tellsPin 62 = .ok (.iload_n 3, 1) := by decide +kernel
theorem dX6_tellsPin_63 : decode cX6_tellsPin 63 = .ok (.iconst 1, 1) := by decide +kernel
theorem dX6_tellsPin_64 : decode cX6_tellsPin 64 = .ok (.invokevirtual 281, 3) := by decide +kernel
theorem dX6_tellsPin_67 : decode cX6_tellsPin 67 = .ok (.i2l, 1) := by decide +kernel
theorem dX6_tellsPin_68 : decode cX6_tellsPin 68 = .ok (.ladd, 1) := by decide +kernel
theorem dX6_tellsPin_69 : decode cX6_tellsPin 69 = .ok (.lstore 4, 2) := by decide +kernel
theorem dX6_tellsPin_71 : decode cX6_tellsPin 71 = .ok (.ldc2_w 350, 3) := by decide +kernel
theorem dX6_tellsPin_74 : decode cX6_tellsPin 74 = .ok (.lload 4, 2) := by decide +kernel
theorem dX6_tellsPin_76 : decode cX6_tellsPin 76 = .ok (.lmul, 1) := by decide +kernel
theorem dX6_tellsPin_77 : decode cX6_tellsPin 77 = .ok (.aload_n 0, 1) := by decide +kernel
theorem dX6_tellsPin_78 : decode cX6_tellsPin 78 = .ok (.iload_n 3, 1) := by decide +kernel
theorem dX6_tellsPin_79 : decode cX6_tellsPin 79 = .ok (.invokevirtual 307, 3) := by decide +kernel
theorem dX6_tellsPin_82 : decode cX6_tellsPin 82 = .ok (.i2l, 1) := by decide +kernel
theorem dX6_tellsPin_83 : decode cX6_tellsPin 83 = .ok (.ladd, 1) := by decide +kernel
theorem dX6_tellsPin_84 : decode cX6_tellsPin 84 = .ok (.lreturn, 1) := by decide +kernel
theorem dX6_tellsTick_0 : decode cX6_tellsTick 0 = .ok (.ldc2_w 350, 3) := by decide +kernel
theorem dX6_tellsTick_3 : decode cX6_tellsTick 3 = .ok (.lload_n 1, 1) := by decide +kernel
theorem dX6_tellsTick_4 : decode cX6_tellsTick 4 = .ok (.lmul, 1) := by decide +kernel
theorem dX6_tellsTick_5 : decode cX6_tellsTick 5 = .ok (.aload_n 0, 1) := by decide +kernel
theorem dX6_tellsTick_6 : decode cX6_tellsTick 6 = .ok (.iload_n 3, 1) := by decide +kernel
theorem dX6_tellsTick_7 : decode cX6_tellsTick 7 = .ok (.iload 4, 2) := by decide +kernel
theorem dX6_tellsTick_9 : decode cX6_tellsTick 9 = .ok (.iconst 0, 1) := by decide +kernel
theorem dX6_tellsTick_10 : decode cX6_tellsTick 10 = .ok (.invokevirtual 245, 3) := by decide +kernel
theorem dX6_tellsTick_13 : decode cX6_tellsTick 13 = .ok (.i2l, 1) := by decide +kernel
theorem dX6_tellsTick_14 : decode cX6_tellsTick 14 = .ok (.ladd, 1) := by decide +kernel
theorem dX6_tellsTick_15 : decode cX6_tellsTick 15 = .ok (.lstore 5, 2) := by decide +kernel
theorem dX6_tellsTick_17 : decode cX6_tellsTick 17 = .ok (.ldc2_w 350, 3) := by decide +kernel
theorem dX6_tellsTick_20 : decode cX6_tellsTick 20 = .ok (.lload 5, 2) := by decide +kernel
theorem dX6_tellsTick_22 : decode cX6_tellsTick 22 = .ok (.lmul, 1) := by decide +kernel
theorem dX6_tellsTick_23 : decode cX6_tellsTick 23 = .ok (.aload_n 0, 1) := by decide +kernel
theorem dX6_tellsTick_24 : decode cX6_tellsTick 24 = .ok (.iload_n 3, 1) := by decide +kernel
theorem dX6_tellsTick_25 : decode cX6_tellsTick 25 = .ok (.iload 4, 2) := by decide +kernel
theorem dX6_tellsTick_27 : decode cX6_tellsTick 27 = .ok (.iconst 1, 1) := by decide +kernel
theorem dX6_tellsTick_28 : decode cX6_tellsTick 28 = .ok (.invokevirtual 245, 3) := by decide +kernel
theorem dX6_tellsTick_31 : decode cX6_tellsTick 31 = .ok (.i2l, 1) := by decide +kernel
theorem dX6_tellsTick_32 : decode cX6_tellsTick 32 = .ok (.ladd, 1) := by decide +kernel
theorem dX6_tellsTick_33 : decode cX6_tellsTick 33 = .ok (.lreturn, 1) := by decide +kernel
theorem dX6_tellsBall_0 : decode cX6_tellsBall 0 = .ok (.aload_n 0, 1) := by decide +kernel
theorem dX6_tellsBall_1 : decode cX6_tellsBall 1 = .ok (.invokevirtual 236, 3) := by decide +kernel
theorem dX6_tellsBall_4 : decode cX6_tellsBall 4 = .ok (.ldc2_w 350, 3) := by decide +kernel
theorem dX6_tellsBall_7 : decode cX6_tellsBall 7 = .ok (.lload_n 1, 1) := by decide +kernel
theorem dX6_tellsBall_8 : decode cX6_tellsBall 8 = .ok (.lmul, 1) := by decide +kernel
theorem dX6_tellsBall_9 : decode cX6_tellsBall 9 = .ok (.aload_n 0, 1) := by decide +kernel
theorem dX6_tellsBall_10 : decode cX6_tellsBall 10 = .ok (.getfield 34, 3) := by decide +kernel
theorem dX6_tellsBall_13 : decode cX6_tellsBall 13 = .ok (.iconst 2, 1) := by decide +kernel
theorem dX6_tellsBall_14 : decode cX6_tellsBall 14 = .ok (.iload_n 3, 1) := by decide +kernel
theorem dX6_tellsBall_15 : decode cX6_tellsBall 15 = .ok (.imul, 1) := by decide +kernel
theorem dX6_tellsBall_16 : decode cX6_tellsBall 16 = .ok (.iaload, 1) := by decide +kernel
theorem dX6_tellsBall_17 : decode cX6_tellsBall 17 = .ok (.i2l, 1) := by decide +kernel
theorem dX6_tellsBall_18 : decode cX6_tellsBall 18 = .ok (.ladd, 1) := by decide +kernel
theorem dX6_tellsBall_19 : decode cX6_tellsBall 19 = .ok (.lstore 4, 2) := by decide +kernel
theorem dX6_tellsBall_21 : decode cX6_tellsBall 21 = .ok (.ldc2_w 350, 3) := by decide +kernel
theorem dX6_tellsBall_24 : decode cX6_tellsBall 24 = .ok (.lload 4, 2) := by decide +kernel
theorem dX6_tellsBall_26 : decode cX6_tellsBall 26 = .ok (.lmul, 1) := by decide +kernel
theorem dX6_tellsBall_27 : decode cX6_tellsBall 27 = .ok (.aload_n 0, 1) := by decide +kernel
theorem dX6_tellsBall_28 : decode cX6_tellsBall 28 = .ok (.getfield 34, 3) := by decide +kernel
theorem dX6_tellsBall_31 : decode cX6_tellsBall 31 = .ok (.iconst 2, 1) := by decide +kernel
theorem dX6_tellsBall_32 : decode cX6_tellsBall 32 = .ok (.iload_n 3, 1) := by decide +kernel
theorem dX6_tellsBall_33 : decode cX6_tellsBall 33 = .ok (.imul, 1) := by decide +kernel
theorem dX6_tellsBall_34 : decode cX6_tellsBall 34 = .ok (.iconst 1, 1) := by decide +kernel
theorem dX6_tellsBall_35 : decode cX6_tellsBall 35 = .ok (.iadd, 1) := by decide +kernel
theorem dX6_tellsBall_36 : decode cX6_tellsBall 36 = .ok (.iaload, 1) := by decide +kernel
theorem dX6_tellsBall_37 : decode cX6_tellsBall 37 = .ok (.i2l, 1) := by decide +kernel
theorem dX6_tellsBall_38 : decode cX6_tellsBall 38 = .ok (.ladd, 1) := by decide +kernel
theorem dX6_tellsBall_39 : decode cX6_tellsBall 39 = .ok (.lstore 4, 2) := by decide +kernel
theorem dX6_tellsBall_41 : decode cX6_tellsBall 41 = .ok (.aload_n 0, 1) := by decide +kernel
theorem dX6_tellsBall_42 : decode cX6_tellsBall 42 = .ok (.aload_n 0, 1) := by decide +kernel
theorem dX6_tellsBall_43 : decode cX6_tellsBall 43 = .ok (.aload_n 0, 1) := by decide +kernel
theorem dX6_tellsBall_44 : decode cX6_tellsBall 44 = .ok (.aload_n 0, 1) := by decide +kernel
theorem dX6_tellsBall_45 : decode cX6_tellsBall 45 = .ok (.lload 4, 2) := by decide +kernel
theorem dX6_tellsBall_47 : decode cX6_tellsBall 47 = .ok (.iconst 0, 1) := by decide +kernel
theorem dX6_tellsBall_48 : decode cX6_tellsBall 48 = .ok (.iload_n 3, 1) := by decide +kernel
theorem dX6_tellsBall_49 : decode cX6_tellsBall 49 = .ok (.invokevirtual 352, 3) := by decide +kernel
theorem dX6_tellsBall_52 : decode cX6_tellsBall 52 = .ok (.bipush 6, 2) := by decide +kernel
theorem dX6_tellsBall_54 : decode cX6_tellsBall 54 = .ok (.iload_n 3, 1) := by decide +kernel
theorem dX6_tellsBall_55 : decode cX6_tellsBall 55 = .ok (.invokevirtual 352, 3) := by decide +kernel
theorem dX6_tellsBall_58 : decode cX6_tellsBall 58 = .ok (.bipush 13, 2) := by decide +kernel
theorem dX6_tellsBall_60 : decode cX6_tellsBall 60 = .ok (.iload_n 3, 1) := by decide +kernel
theorem dX6_tellsBall_61 : decode cX6_tellsBall 61 = .ok (.invokevirtual 352, 3) := by decide +kernel
theorem dX6_tellsBall_64 : decode cX6_tellsBall 64 = .ok (.bipush 23, 2) := by decide +kernel
theorem dX6_tellsBall_66 : decode cX6_tellsBall 66 = .ok (.iload_n 3, 1) := by decide +kernel
theorem dX6_tellsBall_67 : decode cX6_tellsBall 67 = .ok (.invokevirtual 352, 3) := by decide +kernel
theorem dX6_tellsBall_70 : decode cX6_tellsBall 70 = .ok (.lstore 4, 2) := by decide +kernel
theorem dX6_tellsBall_72 : decode cX6_tellsBall 72 = .ok (.iconst 0, 1) := by decide +kernel
theorem dX6_tellsBall_73 : decode cX6_tellsBall 73 = .ok (.istore 6, 2) := by decide +kernel
theorem dX6_tellsBall_75 : decode cX6_tellsBall 75 = .ok (.iload 6, 2) := by decide +kernel
theorem dX6_tellsBall_77 : decode cX6_tellsBall 77 = .ok (.iconst 3, 1) := by decide +kernel
theorem dX6_tellsBall_78 : decode cX6_tellsBall 78 = .ok (.if_icmp .ge 26, 3) := by decide +kernel
theorem dX6_tellsBall_81 : decode cX6_tellsBall 81 = .ok (.ldc2_w 350, 3) := by decide +kernel
theorem dX6_tellsBall_84 : decode cX6_tellsBall 84 = .ok (.lload 4, 2) := by decide +kernel
theorem dX6_tellsBall_86 : decode cX6_tellsBall 86 = .ok (.lmul, 1) := by decide +kernel
theorem dX6_tellsBall_87 : decode cX6_tellsBall 87 = .ok (.aload_n 0, 1) := by decide +kernel
theorem dX6_tellsBall_88 : decode cX6_tellsBall 88 = .ok (.iload_n 3, 1) := by decide +kernel
theorem dX6_tellsBall_89 : decode cX6_tellsBall 89 = .ok (.iload 6, 2) := by decide +kernel
theorem dX6_tellsBall_91 : decode cX6_tellsBall 91 = .ok (.invokevirtual 253, 3) := by decide +kernel
theorem dX6_tellsBall_94 : decode cX6_tellsBall 94 = .ok (.i2l, 1) := by decide +kernel
theorem dX6_tellsBall_95 : decode cX6_tellsBall 95 = .ok (.ladd, 1) := by decide +kernel
theorem dX6_tellsBall_96 : decode cX6_tellsBall 96 = .ok (.lstore 4, 2) := by decide +kernel
theorem dX6_tellsBall_98 : decode cX6_tellsBall 98 = .ok (.iinc 6 1, 3) := by decide +kernel
theorem dX6_tellsBall_101 : decode cX6_tellsBall 101 = .ok (.goto (-26), 3) := by decide +kernel
theorem dX6_tellsBall_104 : decode cX6_tellsBall 104 = .ok (.ldc2_w 350, 3) := by decide +kernel
theorem dX6_tellsBall_107 : decode cX6_tellsBall 107 = .ok (.lload 4, 2) := by decide +kernel
theorem dX6_tellsBall_109 : decode cX6_tellsBall 109 = .ok (.lmul, 1) := by decide +kernel
theorem dX6_tellsBall_110 : decode cX6_tellsBall 110 = .ok (.aload_n 0, 1) := by decide +kernel
theorem dX6_tellsBall_111 : decode cX6_tellsBall 111 = .ok (.iconst 2, 1) := by decide +kernel
theorem dX6_tellsBall_112 : decode cX6_tellsBall 112 = .ok (.iload_n 3, 1) := by decide +kernel
theorem dX6_tellsBall_113 : decode cX6_tellsBall 113 = .ok (.imul, 1) := by decide +kernel
theorem dX6_tellsBall_114 : decode cX6_tellsBall 114 = .ok (.iconst 1, 1) := by decide +kernel
theorem dX6_tellsBall_115 : decode cX6_tellsBall 115 = .ok (.iadd, 1) := by decide +kernel
theorem dX6_tellsBall_116 : decode cX6_tellsBall 116 = .ok (.iconst 1, 1) := by decide +kernel
theorem dX6_tellsBall_117 : decode cX6_tellsBall 117 = .ok (.bipush 10, 2) := by decide +kernel
theorem dX6_tellsBall_119 : decode cX6_tellsBall 119 = .ok (.iconst 0, 1) := by decide +kernel
theorem dX6_tellsBall_120 : decode cX6_tellsBall 120 = .ok (.invokevirtual 277, 3) := by decide +kernel
theorem dX6_tellsBall_123 : decode cX6_tellsBall 123 = .ok (.i2l, 1) := by decide +kernel
theorem dX6_tellsBall_124 : decode cX6_tellsBall 124 = .ok (.ladd, 1) := by decide +kernel
theorem dX6_tellsBall_125 : decode cX6_tellsBall 125 = .ok (.lstore 4, 2) := by decide +kernel
theorem dX6_tellsBall_127 : decode cX6_tellsBall 127 = .ok (.ldc2_w 350, 3) := by decide +kernel
theorem dX6_tellsBall_130 : decode cX6_tellsBall 130 = .ok (.lload 4, 2) := by decide +kernel
theorem dX6_tellsBall_132 : decode cX6_tellsBall 132 = .ok (.lmul, 1) := by decide +kernel
theorem dX6_tellsBall_133 : decode cX6_tellsBall 133 = .ok (.aload_n 0, 1) := by decide +kernel
theorem dX6_tellsBall_134 : decode cX6_tellsBall 134 = .ok (.iconst 2, 1) := by decide +kernel
theorem dX6_tellsBall_135 : decode cX6_tellsBall 135 = .ok (.iload_n 3, 1) := by decide +kernel
theorem dX6_tellsBall_136 : decode cX6_tellsBall 136 = .ok (.imul, 1) := by decide +kernel
theorem dX6_tellsBall_137 : decode cX6_tellsBall 137 = .ok (.iconst 1, 1) := by decide +kernel
theorem dX6_tellsBall_138 : decode cX6_tellsBall 138 = .ok (.iadd, 1) := by decide +kernel
theorem dX6_tellsBall_139 : decode cX6_tellsBall 139 = .ok (.iconst 1, 1) := by decide +kernel
theorem dX6_tellsBall_140 : decode cX6_tellsBall 140 = .ok (.bipush 10, 2) := by decide +kernel
theorem dX6_tellsBall_142 : decode cX6_tellsBall 142 = .ok (.iconst 1, 1) := by decide +kernel
theorem dX6_tellsBall_143 : decode cX6_tellsBall 143 = .ok (.invokevirtual 277, 3) := by decide +kernel
theorem dX6_tellsBall_146 : decode cX6_tellsBall 146 = .ok (.i2l, 1) := by decide +kernel
theorem dX6_tellsBall_147 : decode cX6_tellsBall 147 = .ok (.ladd, 1) := by decide +kernel
theorem dX6_tellsBall_148 : decode cX6_tellsBall 148 = .ok (.lstore 4, 2) := by decide +kernel
theorem dX6_tellsBall_150 : decode cX6_tellsBall 150 = .ok (.ldc2_w 350, 3) := by decide +kernel
theorem dX6_tellsBall_153 : decode cX6_tellsBall 153 = .ok (.lload 4, 2) := by decide +kernel
theorem dX6_tellsBall_155 : decode cX6_tellsBall 155 = .ok (.lmul, 1) := by decide +kernel
theorem dX6_tellsBall_156 : decode cX6_tellsBall 156 = .ok (.aload_n 0, 1) := by decide +kernel
theorem dX6_tellsBall_157 : decode cX6_tellsBall 157 = .ok (.iconst 2, 1) := by decide +kernel
theorem dX6_tellsBall_158 : decode cX6_tellsBall 158 = .ok (.iload_n 3, 1) := by decide +kernel
theorem dX6_tellsBall_159 : decode cX6_tellsBall 159 = .ok (.imul, 1) := by decide +kernel
theorem dX6_tellsBall_160 : decode cX6_tellsBall 160 = .ok (.iconst 0, 1) := by decide +kernel
theorem dX6_tellsBall_161 : decode cX6_tellsBall 161 = .ok (.bipush 24, 2) := by decide +kernel
theorem dX6_tellsBall_163 : decode cX6_tellsBall 163 = .ok (.iconst 0, 1) := by decide +kernel
theorem dX6_tellsBall_164 : decode cX6_tellsBall 164 = .ok (.invokevirtual 277, 3) := by decide +kernel
theorem dX6_tellsBall_167 : decode cX6_tellsBall 167 = .ok (.i2l, 1) := by decide +kernel
theorem dX6_tellsBall_168 : decode cX6_tellsBall 168 = .ok (.ladd, 1) := by decide +kernel
theorem dX6_tellsBall_169 : decode cX6_tellsBall 169 = .ok (.lstore 4, 2) := by decide +kernel
theorem dX6_tellsBall_171 : decode cX6_tellsBall 171 = .ok (.ldc2_w 350, 3) := by decide +kernel
theorem dX6_tellsBall_174 : decode cX6_tellsBall 174 = .ok (.lload 4, 2) := by decide +kernel
theorem dX6_tellsBall_176 : decode cX6_tellsBall 176 = .ok (.lmul, 1) := by decide +kernel
theorem dX6_tellsBall_177 : decode cX6_tellsBall 177 = .ok (.aload_n 0, 1) := by decide +kernel
theorem dX6_tellsBall_178 : decode cX6_tellsBall 178 = .ok (.iconst 2, 1) := by decide +kernel
theorem dX6_tellsBall_179 : decode cX6_tellsBall 179 = .ok (.iload_n 3, 1) := by decide +kernel
theorem dX6_tellsBall_180 : decode cX6_tellsBall 180 = .ok (.imul, 1) := by decide +kernel
theorem dX6_tellsBall_181 : decode cX6_tellsBall 181 = .ok (.iconst 0, 1) := by decide +kernel
theorem dX6_tellsBall_182 : decode cX6_tellsBall 182 = .ok (.bipush 24, 2) := by decide +kernel
theorem dX6_tellsBall_184 : decode cX6_tellsBall 184 = .ok (.iconst 1, 1) := by decide +kernel
theorem dX6_tellsBall_185 : decode cX6_tellsBall 185 = .ok (.invokevirtual 277, 3) := by decide +kernel
theorem dX6_tellsBall_188 : decode cX6_tellsBall 188 = .ok (.i2l, 1) := by decide +kernel
theorem dX6_tellsBall_189 : decode cX6_tellsBall 189 = .ok (.ladd, 1) := by decide +kernel
theorem dX6_tellsBall_190 : decode cX6_tellsBall 190 = .ok (.lstore 4, 2) := by decide +kernel
theorem dX6_tellsBall_192 : decode cX6_tellsBall 192 = .ok (.ldc2_w 350, 3) := by decide +kernel
theorem dX6_tellsBall_195 : decode cX6_tellsBall 195 = .ok (.lload 4, 2) := by decide +kernel
theorem dX6_tellsBall_197 : decode cX6_tellsBall 197 = .ok (.lmul, 1) := by decide +kernel
theorem dX6_tellsBall_198 : decode cX6_tellsBall 198 = .ok (.aload_n 0, 1) := by decide +kernel
theorem dX6_tellsBall_199 : decode cX6_tellsBall 199 = .ok (.iload_n 3, 1) := by decide +kernel
theorem dX6_tellsBall_200 : decode cX6_tellsBall 200 = .ok (.invokevirtual 304, 3) := by decide +kernel
theorem dX6_tellsBall_203 : decode cX6_tellsBall 203 = .ok (.i2l, 1) := by decide +kernel
theorem dX6_tellsBall_204 : decode cX6_tellsBall 204 = .ok (.ladd, 1) := by decide +kernel
theorem dX6_tellsBall_205 : decode cX6_tellsBall 205 = .ok (.lstore 4, 2) := by decide +kernel
theorem dX6_tellsBall_207 : decode cX6_tellsBall 207 = .ok (.ldc2_w 350, 3) := by decide +kernel
theorem dX6_tellsBall_210 : decode cX6_tellsBall 210 = .ok (.lload 4, 2) := by decide +kernel
theorem dX6_tellsBall_212 : decode cX6_tellsBall 212 = .ok (.lmul, 1) := by decide +kernel
theorem dX6_tellsBall_213 : decode cX6_tellsBall 213 = .ok (.aload_n 0, 1) := by decide +kernel
theorem dX6_tellsBall_214 : decode cX6_tellsBall 214 = .ok (.iload_n 3, 1) := by decide +kernel
theorem dX6_tellsBall_215 : decode cX6_tellsBall 215 = .ok (.invokevirtual 320, 3) := by decide +kernel
theorem dX6_tellsBall_218 : decode cX6_tellsBall 218 = .ok (.i2l, 1) := by decide +kernel
theorem dX6_tellsBall_219 : decode cX6_tellsBall 219 = .ok (.ladd, 1) := by decide +kernel
theorem dX6_tellsBall_220 : decode cX6_tellsBall 220 = .ok (.lstore 4, 2) := by decide +kernel
theorem dX6_tellsBall_222 : decode cX6_tellsBall 222 = .ok (.ldc2_w 350, 3) := by decide +kernel
theorem dX6_tellsBall_225 : decode cX6_tellsBall 225 = .ok (.lload 4, 2) := by decide +kernel
theorem dX6_tellsBall_227 : decode cX6_tellsBall 227 = .ok (.lmul, 1) := by decide +kernel
theorem dX6_tellsBall_228 : decode cX6_tellsBall 228 = .ok (.aload_n 0, 1) := by decide +kernel
theorem dX6_tellsBall_229 : decode cX6_tellsBall 229 = .ok (.iconst 5, 1) := by decide +kernel
theorem dX6_tellsBall_230 : decode cX6_tellsBall 230 = .ok (.iload_n 3, 1) := by decide +kernel
theorem dX6_tellsBall_231 : decode cX6_tellsBall 231 = .ok (.iconst 0, 1) := by decide +kernel
theorem dX6_tellsBall_232 : decode cX6_tellsBall 232 = .ok (.invokevirtual 329, 3) := by decide +kernel
theorem dX6_tellsBall_235 : decode cX6_tellsBall 235 = .ok (.ladd, 1) := by decide +kernel
theorem dX6_tellsBall_236 : decode cX6_tellsBall 236 = .ok (.lstore 4, 2) := by decide +kernel
theorem dX6_tellsBall_238 : decode cX6_tellsBall 238 = .ok (.ldc2_w 350, 3) := by decide +kernel
theorem dX6_tellsBall_241 : decode cX6_tellsBall 241 = .ok (.lload 4, 2) := by decide +kernel
theorem dX6_tellsBall_243 : decode cX6_tellsBall 243 = .ok (.lmul, 1) := by decide +kernel
theorem dX6_tellsBall_244 : decode cX6_tellsBall 244 = .ok (.aload_n 0, 1) := by decide +kernel
theorem dX6_tellsBall_245 : decode cX6_tellsBall 245 = .ok (.iconst 5, 1) := by decide +kernel
theorem dX6_tellsBall_246 : decode cX6_tellsBall 246 = .ok (.iload_n 3, 1) := by decide +kernel
theorem dX6_tellsBall_247 : decode cX6_tellsBall 247 = .ok (.iconst 1, 1) := by decide +kernel
theorem dX6_tellsBall_248 : decode cX6_tellsBall 248 = .ok (.invokevirtual 329, 3) := by decide +kernel
theorem dX6_tellsBall_251 : decode cX6_tellsBall 251 = .ok (.ladd, 1) := by decide +kernel
theorem dX6_tellsBall_252 : decode cX6_tellsBall 252 = .ok (.lreturn, 1) := by decide +kernel
theorem dX6_digest_0 : decode cX6_digest 0 = .ok (.ldc2_w 356, 3) := by decide +kernel
theorem dX6_digest_3 : decode cX6_digest 3 = .ok (.lstore_n 1, 1) := by decide +kernel
theorem dX6_digest_4 : decode cX6_digest 4 = .ok (.iconst 0, 1) := by decide +kernel
theorem dX6_digest_5 : decode cX6_digest 5 = .ok (.istore_n 3, 1) := by decide +kernel
theorem dX6_digest_6 : decode cX6_digest 6 = .ok (.iload_n 3, 1) := by decide +kernel
theorem dX6_digest_7 : decode cX6_digest 7 = .ok (.bipush 8, 2) := by decide +kernel
theorem dX6_digest_9 : decode cX6_digest 9 = .ok (.if_icmp .ge 22, 3) := by decide +kernel
theorem dX6_digest_12 : decode cX6_digest 12 = .ok (.ldc2_w 350, 3) := by decide +kernel
theorem dX6_digest_15 : decode cX6_digest 15 = .ok (.lload_n 1, 1) := by decide +kernel
theorem dX6_digest_16 : decode cX6_digest 16 = .ok (.lmul, 1) := by decide +kernel
theorem dX6_digest_17 : decode cX6_digest 17 = .ok (.aload_n 0, 1) := by decide +kernel
theorem dX6_digest_18 : decode cX6_digest 18 = .ok (.iload_n 3, 1) := by decide +kernel
theorem dX6_digest_19 : decode cX6_digest 19 = .ok (.invokevirtual 358, 3) := by decide +kernel
theorem dX6_digest_22 : decode cX6_digest 22 = .ok (.i2l, 1) := by decide +kernel
theorem dX6_digest_23 : decode cX6_digest 23 = .ok (.ladd, 1) := by decide +kernel
theorem dX6_digest_24 : decode cX6_digest 24 = .ok (.lstore_n 1, 1) := by decide +kernel
theorem dX6_digest_25 : decode cX6_digest 25 = .ok (.iinc 3 1, 3) := by decide +kernel
theorem dX6_digest_28 : decode cX6_digest 28 = .ok (.goto (-22), 3) := by decide +kernel
theorem dX6_digest_31 : decode cX6_digest 31 = .ok (.iconst 0, 1) := by decide +kernel
theorem dX6_digest_32 : decode cX6_digest 32 = .ok (.istore_n 3, 1) := by decide +kernel
theorem dX6_digest_33 : decode cX6_digest 33 = .ok (.iload_n 3, 1) := by decide +kernel
theorem dX6_digest_34 : decode cX6_digest 34 = .ok (.iconst 3, 1) := by decide +kernel
theorem dX6_digest_35 : decode cX6_digest 35 = .ok (.if_icmp .ge 22, 3) := by decide +kernel
theorem dX6_digest_38 : decode cX6_digest 38 = .ok (.ldc2_w 350, 3) := by decide +kernel
theorem dX6_digest_41 : decode cX6_digest 41 = .ok (.lload_n 1, 1) := by decide +kernel
theorem dX6_digest_42 : decode cX6_digest 42 = .ok (.lmul, 1) := by decide +kernel
theorem dX6_digest_43 : decode cX6_digest 43 = .ok (.aload_n 0, 1) := by decide +kernel
theorem dX6_digest_44 : decode cX6_digest 44 = .ok (.iload_n 3, 1) := by decide +kernel
theorem dX6_digest_45 : decode cX6_digest 45 = .ok (.invokevirtual 159, 3) := by decide +kernel
theorem dX6_digest_48 : decode cX6_digest 48 = .ok (.i2l, 1) := by decide +kernel
theorem dX6_digest_49 : decode cX6_digest 49 = .ok (.ladd, 1) := by decide +kernel
theorem dX6_digest_50 : decode cX6_digest 50 = .ok (.lstore_n 1, 1) := by decide +kernel
theorem dX6_digest_51 : decode cX6_digest 51 = .ok (.iinc 3 1, 3) := by decide +kernel
theorem dX6_digest_54 : decode cX6_digest 54 = .ok (.goto (-21), 3) := by decide +kernel
theorem dX6_digest_57 : decode cX6_digest 57 = .ok (.aload_n 0, 1) := by decide +kernel
theorem dX6_digest_58 : decode cX6_digest 58 = .ok (.invokevirtual 236, 3) := by decide +kernel
theorem dX6_digest_61 : decode cX6_digest 61 = .ok (.iconst 0, 1) := by decide +kernel
theorem dX6_digest_62 : decode cX6_digest 62 = .ok (.istore_n 3, 1) := by decide +kernel
theorem dX6_digest_63 : decode cX6_digest 63 = .ok (.iload_n 3, 1) := by decide +kernel
theorem dX6_digest_64 : decode cX6_digest 64 = .ok (.bipush 72, 2) := by decide +kernel
theorem dX6_digest_66 : decode cX6_digest 66 = .ok (.if_icmp .ge 31, 3) := by decide +kernel
theorem dX6_digest_69 : decode cX6_digest 69 = .ok (.ldc2_w 350, 3) := by decide +kernel
theorem dX6_digest_72 : decode cX6_digest 72 = .ok (.lload_n 1, 1) := by decide +kernel
theorem dX6_digest_73 : decode cX6_digest 73 = .ok (.lmul, 1) := by decide +kernel
theorem dX6_digest_74 : decode cX6_digest 74 = .ok (.aload_n 0, 1) := by decide +kernel
theorem dX6_digest_75 : decode cX6_digest 75 = .ok (.bipush 9, 2) := by decide +kernel
theorem dX6_digest_77 : decode cX6_digest 77 = .ok (.iload_n 3, 1) := by decide +kernel
theorem dX6_digest_78 : decode cX6_digest 78 = .ok (.bipush 9, 2) := by decide +kernel
theorem dX6_digest_80 : decode cX6_digest 80 = .ok (.idiv, 1) := by decide +kernel
theorem dX6_digest_81 : decode cX6_digest 81 = .ok (.iload_n 3, 1) := by decide +kernel
theorem dX6_digest_82 : decode cX6_digest 82 = .ok (.bipush 9, 2) := by decide +kernel
theorem dX6_digest_84 : decode cX6_digest 84 = .ok (.irem, 1) := by decide +kernel
theorem dX6_digest_85 : decode cX6_digest 85 = .ok (.invokevirtual 250, 3) := by decide +kernel
theorem dX6_digest_88 : decode cX6_digest 88 = .ok (.i2l, 1) := by decide +kernel
theorem dX6_digest_89 : decode cX6_digest 89 = .ok (.ladd, 1) := by decide +kernel
theorem dX6_digest_90 : decode cX6_digest 90 = .ok (.lstore_n 1, 1) := by decide +kernel
theorem dX6_digest_91 : decode cX6_digest 91 = .ok (.iinc 3 1, 3) := by decide +kernel
theorem dX6_digest_94 : decode cX6_digest 94 = .ok (.goto (-31), 3) := by decide +kernel
theorem dX6_digest_97 : decode cX6_digest 97 = .ok (.iconst 0, 1) := by decide +kernel
theorem dX6_digest_98 : decode cX6_digest 98 = .ok (.istore_n 3, 1) := by decide +kernel
theorem dX6_digest_99 : decode cX6_digest 99 = .ok (.iload_n 3, 1) := by decide +kernel
theorem dX6_digest_100 : decode cX6_digest 100 = .ok (.bipush 9, 2) := by decide +kernel
theorem dX6_digest_102 : decode cX6_digest 102 = .ok (.if_icmp .ge 39, 3) := by decide +kernel
theorem dX6_digest_105 : decode cX6_digest 105 = .ok (.iconst 0, 1) := by decide +kernel
theorem dX6_digest_106 : decode cX6_digest 106 = .ok (.istore 4, 2) := by decide +kernel
theorem dX6_digest_108 : decode cX6_digest 108 = .ok (.iload 4, 2) := by decide +kernel
theorem dX6_digest_110 : decode cX6_digest 110 = .ok (.iconst 3, 1) := by decide +kernel
theorem dX6_digest_111 : decode cX6_digest 111 = .ok (.if_icmp .ge 24, 3) := by decide +kernel
theorem dX6_digest_114 : decode cX6_digest 114 = .ok (.ldc2_w 350, 3) := by decide +kernel
theorem dX6_digest_117 : decode cX6_digest 117 = .ok (.lload_n 1, 1) := by decide +kernel
theorem dX6_digest_118 : decode cX6_digest 118 = .ok (.lmul, 1) := by decide +kernel
theorem dX6_digest_119 : decode cX6_digest 119 = .ok (.aload_n 0, 1) := by decide +kernel
theorem dX6_digest_120 : decode cX6_digest 120 = .ok (.iload_n 3, 1) := by decide +kernel
theorem dX6_digest_121 : decode cX6_digest 121 = .ok (.iload 4, 2) := by decide +kernel
theorem dX6_digest_123 : decode cX6_digest 123 = .ok (.invokevirtual 242, 3) := by decide +kernel
theorem dX6_digest_126 : decode cX6_digest 126 = .ok (.i2l, 1) := by decide +kernel
theorem dX6_digest_127 : decode cX6_digest 127 = .ok (.ladd, 1) := by decide +kernel
theorem dX6_digest_128 : decode cX6_digest 128 = .ok (.lstore_n 1, 1) := by decide +kernel
theorem dX6_digest_129 : decode cX6_digest 129 = .ok (.iinc 4 1, 3) := by decide +kernel
theorem dX6_digest_132 : decode cX6_digest 132 = .ok (.goto (-24), 3) := by decide +kernel
theorem dX6_digest_135 : decode cX6_digest 135 = .ok (.iinc 3 1, 3) := by decide +kernel
theorem dX6_digest_138 : decode cX6_digest 138 = .ok (.goto (-39), 3) := by decide +kernel
theorem dX6_digest_141 : decode cX6_digest 141 = .ok (.iconst 0, 1) := by decide +kernel
theorem dX6_digest_142 : decode cX6_digest 142 = .ok (.istore_n 3, 1) := by decide +kernel
theorem dX6_digest_143 : decode cX6_digest 143 = .ok (.iload_n 3, 1) := by decide +kernel
theorem dX6_digest_144 : decode cX6_digest 144 = .ok (.aload_n 0, 1) := by decide +kernel
theorem dX6_digest_145 : decode cX6_digest 145 = .ok (.getfield 127, 3) := by decide +kernel
theorem dX6_digest_148 : decode cX6_digest 148 = .ok (.if_icmp .ge 16, 3) := by decide +kernel
theorem dX6_digest_151 : decode cX6_digest 151 = .ok (.aload_n 0, 1) := by decide +kernel
theorem dX6_digest_152 : decode cX6_digest 152 = .ok (.lload_n 1, 1) := by decide +kernel
theorem dX6_digest_153 : decode cX6_digest 153 = .ok (.iload_n 3, 1) := by decide +kernel
theorem dX6_digest_154 : decode cX6_digest 154 = .ok (.invokevirtual 361, 3) := by decide +kernel
theorem dX6_digest_157 : decode cX6_digest 157 = .ok (.lstore_n 1, 1) := by decide +kernel
theorem dX6_digest_158 : decode cX6_digest 158 = .ok (.iinc 3 1, 3) := by decide +kernel
theorem dX6_digest_161 : decode cX6_digest 161 = .ok (.goto (-18), 3) := by decide +kernel
theorem dX6_digest_164 : decode cX6_digest 164 = .ok (.iconst 0, 1) := by decide +kernel
theorem dX6_digest_165 : decode cX6_digest 165 = .ok (.istore_n 3, 1) := by decide +kernel
theorem dX6_digest_166 : decode cX6_digest 166 = .ok (.iload_n 3, 1) := by decide +kernel
theorem dX6_digest_167 : decode cX6_digest 167 = .ok (.aload_n 0, 1) := by decide +kernel
theorem dX6_digest_168 : decode cX6_digest 168 = .ok (.getfield 143, 3) := by decide +kernel
theorem dX6_digest_171 : decode cX6_digest 171 = .ok (.if_icmp .ge 16, 3) := by decide +kernel
theorem dX6_digest_174 : decode cX6_digest 174 = .ok (.aload_n 0, 1) := by decide +kernel
theorem dX6_digest_175 : decode cX6_digest 175 = .ok (.lload_n 1, 1) := by decide +kernel
theorem dX6_digest_176 : decode cX6_digest 176 = .ok (.iload_n 3, 1) := by decide +kernel
theorem dX6_digest_177 : decode cX6_digest 177 = .ok (.invokevirtual 365, 3) := by decide +kernel
theorem dX6_digest_180 : decode cX6_digest 180 = .ok (.lstore_n 1, 1) := by decide +kernel
theorem dX6_digest_181 : decode cX6_digest 181 = .ok (.iinc 3 1, 3) := by decide +kernel
theorem dX6_digest_184 : decode cX6_digest 184 = .ok (.goto (-18), 3) := by decide +kernel
theorem dX6_digest_187 : decode cX6_digest 187 = .ok (.aload_n 0, 1) := by decide +kernel
theorem dX6_digest_188 : decode cX6_digest 188 = .ok (.invokevirtual 236, 3) := by decide +kernel
theorem dX6_digest_191 : decode cX6_digest 191 = .ok (.iconst 0, 1) := by decide +kernel
theorem dX6_digest_192 : decode cX6_digest 192 = .ok (.istore_n 3, 1) := by decide +kernel
theorem dX6_digest_193 : decode cX6_digest 193 = .ok (.iload_n 3, 1) := by decide +kernel
theorem dX6_digest_194 : decode cX6_digest 194 = .ok (.iconst 3, 1) := by decide +kernel
theorem dX6_digest_195 : decode cX6_digest 195 = .ok (.if_icmp .ge 22, 3) := by decide +kernel
theorem dX6_digest_198 : decode cX6_digest 198 = .ok (.ldc2_w 350, 3) := by decide +kernel
theorem dX6_digest_201 : decode cX6_digest 201 = .ok (.lload_n 1, 1) := by decide +kernel
theorem dX6_digest_202 : decode cX6_digest 202 = .ok (.lmul, 1) := by decide +kernel
theorem dX6_digest_203 : decode cX6_digest 203 = .ok (.aload_n 0, 1) := by decide +kernel
theorem dX6_digest_204 : decode cX6_digest 204 = .ok (.iload_n 3, 1) := by decide +kernel
theorem dX6_digest_205 : decode cX6_digest 205 = .ok (.invokevirtual 262, 3) := by decide +kernel
theorem dX6_digest_208 : decode cX6_digest 208 = .ok (.i2l, 1) := by decide +kernel
theorem dX6_digest_209 : decode cX6_digest 209 = .ok (.ladd, 1) := by decide +kernel
theorem dX6_digest_210 : decode cX6_digest 210 = .ok (.lstore_n 1, 1) := by decide +kernel
theorem dX6_digest_211 : decode cX6_digest 211 = .ok (.iinc 3 1, 3) := by decide +kernel
theorem dX6_digest_214 : decode cX6_digest 214 = .ok (.goto (-21), 3) := by decide +kernel
theorem dX6_digest_217 : decode cX6_digest 217 = .ok (.ldc2_w 350, 3) := by decide +kernel
theorem dX6_digest_220 : decode cX6_digest 220 = .ok (.lload_n 1, 1) := by decide +kernel
theorem dX6_digest_221 : decode cX6_digest 221 = .ok (.lmul, 1) := by decide +kernel
theorem dX6_digest_222 : decode cX6_digest 222 = .ok (.aload_n 0, 1) := by decide +kernel
theorem dX6_digest_223 : decode cX6_digest 223 = .ok (.invokevirtual 265, 3) := by decide +kernel
theorem dX6_digest_226 : decode cX6_digest 226 = .ok (.i2l, 1) := by decide +kernel
theorem dX6_digest_227 : decode cX6_digest 227 = .ok (.ladd, 1) := by decide +kernel
theorem dX6_digest_228 : decode cX6_digest 228 = .ok (.lstore_n 1, 1) := by decide +kernel
theorem dX6_digest_229 : decode cX6_digest 229 = .ok (.ldc2_w 350, 3) := by decide +kernel
theorem dX6_digest_232 : decode cX6_digest 232 = .ok (.lload_n 1, 1) := by decide +kernel
theorem dX6_digest_233 : decode cX6_digest 233 = .ok (.lmul, 1) := by decide +kernel
theorem dX6_digest_234 : decode cX6_digest 234 = .ok (.aload_n 0, 1) := by decide +kernel
theorem dX6_digest_235 : decode cX6_digest 235 = .ok (.invokevirtual 271, 3) := by decide +kernel
theorem dX6_digest_238 : decode cX6_digest 238 = .ok (.i2l, 1) := by decide +kernel
theorem dX6_digest_239 : decode cX6_digest 239 = .ok (.ladd, 1) := by decide +kernel
theorem dX6_digest_240 : decode cX6_digest 240 = .ok (.lstore_n 1, 1) := by decide +kernel
theorem dX6_digest_241 : decode cX6_digest 241 = .ok (.ldc2_w 350, 3) := by decide +kernel
theorem dX6_digest_244 : decode cX6_digest 244 = .ok (.lload_n 1, 1) := by decide +kernel
theorem dX6_digest_245 : decode cX6_digest 245 = .ok (.lmul, 1) := by decide +kernel
theorem dX6_digest_246 : decode cX6_digest 246 = .ok (.aload_n 0, 1) := by decide +kernel
theorem dX6_digest_247 : decode cX6_digest 247 = .ok (.iconst 0, 1) := by decide +kernel
theorem dX6_digest_248 : decode cX6_digest 248 = .ok (.invokevirtual 274, 3) := by decide +kernel
theorem dX6_digest_251 : decode cX6_digest 251 = .ok (.i2l, 1) := by decide +kernel
theorem dX6_digest_252 : decode cX6_digest 252 = .ok (.ladd, 1) := by decide +kernel
theorem dX6_digest_253 : decode cX6_digest 253 = .ok (.lstore_n 1, 1) := by decide +kernel
theorem dX6_digest_254 : decode cX6_digest 254 = .ok (.ldc2_w 350, 3) := by decide +kernel
theorem dX6_digest_257 : decode cX6_digest 257 = .ok (.lload_n 1, 1) := by decide +kernel
theorem dX6_digest_258 : decode cX6_digest 258 = .ok (.lmul, 1) := by decide +kernel
theorem dX6_digest_259 : decode cX6_digest 259 = .ok (.aload_n 0, 1) := by decide +kernel
theorem dX6_digest_260 : decode cX6_digest 260 = .ok (.iconst 1, 1) := by decide +kernel
theorem dX6_digest_261 : decode cX6_digest 261 = .ok (.invokevirtual 274, 3) := by decide +kernel
theorem dX6_digest_264 : decode cX6_digest 264 = .ok (.i2l, 1) := by decide +kernel
theorem dX6_digest_265 : decode cX6_digest 265 = .ok (.ladd, 1) := by decide +kernel
theorem dX6_digest_266 : decode cX6_digest 266 = .ok (.lstore_n 1, 1) := by decide +kernel
theorem dX6_digest_267 : decode cX6_digest 267 = .ok (.ldc2_w 350, 3) := by decide +kernel
theorem dX6_digest_270 : decode cX6_digest 270 = .ok (.lload_n 1, 1) := by decide +kernel
theorem dX6_digest_271 : decode cX6_digest 271 = .ok (.lmul, 1) := by decide +kernel
theorem dX6_digest_272 : decode cX6_digest 272 = .ok (.aload_n 0, 1) := by decide +kernel
theorem dX6_digest_273 : decode cX6_digest 273 = .ok (.iconst (-1), 1) := by decide +kernel
theorem dX6_digest_274 : decode cX6_digest 274 = .ok (.invokevirtual 289, 3) := by decide +kernel
theorem dX6_digest_277 : decode cX6_digest 277 = .ok (.i2l, 1) := by decide +kernel
theorem dX6_digest_278 : decode cX6_digest 278 = .ok (.ladd, 1) := by decide +kernel
theorem dX6_digest_279 : decode cX6_digest 279 = .ok (.lstore_n 1, 1) := by decide +kernel
theorem dX6_digest_280 : decode cX6_digest 280 = .ok (.ldc2_w 350, 3) := by decide +kernel
theorem dX6_digest_283 : decode cX6_digest 283 = .ok (.lload_n 1, 1) := by decide +kernel
theorem dX6_digest_284 : decode cX6_digest 284 = .ok (.lmul, 1) := by decide +kernel
theorem dX6_digest_285 : decode cX6_digest 285 = .ok (.aload_n 0, 1) := by decide +kernel
theorem dX6_digest_286 : decode cX6_digest 286 = .ok (.iconst 0, 1) := by decide +kernel
theorem dX6_digest_287 : decode cX6_digest 287 = .ok (.invokevirtual 289, 3) := by decide +kernel
theorem dX6_digest_290 : decode cX6_digest 290 = .ok (.i2l, 1) := by decide +kernel
theorem dX6_digest_291 : decode cX6_digest 291 = .ok (.ladd, 1) := by decide +kernel
theorem dX6_digest_292 : decode cX6_digest 292 = .ok (.lstore_n 1, 1) := by decide +kernel
theorem dX6_digest_293 : decode cX6_digest 293 = .ok (.ldc2_w 350, 3) := by decide +kernel
theorem dX6_digest_296 : decode cX6_digest 296 = .ok (.lload_n 1, 1) := by decide +kernel
theorem dX6_digest_297 : decode cX6_digest 297 = .ok (.lmul, 1) := by decide +kernel
theorem dX6_digest_298 : decode cX6_digest 298 = .ok (.aload_n 0, 1) := by decide +kernel
theorem dX6_digest_299 : decode cX6_digest 299 = .ok (.invokevirtual 301, 3) := by decide +kernel
theorem dX6_digest_302 : decode cX6_digest 302 = .ok (.i2l, 1) := by decide +kernel
theorem dX6_digest_303 : decode cX6_digest 303 = .ok (.ladd, 1) := by decide +kernel
theorem dX6_digest_304 : decode cX6_digest 304 = .ok (.lstore_n 1, 1) := by decide +kernel
theorem dX6_digest_305 : decode cX6_digest 305 = .ok (.ldc2_w 350, 3) := by decide +kernel
theorem dX6_digest_308 : decode cX6_digest 308 = .ok (.lload_n 1, 1) := by decide +kernel
theorem dX6_digest_309 : decode cX6_digest 309 = .ok (.lmul, 1) := by decide +kernel
theorem dX6_digest_310 : decode cX6_digest 310 = .ok (.aload_n 0, 1) := by decide +kernel
theorem dX6_digest_311 : decode cX6_digest 311 = .ok (.bipush 7, 2) := by decide +kernel
theorem dX6_digest_313 : decode cX6_digest 313 = .ok (.bipush 9, 2) := by decide +kernel
theorem dX6_digest_315 : decode cX6_digest 315 = .ok (.iconst 0, 1) := by decide +kernel
theorem dX6_digest_316 : decode cX6_digest 316 = .ok (.invokevirtual 344, 3) := by decide +kernel
theorem dX6_digest_319 : decode cX6_digest 319 = .ok (.i2l, 1) := by decide +kernel
theorem dX6_digest_320 : decode cX6_digest 320 = .ok (.ladd, 1) := by decide +kernel
theorem dX6_digest_321 : decode cX6_digest 321 = .ok (.lstore_n 1, 1) := by decide +kernel
theorem dX6_digest_322 : decode cX6_digest 322 = .ok (.ldc2_w 350, 3) := by decide +kernel
theorem dX6_digest_325 : decode cX6_digest 325 = .ok (.lload_n 1, 1) := by decide +kernel
theorem dX6_digest_326 : decode cX6_digest 326 = .ok (.lmul, 1) := by decide +kernel
theorem dX6_digest_327 : decode cX6_digest 327 = .ok (.aload_n 0, 1) := by decide +kernel
theorem dX6_digest_328 : decode cX6_digest 328 = .ok (.bipush 7, 2) := by decide +kernel
theorem dX6_digest_330 : decode cX6_digest 330 = .ok (.bipush 9, 2) := by decide +kernel
theorem dX6_digest_332 : decode cX6_digest 332 = .ok (.iconst 1, 1) := by decide +kernel
theorem dX6_digest_333 : decode cX6_digest 333 = .ok (.invokevirtual 344, 3) := by decide +kernel
theorem dX6_digest_336 : decode cX6_digest 336 = .ok (.i2l, 1) := by decide +kernel
theorem dX6_digest_337 : decode cX6_digest 337 = .ok (.ladd, 1) := by decide +kernel
theorem dX6_digest_338 : decode cX6_digest 338 = .ok (.lreturn, 1) := by decide +kernel
theorem dJ7_fill_53178_0 : decode cJ7_fill_53178 0 = .ok (.iconst 0, 1) := by decide +kernel
theorem dJ7_fill_53178_1 : decode cJ7_fill_53178 1 = .ok (.istore_n 2, 1) := by decide +kernel
theorem dJ7_fill_53178_2 : decode cJ7_fill_53178 2 = .ok (.aload_n 0, 1) := by decide +kernel
theorem dJ7_fill_53178_3 : decode cJ7_fill_53178 3 = .ok (.arraylength, 1) := by decide +kernel
theorem dJ7_fill_53178_4 : decode cJ7_fill_53178 4 = .ok (.istore_n 3, 1) := by decide +kernel
theorem dJ7_fill_53178_5 : decode cJ7_fill_53178 5 = .ok (.iload_n 2, 1) := by decide +kernel
theorem dJ7_fill_53178_6 : decode cJ7_fill_53178 6 = .ok (.iload_n 3, 1) := by decide +kernel
theorem dJ7_fill_53178_7 : decode cJ7_fill_53178 7 = .ok (.if_icmp .ge 13, 3) := by decide +kernel
theorem dJ7_fill_53178_10 : decode cJ7_fill_53178 10 = .ok (.aload_n 0, 1) := by decide +kernel
theorem dJ7_fill_53178_11 : decode cJ7_fill_53178 11 = .ok (.iload_n 2, 1) := by decide +kernel
theorem dJ7_fill_53178_12 : decode cJ7_fill_53178 12 = .ok (.iload_n 1, 1) := by decide +kernel
theorem dJ7_fill_53178_13 : decode cJ7_fill_53178 13 = .ok (.iastore, 1) := by decide +kernel
theorem dJ7_fill_53178_14 : decode cJ7_fill_53178 14 = .ok (.iinc 2 1, 3) := by decide +kernel
theorem dJ7_fill_53178_17 : decode cJ7_fill_53178 17 = .ok (.goto (-12), 3) := by decide +kernel
theorem dJ7_fill_53178_20 : decode cJ7_fill_53178 20 = .ok (.return_, 1) := by decide +kernel
theorem dJ6_bitCount_0f7a4_0 : decode cJ6_bitCount_0f7a4 0 = .ok (.iload_n 0, 1) := by decide +kernel
theorem dJ6_bitCount_0f7a4_1 : decode cJ6_bitCount_0f7a4 1 = .ok (.iload_n 0, 1) := by decide +kernel
theorem dJ6_bitCount_0f7a4_2 : decode cJ6_bitCount_0f7a4 2 = .ok (.iconst 1, 1) := by decide +kernel
theorem dJ6_bitCount_0f7a4_3 : decode cJ6_bitCount_0f7a4 3 = .ok (.iushr, 1) := by decide +kernel
theorem dJ6_bitCount_0f7a4_4 : decode cJ6_bitCount_0f7a4 4 = .ok (.ldc_w 265, 3) := by decide +kernel
theorem dJ6_bitCount_0f7a4_7 : decode cJ6_bitCount_0f7a4 7 = .ok (.iand, 1) := by decide +kernel
theorem dJ6_bitCount_0f7a4_8 : decode cJ6_bitCount_0f7a4 8 = .ok (.isub, 1) := by decide +kernel
theorem dJ6_bitCount_0f7a4_9 : decode cJ6_bitCount_0f7a4 9 = .ok (.istore_n 0, 1) := by decide +kernel
theorem dJ6_bitCount_0f7a4_10 : decode cJ6_bitCount_0f7a4 10 = .ok (.iload_n 0, 1) := by decide +kernel
theorem dJ6_bitCount_0f7a4_11 : decode cJ6_bitCount_0f7a4 11 = .ok (.ldc_w 266, 3) := by decide +kernel
theorem dJ6_bitCount_0f7a4_14 : decode cJ6_bitCount_0f7a4 14 = .ok (.iand, 1) := by decide +kernel
theorem dJ6_bitCount_0f7a4_15 : decode cJ6_bitCount_0f7a4 15 = .ok (.iload_n 0, 1) := by decide +kernel
theorem dJ6_bitCount_0f7a4_16 : decode cJ6_bitCount_0f7a4 16 = .ok (.iconst 2, 1) := by decide +kernel
theorem dJ6_bitCount_0f7a4_17 : decode cJ6_bitCount_0f7a4 17 = .ok (.iushr, 1) := by decide +kernel
theorem dJ6_bitCount_0f7a4_18 : decode cJ6_bitCount_0f7a4 18 = .ok (.ldc_w 266, 3) := by decide +kernel
theorem dJ6_bitCount_0f7a4_21 : decode cJ6_bitCount_0f7a4 21 = .ok (.iand, 1) := by decide +kernel
theorem dJ6_bitCount_0f7a4_22 : decode cJ6_bitCount_0f7a4 22 = .ok (.iadd, 1) := by decide +kernel
theorem dJ6_bitCount_0f7a4_23 : decode cJ6_bitCount_0f7a4 23 = .ok (.istore_n 0, 1) := by decide +kernel
theorem dJ6_bitCount_0f7a4_24 : decode cJ6_bitCount_0f7a4 24 = .ok (.iload_n 0, 1) := by decide +kernel
theorem dJ6_bitCount_0f7a4_25 : decode cJ6_bitCount_0f7a4 25 = .ok (.iload_n 0, 1) := by decide +kernel
theorem dJ6_bitCount_0f7a4_26 : decode cJ6_bitCount_0f7a4 26 = .ok (.iconst 4, 1) := by decide +kernel
theorem dJ6_bitCount_0f7a4_27 : decode cJ6_bitCount_0f7a4 27 = .ok (.iushr, 1) := by decide +kernel
theorem dJ6_bitCount_0f7a4_28 : decode cJ6_bitCount_0f7a4 28 = .ok (.iadd, 1) := by decide +kernel
theorem dJ6_bitCount_0f7a4_29 : decode cJ6_bitCount_0f7a4 29 = .ok (.ldc_w 267, 3) := by decide +kernel
theorem dJ6_bitCount_0f7a4_32 : decode cJ6_bitCount_0f7a4 32 = .ok (.iand, 1) := by decide +kernel
theorem dJ6_bitCount_0f7a4_33 : decode cJ6_bitCount_0f7a4 33 = .ok (.istore_n 0, 1) := by decide +kernel
theorem dJ6_bitCount_0f7a4_34 : decode cJ6_bitCount_0f7a4 34 = .ok (.iload_n 0, 1) := by decide +kernel
theorem dJ6_bitCount_0f7a4_35 : decode cJ6_bitCount_0f7a4 35 = .ok (.iload_n 0, 1) := by decide +kernel
theorem dJ6_bitCount_0f7a4_36 : decode cJ6_bitCount_0f7a4 36 = .ok (.bipush 8, 2) := by decide +kernel
theorem dJ6_bitCount_0f7a4_38 : decode cJ6_bitCount_0f7a4 38 = .ok (.iushr, 1) := by decide +kernel
theorem dJ6_bitCount_0f7a4_39 : decode cJ6_bitCount_0f7a4 39 = .ok (.iadd, 1) := by decide +kernel
theorem dJ6_bitCount_0f7a4_40 : decode cJ6_bitCount_0f7a4 40 = .ok (.istore_n 0, 1) := by decide +kernel
theorem dJ6_bitCount_0f7a4_41 : decode cJ6_bitCount_0f7a4 41 = .ok (.iload_n 0, 1) := by decide +kernel
theorem dJ6_bitCount_0f7a4_42 : decode cJ6_bitCount_0f7a4 42 = .ok (.iload_n 0, 1) := by decide +kernel
theorem dJ6_bitCount_0f7a4_43 : decode cJ6_bitCount_0f7a4 43 = .ok (.bipush 16, 2) := by decide +kernel
theorem dJ6_bitCount_0f7a4_45 : decode cJ6_bitCount_0f7a4 45 = .ok (.iushr, 1) := by decide +kernel
theorem dJ6_bitCount_0f7a4_46 : decode cJ6_bitCount_0f7a4 46 = .ok (.iadd, 1) := by decide +kernel
theorem dJ6_bitCount_0f7a4_47 : decode cJ6_bitCount_0f7a4 47 = .ok (.istore_n 0, 1) := by decide +kernel
theorem dJ6_bitCount_0f7a4_48 : decode cJ6_bitCount_0f7a4 48 = .ok (.iload_n 0, 1) := by decide +kernel
theorem dJ6_bitCount_0f7a4_49 : decode cJ6_bitCount_0f7a4 49 = .ok (.bipush 63, 2) := by decide +kernel
theorem dJ6_bitCount_0f7a4_51 : decode cJ6_bitCount_0f7a4 51 = .ok (.iand, 1) := by decide +kernel
theorem dJ6_bitCount_0f7a4_52 : decode cJ6_bitCount_0f7a4 52 = .ok (.ireturn, 1) := by decide +kernel
