theorem dX5_spare_29 : decode cX5_spare 29 = .ok (.iload_n 1, 1) := by decide +kernel
theorem dX5_spare_30 : decode cX5_spare 30 = .ok (.iconst (-1), 1) := by decide +kernel
theorem dX5_spare_31 : decode cX5_spare 31 = .ok (.if_icmp .ne 8, 3) := by decide +kernel
theorem dX5_spare_34 : decode cX5_spare 34 = .ok (.aload_n 0, 1) := by decide +kernel
theorem dX5_spare_35 : decode cX5_spare 35 = .ok (.getfield 71, 3) := by decide +kernel
theorem dX5_spare_38 : decode cX5_spare 38 = .ok (.ireturn, 1) := by decide +kernel
theorem dX5_spare_39 : decode cX5_spare 39 = .ok (.iload_n 1, 1) := by decide +kernel
theorem dX5_spare_40 : decode cX5_spare 40 = .ok (.ifCond .ne 10, 3) := by decide +kernel
theorem dX5_spare_43 : decode cX5_spare 43 = .ok (.aload_n 0, 1) := by decide +kernel
theorem dX5_spare_44 : decode cX5_spare 44 = .ok (.getfield 74, 3) := by decide +kernel
theorem dX5_spare_47 : decode cX5_spare 47 = .ok (.goto 7, 3) := by decide +kernel
theorem dX5_spare_50 : decode cX5_spare 50 = .ok (.aload_n 0, 1) := by decide +kernel
theorem dX5_spare_51 : decode cX5_spare 51 = .ok (.getfield 77, 3) := by decide +kernel
theorem dX5_spare_54 : decode cX5_spare 54 = .ok (.ireturn, 1) := by decide +kernel
theorem dX5_seen_0 : decode cX5_seen 0 = .ok (.iload_n 1, 1) := by decide +kernel
theorem dX5_seen_1 : decode cX5_seen 1 = .ok (.bipush 24, 2) := by decide +kernel
theorem dX5_seen_3 : decode cX5_seen 3 = .ok (.invokestatic 97, 3) := by decide +kernel
theorem dX5_seen_6 : decode cX5_seen 6 = .ok (.ifCond .eq 31, 3) := by decide +kernel
theorem dX5_seen_9 : decode cX5_seen 9 = .ok (.iload_n 2, 1) := by decide +kernel
theorem dX5_seen_10 : decode cX5_seen 10 = .ok (.bipush 8, 2) := by decide +kernel
theorem dX5_seen_12 : decode cX5_seen 12 = .ok (.invokestatic 97, 3) := by decide +kernel
theorem dX5_seen_15 : decode cX5_seen 15 = .ok (.ifCond .eq 22, 3) := by decide +kernel
theorem dX5_seen_18 : decode cX5_seen 18 = .ok (.iload_n 3, 1) := by decide +kernel
theorem dX5_seen_19 : decode cX5_seen 19 = .ok (.bipush 9, 2) := by decide +kernel
theorem dX5_seen_21 : decode cX5_seen 21 = .ok (.invokestatic 97, 3) := by decide +kernel
theorem dX5_seen_24 : decode cX5_seen 24 = .ok (.ifCond .eq 13, 3) := by decide +kernel
theorem dX5_seen_27 : decode cX5_seen 27 = .ok (.iload 4, 2) := by decide +kernel
theorem dX5_seen_29 : decode cX5_seen 29 = .ok (.bipush 13, 2) := by decide +kernel
theorem dX5_seen_31 : decode cX5_seen 31 = .ok (.invokestatic 97, 3) := by decide +kernel
theorem dX5_seen_34 : decode cX5_seen 34 = .ok (.ifCond .ne 6, 3) := by decide +kernel
theorem dX5_seen_37 : decode cX5_seen 37 = .ok (.bipush (-2), 2) := by decide +kernel
theorem dX5_seen_39 : decode cX5_seen 39 = .ok (.ireturn, 1) := by decide +kernel
theorem dX5_seen_40 : decode cX5_seen 40 = .ok (.aload_n 0, 1) := by decide +kernel
theorem dX5_seen_41 : decode cX5_seen 41 = .ok (.getfield 41, 3) := by decide +kernel
theorem dX5_seen_44 : decode cX5_seen 44 = .ok (.invokevirtual 154, 3) := by decide +kernel
theorem dX5_seen_47 : decode cX5_seen 47 = .ok (.ifCond .eq 6, 3) := by decide +kernel
theorem dX5_seen_50 : decode cX5_seen 50 = .ok (.bipush (-4), 2) := by decide +kernel
theorem dX5_seen_52 : decode cX5_seen 52 = .ok (.ireturn, 1) := by decide +kernel
theorem dX5_seen_53 : decode cX5_seen 53 = .ok (.aload_n 0, 1) := by decide +kernel
theorem dX5_seen_54 : decode cX5_seen 54 = .ok (.getfield 41, 3) := by decide +kernel
theorem dX5_seen_57 : decode cX5_seen 57 = .ok (.iload_n 1, 1) := by decide +kernel
theorem dX5_seen_58 : decode cX5_seen 58 = .ok (.iload_n 2, 1) := by decide +kernel
theorem dX5_seen_59 : decode cX5_seen 59 = .ok (.iload_n 3, 1) := by decide +kernel
theorem dX5_seen_60 : decode cX5_seen 60 = .ok (.iload 4, 2) := by decide +kernel
theorem dX5_seen_62 : decode cX5_seen 62 = .ok (.invokevirtual 158, 3) := by decide +kernel
theorem dX5_seen_65 : decode cX5_seen 65 = .ok (.aload_n 0, 1) := by decide +kernel
theorem dX5_seen_66 : decode cX5_seen 66 = .ok (.getfield 41, 3) := by decide +kernel
theorem dX5_seen_69 : decode cX5_seen 69 = .ok (.getfield 161, 3) := by decide +kernel
theorem dX5_seen_72 : decode cX5_seen 72 = .ok (.ireturn, 1) := by decide +kernel
theorem dX5_forget_0 : decode cX5_forget 0 = .ok (.aload_n 0, 1) := by decide +kernel
theorem dX5_forget_1 : decode cX5_forget 1 = .ok (.getfield 41, 3) := by decide +kernel
theorem dX5_forget_4 : decode cX5_forget 4 = .ok (.getfield 161, 3) := by decide +kernel
theorem dX5_forget_7 : decode cX5_forget 7 = .ok (.istore_n 1, 1) := by decide +kernel
theorem dX5_forget_8 : decode cX5_forget 8 = .ok (.aload_n 0, 1) := by decide +kernel
theorem dX5_forget_9 : decode cX5_forget 9 = .ok (.getfield 41, 3) := by decide +kernel
theorem dX5_forget_12 : decode cX5_forget 12 = .ok (.iconst 0, 1) := by decide +kernel
theorem dX5_forget_13 : decode cX5_forget 13 = .ok (.putfield 161, 3) := by decide +kernel
theorem dX5_forget_16 : decode cX5_forget 16 = .ok (.iload_n 1, 1) := by decide +kernel
theorem dX5_forget_17 : decode cX5_forget 17 = .ok (.ireturn, 1) := by decide +kernel
theorem dX1_agrees_0 : decode cX1_agrees 0 = .ok (.iconst 0, 1) := by decide +kernel
theorem dX1_agrees_1 : decode cX1_agrees 1 = .ok (.istore_n 2, 1) := by decide +kernel
theorem dX1_agrees_2 : decode cX1_agrees 2 = .ok (.iload_n 2, 1) := by decide +kernel
theorem dX1_agrees_3 : decode cX1_agrees 3 = .ok (.aload_n 1, 1) := by decide +kernel
theorem dX1_agrees_4 : decode cX1_agrees 4 = .ok (.getfield 117, 3) := by decide +kernel
theorem dX1_agrees_7 : decode cX1_agrees 7 = .ok (.if_icmp .ge 63, 3) := by decide +kernel
theorem dX1_agrees_10 : decode cX1_agrees 10 = .ok (.aload_n 1, 1) := by decide +kernel
theorem dX1_agrees_11 : decode cX1_agrees 11 = .ok (.iload_n 2, 1) := by decide +kernel
theorem dX1_agrees_12 : decode cX1_agrees 12 = .ok (.iconst 1, 1) := by decide +kernel
theorem dX1_agrees_13 : decode cX1_agrees 13 = .ok (.invokevirtual 122, 3) := by decide +kernel
theorem dX1_agrees_16 : decode cX1_agrees 16 = .ok (.bipush 9, 2) := by decide +kernel
theorem dX1_agrees_18 : decode cX1_agrees 18 = .ok (.imul, 1) := by decide +kernel
theorem dX1_agrees_19 : decode cX1_agrees 19 = .ok (.aload_n 1, 1) := by decide +kernel
theorem dX1_agrees_20 : decode cX1_agrees 20 = .ok (.iload_n 2, 1) := by decide +kernel
theorem dX1_agrees_21 : decode cX1_agrees 21 = .ok (.iconst 2, 1) := by decide +kernel
theorem dX1_agrees_22 : decode cX1_agrees 22 = .ok (.invokevirtual 122, 3) := by decide +kernel
theorem dX1_agrees_25 : decode cX1_agrees 25 = .ok (.iadd, 1) := by decide +kernel
theorem dX1_agrees_26 : decode cX1_agrees 26 = .ok (.istore_n 3, 1) := by decide +kernel
theorem dX1_agrees_27 : decode cX1_agrees 27 = .ok (.aload_n 0, 1) := by decide +kernel
theorem dX1_agrees_28 : decode cX1_agrees 28 = .ok (.aload_n 1, 1) := by decide +kernel
theorem dX1_agrees_29 : decode cX1_agrees 29 = .ok (.iload_n 2, 1) := by decide +kernel
theorem dX1_agrees_30 : decode cX1_agrees 30 = .ok (.iconst 0, 1) := by decide +kernel
theorem dX1_agrees_31 : decode cX1_agrees 31 = .ok (.invokevirtual 122, 3) := by decide +kernel
theorem dX1_agrees_34 : decode cX1_agrees 34 = .ok (.iload_n 3, 1) := by decide +kernel
theorem dX1_agrees_35 : decode cX1_agrees 35 = .ok (.invokevirtual 155, 3) := by decide +kernel
theorem dX1_agrees_38 : decode cX1_agrees 38 = .ok (.istore 4, 2) := by decide +kernel
theorem dX1_agrees_40 : decode cX1_agrees 40 = .ok (.iload 4, 2) := by decide +kernel
theorem dX1_agrees_42 : decode cX1_agrees 42 = .ok (.iconst (-1), 1) := by decide +kernel
theorem dX1_agrees_43 : decode cX1_agrees 43 = .ok (.if_icmp .ne 8, 3) := by decide +kernel
theorem dX1_agrees_46 : decode cX1_agrees 46 = .ok (.bipush 12, 2) := by decide +kernel
theorem dX1_agrees_48 : decode cX1_agrees 48 = .ok (.goto 5, 3) := by decide +kernel
theorem dX1_agrees_51 : decode cX1_agrees 51 = .ok (.iload 4, 2) := by decide +kernel
theorem dX1_agrees_53 : decode cX1_agrees 53 = .ok (.aload_n 1, 1) := by decide +kernel
theorem dX1_agrees_54 : decode cX1_agrees 54 = .ok (.iload_n 2, 1) := by decide +kernel
theorem dX1_agrees_55 : decode cX1_agrees 55 = .ok (.iconst 3, 1) := by decide +kernel
theorem dX1_agrees_56 : decode cX1_agrees 56 = .ok (.invokevirtual 122, 3) := by decide +kernel
theorem dX1_agrees_59 : decode cX1_agrees 59 = .ok (.if_icmp .eq 5, 3) := by decide +kernel
theorem dX1_agrees_62 : decode cX1_agrees 62 = .ok (.iconst 0, 1) := by decide +kernel
theorem dX1_agrees_63 : decode cX1_agrees 63 = .ok (.ireturn, 1) := by decide +kernel
theorem dX1_agrees_64 : decode cX1_agrees 64 = .ok (.iinc 2 1, 3) := by decide +kernel
theorem dX1_agrees_67 : decode cX1_agrees 67 = .ok (.goto (-65), 3) := by decide +kernel
theorem dX1_agrees_70 : decode cX1_agrees 70 = .ok (.iconst 1, 1) := by decide +kernel
theorem dX1_agrees_71 : decode cX1_agrees 71 = .ok (.ireturn, 1) := by decide +kernel
theorem dX5_never_0 : decode cX5_never 0 = .ok (.aload_n 0, 1) := by decide +kernel
theorem dX5_never_1 : decode cX5_never 1 = .ok (.getfield 35, 3) := by decide +kernel
theorem dX5_never_4 : decode cX5_never 4 = .ok (.invokevirtual 215, 3) := by decide +kernel
theorem dX5_never_7 : decode cX5_never 7 = .ok (.aload_n 0, 1) := by decide +kernel
theorem dX5_never_8 : decode cX5_never 8 = .ok (.getfield 35, 3) := by decide +kernel
theorem dX5_never_11 : decode cX5_never 11 = .ok (.getfield 218, 3) := by decide +kernel
theorem dX5_never_14 : decode cX5_never 14 = .ok (.istore_n 1, 1) := by decide +kernel
theorem dX5_never_15 : decode cX5_never 15 = .ok (.iconst 0, 1) := by decide +kernel
theorem dX5_never_16 : decode cX5_never 16 = .ok (.istore_n 2, 1) := by decide +kernel
theorem dX5_never_17 : decode cX5_never 17 = .ok (.iconst 0, 1) := by decide +kernel
theorem dX5_never_18 : decode cX5_never 18 = .ok (.istore_n 3, 1) := by decide +kernel
theorem dX5_never_19 : decode cX5_never 19 = .ok (.iload_n 3, 1) := by decide +kernel
theorem dX5_never_20 : decode cX5_never 20 = .ok (.aload_n 0, 1) := by decide +kernel
theorem dX5_never_21 : decode cX5_never 21 = .ok (.getfield 22, 3) := by decide +kernel
theorem dX5_never_24 : decode cX5_never 24 = .ok (.getfield 151, 3) := by decide +kernel
theorem dX5_never_27 : decode cX5_never 27 = .ok (.getfield 161, 3) := by decide +kernel
theorem dX5_never_30 : decode cX5_never 30 = .ok (.if_icmp .ge 50, 3) := by decide +kernel
theorem dX5_never_33 : decode cX5_never 33 = .ok (.aload_n 0, 1) := by decide +kernel
theorem dX5_never_34 : decode cX5_never 34 = .ok (.getfield 35, 3) := by decide +kernel
theorem dX5_never_37 : decode cX5_never 37 = .ok (.iload_n 1, 1) := by decide +kernel
theorem dX5_never_38 : decode cX5_never 38 = .ok (.iconst 1, 1) := by decide +kernel
theorem dX5_never_39 : decode cX5_never 39 = .ok (.iload_n 3, 1) := by decide +kernel
theorem dX5_never_40 : decode cX5_never 40 = .ok (.ishl, 1) := by decide +kernel
theorem dX5_never_41 : decode cX5_never 41 = .ok (.iconst (-1), 1) := by decide +kernel
theorem dX5_never_42 : decode cX5_never 42 = .ok (.ixor, 1) := by decide +kernel
theorem dX5_never_43 : decode cX5_never 43 = .ok (.iand, 1) := by decide +kernel
theorem dX5_never_44 : decode cX5_never 44 = .ok (.putfield 218, 3) := by decide +kernel
theorem dX5_never_47 : decode cX5_never 47 = .ok (.aload_n 0, 1) := by decide +kernel
theorem dX5_never_48 : decode cX5_never 48 = .ok (.getfield 35, 3) := by decide +kernel
theorem dX5_never_51 : decode cX5_never 51 = .ok (.invokevirtual 221, 3) := by decide +kernel
theorem dX5_never_54 : decode cX5_never 54 = .ok (.aload_n 0, 1) := by decide +kernel
theorem dX5_never_55 : decode cX5_never 55 = .ok (.getfield 35, 3) := by decide +kernel
theorem dX5_never_58 : decode cX5_never 58 = .ok (.aload_n 0, 1) := by decide +kernel
theorem dX5_never_59 : decode cX5_never 59 = .ok (.getfield 41, 3) := by decide +kernel
theorem dX5_never_62 : decode cX5_never 62 = .ok (.invokevirtual 224, 3) := by decide +kernel
theorem dX5_never_65 : decode cX5_never 65 = .ok (.ifCond .eq 9, 3) := by decide +kernel
theorem dX5_never_68 : decode cX5_never 68 = .ok (.iload_n 2, 1) := by decide +kernel
theorem dX5_never_69 : decode cX5_never 69 = .ok (.iconst 1, 1) := by decide +kernel
theorem dX5_never_70 : decode cX5_never 70 = .ok (.iload_n 3, 1) := by decide +kernel
theorem dX5_never_71 : decode cX5_never 71 = .ok (.ishl, 1) := by decide +kernel
theorem dX5_never_72 : decode cX5_never 72 = .ok (.ior, 1) := by decide +kernel
theorem dX5_never_73 : decode cX5_never 73 = .ok (.istore_n 2, 1) := by decide +kernel
theorem dX5_never_74 : decode cX5_never 74 = .ok (.iinc 3 1, 3) := by decide +kernel
theorem dX5_never_77 : decode cX5_never 77 = .ok (.goto (-58), 3) := by decide +kernel
theorem dX5_never_80 : decode cX5_never 80 = .ok (.iload_n 2, 1) := by decide +kernel
theorem dX5_never_81 : decode cX5_never 81 = .ok (.ireturn, 1) := by decide +kernel
theorem dX5_agreeing_0 : decode cX5_agreeing 0 = .ok (.aload_n 0, 1) := by decide +kernel
theorem dX5_agreeing_1 : decode cX5_agreeing 1 = .ok (.getfield 35, 3) := by decide +kernel
theorem dX5_agreeing_4 : decode cX5_agreeing 4 = .ok (.invokevirtual 215, 3) := by decide +kernel
theorem dX5_agreeing_7 : decode cX5_agreeing 7 = .ok (.iconst 0, 1) := by decide +kernel
theorem dX5_agreeing_8 : decode cX5_agreeing 8 = .ok (.istore_n 3, 1) := by decide +kernel
theorem dX5_agreeing_9 : decode cX5_agreeing 9 = .ok (.getstatic 381, 3) := by decide +kernel
theorem dX5_agreeing_12 : decode cX5_agreeing 12 = .ok (.iload_n 1, 1) := by decide +kernel
theorem dX5_agreeing_13 : decode cX5_agreeing 13 = .ok (.iaload, 1) := by decide +kernel
theorem dX5_agreeing_14 : decode cX5_agreeing 14 = .ok (.istore 4, 2) := by decide +kernel
theorem dX5_agreeing_16 : decode cX5_agreeing 16 = .ok (.iload 4, 2) := by decide +kernel
theorem dX5_agreeing_18 : decode cX5_agreeing 18 = .ok (.getstatic 384, 3) := by decide +kernel
theorem dX5_agreeing_21 : decode cX5_agreeing 21 = .ok (.iload_n 1, 1) := by decide +kernel
theorem dX5_agreeing_22 : decode cX5_agreeing 22 = .ok (.iaload, 1) := by decide +kernel
theorem dX5_agreeing_23 : decode cX5_agreeing 23 = .ok (.if_icmp .gt 48, 3) := by decide +kernel
theorem dX5_agreeing_26 : decode cX5_agreeing 26 = .ok (.aload_n 0, 1) := by decide +kernel
theorem dX5_agreeing_27 : decode cX5_agreeing 27 = .ok (.getfield 35, 3) := by decide +kernel
theorem dX5_agreeing_30 : decode cX5_agreeing 30 = .ok (.iload_n 1, 1) := by decide +kernel
theorem dX5_agreeing_31 : decode cX5_agreeing 31 = .ok (.iload_n 2, 1) := by decide +kernel
theorem dX5_agreeing_32 : decode cX5_agreeing 32 = .ok (.iload 4, 2) := by decide +kernel
theorem dX5_agreeing_34 : decode cX5_agreeing 34 = .ok (.invokevirtual 387, 3) := by decide +kernel
theorem dX5_agreeing_37 : decode cX5_agreeing 37 = .ok (.aload_n 0, 1) := by decide +kernel
theorem dX5_agreeing_38 : decode cX5_agreeing 38 = .ok (.getfield 35, 3) := by decide +kernel
theorem dX5_agreeing_41 : decode cX5_agreeing 41 = .ok (.invokevirtual 221, 3) := by decide +kernel
theorem dX5_agreeing_44 : decode cX5_agreeing 44 = .ok (.aload_n 0, 1) := by decide +kernel
theorem dX5_agreeing_45 : decode cX5_agreeing 45 = .ok (.getfield 35, 3) := by decide +kernel
theorem dX5_agreeing_48 : decode cX5_agreeing 48 = .ok (.aload_n 0, 1) := by decide +kernel
theorem dX5_agreeing_49 : decode cX5_agreeing 49 = .ok (.getfield 41, 3) := by decide +kernel
theorem dX5_agreeing_52 : decode cX5_agreeing 52 = .ok (.invokevirtual 224, 3) := by decide +kernel
theorem dX5_agreeing_55 : decode cX5_agreeing 55 = .ok (.ifCond .eq 10, 3) := by decide +kernel
theorem dX5_agreeing_58 : decode cX5_agreeing 58 = .ok (.iload_n 3, 1) := by decide +kernel
theorem dX5_agreeing_59 : decode cX5_agreeing 59 = .ok (.iconst 1, 1) := by decide +kernel
theorem dX5_agreeing_60 : decode cX5_agreeing 60 = .ok (.iload 4, 2) := by decide +kernel
theorem dX5_agreeing_62 : decode cX5_agreeing 62 = .ok (.ishl, 1) := by decide +kernel
theorem dX5_agreeing_63 : decode cX5_agreeing 63 = .ok (.ior, 1) := by decide +kernel
theorem dX5_agreeing_64 : decode cX5_agreeing 64 = .ok (.istore_n 3, 1) := by decide +kernel
theorem dX5_agreeing_65 : decode cX5_agreeing 65 = .ok (.iinc 4 1, 3) := by decide +kernel
theorem dX5_agreeing_68 : decode cX5_agreeing 68 = .ok (.goto (-52), 3) := by decide +kernel
theorem dX5_agreeing_71 : decode cX5_agreeing 71 = .ok (.iload_n 3, 1) := by decide +kernel
theorem dX5_agreeing_72 : decode cX5_agreeing 72 = .ok (.ireturn, 1) := by decide +kernel
theorem dX5_forces_0 : decode cX5_forces 0 = .ok (.iload_n 1, 1) := by decide +kernel
theorem dX5_forces_1 : decode cX5_forces 1 = .ok (.aload_n 0, 1) := by decide +kernel
theorem dX5_forces_2 : decode cX5_forces 2 = .ok (.getfield 22, 3) := by decide +kernel
theorem dX5_forces_5 : decode cX5_forces 5 = .ok (.getfield 132, 3) := by decide +kernel
theorem dX5_forces_8 : decode cX5_forces 8 = .ok (.invokestatic 97, 3) := by decide +kernel
theorem dX5_forces_11 : decode cX5_forces 11 = .ok (.ifCond .eq 12, 3) := by decide +kernel
theorem dX5_forces_14 : decode cX5_forces 14 = .ok (.aload_n 0, 1) := by decide +kernel
theorem dX5_forces_15 : decode cX5_forces 15 = .ok (.iconst 0, 1) := by decide +kernel
theorem dX5_forces_16 : decode cX5_forces 16 = .ok (.iload_n 1, 1) := by decide +kernel
theorem dX5_forces_17 : decode cX5_forces 17 = .ok (.invokevirtual 228, 3) := by decide +kernel
theorem dX5_forces_20 : decode cX5_forces 20 = .ok (.goto 5, 3) := by decide +kernel
theorem dX5_forces_23 : decode cX5_forces 23 = .ok (.bipush (-2), 2) := by decide +kernel
theorem dX5_forces_25 : decode cX5_forces 25 = .ok (.ireturn, 1) := by decide +kernel
theorem dX5_kind_0 : decode cX5_kind 0 = .ok (.iload_n 1, 1) := by decide +kernel
theorem dX5_kind_1 : decode cX5_kind 1 = .ok (.aload_n 0, 1) := by decide +kernel
theorem dX5_kind_2 : decode cX5_kind 2 = .ok (.getfield 22, 3) := by decide +kernel
theorem dX5_kind_5 : decode cX5_kind 5 = .ok (.getfield 111, 3) := by decide +kernel
theorem dX5_kind_8 : decode cX5_kind 8 = .ok (.invokestatic 97, 3) := by decide +kernel
theorem dX5_kind_11 : decode cX5_kind 11 = .ok (.ifCond .eq 12, 3) := by decide +kernel
theorem dX5_kind_14 : decode cX5_kind 14 = .ok (.aload_n 0, 1) := by decide +kernel
theorem dX5_kind_15 : decode cX5_kind 15 = .ok (.iconst 2, 1) := by decide +kernel
theorem dX5_kind_16 : decode cX5_kind 16 = .ok (.iload_n 1, 1) := by decide +kernel
theorem dX5_kind_17 : decode cX5_kind 17 = .ok (.invokevirtual 228, 3) := by decide +kernel
theorem dX5_kind_20 : decode cX5_kind 20 = .ok (.goto 5, 3) := by decide +kernel
theorem dX5_kind_23 : decode cX5_kind 23 = .ok (.bipush (-2), 2) := by decide +kernel
theorem dX5_kind_25 : decode cX5_kind 25 = .ok (.ireturn, 1) := by decide +kernel
theorem dX1_mark_0 : decode cX1_mark 0 = .ok (.lconst 0, 1) := by decide +kernel
theorem dX1_mark_1 : decode cX1_mark 1 = .ok (.lstore_n 3, 1) := by decide +kernel
theorem dX1_mark_2 : decode cX1_mark 2 = .ok (.iload_n 2, 1) := by decide +kernel
theorem dX1_mark_3 : decode cX1_mark 3 = .ok (.istore 5, 2) := by decide +kernel
theorem dX1_mark_5 : decode cX1_mark 5 = .ok (.iload 5, 2) := by decide +kernel
theorem dX1_mark_7 : decode cX1_mark 7 = .ok (.iload_n 2, 1) := by decide +kernel
theorem dX1_mark_8 : decode cX1_mark 8 = .ok (.bipush 6, 2) := by decide +kernel
theorem dX1_mark_10 : decode cX1_mark 10 = .ok (.iadd, 1) := by decide +kernel
theorem dX1_mark_11 : decode cX1_mark 11 = .ok (.if_icmp .ge 30, 3) := by decide +kernel
theorem dX1_mark_14 : decode cX1_mark 14 = .ok (.lload_n 3, 1) := by decide +kernel
theorem dX1_mark_15 : decode cX1_mark 15 = .ok (.bipush 8, 2) := by decide +kernel
theorem dX1_mark_17 : decode cX1_mark 17 = .ok (.lshl, 1) := by decide +kernel
theorem dX1_mark_18 : decode cX1_mark 18 = .ok (.aload_n 0, 1) := by decide +kernel
theorem dX1_mark_19 : decode cX1_mark 19 = .ok (.getfield 43, 3) := by decide +kernel
theorem dX1_mark_22 : decode cX1_mark 22 = .ok (.iload_n 1, 1) := by decide +kernel
theorem dX1_mark_23 : decode cX1_mark 23 = .ok (.bipush 12, 2) := by decide +kernel
theorem dX1_mark_25 : decode cX1_mark 25 = .ok (.imul, 1) := by decide +kernel
theorem dX1_mark_26 : decode cX1_mark 26 = .ok (.iload 5, 2) := by decide +kernel
theorem dX1_mark_28 : decode cX1_mark 28 = .ok (.iadd, 1) := by decide +kernel
theorem dX1_mark_29 : decode cX1_mark 29 = .ok (.iaload, 1) := by decide +kernel
theorem dX1_mark_30 : decode cX1_mark 30 = .ok (.iconst 1, 1) := by decide +kernel
theorem dX1_mark_31 : decode cX1_mark 31 = .ok (.iadd, 1) := by decide +kernel
theorem dX1_mark_32 : decode cX1_mark 32 = .ok (.i2l, 1) := by decide +kernel
theorem dX1_mark_33 : decode cX1_mark 33 = .ok (.lor, 1) := by decide +kernel
theorem dX1_mark_34 : decode cX1_mark 34 = .ok (.lstore_n 3, 1) := by decide +kernel
theorem dX1_mark_35 : decode cX1_mark 35 = .ok (.iinc 5 1, 3) := by decide +kernel
theorem dX1_mark_38 : decode cX1_mark 38 = .ok (.goto (-33), 3) := by decide +kernel
theorem dX1_mark_41 : decode cX1_mark 41 = .ok (.lload_n 3, 1) := by decide +kernel
theorem dX1_mark_42 : decode cX1_mark 42 = .ok (.lreturn, 1) := by decide +kernel
theorem dX5_markForces_0 : decode cX5_markForces 0 = .ok (.aload_n 0, 1) := by decide +kernel
theorem dX5_markForces_1 : decode cX5_markForces 1 = .ok (.getfield 35, 3) := by decide +kernel
theorem dX5_markForces_4 : decode cX5_markForces 4 = .ok (.invokevirtual 215, 3) := by decide +kernel
theorem dX5_markForces_7 : decode cX5_markForces 7 = .ok (.iconst 0, 1) := by decide +kernel
theorem dX5_markForces_8 : decode cX5_markForces 8 = .ok (.istore_n 2, 1) := by decide +kernel
theorem dX5_markForces_9 : decode cX5_markForces 9 = .ok (.iconst 1, 1) := by decide +kernel
theorem dX5_markForces_10 : decode cX5_markForces 10 = .ok (.istore_n 3, 1) := by decide +kernel
theorem dX5_markForces_11 : decode cX5_markForces 11 = .ok (.iload_n 3, 1) := by decide +kernel
theorem dX5_markForces_12 : decode cX5_markForces 12 = .ok (.bipush 9, 2) := by decide +kernel
theorem dX5_markForces_14 : decode cX5_markForces 14 = .ok (.if_icmp .gt 110, 3) := by decide +kernel
theorem dX5_markForces_17 : decode cX5_markForces 17 = .ok (.aload_n 0, 1) := by decide +kernel
theorem dX5_markForces_18 : decode cX5_markForces 18 = .ok (.getfield 35, 3) := by decide +kernel
theorem dX5_markForces_21 : decode cX5_markForces 21 = .ok (.iconst 0, 1) := by decide +kernel
theorem dX5_markForces_22 : decode cX5_markForces 22 = .ok (.iload_n 1, 1) := by decide +kernel
theorem dX5_markForces_23 : decode cX5_markForces 23 = .ok (.iload_n 3, 1) := by decide +kernel
theorem dX5_markForces_24 : decode cX5_markForces 24 = .ok (.invokevirtual 387, 3) := by decide +kernel
theorem dX5_markForces_27 : decode cX5_markForces 27 = .ok (.aload_n 0, 1) := by decide +kernel
theorem dX5_markForces_28 : decode cX5_markForces 28 = .ok (.getfield 35, 3) := by decide +kernel
theorem dX5_markForces_31 : decode cX5_markForces 31 = .ok (.invokevirtual 221, 3) := by decide +kernel
theorem dX5_markForces_34 : decode cX5_markForces 34 = .ok (.aload_n 0, 1) := by decide +kernel
theorem dX5_markForces_35 : decode cX5_markForces 35 = .ok (.getfield 35, 3) := by decide +kernel
theorem dX5_markForces_38 : decode cX5_markForces 38 = .ok (.aload_n 0, 1) := by decide +kernel
theorem dX5_markForces_39 : decode cX5_markForces 39 = .ok (.getfield 41, 3) := by decide +kernel
theorem dX5_markForces_42 : decode cX5_markForces 42 = .ok (.invokevirtual 224, 3) := by decide +kernel
theorem dX5_markForces_45 : decode cX5_markForces 45 = .ok (.ifCond .eq 73, 3) := by decide +kernel
theorem dX5_markForces_48 : decode cX5_markForces 48 = .ok (.iconst 0, 1) := by decide +kernel
theorem dX5_markForces_49 : decode cX5_markForces 49 = .ok (.istore 4, 2) := by decide +kernel
theorem dX5_markForces_51 : decode cX5_markForces 51 = .ok (.iload 4, 2) := by decide +kernel
theorem dX5_markForces_53 : decode cX5_markForces 53 = .ok (.bipush 24, 2) := by decide +kernel
theorem dX5_markForces_55 : decode cX5_markForces 55 = .ok (.if_icmp .ge 60, 3) := by decide +kernel
theorem dX5_markForces_58 : decode cX5_markForces 58 = .ok (.aload_n 0, 1) := by decide +kernel
theorem dX5_markForces_59 : decode cX5_markForces 59 = .ok (.getfield 86, 3) := by decide +kernel
theorem dX5_markForces_62 : decode cX5_markForces 62 = .ok (.iconst 2, 1) := by decide +kernel
theorem dX5_markForces_63 : decode cX5_markForces 63 = .ok (.iload_n 2, 1) := by decide +kernel
theorem dX5_markForces_64 : decode cX5_markForces 64 = .ok (.bipush 24, 2) := by decide +kernel
theorem dX5_markForces_66 : decode cX5_markForces 66 = .ok (.imul, 1) := by decide +kernel
theorem dX5_markForces_67 : decode cX5_markForces 67 = .ok (.iload 4, 2) := by decide +kernel
theorem dX5_markForces_69 : decode cX5_markForces 69 = .ok (.iadd, 1) := by decide +kernel
theorem dX5_markForces_70 : decode cX5_markForces 70 = .ok (.imul, 1) := by decide +kernel
theorem dX5_markForces_71 : decode cX5_markForces 71 = .ok (.aload_n 0, 1) := by decide +kernel
theorem dX5_markForces_72 : decode cX5_markForces 72 = .ok (.getfield 35, 3) := by decide +kernel
theorem dX5_markForces_75 : decode cX5_markForces 75 = .ok (.iload 4, 2) := by decide +kernel
theorem dX5_markForces_77 : decode cX5_markForces 77 = .ok (.iconst 0, 1) := by decide +kernel
theorem dX5_markForces_78 : decode cX5_markForces 78 = .ok (.invokevirtual 397, 3) := by decide +kernel
theorem dX5_markForces_81 : decode cX5_markForces 81 = .ok (.lastore, 1) := by decide +kernel
theorem dX5_markForces_82 : decode cX5_markForces 82 = .ok (.aload_n 0, 1) := by decide +kernel
theorem dX5_markForces_83 : decode cX5_markForces 83 = .ok (.getfield 86, 3) := by decide +kernel
theorem dX5_markForces_86 : decode cX5_markForces 86 = .ok (.iconst 2, 1) := by decide +kernel
theorem dX5_markForces_87 : decode cX5_markForces 87 = .ok (.iload_n 2, 1) := by decide +kernel
theorem dX5_markForces_88 : decode cX5_markForces 88 = .ok (.bipush 24, 2) := by decide +kernel
theorem dX5_markForces_90 : decode cX5_markForces 90 = .ok (.imul, 1) := by decide +kernel
theorem dX5_markForces_91 : decode cX5_markForces 91 = .ok (.iload 4, 2) := by decide +kernel
theorem dX5_markForces_93 : decode cX5_markForces 93 = .ok (.iadd, 1) := by decide +kernel
theorem dX5_markForces_94 : decode cX5_markForces 94 = .ok (.imul, 1) := by decide +kernel
theorem dX5_markForces_95 : decode cX5_markForces 95 = .ok (.iconst 1, 1) := by decide +kernel
theorem dX5_markForces_96 : decode cX5_markForces 96 = .ok (.iadd, 1) := by decide +kernel
theorem dX5_markForces_97 : decode cX5_markForces 97 = .ok (.aload_n 0, 1) := by decide +kernel
theorem dX5_markForces_98 : decode cX5_markForces 98 = .ok (.getfield 35, 3) := by decide +kernel
theorem dX5_markForces_101 : decode cX5_markForces 101 = .ok (.iload 4, 2) := by decide +kernel
theorem dX5_markForces_103 : decode cX5_markForces 103 = .ok (.bipush 6, 2) := by decide +kernel
theorem dX5_markForces_105 : decode cX5_markForces 105 = .ok (.invokevirtual 397, 3) := by decide +kernel
theorem dX5_markForces_108 : decode cX5_markForces 108 = .ok (.lastore, 1) := by decide +kernel
theorem dX5_markForces_109 : decode cX5_markForces 109 = .ok (.iinc 4 1, 3) := by decide +kernel
theorem dX5_markForces_112 : decode cX5_markForces 112 = .ok (.goto (-61), 3) := by decide +kernel
theorem dX5_markForces_115 : decode cX5_markForces 115 = .ok (.iinc 2 1, 3) := by decide +kernel
theorem dX5_markForces_118 : decode cX5_markForces 118 = .ok (.iinc 3 1, 3) := by decide +kernel
theorem dX5_markForces_121 : decode cX5_markForces 121 = .ok (.goto (-110), 3) := by decide +kernel
theorem dX5_markForces_124 : decode cX5_markForces 124 = .ok (.iload_n 2, 1) := by decide +kernel
theorem dX5_markForces_125 : decode cX5_markForces 125 = .ok (.ireturn, 1) := by decide +kernel
theorem dX5_largestGroup_0 : decode cX5_largestGroup 0 = .ok (.iconst 0, 1) := by decide +kernel
theorem dX5_largestGroup_1 : decode cX5_largestGroup 1 = .ok (.istore_n 3, 1) := by decide +kernel
theorem dX5_largestGroup_2 : decode cX5_largestGroup 2 = .ok (.iconst 0, 1) := by decide +kernel
theorem dX5_largestGroup_3 : decode cX5_largestGroup 3 = .ok (.istore 4, 2) := by decide +kernel
theorem dX5_largestGroup_5 : decode cX5_largestGroup 5 = .ok (.iload 4, 2) := by decide +kernel
theorem dX5_largestGroup_7 : decode cX5_largestGroup 7 = .ok (.iload_n 2, 1) := by decide +kernel
theorem dX5_largestGroup_8 : decode cX5_largestGroup 8 = .ok (.if_icmp .ge 99, 3) := by decide +kernel
theorem dX5_largestGroup_11 : decode cX5_largestGroup 11 = .ok (.iconst 0, 1) := by decide +kernel
theorem dX5_largestGroup_12 : decode cX5_largestGroup 12 = .ok (.istore 5, 2) := by decide +kernel
theorem dX5_largestGroup_14 : decode cX5_largestGroup 14 = .ok (.iconst 0, 1) := by decide +kernel
theorem dX5_largestGroup_15 : decode cX5_largestGroup 15 = .ok (.istore 6, 2) := by decide +kernel
theorem dX5_largestGroup_17 : decode cX5_largestGroup 17 = .ok (.iload 6, 2) := by decide +kernel
theorem dX5_largestGroup_19 : decode cX5_largestGroup 19 = .ok (.iload_n 2, 1) := by decide +kernel
theorem dX5_largestGroup_20 : decode cX5_largestGroup 20 = .ok (.if_icmp .ge 74, 3) := by decide +kernel
theorem dX5_largestGroup_23 : decode cX5_largestGroup 23 = .ok (.iconst 2, 1) := by decide +kernel
theorem dX5_largestGroup_24 : decode cX5_largestGroup 24 = .ok (.iload 4, 2) := by decide +kernel
theorem dX5_largestGroup_26 : decode cX5_largestGroup 26 = .ok (.bipush 24, 2) := by decide +kernel
theorem dX5_largestGroup_28 : decode cX5_largestGroup 28 = .ok (.imul, 1) := by decide +kernel
theorem dX5_largestGroup_29 : decode cX5_largestGroup 29 = .ok (.iload_n 1, 1) := by decide +kernel
theorem dX5_largestGroup_30 : decode cX5_largestGroup 30 = .ok (.iadd, 1) := by decide +kernel
theorem dX5_largestGroup_31 : decode cX5_largestGroup 31 = .ok (.imul, 1) := by decide +kernel
theorem dX5_largestGroup_32 : decode cX5_largestGroup 32 = .ok (.istore 7, 2) := by decide +kernel
theorem dX5_largestGroup_34 : decode cX5_largestGroup 34 = .ok (.iconst 2, 1) := by decide +kernel
theorem dX5_largestGroup_35 : decode cX5_largestGroup 35 = .ok (.iload 6, 2) := by decide +kernel
theorem dX5_largestGroup_37 : decode cX5_largestGroup 37 = .ok (.bipush 24, 2) := by decide +kernel
theorem dX5_largestGroup_39 : decode cX5_largestGroup 39 = .ok (.imul, 1) := by decide +kernel
theorem dX5_largestGroup_40 : decode cX5_largestGroup 40 = .ok (.iload_n 1, 1) := by decide +kernel
theorem dX5_largestGroup_41 : decode cX5_largestGroup 41 = .ok (.iadd, 1) := by decide +kernel
theorem dX5_largestGroup_42 : decode cX5_largestGroup 42 = .ok (.imul, 1) := by decide +kernel
theorem dX5_largestGroup_43 : decode cX5_largestGroup 43 = .ok (.istore 8, 2) := by decide +kernel
theorem dX5_largestGroup_45 : decode cX5_largestGroup 45 = .ok (.aload_n 0, 1) := by decide +kernel
theorem dX5_largestGroup_46 : decode cX5_largestGroup 46 = .ok (.getfield 86, 3) := by decide +kernel
theorem dX5_largestGroup_49 : decode cX5_largestGroup 49 = .ok (.iload 7, 2) := by decide +kernel
theorem dX5_largestGroup_51 : decode cX5_largestGroup 51 = .ok (.laload, 1) := by decide +kernel
theorem dX5_largestGroup_52 : decode cX5_largestGroup 52 = .ok (.aload_n 0, 1) := by decide +kernel
theorem dX5_largestGroup_53 : decode cX5_largestGroup 53 = .ok (.getfield 86, 3) := by decide +kernel
theorem dX5_largestGroup_56 : decode cX5_largestGroup 56 = .ok (.iload 8, 2) := by decide +kernel
theorem dX5_largestGroup_58 : decode cX5_largestGroup 58 = .ok (.laload, 1) := by decide +kernel
theorem dX5_largestGroup_59 : decode cX5_largestGroup 59 = .ok (.lcmp, 1) := by decide +kernel
theorem dX5_largestGroup_60 : decode cX5_largestGroup 60 = .ok (.ifCond .ne 28, 3) := by decide +kernel
theorem dX5_largestGroup_63 : decode cX5_largestGroup 63 = .ok (.aload_n 0, 1) := by decide +kernel
theorem dX5_largestGroup_64 : decode cX5_largestGroup 64 = .ok (.getfield 86, 3) := by decide +kernel
theorem dX5_largestGroup_67 : decode cX5_largestGroup 67 = .ok (.iload 7, 2) := by decide +kernel
theorem dX5_largestGroup_69 : decode cX5_largestGroup 69 = .ok (.iconst 1, 1) := by decide +kernel
theorem dX5_largestGroup_70 : decode cX5_largestGroup 70 = .ok (.iadd, 1) := by decide +kernel
theorem dX5_largestGroup_71 : decode cX5_largestGroup 71 = .ok (.laload, 1) := by decide +kernel
theorem dX5_largestGroup_72 : decode cX5_largestGroup 72 = .ok (.aload_n 0, 1) := by decide +kernel
theorem dX5_largestGroup_73 : decode cX5_largestGroup 73 = .ok (.getfield 86, 3) := by decide +kernel
theorem dX5_largestGroup_76 : decode cX5_largestGroup 76 = .ok (.iload 8, 2) := by decide +kernel
theorem dX5_largestGroup_78 : decode cX5_largestGroup 78 = .ok (.iconst 1, 1) := by decide +kernel
theorem dX5_largestGroup_79 : decode cX5_largestGroup 79 = .ok (.iadd, 1) := by decide +kernel
theorem dX5_largestGroup_80 : decode cX5_largestGroup 80 = .ok (.laload, 1) := by decide +kernel
theorem dX5_largestGroup_81 : decode cX5_largestGroup 81 = .ok (.lcmp, 1) := by decide +kernel
theorem dX5_largestGroup_82 : decode cX5_largestGroup 82 = .ok (.ifCond .ne 6, 3) := by decide +kernel
theorem dX5_largestGroup_85 : decode cX5_largestGroup 85 = .ok (.iinc 5 1, 3) := by decide +kernel
theorem dX5_largestGroup_88 : decode cX5_largestGroup 88 = .ok (.iinc 6 1, 3) := by decide +kernel
theorem dX5_largestGroup_91 : decode cX5_largestGroup 91 = .ok (.goto (-74), 3) := by decide +kernel
theorem dX5_largestGroup_94 : decode cX5_largestGroup 94 = .ok (.iload_n 3, 1) := by decide +kernel
theorem dX5_largestGroup_95 : decode cX5_largestGroup 95 = .ok (.iload 5, 2) := by decide +kernel
theorem dX5_largestGroup_97 : decode cX5_largestGroup 97 = .ok (.invokestatic 400, 3) := by decide +kernel
theorem dX5_largestGroup_100 : decode cX5_largestGroup 100 = .ok (.istore_n 3, 1) := by decide +kernel
theorem dX5_largestGroup_101 : decode cX5_largestGroup 101 = .ok (.iinc 4 1, 3) := by decide +kernel
theorem dX5_largestGroup_104 : decode cX5_largestGroup 104 = .ok (.goto (-99), 3) := by decide +kernel
theorem dX5_largestGroup_107 : decode cX5_largestGroup 107 = .ok (.iload_n 3, 1) := by decide +kernel
theorem dX5_largestGroup_108 : decode cX5_largestGroup 108 = .ok (.ireturn, 1) := by decide +kernel
theorem dX5_ask_0 : decode cX5_ask 0 = .ok (.iload_n 1, 1) := by decide +kernel
theorem dX5_ask_1 : decode cX5_ask 1 = .ok (.aload_n 0, 1) := by decide +kernel
theorem dX5_ask_2 : decode cX5_ask 2 = .ok (.getfield 22, 3) := by decide +kernel
theorem dX5_ask_5 : decode cX5_ask 5 = .ok (.getfield 132, 3) := by decide +kernel
theorem dX5_ask_8 : decode cX5_ask 8 = .ok (.invokestatic 97, 3) := by decide +kernel
theorem dX5_ask_11 : decode cX5_ask 11 = .ok (.ifCond .ne 6, 3) := by decide +kernel
theorem dX5_ask_14 : decode cX5_ask 14 = .ok (.bipush (-2), 2) := by decide +kernel
theorem dX5_ask_16 : decode cX5_ask 16 = .ok (.ireturn, 1) := by decide +kernel
theorem dX5_ask_17 : decode cX5_ask 17 = .ok (.aload_n 0, 1) := by decide +kernel
theorem dX5_ask_18 : decode cX5_ask 18 = .ok (.iload_n 1, 1) := by decide +kernel
theorem dX5_ask_19 : decode cX5_ask 19 = .ok (.invokevirtual 231, 3) := by decide +kernel
theorem dX5_ask_22 : decode cX5_ask 22 = .ok (.istore_n 2, 1) := by decide +kernel
theorem dX5_ask_23 : decode cX5_ask 23 = .ok (.iconst 0, 1) := by decide +kernel
theorem dX5_ask_24 : decode cX5_ask 24 = .ok (.istore_n 3, 1) := by decide +kernel
theorem dX5_ask_25 : decode cX5_ask 25 = .ok (.aload_n 0, 1) := by decide +kernel
theorem dX5_ask_26 : decode cX5_ask 26 = .ok (.iconst 0, 1) := by decide +kernel
theorem dX5_ask_27 : decode cX5_ask 27 = .ok (.iload_n 2, 1) := by decide +kernel
theorem dX5_ask_28 : decode cX5_ask 28 = .ok (.invokevirtual 234, 3) := by decide +kernel
theorem dX5_ask_31 : decode cX5_ask 31 = .ok (.istore 4, 2) := by decide +kernel
theorem dX5_ask_33 : decode cX5_ask 33 = .ok (.iconst 1, 1) := by decide +kernel
theorem dX5_ask_34 : decode cX5_ask 34 = .ok (.istore 5, 2) := by decide +kernel
theorem dX5_ask_36 : decode cX5_ask 36 = .ok (.iload 5, 2) := by decide +kernel
theorem dX5_ask_38 : decode cX5_ask 38 = .ok (.bipush 24, 2) := by decide +kernel
theorem dX5_ask_40 : decode cX5_ask 40 = .ok (.if_icmp .ge 32, 3) := by decide +kernel
theorem dX5_ask_43 : decode cX5_ask 43 = .ok (.aload_n 0, 1) := by decide +kernel
theorem dX5_ask_44 : decode cX5_ask 44 = .ok (.iload 5, 2) := by decide +kernel
theorem dX5_ask_46 : decode cX5_ask 46 = .ok (.iload_n 2, 1) := by decide +kernel
theorem dX5_ask_47 : decode cX5_ask 47 = .ok (.invokevirtual 234, 3) := by decide +kernel
theorem dX5_ask_50 : decode cX5_ask 50 = .ok (.istore 6, 2) := by decide +kernel
theorem dX5_ask_52 : decode cX5_ask 52 = .ok (.iload 6, 2) := by decide +kernel
theorem dX5_ask_54 : decode cX5_ask 54 = .ok (.iload 4, 2) := by decide +kernel
theorem dX5_ask_56 : decode cX5_ask 56 = .ok (.if_icmp .ge 10, 3) := by decide +kernel
theorem dX5_ask_59 : decode cX5_ask 59 = .ok (.iload 6, 2) := by decide +kernel
theorem dX5_ask_61 : decode cX5_ask 61 = .ok (.istore 4, 2) := by decide +kernel
theorem dX5_ask_63 : decode cX5_ask 63 = .ok (.iload 5, 2) := by decide +kernel
theorem dX5_ask_65 : decode cX5_ask 65 = .ok (.istore_n 3, 1) := by decide +kernel
theorem dX5_ask_66 : decode cX5_ask 66 = .ok (.iinc 5 1, 3) := by decide +kernel
theorem dX5_ask_69 : decode cX5_ask 69 = .ok (.goto (-33), 3) := by decide +kernel
theorem dX5_ask_72 : decode cX5_ask 72 = .ok (.iload_n 3, 1) := by decide +kernel
theorem dX5_ask_73 : decode cX5_ask 73 = .ok (.ireturn, 1) := by decide +kernel
theorem dX1_bringing_0 : decode cX1_bringing 0 = .ok (.iconst 0, 1) := by decide +kernel
theorem dX1_bringing_1 : decode cX1_bringing 1 = .ok (.istore_n 1, 1) := by decide +kernel
theorem dX1_bringing_2 : decode cX1_bringing 2 = .ok (.iconst 0, 1) := by decide +kernel
theorem dX1_bringing_3 : decode cX1_bringing 3 = .ok (.istore_n 2, 1) := by decide +kernel
theorem dX1_bringing_4 : decode cX1_bringing 4 = .ok (.iload_n 2, 1) := by decide +kernel
theorem dX1_bringing_5 : decode cX1_bringing 5 = .ok (.aload_n 0, 1) := by decide +kernel
theorem dX1_bringing_6 : decode cX1_bringing 6 = .ok (.getfield 21, 3) := by decide +kernel
theorem dX1_bringing_9 : decode cX1_bringing 9 = .ok (.if_icmp .ge 24, 3) := by decide +kernel
theorem dX1_bringing_12 : decode cX1_bringing 12 = .ok (.aload_n 0, 1) := by decide +kernel
theorem dX1_bringing_13 : decode cX1_bringing 13 = .ok (.getfield 52, 3) := by decide +kernel
theorem dX1_bringing_16 : decode cX1_bringing 16 = .ok (.iload_n 2, 1) := by decide +kernel
theorem dX1_bringing_17 : decode cX1_bringing 17 = .ok (.iaload, 1) := by decide +kernel
theorem dX1_bringing_18 : decode cX1_bringing 18 = .ok (.ifCond .le 9, 3) := by decide +kernel
theorem dX1_bringing_21 : decode cX1_bringing 21 = .ok (.iload_n 1, 1) := by decide +kernel
theorem dX1_bringing_22 : decode cX1_bringing 22 = .ok (.iconst 1, 1) := by decide +kernel
theorem dX1_bringing_23 : decode cX1_bringing 23 = .ok (.iload_n 2, 1) := by decide +kernel
theorem dX1_bringing_24 : decode cX1_bringing 24 = .ok (.ishl, 1) := by decide +kernel
theorem dX1_bringing_25 : decode cX1_bringing 25 = .ok (.ior, 1) := by decide +kernel
theorem dX1_bringing_26 : decode cX1_bringing 26 = .ok (.istore_n 1, 1) := by decide +kernel
theorem dX1_bringing_27 : decode cX1_bringing 27 = .ok (.iinc 2 1, 3) := by decide +kernel
theorem dX1_bringing_30 : decode cX1_bringing 30 = .ok (.goto (-26), 3) := by decide +kernel
theorem dX1_bringing_33 : decode cX1_bringing 33 = .ok (.iload_n 1, 1) := by decide +kernel
theorem dX1_bringing_34 : decode cX1_bringing 34 = .ok (.ireturn, 1) := by decide +kernel
theorem dX5_findBringers_0 : decode cX5_findBringers 0 = .ok (.aload_n 0, 1) := by decide +kernel
theorem dX5_findBringers_1 : decode cX5_findBringers 1 = .ok (.getfield 35, 3) := by decide +kernel
theorem dX5_findBringers_4 : decode cX5_findBringers 4 = .ok (.invokevirtual 215, 3) := by decide +kernel
theorem dX5_findBringers_7 : decode cX5_findBringers 7 = .ok (.iconst 0, 1) := by decide +kernel
theorem dX5_findBringers_8 : decode cX5_findBringers 8 = .ok (.istore_n 1, 1) := by decide +kernel
theorem dX5_findBringers_9 : decode cX5_findBringers 9 = .ok (.iload_n 1, 1) := by decide +kernel
theorem dX5_findBringers_10 : decode cX5_findBringers 10 = .ok (.iconst 1, 1) := by decide +kernel
theorem dX5_findBringers_11 : decode cX5_findBringers 11 = .ok (.aload_n 0, 1) := by decide +kernel
theorem dX5_findBringers_12 : decode cX5_findBringers 12 = .ok (.getfield 22, 3) := by decide +kernel
theorem dX5_findBringers_15 : decode cX5_findBringers 15 = .ok (.getfield 151, 3) := by decide +kernel
theorem dX5_findBringers_18 : decode cX5_findBringers 18 = .ok (.getfield 161, 3) := by decide +kernel
theorem dX5_findBringers_21 : decode cX5_findBringers 21 = .ok (.ishl, 1) := by decide +kernel
theorem dX5_findBringers_22 : decode cX5_findBringers 22 = .ok (.if_icmp .ge 37, 3) := by decide +kernel
theorem dX5_findBringers_25 : decode cX5_findBringers 25 = .ok (.aload_n 0, 1) := by decide +kernel
theorem dX5_findBringers_26 : decode cX5_findBringers 26 = .ok (.getfield 35, 3) := by decide +kernel
theorem dX5_findBringers_29 : decode cX5_findBringers 29 = .ok (.iload_n 1, 1) := by decide +kernel
theorem dX5_findBringers_30 : decode cX5_findBringers 30 = .ok (.putfield 218, 3) := by decide +kernel
theorem dX5_findBringers_33 : decode cX5_findBringers 33 = .ok (.aload_n 0, 1) := by decide +kernel
theorem dX5_findBringers_34 : decode cX5_findBringers 34 = .ok (.getfield 35, 3) := by decide +kernel
theorem dX5_findBringers_37 : decode cX5_findBringers 37 = .ok (.invokevirtual 221, 3) := by decide +kernel
theorem dX5_findBringers_40 : decode cX5_findBringers 40 = .ok (.aload_n 0, 1) := by decide +kernel
theorem dX5_findBringers_41 : decode cX5_findBringers 41 = .ok (.getfield 83, 3) := by decide +kernel
theorem dX5_findBringers_44 : decode cX5_findBringers 44 = .ok (.iload_n 1, 1) := by decide +kernel
theorem dX5_findBringers_45 : decode cX5_findBringers 45 = .ok (.aload_n 0, 1) := by decide +kernel
theorem dX5_findBringers_46 : decode cX5_findBringers 46 = .ok (.getfield 35, 3) := by decide +kernel
theorem dX5_findBringers_49 : decode cX5_findBringers 49 = .ok (.invokevirtual 403, 3) := by decide +kernel
theorem dX5_findBringers_52 : decode cX5_findBringers 52 = .ok (.iastore, 1) := by decide +kernel
theorem dX5_findBringers_53 : decode cX5_findBringers 53 = .ok (.iinc 1 1, 3) := by decide +kernel
theorem dX5_findBringers_56 : decode cX5_findBringers 56 = .ok (.goto (-47), 3) := by decide +kernel
theorem dX5_findBringers_59 : decode cX5_findBringers 59 = .ok (.return_, 1) := by decide +kernel
theorem dX5_weight_0 : decode cX5_weight 0 = .ok (.lconst 1, 1) := by decide +kernel
theorem dX5_weight_1 : decode cX5_weight 1 = .ok (.lstore_n 3, 1) := by decide +kernel
theorem dX5_weight_2 : decode cX5_weight 2 = .ok (.iconst 0, 1) := by decide +kernel
theorem dX5_weight_3 : decode cX5_weight 3 = .ok (.istore 5, 2) := by decide +kernel
theorem dX5_weight_5 : decode cX5_weight 5 = .ok (.iload 5, 2) := by decide +kernel
theorem dX5_weight_7 : decode cX5_weight 7 = .ok (.aload_n 0, 1) := by decide +kernel
theorem dX5_weight_8 : decode cX5_weight 8 = .ok (.getfield 22, 3) := by decide +kernel
theorem dX5_weight_11 : decode cX5_weight 11 = .ok (.getfield 151, 3) := by decide +kernel
theorem dX5_weight_14 : decode cX5_weight 14 = .ok (.getfield 161, 3) := by decide +kernel
theorem dX5_weight_17 : decode cX5_weight 17 = .ok (.if_icmp .ge 31, 3) := by decide +kernel
theorem dX5_weight_20 : decode cX5_weight 20 = .ok (.lload_n 3, 1) := by decide +kernel
theorem dX5_weight_21 : decode cX5_weight 21 = .ok (.iload_n 1, 1) := by decide +kernel
theorem dX5_weight_22 : decode cX5_weight 22 = .ok (.iload 5, 2) := by decide +kernel
theorem dX5_weight_24 : decode cX5_weight 24 = .ok (.ishr, 1) := by decide +kernel
theorem dX5_weight_25 : decode cX5_weight 25 = .ok (.iconst 1, 1) := by decide +kernel
theorem dX5_weight_26 : decode cX5_weight 26 = .ok (.iand, 1) := by decide +kernel
theorem dX5_weight_27 : decode cX5_weight 27 = .ok (.ifCond .eq 8, 3) := by decide +kernel
theorem dX5_weight_30 : decode cX5_weight 30 = .ok (.iload_n 2, 1) := by decide +kernel
theorem dX5_weight_31 : decode cX5_weight 31 = .ok (.i2l, 1) := by decide +kernel
theorem dX5_weight_32 : decode cX5_weight 32 = .ok (.goto 8, 3) := by decide +kernel
theorem dX5_weight_35 : decode cX5_weight 35 = .ok (.bipush 16, 2) := by decide +kernel
theorem dX5_weight_37 : decode cX5_weight 37 = .ok (.iload_n 2, 1) := by decide +kernel
theorem dX5_weight_38 : decode cX5_weight 38 = .ok (.isub, 1) := by decide +kernel
theorem dX5_weight_39 : decode cX5_weight 39 = .ok (.i2l, 1) := by decide +kernel
theorem dX5_weight_40 : decode cX5_weight 40 = .ok (.lmul, 1) := by decide +kernel
theorem dX5_weight_41 : decode cX5_weight 41 = .ok (.lstore_n 3, 1) := by decide +kernel
theorem dX5_weight_42 : decode cX5_weight 42 = .ok (.iinc 5 1, 3) := by decide +kernel
theorem dX5_weight_45 : decode cX5_weight 45 = .ok (.goto (-40), 3) := by decide +kernel
theorem dX5_weight_48 : decode cX5_weight 48 = .ok (.lload_n 3, 1) := by decide +kernel
theorem dX5_weight_49 : decode cX5_weight 49 = .ok (.lreturn, 1) := by decide +kernel
theorem dX5_chance_0 : decode cX5_chance 0 = .ok (.iload_n 1, 1) := by decide +kernel
theorem dX5_chance_1 : decode cX5_chance 1 = .ok (.bipush 17, 2) := by decide +kernel
theorem dX5_chance_3 : decode cX5_chance 3 = .ok (.invokestatic 97, 3) := by decide +kernel
theorem dX5_chance_6 : decode cX5_chance 6 = .ok (.ifCond .eq 25, 3) := by decide +kernel
theorem dX5_chance_9 : decode cX5_chance 9 = .ok (.iload_n 2, 1) := by decide +kernel
theorem dX5_chance_10 : decode cX5_chance 10 = .ok (.aload_n 0, 1) := by decide +kernel
theorem dX5_chance_11 : decode cX5_chance 11 = .ok (.getfield 22, 3) := by decide +kernel
theorem dX5_chance_14 : decode cX5_chance 14 = .ok (.getfield 132, 3) := by decide +kernel
theorem dX5_chance_17 : decode cX5_chance 17 = .ok (.invokestatic 97, 3) := by decide +kernel
theorem dX5_chance_20 : decode cX5_chance 20 = .ok (.ifCond .eq 11, 3) := by decide +kernel
theorem dX5_chance_23 : decode cX5_chance 23 = .ok (.iload_n 3, 1) := by decide +kernel
theorem dX5_chance_24 : decode cX5_chance 24 = .ok (.iconst 2, 1) := by decide +kernel
theorem dX5_chance_25 : decode cX5_chance 25 = .ok (.invokestatic 97, 3) := by decide +kernel
theorem dX5_chance_28 : decode cX5_chance 28 = .ok (.ifCond .ne 7, 3) := by decide +kernel
theorem dX5_chance_31 : decode cX5_chance 31 = .ok (.ldc2_w 237, 3) := by decide +kernel
theorem dX5_chance_34 : decode cX5_chance 34 = .ok (.lreturn, 1) := by decide +kernel
theorem dX5_chance_35 : decode cX5_chance 35 = .ok (.aload_n 0, 1) := by decide +kernel
theorem dX5_chance_36 : decode cX5_chance 36 = .ok (.getfield 80, 3) := by decide +kernel
theorem dX5_chance_39 : decode cX5_chance 39 = .ok (.ifCond .ne 12, 3) := by decide +kernel
theorem dX5_chance_42 : decode cX5_chance 42 = .ok (.aload_n 0, 1) := by decide +kernel
theorem dX5_chance_43 : decode cX5_chance 43 = .ok (.invokevirtual 239, 3) := by decide +kernel
theorem dX5_chance_46 : decode cX5_chance 46 = .ok (.aload_n 0, 1) := by decide +kernel
theorem dX5_chance_47 : decode cX5_chance 47 = .ok (.iconst 1, 1) := by decide +kernel
theorem dX5_chance_48 : decode cX5_chance 48 = .ok (.putfield 80, 3) := by decide +kernel
theorem dX5_chance_51 : decode cX5_chance 51 = .ok (.lconst 0, 1) := by decide +kernel
theorem dX5_chance_52 : decode cX5_chance 52 = .ok (.lstore 4, 2) := by decide +kernel
theorem dX5_chance_54 : decode cX5_chance 54 = .ok (.iconst 0, 1) := by decide +kernel
theorem dX5_chance_55 : decode cX5_chance 55 = .ok (.istore 6, 2) := by decide +kernel
theorem dX5_chance_57 : decode cX5_chance 57 = .ok (.iload 6, 2) := by decide +kernel
theorem dX5_chance_59 : decode cX5_chance 59 = .ok (.iconst 1, 1) := by decide +kernel
theorem dX5_chance_60 : decode cX5_chance 60 = .ok (.aload_n 0, 1) := by decide +kernel
theorem dX5_chance_61 : decode cX5_chance 61 = .ok (.getfield 22, 3) := by decide +kernel
theorem dX5_chance_64 : decode cX5_chance 64 = .ok (.getfield 151, 3) := by decide +kernel
theorem dX5_chance_67 : decode cX5_chance 67 = .ok (.getfield 161, 3) := by decide +kernel
theorem dX5_chance_70 : decode cX5_chance 70 = .ok (.ishl, 1) := by decide +kernel
theorem dX5_chance_71 : decode cX5_chance 71 = .ok (.if_icmp .ge 35, 3) := by decide +kernel
theorem dX5_chance_74 : decode cX5_chance 74 = .ok (.aload_n 0, 1) := by decide +kernel
theorem dX5_chance_75 : decode cX5_chance 75 = .ok (.getfield 83, 3) := by decide +kernel
theorem dX5_chance_78 : decode cX5_chance 78 = .ok (.iload 6, 2) := by decide +kernel
theorem dX5_chance_80 : decode cX5_chance 80 = .ok (.iaload, 1) := by decide +kernel
theorem dX5_chance_81 : decode cX5_chance 81 = .ok (.iload_n 2, 1) := by decide +kernel
theorem dX5_chance_82 : decode cX5_chance 82 = .ok (.ishr, 1) := by decide +kernel
theorem dX5_chance_83 : decode cX5_chance 83 = .ok (.iconst 1, 1) := by decide +kernel
theorem dX5_chance_84 : decode cX5_chance 84 = .ok (.iand, 1) := by decide +kernel
theorem dX5_chance_85 : decode cX5_chance 85 = .ok (.ifCond .eq 15, 3) := by decide +kernel
theorem dX5_chance_88 : decode cX5_chance 88 = .ok (.lload 4, 2) := by decide +kernel
theorem dX5_chance_90 : decode cX5_chance 90 = .ok (.aload_n 0, 1) := by decide +kernel
theorem dX5_chance_91 : decode cX5_chance 91 = .ok (.iload 6, 2) := by decide +kernel
theorem dX5_chance_93 : decode cX5_chance 93 = .ok (.iload_n 1, 1) := by decide +kernel
theorem dX5_chance_94 : decode cX5_chance 94 = .ok (.invokevirtual 242, 3) := by decide +kernel
theorem dX5_chance_97 : decode cX5_chance 97 = .ok (.ladd, 1) := by decide +kernel
theorem dX5_chance_98 : decode cX5_chance 98 = .ok (.lstore 4, 2) := by decide +kernel
theorem dX5_chance_100 : decode cX5_chance 100 = .ok (.iinc 6 1, 3) := by decide +kernel
theorem dX5_chance_103 : decode cX5_chance 103 = .ok (.goto (-46), 3) := by decide +kernel
theorem dX5_chance_106 : decode cX5_chance 106 = .ok (.lconst 1, 1) := by decide +kernel
theorem dX5_chance_107 : decode cX5_chance 107 = .ok (.iconst 4, 1) := by decide +kernel
theorem dX5_chance_108 : decode cX5_chance 108 = .ok (.aload_n 0, 1) := by decide +kernel
theorem dX5_chance_109 : decode cX5_chance 109 = .ok (.getfield 22, 3) := by decide +kernel
theorem dX5_chance_112 : decode cX5_chance 112 = .ok (.getfield 151, 3) := by decide +kernel
theorem dX5_chance_115 : decode cX5_chance 115 = .ok (.getfield 161, 3) := by decide +kernel
theorem dX5_chance_118 : decode cX5_chance 118 = .ok (.imul, 1) := by decide +kernel
theorem dX5_chance_119 : decode cX5_chance 119 = .ok (.lshl, 1) := by decide +kernel
theorem dX5_chance_120 : decode cX5_chance 120 = .ok (.lstore 6, 2) := by decide +kernel
theorem dX5_chance_122 : decode cX5_chance 122 = .ok (.iconst 0, 1) := by decide +kernel
theorem dX5_chance_123 : decode cX5_chance 123 = .ok (.istore 8, 2) := by decide +kernel
theorem dX5_chance_125 : decode cX5_chance 125 = .ok (.iload 8, 2) := by decide +kernel
theorem dX5_chance_127 : decode cX5_chance 127 = .ok (.bipush 32, 2) := by decide +kernel
theorem dX5_chance_129 : decode cX5_chance 129 = .ok (.if_icmp .ge 43, 3) := by decide +kernel
theorem dX5_chance_132 : decode cX5_chance 132 = .ok (.lload 6, 2) := by decide +kernel
theorem dX5_chance_134 : decode cX5_chance 134 = .ok (.lconst 1, 1) := by decide +kernel
theorem dX5_chance_135 : decode cX5_chance 135 = .ok (.lcmp, 1) := by decide +kernel
theorem dX5_chance_136 : decode cX5_chance 136 = .ok (.ifCond .le 36, 3) := by decide +kernel
theorem dX5_chance_139 : decode cX5_chance 139 = .ok (.lload 4, 2) := by decide +kernel
theorem dX5_chance_141 : decode cX5_chance 141 = .ok (.ldc2_w 246, 3) := by decide +kernel
theorem dX5_chance_144 : decode cX5_chance 144 = .ok (.lrem, 1) := by decide +kernel
theorem dX5_chance_145 : decode cX5_chance 145 = .ok (.lconst 0, 1) := by decide +kernel
theorem dX5_chance_146 : decode cX5_chance 146 = .ok (.lcmp, 1) := by decide +kernel
theorem dX5_chance_147 : decode cX5_chance 147 = .ok (.ifCond .ne 25, 3) := by decide +kernel
theorem dX5_chance_150 : decode cX5_chance 150 = .ok (.lload 4, 2) := by decide +kernel
theorem dX5_chance_152 : decode cX5_chance 152 = .ok (.ldc2_w 246, 3) := by decide +kernel
theorem dX5_chance_155 : decode cX5_chance 155 = .ok (.ldiv, 1) := by decide +kernel
theorem dX5_chance_156 : decode cX5_chance 156 = .ok (.lstore 4, 2) := by decide +kernel
theorem dX5_chance_158 : decode cX5_chance 158 = .ok (.lload 6, 2) := by decide +kernel
theorem dX5_chance_160 : decode cX5_chance 160 = .ok (.ldc2_w 246, 3) := by decide +kernel
theorem dX5_chance_163 : decode cX5_chance 163 = .ok (.ldiv, 1) := by decide +kernel
theorem dX5_chance_164 : decode cX5_chance 164 = .ok (.lstore 6, 2) := by decide +kernel
theorem dX5_chance_166 : decode cX5_chance 166 = .ok (.iinc 8 1, 3) := by decide +kernel
theorem dX5_chance_169 : decode cX5_chance 169 = .ok (.goto (-44), 3) := by decide +kernel
theorem dX5_chance_172 : decode cX5_chance 172 = .ok (.iload_n 3, 1) := by decide +kernel
theorem dX5_chance_173 : decode cX5_chance 173 = .ok (.ifCond .ne 8, 3) := by decide +kernel
theorem dX5_chance_176 : decode cX5_chance 176 = .ok (.lload 4, 2) := by decide +kernel
theorem dX5_chance_178 : decode cX5_chance 178 = .ok (.goto 5, 3) := by decide +kernel
theorem dX5_chance_181 : decode cX5_chance 181 = .ok (.lload 6, 2) := by decide +kernel
theorem dX5_chance_183 : decode cX5_chance 183 = .ok (.lreturn, 1) := by decide +kernel
theorem dX5_nextSeed_0 : decode cX5_nextSeed 0 = .ok (.ldc_w 370, 3) := by decide +kernel
theorem dX5_nextSeed_3 : decode cX5_nextSeed 3 = .ok (.iload_n 0, 1) := by decide +kernel
theorem dX5_nextSeed_4 : decode cX5_nextSeed 4 = .ok (.imul, 1) := by decide +kernel
theorem dX5_nextSeed_5 : decode cX5_nextSeed 5 = .ok (.sipush 12345, 3) := by decide +kernel
theorem dX5_nextSeed_8 : decode cX5_nextSeed 8 = .ok (.iadd, 1) := by decide +kernel
theorem dX5_nextSeed_9 : decode cX5_nextSeed 9 = .ok (.ireturn, 1) := by decide +kernel
theorem dX5_sundays_0 : decode cX5_sundays 0 = .ok (.iload_n 2, 1) := by decide +kernel
theorem dX5_sundays_1 : decode cX5_sundays 1 = .ok (.ifCond .lt 17, 3) := by decide +kernel
theorem dX5_sundays_4 : decode cX5_sundays 4 = .ok (.iload_n 2, 1) := by decide +kernel
theorem dX5_sundays_5 : decode cX5_sundays 5 = .ok (.bipush 12, 2) := by decide +kernel
theorem dX5_sundays_7 : decode cX5_sundays 7 = .ok (.if_icmp .gt 11, 3) := by decide +kernel
theorem dX5_sundays_10 : decode cX5_sundays 10 = .ok (.iload_n 3, 1) := by decide +kernel
theorem dX5_sundays_11 : decode cX5_sundays 11 = .ok (.iconst 2, 1) := by decide +kernel
theorem dX5_sundays_12 : decode cX5_sundays 12 = .ok (.invokestatic 97, 3) := by decide +kernel
theorem dX5_sundays_15 : decode cX5_sundays 15 = .ok (.ifCond .ne 6, 3) := by decide +kernel
theorem dX5_sundays_18 : decode cX5_sundays 18 = .ok (.bipush (-2), 2) := by decide +kernel
theorem dX5_sundays_20 : decode cX5_sundays 20 = .ok (.ireturn, 1) := by decide +kernel
theorem dX5_sundays_21 : decode cX5_sundays 21 = .ok (.aload_n 0, 1) := by decide +kernel
theorem dX5_sundays_22 : decode cX5_sundays 22 = .ok (.getfield 35, 3) := by decide +kernel
theorem dX5_sundays_25 : decode cX5_sundays 25 = .ok (.invokevirtual 215, 3) := by decide +kernel
theorem dX5_sundays_28 : decode cX5_sundays 28 = .ok (.aload_n 0, 1) := by decide +kernel
theorem dX5_sundays_29 : decode cX5_sundays 29 = .ok (.getfield 35, 3) := by decide +kernel
theorem dX5_sundays_32 : decode cX5_sundays 32 = .ok (.iload_n 2, 1) := by decide +kernel
theorem dX5_sundays_33 : decode cX5_sundays 33 = .ok (.putfield 248, 3) := by decide +kernel
theorem dX5_sundays_36 : decode cX5_sundays 36 = .ok (.iload_n 1, 1) := by decide +kernel
theorem dX5_sundays_37 : decode cX5_sundays 37 = .ok (.istore 4, 2) := by decide +kernel
theorem dX5_sundays_39 : decode cX5_sundays 39 = .ok (.iconst 0, 1) := by decide +kernel
theorem dX5_sundays_40 : decode cX5_sundays 40 = .ok (.istore 5, 2) := by decide +kernel
theorem dX5_sundays_42 : decode cX5_sundays 42 = .ok (.iload 5, 2) := by decide +kernel
theorem dX5_sundays_44 : decode cX5_sundays 44 = .ok (.iload_n 2, 1) := by decide +kernel
theorem dX5_sundays_45 : decode cX5_sundays 45 = .ok (.if_icmp .ge 61, 3) := by decide +kernel
theorem dX5_sundays_48 : decode cX5_sundays 48 = .ok (.iload 4, 2) := by decide +kernel
theorem dX5_sundays_50 : decode cX5_sundays 50 = .ok (.invokestatic 249, 3) := by decide +kernel
theorem dX5_sundays_53 : decode cX5_sundays 53 = .ok (.istore 4, 2) := by decide +kernel
theorem dX5_sundays_55 : decode cX5_sundays 55 = .ok (.aload_n 0, 1) := by decide +kernel
theorem dX5_sundays_56 : decode cX5_sundays 56 = .ok (.getfield 35, 3) := by decide +kernel
theorem dX5_sundays_59 : decode cX5_sundays 59 = .ok (.getfield 252, 3) := by decide +kernel
theorem dX5_sundays_62 : decode cX5_sundays 62 = .ok (.iload 5, 2) := by decide +kernel
theorem dX5_sundays_64 : decode cX5_sundays 64 = .ok (.iload 4, 2) := by decide +kernel
theorem dX5_sundays_66 : decode cX5_sundays 66 = .ok (.bipush 16, 2) := by decide +kernel
theorem dX5_sundays_68 : decode cX5_sundays 68 = .ok (.iushr, 1) := by decide +kernel
theorem dX5_sundays_69 : decode cX5_sundays 69 = .ok (.bipush 24, 2) := by decide +kernel
theorem dX5_sundays_71 : decode cX5_sundays 71 = .ok (.irem, 1) := by decide +kernel
theorem dX5_sundays_72 : decode cX5_sundays 72 = .ok (.iastore, 1) := by decide +kernel
theorem dX5_sundays_73 : decode cX5_sundays 73 = .ok (.iload 4, 2) := by decide +kernel
theorem dX5_sundays_75 : decode cX5_sundays 75 = .ok (.invokestatic 249, 3) := by decide +kernel
theorem dX5_sundays_78 : decode cX5_sundays 78 = .ok (.istore 4, 2) := by decide +kernel
theorem dX5_sundays_80 : decode cX5_sundays 80 = .ok (.aload_n 0, 1) := by decide +kernel
theorem dX5_sundays_81 : decode cX5_sundays 81 = .ok (.getfield 35, 3) := by decide +kernel
theorem dX5_sundays_84 : decode cX5_sundays 84 = .ok (.getfield 255, 3) := by decide +kernel
theorem dX5_sundays_87 : decode cX5_sundays 87 = .ok (.iload 5, 2) := by decide +kernel
theorem dX5_sundays_89 : decode cX5_sundays 89 = .ok (.iload 4, 2) := by decide +kernel
theorem dX5_sundays_91 : decode cX5_sundays 91 = .ok (.bipush 16, 2) := by decide +kernel
theorem dX5_sundays_93 : decode cX5_sundays 93 = .ok (.iushr, 1) := by decide +kernel
theorem dX5_sundays_94 : decode cX5_sundays 94 = .ok (.bipush 9, 2) := by decide +kernel
theorem dX5_sundays_96 : decode cX5_sundays 96 = .ok (.irem, 1) := by decide +kernel
theorem dX5_sundays_97 : decode cX5_sundays 97 = .ok (.iconst 1, 1) := by decide +kernel
theorem dX5_sundays_98 : decode cX5_sundays 98 = .ok (.iadd, 1) := by decide +kernel
theorem dX5_sundays_99 : decode cX5_sundays 99 = .ok (.iastore, 1) := by decide +kernel
theorem dX5_sundays_100 : decode cX5_sundays 100 = .ok (.iinc 5 1, 3) := by decide +kernel
theorem dX5_sundays_103 : decode cX5_sundays 103 = .ok (.goto (-61), 3) := by decide +kernel
theorem dX5_sundays_106 : decode cX5_sundays 106 = .ok (.aload_n 0, 1) := by decide +kernel
theorem dX5_sundays_107 : decode cX5_sundays 107 = .ok (.getfield 35, 3) := by decide +kernel
theorem dX5_sundays_110 : decode cX5_sundays 110 = .ok (.invokevirtual 221, 3) := by decide +kernel
theorem dX5_sundays_113 : decode cX5_sundays 113 = .ok (.iload_n 3, 1) := by decide +kernel
theorem dX5_sundays_114 : decode cX5_sundays 114 = .ok (.ifCond .ne 13, 3) := by decide +kernel
theorem dX5_sundays_117 : decode cX5_sundays 117 = .ok (.aload_n 0, 1) := by decide +kernel
theorem dX5_sundays_118 : decode cX5_sundays 118 = .ok (.getfield 35, 3) := by decide +kernel
theorem dX5_sundays_121 : decode cX5_sundays 121 = .ok (.invokevirtual 196, 3) := by decide +kernel
theorem dX5_sundays_124 : decode cX5_sundays 124 = .ok (.goto 10, 3) := by decide +kernel
theorem dX5_sundays_127 : decode cX5_sundays 127 = .ok (.aload_n 0, 1) := by decide +kernel
theorem dX5_sundays_128 : decode cX5_sundays 128 = .ok (.getfield 35, 3) := by decide +kernel
theorem dX5_sundays_131 : decode cX5_sundays 131 = .ok (.invokevirtual 203, 3) := by decide +kernel
theorem dX5_sundays_134 : decode cX5_sundays 134 = .ok (.ireturn, 1) := by decide +kernel
theorem dX2_renew_0 : decode cX2_renew 0 = .ok (.aload_n 0, 1) := by decide +kernel
theorem dX2_renew_1 : decode cX2_renew 1 = .ok (.iload_n 1, 1) := by decide +kernel
theorem dX2_renew_2 : decode cX2_renew 2 = .ok (.putfield 15, 3) := by decide +kernel
theorem dX2_renew_5 : decode cX2_renew 5 = .ok (.aload_n 0, 1) := by decide +kernel
theorem dX2_renew_6 : decode cX2_renew 6 = .ok (.iload_n 2, 1) := by decide +kernel
theorem dX2_renew_7 : decode cX2_renew 7 = .ok (.putfield 19, 3) := by decide +kernel
theorem dX2_renew_10 : decode cX2_renew 10 = .ok (.aload_n 0, 1) := by decide +kernel
theorem dX2_renew_11 : decode cX2_renew 11 = .ok (.iconst 0, 1) := by decide +kernel
theorem dX2_renew_12 : decode cX2_renew 12 = .ok (.putfield 22, 3) := by decide +kernel
theorem dX2_renew_15 : decode cX2_renew 15 = .ok (.aload_n 0, 1) := by decide +kernel
theorem dX2_renew_16 : decode cX2_renew 16 = .ok (.getfield 9, 3) := by decide +kernel
theorem dX2_renew_19 : decode cX2_renew 19 = .ok (.iconst 0, 1) := by decide +kernel
theorem dX2_renew_20 : decode cX2_renew 20 = .ok (.invokestatic 26, 3) := by decide +kernel
theorem dX2_renew_23 : decode cX2_renew 23 = .ok (.return_, 1) := by decide +kernel
theorem dX5_sheet_0 : decode cX5_sheet 0 = .ok (.iload_n 1, 1) := by decide +kernel
theorem dX5_sheet_1 : decode cX5_sheet 1 = .ok (.iconst 4, 1) := by decide +kernel
theorem dX5_sheet_2 : decode cX5_sheet 2 = .ok (.invokestatic 97, 3) := by decide +kernel
theorem dX5_sheet_5 : decode cX5_sheet 5 = .ok (.ifCond .eq 17, 3) := by decide +kernel
theorem dX5_sheet_8 : decode cX5_sheet 8 = .ok (.iload_n 2, 1) := by decide +kernel
theorem dX5_sheet_9 : decode cX5_sheet 9 = .ok (.iconst 3, 1) := by decide +kernel
theorem dX5_sheet_10 : decode cX5_sheet 10 = .ok (.invokestatic 97, 3) := by decide +kernel
theorem dX5_sheet_13 : decode cX5_sheet 13 = .ok (.ifCond .eq 9, 3) := by decide +kernel
theorem dX5_sheet_16 : decode cX5_sheet 16 = .ok (.iload_n 3, 1) := by decide +kernel
theorem dX5_sheet_17 : decode cX5_sheet 17 = .ok (.bipush 60, 2) := by decide +kernel
theorem dX5_sheet_19 : decode cX5_sheet 19 = .ok (.if_icmp .le 6, 3) := by decide +kernel
theorem dX5_sheet_22 : decode cX5_sheet 22 = .ok (.bipush (-2), 2) := by decide +kernel
theorem dX5_sheet_24 : decode cX5_sheet 24 = .ok (.ireturn, 1) := by decide +kernel
theorem dX5_sheet_25 : decode cX5_sheet 25 = .ok (.iload_n 3, 1) := by decide +kernel
theorem dX5_sheet_26 : decode cX5_sheet 26 = .ok (.ifCond .ge 9, 3) := by decide +kernel
theorem dX5_sheet_29 : decode cX5_sheet 29 = .ok (.aload_n 0, 1) := by decide +kernel
theorem dX5_sheet_30 : decode cX5_sheet 30 = .ok (.iconst 5, 1) := by decide +kernel
theorem dX5_sheet_31 : decode cX5_sheet 31 = .ok (.invokevirtual 165, 3) := by decide +kernel
theorem dX5_sheet_34 : decode cX5_sheet 34 = .ok (.ireturn, 1) := by decide +kernel
theorem dX5_sheet_35 : decode cX5_sheet 35 = .ok (.aload_n 0, 1) := by decide +kernel
theorem dX5_sheet_36 : decode cX5_sheet 36 = .ok (.getfield 47, 3) := by decide +kernel
theorem dX5_sheet_39 : decode cX5_sheet 39 = .ok (.iload_n 1, 1) := by decide +kernel
theorem dX5_sheet_40 : decode cX5_sheet 40 = .ok (.aaload, 1) := by decide +kernel
theorem dX5_sheet_41 : decode cX5_sheet 41 = .ok (.iload_n 2, 1) := by decide +kernel
theorem dX5_sheet_42 : decode cX5_sheet 42 = .ok (.iload_n 3, 1) := by decide +kernel
theorem dX5_sheet_43 : decode cX5_sheet 43 = .ok (.invokevirtual 258, 3) := by decide +kernel
theorem dX5_sheet_46 : decode cX5_sheet 46 = .ok (.iload_n 3, 1) := by decide +kernel
theorem dX5_sheet_47 : decode cX5_sheet 47 = .ok (.ireturn, 1) := by decide +kernel
theorem dX5_lose_0 : decode cX5_lose 0 = .ok (.iload_n 1, 1) := by decide +kernel
theorem dX5_lose_1 : decode cX5_lose 1 = .ok (.iconst 4, 1) := by decide +kernel
theorem dX5_lose_2 : decode cX5_lose 2 = .ok (.invokestatic 97, 3) := by decide +kernel
theorem dX5_lose_5 : decode cX5_lose 5 = .ok (.ifCond .ne 6, 3) := by decide +kernel
theorem dX5_lose_8 : decode cX5_lose 8 = .ok (.bipush (-2), 2) := by decide +kernel
theorem dX5_lose_10 : decode cX5_lose 10 = .ok (.ireturn, 1) := by decide +kernel
theorem dX5_lose_11 : decode cX5_lose 11 = .ok (.aload_n 0, 1) := by decide +kernel
theorem dX5_lose_12 : decode cX5_lose 12 = .ok (.getfield 47, 3) := by decide +kernel
theorem dX5_lose_15 : decode cX5_lose 15 = .ok (.iload_n 1, 1) := by decide +kernel
theorem dX5_lose_16 : decode cX5_lose 16 = .ok (.aaload, 1) := by decide +kernel
theorem dX5_lose_17 : decode cX5_lose 17 = .ok (.getfield 162, 3) := by decide +kernel
theorem dX5_lose_20 : decode cX5_lose 20 = .ok (.ifCond .eq 9, 3) := by decide +kernel
theorem dX5_lose_23 : decode cX5_lose 23 = .ok (.aload_n 0, 1) := by decide +kernel
theorem dX5_lose_24 : decode cX5_lose 24 = .ok (.iconst 1, 1) := by decide +kernel
theorem dX5_lose_25 : decode cX5_lose 25 = .ok (.invokevirtual 165, 3) := by decide +kernel
theorem dX5_lose_28 : decode cX5_lose 28 = .ok (.ireturn, 1) := by decide +kernel
theorem dX5_lose_29 : decode cX5_lose 29 = .ok (.aload_n 0, 1) := by decide +kernel
theorem dX5_lose_30 : decode cX5_lose 30 = .ok (.getfield 47, 3) := by decide +kernel
theorem dX5_lose_33 : decode cX5_lose 33 = .ok (.iload_n 1, 1) := by decide +kernel
theorem dX5_lose_34 : decode cX5_lose 34 = .ok (.aaload, 1) := by decide +kernel
theorem dX5_lose_35 : decode cX5_lose 35 = .ok (.iconst 1, 1) := by decide +kernel
theorem dX5_lose_36 : decode cX5_lose 36 = .ok (.putfield 162, 3) := by decide +kernel
theorem dX5_lose_39 : decode cX5_lose 39 = .ok (.aload_n 0, 1) := by decide +kernel
theorem dX5_lose_40 : decode cX5_lose 40 = .ok (.getfield 47, 3) := by decide +kernel
theorem dX5_lose_43 : decode cX5_lose 43 = .ok (.iload_n 1, 1) := by decide +kernel
theorem dX5_lose_44 : decode cX5_lose 44 = .ok (.aaload, 1) := by decide +kernel
theorem dX5_lose_45 : decode cX5_lose 45 = .ok (.getfield 172, 3) := by decide +kernel
theorem dX5_lose_48 : decode cX5_lose 48 = .ok (.ireturn, 1) := by decide +kernel
theorem dX2_findingFor_0 : decode cX2_findingFor 0 = .ok (.aload_n 0, 1) := by decide +kernel
theorem dX2_findingFor_1 : decode cX2_findingFor 1 = .ok (.getfield 22, 3) := by decide +kernel
theorem dX2_findingFor_4 : decode cX2_findingFor 4 = .ok (.ifCond .eq 5, 3) := by decide +kernel
theorem dX2_findingFor_7 : decode cX2_findingFor 7 = .ok (.iconst 1, 1) := by decide +kernel
theorem dX2_findingFor_8 : decode cX2_findingFor 8 = .ok (.ireturn, 1) := by decide +kernel
theorem dX2_findingFor_9 : decode cX2_findingFor 9 = .ok (.iload_n 1, 1) := by decide +kernel
theorem dX2_findingFor_10 : decode cX2_findingFor 10 = .ok (.aload_n 0, 1) := by decide +kernel
theorem dX2_findingFor_11 : decode cX2_findingFor 11 = .ok (.getfield 15, 3) := by decide +kernel
theorem dX2_findingFor_14 : decode cX2_findingFor 14 = .ok (.if_icmp .eq 5, 3) := by decide +kernel
theorem dX2_findingFor_17 : decode cX2_findingFor 17 = .ok (.iconst 3, 1) := by decide +kernel
theorem dX2_findingFor_18 : decode cX2_findingFor 18 = .ok (.ireturn, 1) := by decide +kernel
theorem dX2_findingFor_19 : decode cX2_findingFor 19 = .ok (.iload_n 2, 1) := by decide +kernel
theorem dX2_findingFor_20 : decode cX2_findingFor 20 = .ok (.aload_n 0, 1) := by decide +kernel
theorem dX2_findingFor_21 : decode cX2_findingFor 21 = .ok (.getfield 19, 3) := by decide +kernel
theorem dX2_findingFor_24 : decode cX2_findingFor 24 = .ok (.invokestatic 32, 3) := by decide +kernel
theorem dX2_findingFor_27 : decode cX2_findingFor 27 = .ok (.ifCond .eq 7, 3) := by decide +kernel
theorem dX2_findingFor_30 : decode cX2_findingFor 30 = .ok (.iconst 0, 1) := by decide +kernel
theorem dX2_findingFor_31 : decode cX2_findingFor 31 = .ok (.goto 4, 3) := by decide +kernel
theorem dX2_findingFor_34 : decode cX2_findingFor 34 = .ok (.iconst 2, 1) := by decide +kernel
theorem dX2_findingFor_35 : decode cX2_findingFor 35 = .ok (.ireturn, 1) := by decide +kernel
theorem dX2_put_0 : decode cX2_put 0 = .ok (.aload_n 0, 1) := by decide +kernel
theorem dX2_put_1 : decode cX2_put 1 = .ok (.getfield 15, 3) := by decide +kernel
theorem dX2_put_4 : decode cX2_put 4 = .ok (.ifCond .ne 14, 3) := by decide +kernel
theorem dX2_put_7 : decode cX2_put 7 = .ok (.aload_n 0, 1) := by decide +kernel
theorem dX2_put_8 : decode cX2_put 8 = .ok (.getfield 9, 3) := by decide +kernel
theorem dX2_put_11 : decode cX2_put 11 = .ok (.iload_n 1, 1) := by decide +kernel
theorem dX2_put_12 : decode cX2_put 12 = .ok (.iload_n 2, 1) := by decide +kernel
theorem dX2_put_13 : decode cX2_put 13 = .ok (.i2b, 1) := by decide +kernel
theorem dX2_put_14 : decode cX2_put 14 = .ok (.iastore, 1) := by decide +kernel
theorem dX2_put_15 : decode cX2_put 15 = .ok (.goto 29, 3) := by decide +kernel
theorem dX2_put_18 : decode cX2_put 18 = .ok (.aload_n 0, 1) := by decide +kernel
theorem dX2_put_19 : decode cX2_put 19 = .ok (.getfield 15, 3) := by decide +kernel
theorem dX2_put_22 : decode cX2_put 22 = .ok (.iconst 1, 1) := by decide +kernel
theorem dX2_put_23 : decode cX2_put 23 = .ok (.if_icmp .ne 14, 3) := by decide +kernel
theorem dX2_put_26 : decode cX2_put 26 = .ok (.aload_n 0, 1) := by decide +kernel
theorem dX2_put_27 : decode cX2_put 27 = .ok (.getfield 9, 3) := by decide +kernel
theorem dX2_put_30 : decode cX2_put 30 = .ok (.iload_n 1, 1) := by decide +kernel
theorem dX2_put_31 : decode cX2_put 31 = .ok (.iload_n 2, 1) := by decide +kernel
theorem dX2_put_32 : decode cX2_put 32 = .ok (.i2s, 1) := by decide +kernel
theorem dX2_put_33 : decode cX2_put 33 = .ok (.iastore, 1) := by decide +kernel
theorem dX2_put_34 : decode cX2_put 34 = .ok (.goto 10, 3) := by decide +kernel
theorem dX2_put_37 : decode cX2_put 37 = .ok (.aload_n 0, 1) := by decide +kernel
theorem dX2_put_38 : decode cX2_put 38 = .ok (.getfield 9, 3) := by decide +kernel
theorem dX2_put_41 : decode cX2_put 41 = .ok (.iload_n 1, 1) := by decide +kernel
theorem dX2_put_42 : decode cX2_put 42 = .ok (.iload_n 2, 1) := by decide +kernel
theorem dX2_put_43 : decode cX2_put 43 = .ok (.iastore, 1) := by decide +kernel
theorem dX2_put_44 : decode cX2_put 44 = .ok (.return_, 1) := by decide +kernel
theorem dX5_lay_0 : decode cX5_lay 0 = .ok (.iload_n 1, 1) := by decide +kernel
theorem dX5_lay_1 : decode cX5_lay 1 = .ok (.iconst 4, 1) := by decide +kernel
theorem dX5_lay_2 : decode cX5_lay 2 = .ok (.invokestatic 97, 3) := by decide +kernel
theorem dX5_lay_5 : decode cX5_lay 5 = .ok (.ifCond .eq 11, 3) := by decide +kernel
theorem dX5_lay_8 : decode cX5_lay 8 = .ok (.iload_n 2, 1) := by decide +kernel
theorem dX5_lay_9 : decode cX5_lay 9 = .ok (.iconst 3, 1) := by decide +kernel
theorem dX5_lay_10 : decode cX5_lay 10 = .ok (.invokestatic 97, 3) := by decide +kernel
theorem dX5_lay_13 : decode cX5_lay 13 = .ok (.ifCond .ne 6, 3) := by decide +kernel
theorem dX5_lay_16 : decode cX5_lay 16 = .ok (.bipush (-2), 2) := by decide +kernel
theorem dX5_lay_18 : decode cX5_lay 18 = .ok (.ireturn, 1) := by decide +kernel
theorem dX5_lay_19 : decode cX5_lay 19 = .ok (.aload_n 0, 1) := by decide +kernel
theorem dX5_lay_20 : decode cX5_lay 20 = .ok (.getfield 47, 3) := by decide +kernel
theorem dX5_lay_23 : decode cX5_lay 23 = .ok (.iload_n 1, 1) := by decide +kernel
theorem dX5_lay_24 : decode cX5_lay 24 = .ok (.aaload, 1) := by decide +kernel
theorem dX5_lay_25 : decode cX5_lay 25 = .ok (.iload_n 2, 1) := by decide +kernel
theorem dX5_lay_26 : decode cX5_lay 26 = .ok (.iload_n 3, 1) := by decide +kernel
theorem dX5_lay_27 : decode cX5_lay 27 = .ok (.invokevirtual 262, 3) := by decide +kernel
theorem dX5_lay_30 : decode cX5_lay 30 = .ok (.istore 5, 2) := by decide +kernel
theorem dX5_lay_32 : decode cX5_lay 32 = .ok (.iload 5, 2) := by decide +kernel
theorem dX5_lay_34 : decode cX5_lay 34 = .ok (.ifCond .eq 10, 3) := by decide +kernel
theorem dX5_lay_37 : decode cX5_lay 37 = .ok (.aload_n 0, 1) := by decide +kernel
theorem dX5_lay_38 : decode cX5_lay 38 = .ok (.iload 5, 2) := by decide +kernel
theorem dX5_lay_40 : decode cX5_lay 40 = .ok (.invokevirtual 165, 3) := by decide +kernel
theorem dX5_lay_43 : decode cX5_lay 43 = .ok (.ireturn, 1) := by decide +kernel
theorem dX5_lay_44 : decode cX5_lay 44 = .ok (.aload_n 0, 1) := by decide +kernel
theorem dX5_lay_45 : decode cX5_lay 45 = .ok (.getfield 47, 3) := by decide +kernel
theorem dX5_lay_48 : decode cX5_lay 48 = .ok (.iload_n 1, 1) := by decide +kernel
theorem dX5_lay_49 : decode cX5_lay 49 = .ok (.aaload, 1) := by decide +kernel
theorem dX5_lay_50 : decode cX5_lay 50 = .ok (.iload_n 3, 1) := by decide +kernel
theorem dX5_lay_51 : decode cX5_lay 51 = .ok (.iload 4, 2) := by decide +kernel
theorem dX5_lay_53 : decode cX5_lay 53 = .ok (.invokevirtual 265, 3) := by decide +kernel
theorem dX5_lay_56 : decode cX5_lay 56 = .ok (.iconst 1, 1) := by decide +kernel
theorem dX5_lay_57 : decode cX5_lay 57 = .ok (.ireturn, 1) := by decide +kernel
theorem dX5_get_0 : decode cX5_get 0 = .ok (.iload_n 1, 1) := by decide +kernel
theorem dX5_get_1 : decode cX5_get 1 = .ok (.iconst 4, 1) := by decide +kernel
theorem dX5_get_2 : decode cX5_get 2 = .ok (.invokestatic 97, 3) := by decide +kernel
theorem dX5_get_5 : decode cX5_get 5 = .ok (.ifCond .eq 11, 3) := by decide +kernel
theorem dX5_get_8 : decode cX5_get 8 = .ok (.iload_n 2, 1) := by decide +kernel
theorem dX5_get_9 : decode cX5_get 9 = .ok (.iconst 3, 1) := by decide +kernel
theorem dX5_get_10 : decode cX5_get 10 = .ok (.invokestatic 97, 3) := by decide +kernel
theorem dX5_get_13 : decode cX5_get 13 = .ok (.ifCond .ne 7, 3) := by decide +kernel
theorem dX5_get_16 : decode cX5_get 16 = .ok (.ldc_w 268, 3) := by decide +kernel
theorem dX5_get_19 : decode cX5_get 19 = .ok (.ireturn, 1) := by decide +kernel
theorem dX5_get_20 : decode cX5_get 20 = .ok (.aload_n 0, 1) := by decide +kernel
theorem dX5_get_21 : decode cX5_get 21 = .ok (.getfield 47, 3) := by decide +kernel
theorem dX5_get_24 : decode cX5_get 24 = .ok (.iload_n 1, 1) := by decide +kernel
theorem dX5_get_25 : decode cX5_get 25 = .ok (.aaload, 1) := by decide +kernel
theorem dX5_get_26 : decode cX5_get 26 = .ok (.iload_n 2, 1) := by decide +kernel
theorem dX5_get_27 : decode cX5_get 27 = .ok (.iload_n 3, 1) := by decide +kernel
theorem dX5_get_28 : decode cX5_get 28 = .ok (.invokevirtual 262, 3) := by decide +kernel
theorem dX5_get_31 : decode cX5_get 31 = .ok (.istore 4, 2) := by decide +kernel
theorem dX5_get_33 : decode cX5_get 33 = .ok (.iload 4, 2) := by decide +kernel
theorem dX5_get_35 : decode cX5_get 35 = .ok (.ifCond .eq 13, 3) := by decide +kernel
theorem dX5_get_38 : decode cX5_get 38 = .ok (.aload_n 0, 1) := by decide +kernel
theorem dX5_get_39 : decode cX5_get 39 = .ok (.iload 4, 2) := by decide +kernel
theorem dX5_get_41 : decode cX5_get 41 = .ok (.putfield 51, 3) := by decide +kernel
theorem dX5_get_44 : decode cX5_get 44 = .ok (.ldc_w 268, 3) := by decide +kernel
theorem dX5_get_47 : decode cX5_get 47 = .ok (.ireturn, 1) := by decide +kernel
theorem dX5_get_48 : decode cX5_get 48 = .ok (.aload_n 0, 1) := by decide +kernel
theorem dX5_get_49 : decode cX5_get 49 = .ok (.getfield 47, 3) := by decide +kernel
theorem dX5_get_52 : decode cX5_get 52 = .ok (.iload_n 1, 1) := by decide +kernel
theorem dX5_get_53 : decode cX5_get 53 = .ok (.aaload, 1) := by decide +kernel
theorem dX5_get_54 : decode cX5_get 54 = .ok (.getfield 169, 3) := by decide +kernel
theorem dX5_get_57 : decode cX5_get 57 = .ok (.iload_n 3, 1) := by decide +kernel
theorem dX5_get_58 : decode cX5_get 58 = .ok (.iaload, 1) := by decide +kernel
theorem dX5_get_59 : decode cX5_get 59 = .ok (.ireturn, 1) := by decide +kernel
theorem dX2_hasItems_0 : decode cX2_hasItems 0 = .ok (.iload_n 1, 1) := by decide +kernel
theorem dX2_hasItems_1 : decode cX2_hasItems 1 = .ok (.ifCond .lt 21, 3) := by decide +kernel
theorem dX2_hasItems_4 : decode cX2_hasItems 4 = .ok (.iload_n 2, 1) := by decide +kernel
theorem dX2_hasItems_5 : decode cX2_hasItems 5 = .ok (.ifCond .lt 17, 3) := by decide +kernel
theorem dX2_hasItems_8 : decode cX2_hasItems 8 = .ok (.iload_n 2, 1) := by decide +kernel
theorem dX2_hasItems_9 : decode cX2_hasItems 9 = .ok (.aload_n 0, 1) := by decide +kernel
theorem dX2_hasItems_10 : decode cX2_hasItems 10 = .ok (.getfield 19, 3) := by decide +kernel
theorem dX2_hasItems_13 : decode cX2_hasItems 13 = .ok (.iload_n 1, 1) := by decide +kernel
theorem dX2_hasItems_14 : decode cX2_hasItems 14 = .ok (.isub, 1) := by decide +kernel
theorem dX2_hasItems_15 : decode cX2_hasItems 15 = .ok (.if_icmp .gt 7, 3) := by decide +kernel
theorem dX2_hasItems_18 : decode cX2_hasItems 18 = .ok (.iconst 1, 1) := by decide +kernel
theorem dX2_hasItems_19 : decode cX2_hasItems 19 = .ok (.goto 4, 3) := by decide +kernel
theorem dX2_hasItems_22 : decode cX2_hasItems 22 = .ok (.iconst 0, 1) := by decide +kernel
theorem dX2_hasItems_23 : decode cX2_hasItems 23 = .ok (.ireturn, 1) := by decide +kernel
theorem dX5_copy_0 : decode cX5_copy 0 = .ok (.iload_n 1, 1) := by decide +kernel
theorem dX5_copy_1 : decode cX5_copy 1 = .ok (.iconst 4, 1) := by decide +kernel
theorem dX5_copy_2 : decode cX5_copy 2 = .ok (.invokestatic 97, 3) := by decide +kernel
theorem dX5_copy_5 : decode cX5_copy 5 = .ok (.ifCond .eq 11, 3) := by decide +kernel
theorem dX5_copy_8 : decode cX5_copy 8 = .ok (.iload_n 3, 1) := by decide +kernel
theorem dX5_copy_9 : decode cX5_copy 9 = .ok (.iconst 4, 1) := by decide +kernel
theorem dX5_copy_10 : decode cX5_copy 10 = .ok (.invokestatic 97, 3) := by decide +kernel
theorem dX5_copy_13 : decode cX5_copy 13 = .ok (.ifCond .ne 6, 3) := by decide +kernel
theorem dX5_copy_16 : decode cX5_copy 16 = .ok (.bipush (-2), 2) := by decide +kernel
theorem dX5_copy_18 : decode cX5_copy 18 = .ok (.ireturn, 1) := by decide +kernel
theorem dX5_copy_19 : decode cX5_copy 19 = .ok (.aload_n 0, 1) := by decide +kernel
theorem dX5_copy_20 : decode cX5_copy 20 = .ok (.getfield 47, 3) := by decide +kernel
theorem dX5_copy_23 : decode cX5_copy 23 = .ok (.iload_n 1, 1) := by decide +kernel
theorem dX5_copy_24 : decode cX5_copy 24 = .ok (.aaload, 1) := by decide +kernel
theorem dX5_copy_25 : decode cX5_copy 25 = .ok (.astore 6, 2) := by decide +kernel
theorem dX5_copy_27 : decode cX5_copy 27 = .ok (.aload_n 0, 1) := by decide +kernel
theorem dX5_copy_28 : decode cX5_copy 28 = .ok (.getfield 47, 3) := by decide +kernel
theorem dX5_copy_31 : decode cX5_copy 31 = .ok (.iload_n 3, 1) := by decide +kernel
theorem dX5_copy_32 : decode cX5_copy 32 = .ok (.aaload, 1) := by decide +kernel
theorem dX5_copy_33 : decode cX5_copy 33 = .ok (.astore 7, 2) := by decide +kernel
theorem dX5_copy_35 : decode cX5_copy 35 = .ok (.aload 6, 2) := by decide +kernel
theorem dX5_copy_37 : decode cX5_copy 37 = .ok (.getfield 162, 3) := by decide +kernel
theorem dX5_copy_40 : decode cX5_copy 40 = .ok (.ifCond .ne 11, 3) := by decide +kernel
theorem dX5_copy_43 : decode cX5_copy 43 = .ok (.aload 7, 2) := by decide +kernel
theorem dX5_copy_45 : decode cX5_copy 45 = .ok (.getfield 162, 3) := by decide +kernel
theorem dX5_copy_48 : decode cX5_copy 48 = .ok (.ifCond .eq 9, 3) := by decide +kernel
theorem dX5_copy_51 : decode cX5_copy 51 = .ok (.aload_n 0, 1) := by decide +kernel
theorem dX5_copy_52 : decode cX5_copy 52 = .ok (.iconst 1, 1) := by decide +kernel
theorem dX5_copy_53 : decode cX5_copy 53 = .ok (.invokevirtual 165, 3) := by decide +kernel
theorem dX5_copy_56 : decode cX5_copy 56 = .ok (.ireturn, 1) := by decide +kernel
theorem dX5_copy_57 : decode cX5_copy 57 = .ok (.aload 6, 2) := by decide +kernel
theorem dX5_copy_59 : decode cX5_copy 59 = .ok (.getfield 269, 3) := by decide +kernel
theorem dX5_copy_62 : decode cX5_copy 62 = .ok (.aload 7, 2) := by decide +kernel
theorem dX5_copy_64 : decode cX5_copy 64 = .ok (.getfield 269, 3) := by decide +kernel
theorem dX5_copy_67 : decode cX5_copy 67 = .ok (.if_icmp .eq 9, 3) := by decide +kernel
theorem dX5_copy_70 : decode cX5_copy 70 = .ok (.aload_n 0, 1) := by decide +kernel
theorem dX5_copy_71 : decode cX5_copy 71 = .ok (.iconst 4, 1) := by decide +kernel
theorem dX5_copy_72 : decode cX5_copy 72 = .ok (.invokevirtual 165, 3) := by decide +kernel
theorem dX5_copy_75 : decode cX5_copy 75 = .ok (.ireturn, 1) := by decide +kernel
theorem dX5_copy_76 : decode cX5_copy 76 = .ok (.aload 6, 2) := by decide +kernel
theorem dX5_copy_78 : decode cX5_copy 78 = .ok (.iload_n 2, 1) := by decide +kernel
theorem dX5_copy_79 : decode cX5_copy 79 = .ok (.iload 5, 2) := by decide +kernel
theorem dX5_copy_81 : decode cX5_copy 81 = .ok (.invokevirtual 272, 3) := by decide +kernel
theorem dX5_copy_84 : decode cX5_copy 84 = .ok (.ifCond .eq 15, 3) := by decide +kernel
theorem dX5_copy_87 : decode cX5_copy 87 = .ok (.aload 7, 2) := by decide +kernel
theorem dX5_copy_89 : decode cX5_copy 89 = .ok (.iload 4, 2) := by decide +kernel
theorem dX5_copy_91 : decode cX5_copy 91 = .ok (.iload 5, 2) := by decide +kernel
theorem dX5_copy_93 : decode cX5_copy 93 = .ok (.invokevirtual 272, 3) := by decide +kernel
theorem dX5_copy_96 : decode cX5_copy 96 = .ok (.ifCond .ne 9, 3) := by decide +kernel
theorem dX5_copy_99 : decode cX5_copy 99 = .ok (.aload_n 0, 1) := by decide +kernel
theorem dX5_copy_100 : decode cX5_copy 100 = .ok (.iconst 2, 1) := by decide +kernel
theorem dX5_copy_101 : decode cX5_copy 101 = .ok (.invokevirtual 165, 3) := by decide +kernel
theorem dX5_copy_104 : decode cX5_copy 104 = .ok (.ireturn, 1) := by decide +kernel
theorem dX5_copy_105 : decode cX5_copy 105 = .ok (.aload 6, 2) := by decide +kernel
theorem dX5_copy_107 : decode cX5_copy 107 = .ok (.getfield 169, 3) := by decide +kernel
theorem dX5_copy_110 : decode cX5_copy 110 = .ok (.iload_n 2, 1) := by decide +kernel
theorem dX5_copy_111 : decode cX5_copy 111 = .ok (.aload 7, 2) := by decide +kernel
theorem dX5_copy_113 : decode cX5_copy 113 = .ok (.getfield 169, 3) := by decide +kernel
theorem dX5_copy_116 : decode cX5_copy 116 = .ok (.iload 4, 2) := by decide +kernel
theorem dX5_copy_118 : decode cX5_copy 118 = .ok (.iload 5, 2) := by decide +kernel
theorem dX5_copy_120 : decode cX5_copy 120 = .ok (.invokestatic 275, 3) := by decide +kernel
theorem dX5_copy_123 : decode cX5_copy 123 = .ok (.iconst 1, 1) := by decide +kernel
theorem dX5_copy_124 : decode cX5_copy 124 = .ok (.ireturn, 1) := by decide +kernel
theorem dX5_write_0 : decode cX5_write 0 = .ok (.iload_n 1, 1) := by decide +kernel
theorem dX5_write_1 : decode cX5_write 1 = .ok (.aload_n 0, 1) := by decide +kernel
theorem dX5_write_2 : decode cX5_write 2 = .ok (.getfield 22, 3) := by decide +kernel
theorem dX5_write_5 : decode cX5_write 5 = .ok (.getfield 132, 3) := by decide +kernel
theorem dX5_write_8 : decode cX5_write 8 = .ok (.invokestatic 97, 3) := by decide +kernel
theorem dX5_write_11 : decode cX5_write 11 = .ok (.ifCond .eq 11, 3) := by decide +kernel
theorem dX5_write_14 : decode cX5_write 14 = .ok (.iload_n 2, 1) := by decide +kernel
theorem dX5_write_15 : decode cX5_write 15 = .ok (.iconst 4, 1) := by decide +kernel
theorem dX5_write_16 : decode cX5_write 16 = .ok (.invokestatic 97, 3) := by decide +kernel
theorem dX5_write_19 : decode cX5_write 19 = .ok (.ifCond .ne 6, 3) := by decide +kernel
theorem dX5_write_22 : decode cX5_write 22 = .ok (.bipush (-2), 2) := by decide +kernel
theorem dX5_write_24 : decode cX5_write 24 = .ok (.ireturn, 1) := by decide +kernel
theorem dX5_write_25 : decode cX5_write 25 = .ok (.aload_n 0, 1) := by decide +kernel
theorem dX5_write_26 : decode cX5_write 26 = .ok (.getfield 47, 3) := by decide +kernel
theorem dX5_write_29 : decode cX5_write 29 = .ok (.iload_n 2, 1) := by decide +kernel
theorem dX5_write_30 : decode cX5_write 30 = .ok (.aaload, 1) := by decide +kernel
theorem dX5_write_31 : decode cX5_write 31 = .ok (.getfield 162, 3) := by decide +kernel
theorem dX5_write_34 : decode cX5_write 34 = .ok (.ifCond .eq 9, 3) := by decide +kernel
theorem dX5_write_37 : decode cX5_write 37 = .ok (.aload_n 0, 1) := by decide +kernel
theorem dX5_write_38 : decode cX5_write 38 = .ok (.iconst 1, 1) := by decide +kernel
theorem dX5_write_39 : decode cX5_write 39 = .ok (.invokevirtual 165, 3) := by decide +kernel
theorem dX5_write_42 : decode cX5_write 42 = .ok (.ireturn, 1) := by decide +kernel
theorem dX5_write_43 : decode cX5_write 43 = .ok (.aload_n 0, 1) := by decide +kernel
theorem dX5_write_44 : decode cX5_write 44 = .ok (.invokevirtual 123, 3) := by decide +kernel
theorem dX5_write_47 : decode cX5_write 47 = .ok (.aload_n 0, 1) := by decide +kernel
theorem dX5_write_48 : decode cX5_write 48 = .ok (.getfield 47, 3) := by decide +kernel
theorem dX5_write_51 : decode cX5_write 51 = .ok (.iload_n 2, 1) := by decide +kernel
theorem dX5_write_52 : decode cX5_write 52 = .ok (.aaload, 1) := by decide +kernel
theorem dX5_write_53 : decode cX5_write 53 = .ok (.getfield 172, 3) := by decide +kernel
theorem dX5_write_56 : decode cX5_write 56 = .ok (.bipush 24, 2) := by decide +kernel
theorem dX5_write_58 : decode cX5_write 58 = .ok (.invokestatic 281, 3) := by decide +kernel
theorem dX5_write_61 : decode cX5_write 61 = .ok (.istore_n 3, 1) := by decide +kernel
theorem dX5_write_62 : decode cX5_write 62 = .ok (.iconst 0, 1) := by decide +kernel
theorem dX5_write_63 : decode cX5_write 63 = .ok (.istore 4, 2) := by decide +kernel
theorem dX5_write_65 : decode cX5_write 65 = .ok (.iload 4, 2) := by decide +kernel
theorem dX5_write_67 : decode cX5_write 67 = .ok (.iload_n 3, 1) := by decide +kernel
theorem dX5_write_68 : decode cX5_write 68 = .ok (.if_icmp .ge 30, 3) := by decide +kernel
theorem dX5_write_71 : decode cX5_write 71 = .ok (.aload_n 0, 1) := by decide +kernel
theorem dX5_write_72 : decode cX5_write 72 = .ok (.getfield 47, 3) := by decide +kernel
theorem dX5_write_75 : decode cX5_write 75 = .ok (.iload_n 2, 1) := by decide +kernel
theorem dX5_write_76 : decode cX5_write 76 = .ok (.aaload, 1) := by decide +kernel
theorem dX5_write_77 : decode cX5_write 77 = .ok (.iload 4, 2) := by decide +kernel
theorem dX5_write_79 : decode cX5_write 79 = .ok (.aload_n 0, 1) := by decide +kernel
theorem dX5_write_80 : decode cX5_write 80 = .ok (.getfield 31, 3) := by decide +kernel
theorem dX5_write_83 : decode cX5_write 83 = .ok (.iload 4, 2) := by decide +kernel
theorem dX5_write_85 : decode cX5_write 85 = .ok (.iload_n 1, 1) := by decide +kernel
theorem dX5_write_86 : decode cX5_write 86 = .ok (.invokevirtual 177, 3) := by decide +kernel
theorem dX5_write_89 : decode cX5_write 89 = .ok (.invokevirtual 265, 3) := by decide +kernel
theorem dX5_write_92 : decode cX5_write 92 = .ok (.iinc 4 1, 3) := by decide +kernel
theorem dX5_write_95 : decode cX5_write 95 = .ok (.goto (-30), 3) := by decide +kernel
theorem dX5_write_98 : decode cX5_write 98 = .ok (.iload_n 3, 1) := by decide +kernel
theorem dX5_write_99 : decode cX5_write 99 = .ok (.ireturn, 1) := by decide +kernel
theorem dX1_onBoard_0 : decode cX1_onBoard 0 = .ok (.iconst 0, 1) := by decide +kernel
theorem dX1_onBoard_1 : decode cX1_onBoard 1 = .ok (.istore_n 1, 1) := by decide +kernel
theorem dX1_onBoard_2 : decode cX1_onBoard 2 = .ok (.iconst 0, 1) := by decide +kernel
theorem dX1_onBoard_3 : decode cX1_onBoard 3 = .ok (.istore_n 2, 1) := by decide +kernel
theorem dX1_onBoard_4 : decode cX1_onBoard 4 = .ok (.iload_n 2, 1) := by decide +kernel
theorem dX1_onBoard_5 : decode cX1_onBoard 5 = .ok (.bipush 8, 2) := by decide +kernel
theorem dX1_onBoard_7 : decode cX1_onBoard 7 = .ok (.if_icmp .ge 21, 3) := by decide +kernel
theorem dX1_onBoard_10 : decode cX1_onBoard 10 = .ok (.iload_n 1, 1) := by decide +kernel
theorem dX1_onBoard_11 : decode cX1_onBoard 11 = .ok (.aload_n 0, 1) := by decide +kernel
theorem dX1_onBoard_12 : decode cX1_onBoard 12 = .ok (.getfield 34, 3) := by decide +kernel
theorem dX1_onBoard_15 : decode cX1_onBoard 15 = .ok (.iload_n 2, 1) := by decide +kernel
theorem dX1_onBoard_16 : decode cX1_onBoard 16 = .ok (.iaload, 1) := by decide +kernel
theorem dX1_onBoard_17 : decode cX1_onBoard 17 = .ok (.invokestatic 158, 3) := by decide +kernel
theorem dX1_onBoard_20 : decode cX1_onBoard 20 = .ok (.iadd, 1) := by decide +kernel
theorem dX1_onBoard_21 : decode cX1_onBoard 21 = .ok (.istore_n 1, 1) := by decide +kernel
theorem dX1_onBoard_22 : decode cX1_onBoard 22 = .ok (.iinc 2 1, 3) := by decide +kernel
theorem dX1_onBoard_25 : decode cX1_onBoard 25 = .ok (.goto (-21), 3) := by decide +kernel
theorem dX1_onBoard_28 : decode cX1_onBoard 28 = .ok (.iload_n 1, 1) := by decide +kernel
theorem dX1_onBoard_29 : decode cX1_onBoard 29 = .ok (.ireturn, 1) := by decide +kernel
theorem dX5_count_0 : decode cX5_count 0 = .ok (.iload_n 1, 1) := by decide +kernel
theorem dX5_count_1 : decode cX5_count 1 = .ok (.tableswitch 147 0 8 #[51, 59, 67, 97, 108, 114, 122, 134, 142], 51) := by decide +kernel
theorem dX5_count_52 : decode cX5_count 52 = .ok (.aload_n 0, 1) := by decide +kernel
theorem dX5_count_53 : decode cX5_count 53 = .ok (.getfield 22, 3) := by decide +kernel
theorem dX5_count_56 : decode cX5_count 56 = .ok (.getfield 111, 3) := by decide +kernel
theorem dX5_count_59 : decode cX5_count 59 = .ok (.ireturn, 1) := by decide +kernel
theorem dX5_count_60 : decode cX5_count 60 = .ok (.aload_n 0, 1) := by decide +kernel
theorem dX5_count_61 : decode cX5_count 61 = .ok (.getfield 22, 3) := by decide +kernel
theorem dX5_count_64 : decode cX5_count 64 = .ok (.getfield 132, 3) := by decide +kernel
theorem dX5_count_67 : decode cX5_count 67 = .ok (.ireturn, 1) := by decide +kernel
theorem dX5_count_68 : decode cX5_count 68 = .ok (.aload_n 0, 1) := by decide +kernel
theorem dX5_count_69 : decode cX5_count 69 = .ok (.getfield 11, 3) := by decide +kernel
theorem dX5_count_72 : decode cX5_count 72 = .ok (.iconst 0, 1) := by decide +kernel
theorem dX5_count_73 : decode cX5_count 73 = .ok (.aaload, 1) := by decide +kernel
theorem dX5_count_74 : decode cX5_count 74 = .ok (.getfield 108, 3) := by decide +kernel
theorem dX5_count_77 : decode cX5_count 77 = .ok (.aload_n 0, 1) := by decide +kernel
theorem dX5_count_78 : decode cX5_count 78 = .ok (.getfield 11, 3) := by decide +kernel
theorem dX5_count_81 : decode cX5_count 81 = .ok (.iconst 1, 1) := by decide +kernel
theorem dX5_count_82 : decode cX5_count 82 = .ok (.aaload, 1) := by decide +kernel
theorem dX5_count_83 : decode cX5_count 83 = .ok (.getfield 108, 3) := by decide +kernel
theorem dX5_count_86 : decode cX5_count 86 = .ok (.iadd, 1) := by decide +kernel
theorem dX5_count_87 : decode cX5_count 87 = .ok (.aload_n 0, 1) := by decide +kernel
theorem dX5_count_88 : decode cX5_count 88 = .ok (.getfield 11, 3) := by decide +kernel
theorem dX5_count_91 : decode cX5_count 91 = .ok (.iconst 2, 1) := by decide +kernel
theorem dX5_count_92 : decode cX5_count 92 = .ok (.aaload, 1) := by decide +kernel
theorem dX5_count_93 : decode cX5_count 93 = .ok (.getfield 108, 3) := by decide +kernel
theorem dX5_count_96 : decode cX5_count 96 = .ok (.iadd, 1) := by decide +kernel
theorem dX5_count_97 : decode cX5_count 97 = .ok (.ireturn, 1) := by decide +kernel
theorem dX5_count_98 : decode cX5_count 98 = .ok (.aload_n 0, 1) := by decide +kernel
theorem dX5_count_99 : decode cX5_count 99 = .ok (.getfield 22, 3) := by decide +kernel
theorem dX5_count_102 : decode cX5_count 102 = .ok (.getfield 151, 3) := by decide +kernel
theorem dX5_count_105 : decode cX5_count 105 = .ok (.getfield 161, 3) := by decide +kernel
theorem dX5_count_108 : decode cX5_count 108 = .ok (.ireturn, 1) := by decide +kernel
theorem dX5_count_109 : decode cX5_count 109 = .ok (.aload_n 0, 1) := by decide +kernel
theorem dX5_count_110 : decode cX5_count 110 = .ok (.iconst 0, 1) := by decide +kernel
theorem dX5_count_111 : decode cX5_count 111 = .ok (.invokevirtual 286, 3) := by decide +kernel
theorem dX5_count_114 : decode cX5_count 114 = .ok (.ireturn, 1) := by decide +kernel
theorem dX5_count_115 : decode cX5_count 115 = .ok (.aload_n 0, 1) := by decide +kernel
theorem dX5_count_116 : decode cX5_count 116 = .ok (.getfield 22, 3) := by decide +kernel
theorem dX5_count_119 : decode cX5_count 119 = .ok (.getfield 141, 3) := by decide +kernel
theorem dX5_count_122 : decode cX5_count 122 = .ok (.ireturn, 1) := by decide +kernel
theorem dX5_count_123 : decode cX5_count 123 = .ok (.aload_n 0, 1) := by decide +kernel
theorem dX5_count_124 : decode cX5_count 124 = .ok (.invokevirtual 123, 3) := by decide +kernel
theorem dX5_count_127 : decode cX5_count 127 = .ok (.aload_n 0, 1) := by decide +kernel
theorem dX5_count_128 : decode cX5_count 128 = .ok (.getfield 31, 3) := by decide +kernel
theorem dX5_count_131 : decode cX5_count 131 = .ok (.invokevirtual 289, 3) := by decide +kernel
theorem dX5_count_134 : decode cX5_count 134 = .ok (.ireturn, 1) := by decide +kernel
theorem dX5_count_135 : decode cX5_count 135 = .ok (.aload_n 0, 1) := by decide +kernel
theorem dX5_count_136 : decode cX5_count 136 = .ok (.getfield 41, 3) := by decide +kernel
theorem dX5_count_139 : decode cX5_count 139 = .ok (.getfield 161, 3) := by decide +kernel
theorem dX5_count_142 : decode cX5_count 142 = .ok (.ireturn, 1) := by decide +kernel
theorem dX5_count_143 : decode cX5_count 143 = .ok (.aload_n 0, 1) := by decide +kernel
theorem dX5_count_144 : decode cX5_count 144 = .ok (.getfield 51, 3) := by decide +kernel
theorem dX5_count_147 : decode cX5_count 147 = .ok (.ireturn, 1) := by decide +kernel
theorem dX5_count_148 : decode cX5_count 148 = .ok (.bipush (-2), 2) := by decide +kernel
theorem dX5_count_150 : decode cX5_count 150 = .ok (.ireturn, 1) := by decide +kernel
theorem dX5_withPin_0 : decode cX5_withPin 0 = .ok (.lload_n 1, 1) := by decide +kernel
theorem dX5_withPin_1 : decode cX5_withPin 1 = .ok (.lstore 4, 2) := by decide +kernel
theorem dX5_withPin_3 : decode cX5_withPin 3 = .ok (.iconst 0, 1) := by decide +kernel
theorem dX5_withPin_4 : decode cX5_withPin 4 = .ok (.istore 6, 2) := by decide +kernel
theorem dX5_withPin_6 : decode cX5_withPin 6 = .ok (.iload 6, 2) := by decide +kernel
theorem dX5_withPin_8 : decode cX5_withPin 8 = .ok (.iconst 3, 1) := by decide +kernel
theorem dX5_withPin_9 : decode cX5_withPin 9 = .ok (.if_icmp .ge 26, 3) := by decide +kernel
theorem dX5_withPin_12 : decode cX5_withPin 12 = .ok (.ldc2_w 294, 3) := by decide +kernel
theorem dX5_withPin_15 : decode cX5_withPin 15 = .ok (.lload 4, 2) := by decide +kernel
theorem dX5_withPin_17 : decode cX5_withPin 17 = .ok (.lmul, 1) := by decide +kernel
theorem dX5_withPin_18 : decode cX5_withPin 18 = .ok (.aload_n 0, 1) := by decide +kernel
theorem dX5_withPin_19 : decode cX5_withPin 19 = .ok (.iload_n 3, 1) := by decide +kernel
theorem dX5_withPin_20 : decode cX5_withPin 20 = .ok (.iload 6, 2) := by decide +kernel
theorem dX5_withPin_22 : decode cX5_withPin 22 = .ok (.invokevirtual 333, 3) := by decide +kernel
theorem dX5_withPin_25 : decode cX5_withPin 25 = .ok (.i2l, 1) := by decide +kernel
theorem dX5_withPin_26 : decode cX5_withPin 26 = .ok (.ladd, 1) := by decide +kernel
theorem dX5_withPin_27 : decode cX5_withPin 27 = .ok (.lstore 4, 2) := by decide +kernel
theorem dX5_withPin_29 : decode cX5_withPin 29 = .ok (.iinc 6 1, 3) := by decide +kernel
theorem dX5_withPin_32 : decode cX5_withPin 32 = .ok (.goto (-26), 3) := by decide +kernel
theorem dX5_withPin_35 : decode cX5_withPin 35 = .ok (.ldc2_w 294, 3) := by decide +kernel
theorem dX5_withPin_38 : decode cX5_withPin 38 = .ok (.lload 4, 2) := by decide +kernel
theorem dX5_withPin_40 : decode cX5_withPin 40 = .ok (.lmul, 1) := by decide +kernel
theorem dX5_withPin_41 : decode cX5_withPin 41 = .ok (.aload_n 0, 1) := by decide +kernel
theorem dX5_withPin_42 : decode cX5_withPin 42 = .ok (.iload_n 3, 1) := by decide +kernel
theorem dX5_withPin_43 : decode cX5_withPin 43 = .ok (.iconst 0, 1) := by decide +kernel
theorem dX5_withPin_44 : decode cX5_withPin 44 = .ok (.invokevirtual 336, 3) := by decide +kernel
theorem dX5_withPin_47 : decode cX5_withPin 47 = .ok (.i2l, 1) := by decide +kernel
theorem dX5_withPin_48 : decode cX5_withPin 48 = .ok (.ladd, 1) := by decide +kernel
theorem dX5_withPin_49 : decode cX5_withPin 49 = .ok (.lstore 4, 2) := by decide +kernel
theorem dX5_withPin_51 : decode cX5_withPin 51 = .ok (.ldc2_w 294, 3) := by decide +kernel
theorem dX5_withPin_54 : decode cX5_withPin 54 = .ok (.lload 4, 2) := by decide +kernel
theorem dX5_withPin_56 : decode cX5_withPin 56 = .ok (.lmul, 1) := by decide +kernel
theorem dX5_withPin_57 : decode cX5_withPin 57 = .ok (.aload_n 0, 1) := by decide +kernel
theorem dX5_withPin_58 : decode cX5_withPin 58 = .ok (.iload_n 3, 1) := by decide +kernel
theorem dX5_withPin_59 : decode cX5_withPin 59 = .ok (.iconst 1, 1) := by decide +kernel
theorem dX5_withPin_60 : decode cX5_withPin 60 = .ok (.invokevirtual 336, 3) := by decide +kernel
theorem dX5_withPin_63 : decode cX5_withPin 63 = .ok (.i2l, 1) := by decide +kernel
theorem dX5_withPin_64 : decode cX5_withPin 64 = .ok (.ladd, 1) := by decide +kernel
theorem dX5_withPin_65 : decode cX5_withPin 65 = .ok (.lstore 4, 2) := by decide +kernel
theorem dX5_withPin_67 : decode cX5_withPin 67 = .ok (.ldc2_w 294, 3) := by decide +kernel
theorem dX5_withPin_70 : decode cX5_withPin 70 = .ok (.lload 4, 2) := by decide +kernel
theorem dX5_withPin_72 : decode cX5_withPin 72 = .ok (.lmul, 1) := by decide +kernel
theorem dX5_withPin_73 : decode cX5_withPin 73 = .ok (.aload_n 0, 1) := by decide +kernel
theorem dX5_withPin_74 : decode cX5_withPin 74 = .ok (.iload_n 3, 1) := by decide +kernel
theorem dX5_withPin_75 : decode cX5_withPin 75 = .ok (.invokevirtual 339, 3) := by decide +kernel
theorem dX5_withPin_78 : decode cX5_withPin 78 = .ok (.i2l, 1) := by decide +kernel
theorem dX5_withPin_79 : decode cX5_withPin 79 = .ok (.ladd, 1) := by decide +kernel
theorem dX5_withPin_80 : decode cX5_withPin 80 = .ok (.lreturn, 1) := by decide +kernel
theorem dX5_withBall_0 : decode cX5_withBall 0 = .ok (.lload_n 1, 1) := by decide +kernel
theorem dX5_withBall_1 : decode cX5_withBall 1 = .ok (.lstore 4, 2) := by decide +kernel
theorem dX5_withBall_3 : decode cX5_withBall 3 = .ok (.ldc2_w 294, 3) := by decide +kernel
theorem dX5_withBall_6 : decode cX5_withBall 6 = .ok (.lload 4, 2) := by decide +kernel
theorem dX5_withBall_8 : decode cX5_withBall 8 = .ok (.lmul, 1) := by decide +kernel
theorem dX5_withBall_9 : decode cX5_withBall 9 = .ok (.aload_n 0, 1) := by decide +kernel
theorem dX5_withBall_10 : decode cX5_withBall 10 = .ok (.iload_n 3, 1) := by decide +kernel
theorem dX5_withBall_11 : decode cX5_withBall 11 = .ok (.iconst 0, 1) := by decide +kernel
theorem dX5_withBall_12 : decode cX5_withBall 12 = .ok (.invokevirtual 342, 3) := by decide +kernel
theorem dX5_withBall_15 : decode cX5_withBall 15 = .ok (.i2l, 1) := by decide +kernel
theorem dX5_withBall_16 : decode cX5_withBall 16 = .ok (.ladd, 1) := by decide +kernel
theorem dX5_withBall_17 : decode cX5_withBall 17 = .ok (.lstore 4, 2) := by decide +kernel
theorem dX5_withBall_19 : decode cX5_withBall 19 = .ok (.ldc2_w 294, 3) := by decide +kernel
theorem dX5_withBall_22 : decode cX5_withBall 22 = .ok (.lload 4, 2) := by decide +kernel
theorem dX5_withBall_24 : decode cX5_withBall 24 = .ok (.lmul, 1) := by decide +kernel
theorem dX5_withBall_25 : decode cX5_withBall 25 = .ok (.aload_n 0, 1) := by decide +kernel
theorem dX5_withBall_26 : decode cX5_withBall 26 = .ok (.iload_n 3, 1) := by decide +kernel
theorem dX5_withBall_27 : decode cX5_withBall 27 = .ok (.iconst 1, 1) := by decide +kernel
theorem dX5_withBall_28 : decode cX5_withBall 28 = .ok (.invokevirtual 342, 3) := by decide +kernel
theorem dX5_withBall_31 : decode cX5_withBall 31 = .ok (.i2l, 1) := by decide +kernel
theorem dX5_withBall_32 : decode cX5_withBall 32 = .ok (.ladd, 1) := by decide +kernel
theorem dX5_withBall_33 : decode cX5_withBall 33 = .ok (.lstore 4, 2) := by decide +kernel
theorem dX5_withBall_35 : decode cX5_withBall 35 = .ok (.iconst 0, 1) := by decide +kernel
theorem dX5_withBall_36 : decode cX5_withBall 36 = .ok (.istore 6, 2) := by decide +kernel
theorem dX5_withBall_38 : decode cX5_withBall 38 = .ok (.iload 6, 2) := by decide +kernel
theorem dX5_withBall_40 : decode cX5_withBall 40 = .ok (.getstatic 345, 3) := by decide +kernel
theorem dX5_withBall_43 : decode cX5_withBall 43 = .ok (.arraylength, 1) := by decide +kernel
theorem dX5_withBall_44 : decode cX5_withBall 44 = .ok (.if_icmp .ge 53, 3) := by decide +kernel
theorem dX5_withBall_47 : decode cX5_withBall 47 = .ok (.ldc2_w 294, 3) := by decide +kernel
theorem dX5_withBall_50 : decode cX5_withBall 50 = .ok (.lload 4, 2) := by decide +kernel
theorem dX5_withBall_52 : decode cX5_withBall 52 = .ok (.lmul, 1) := by decide +kernel
theorem dX5_withBall_53 : decode cX5_withBall 53 = .ok (.aload_n 0, 1) := by decide +kernel
theorem dX5_withBall_54 : decode cX5_withBall 54 = .ok (.getstatic 345, 3) := by decide +kernel
theorem dX5_withBall_57 : decode cX5_withBall 57 = .ok (.iload 6, 2) := by decide +kernel
theorem dX5_withBall_59 : decode cX5_withBall 59 = .ok (.iaload, 1) := by decide +kernel
theorem dX5_withBall_60 : decode cX5_withBall 60 = .ok (.iload_n 3, 1) := by decide +kernel
theorem dX5_withBall_61 : decode cX5_withBall 61 = .ok (.iconst 0, 1) := by decide +kernel
theorem dX5_withBall_62 : decode cX5_withBall 62 = .ok (.invokevirtual 348, 3) := by decide +kernel
theorem dX5_withBall_65 : decode cX5_withBall 65 = .ok (.i2l, 1) := by decide +kernel
theorem dX5_withBall_66 : decode cX5_withBall 66 = .ok (.ladd, 1) := by decide +kernel
theorem dX5_withBall_67 : decode cX5_withBall 67 = .ok (.lstore 4, 2) := by decide +kernel
theorem dX5_withBall_69 : decode cX5_withBall 69 = .ok (.ldc2_w 294, 3) := by decide +kernel
theorem dX5_withBall_72 : decode cX5_withBall 72 = .ok (.lload 4, 2) := by decide +kernel
theorem dX5_withBall_74 : decode cX5_withBall 74 = .ok (.lmul, 1) := by decide +kernel
theorem dX5_withBall_75 : decode cX5_withBall 75 = .ok (.aload_n 0, 1) := by decide +kernel
theorem dX5_withBall_76 : decode cX5_withBall 76 = .ok (.getstatic 345, 3) := by decide +kernel
theorem dX5_withBall_79 : decode cX5_withBall 79 = .ok (.iload 6, 2) := by decide +kernel
theorem dX5_withBall_81 : decode cX5_withBall 81 = .ok (.iaload, 1) := by decide +kernel
theorem dX5_withBall_82 : decode cX5_withBall 82 = .ok (.iload_n 3, 1) := by decide +kernel
theorem dX5_withBall_83 : decode cX5_withBall 83 = .ok (.iconst 1, 1) := by decide +kernel
theorem dX5_withBall_84 : decode cX5_withBall 84 = .ok (.invokevirtual 348, 3) := by decide +kernel
theorem dX5_withBall_87 : decode cX5_withBall 87 = .ok (.i2l, 1) := by decide +kernel
theorem dX5_withBall_88 : decode cX5_withBall 88 = .ok (.ladd, 1) := by decide +kernel
theorem dX5_withBall_89 : decode cX5_withBall 89 = .ok (.lstore 4, 2) := by decide +kernel
theorem dX5_withBall_91 : decode cX5_withBall 91 = .ok (.iinc 6 1, 3) := by decide +kernel
theorem dX5_withBall_94 : decode cX5_withBall 94 = .ok (.goto (-56), 3) := by decide +kernel
theorem dX5_withBall_97 : decode cX5_withBall 97 = .ok (.iconst 0, 1) := by decide +kernel
theorem dX5_withBall_98 : decode cX5_withBall 98 = .ok (.istore 6, 2) := by decide +kernel
theorem dX5_withBall_100 : decode cX5_withBall 100 = .ok (.iload 6, 2) := by decide +kernel
theorem dX5_withBall_102 : decode cX5_withBall 102 = .ok (.iconst 3, 1) := by decide +kernel
theorem dX5_withBall_103 : decode cX5_withBall 103 = .ok (.if_icmp .ge 26, 3) := by decide +kernel
theorem dX5_withBall_106 : decode cX5_withBall 106 = .ok (.ldc2_w 294, 3) := by decide +kernel
theorem dX5_withBall_109 : decode cX5_withBall 109 = .ok (.lload 4, 2) := by decide +kernel
theorem dX5_withBall_111 : decode cX5_withBall 111 = .ok (.lmul, 1) := by decide +kernel
theorem dX5_withBall_112 : decode cX5_withBall 112 = .ok (.aload_n 0, 1) := by decide +kernel
theorem dX5_withBall_113 : decode cX5_withBall 113 = .ok (.iload_n 3, 1) := by decide +kernel
theorem dX5_withBall_114 : decode cX5_withBall 114 = .ok (.iload 6, 2) := by decide +kernel
theorem dX5_withBall_116 : decode cX5_withBall 116 = .ok (.invokevirtual 351, 3) := by decide +kernel
theorem dX5_withBall_119 : decode cX5_withBall 119 = .ok (.i2l, 1) := by decide +kernel
theorem dX5_withBall_120 : decode cX5_withBall 120 = .ok (.ladd, 1) := by decide +kernel
theorem dX5_withBall_121 : decode cX5_withBall 121 = .ok (.lstore 4, 2) := by decide +kernel
theorem dX5_withBall_123 : decode cX5_withBall 123 = .ok (.iinc 6 1, 3) := by decide +kernel
theorem dX5_withBall_126 : decode cX5_withBall 126 = .ok (.goto (-26), 3) := by decide +kernel
theorem dX5_withBall_129 : decode cX5_withBall 129 = .ok (.ldc2_w 294, 3) := by decide +kernel
theorem dX5_withBall_132 : decode cX5_withBall 132 = .ok (.lload 4, 2) := by decide +kernel
theorem dX5_withBall_134 : decode cX5_withBall 134 = .ok (.lmul, 1) := by decide +kernel
theorem dX5_withBall_135 : decode cX5_withBall 135 = .ok (.aload_n 0, 1) := by decide +kernel
theorem dX5_withBall_136 : decode cX5_withBall 136 = .ok (.iload_n 3, 1) := by decide +kernel
theorem dX5_withBall_137 : decode cX5_withBall 137 = .ok (.iconst 0, 1) := by decide +kernel
theorem dX5_withBall_138 : decode cX5_withBall 138 = .ok (.invokevirtual 354, 3) := by decide +kernel
theorem dX5_withBall_141 : decode cX5_withBall 141 = .ok (.i2l, 1) := by decide +kernel
theorem dX5_withBall_142 : decode cX5_withBall 142 = .ok (.ladd, 1) := by decide +kernel
theorem dX5_withBall_143 : decode cX5_withBall 143 = .ok (.lstore 4, 2) := by decide +kernel
theorem dX5_withBall_145 : decode cX5_withBall 145 = .ok (.ldc2_w 294, 3) := by decide +kernel
theorem dX5_withBall_148 : decode cX5_withBall 148 = .ok (.lload 4, 2) := by decide +kernel
theorem dX5_withBall_150 : decode cX5_withBall 150 = .ok (.lmul, 1) := by decide +kernel
theorem dX5_withBall_151 : decode cX5_withBall 151 = .ok (.aload_n 0, 1) := by decide +kernel
theorem dX5_withBall_152 : decode cX5_withBall 152 = .ok (.iload_n 3, 1) := by decide +kernel
theorem dX5_withBall_153 : decode cX5_withBall 153 = .ok (.iconst 1, 1) := by decide +kernel
theorem dX5_withBall_154 : decode cX5_withBall 154 = .ok (.invokevirtual 354, 3) := by decide +kernel
theorem dX5_withBall_157 : decode cX5_withBall 157 = .ok (.i2l, 1) := by decide +kernel
theorem dX5_withBall_158 : decode cX5_withBall 158 = .ok (.ladd, 1) := by decide +kernel
theorem dX5_withBall_159 : decode cX5_withBall 159 = .ok (.lstore 4, 2) := by decide +kernel
theorem dX5_withBall_161 : decode cX5_withBall 161 = .ok (.ldc2_w 294, 3) := by decide +kernel
theorem dX5_withBall_164 : decode cX5_withBall 164 = .ok (.lload 4, 2) := by decide +kernel
theorem dX5_withBall_166 : decode cX5_withBall 166 = .ok (.lmul, 1) := by decide +kernel
theorem dX5_withBall_167 : decode cX5_withBall 167 = .ok (.aload_n 0, 1) := by decide +kernel
theorem dX5_withBall_168 : decode cX5_withBall 168 = .ok (.iload_n 3, 1) := by decide +kernel
theorem dX5_withBall_169 : decode cX5_withBall 169 = .ok (.iconst 0, 1) := by decide +kernel
theorem dX5_withBall_170 : decode cX5_withBall 170 = .ok (.invokevirtual 357, 3) := by decide +kernel
theorem dX5_withBall_173 : decode cX5_withBall 173 = .ok (.i2l, 1) := by decide +kernel
theorem dX5_withBall_174 : decode cX5_withBall 174 = .ok (.ladd, 1) := by decide +kernel
theorem dX5_withBall_175 : decode cX5_withBall 175 = .ok (.lstore 4, 2) := by decide +kernel
theorem dX5_withBall_177 : decode cX5_withBall 177 = .ok (.ldc2_w 294, 3) := by decide +kernel
theorem dX5_withBall_180 : decode cX5_withBall 180 = .ok (.lload 4, 2) := by decide +kernel
theorem dX5_withBall_182 : decode cX5_withBall 182 = .ok (.lmul, 1) := by decide +kernel
theorem dX5_withBall_183 : decode cX5_withBall 183 = .ok (.aload_n 0, 1) := by decide +kernel
theorem dX5_withBall_184 : decode cX5_withBall 184 = .ok (.iload_n 3, 1) := by decide +kernel
theorem dX5_withBall_185 : decode cX5_withBall 185 = .ok (.iconst 1, 1) := by decide +kernel
theorem dX5_withBall_186 : decode cX5_withBall 186 = .ok (.invokevirtual 357, 3) := by decide +kernel
theorem dX5_withBall_189 : decode cX5_withBall 189 = .ok (.i2l, 1) := by decide +kernel
theorem dX5_withBall_190 : decode cX5_withBall 190 = .ok (.ladd, 1) := by decide +kernel
theorem dX5_withBall_191 : decode cX5_withBall 191 = .ok (.lstore 4, 2) := by decide +kernel
theorem dX5_withBall_193 : decode cX5_withBall 193 = .ok (.ldc2_w 294, 3) := by decide +kernel
theorem dX5_withBall_196 : decode cX5_withBall 196 = .ok (.lload 4, 2) := by decide +kernel
theorem dX5_withBall_198 : decode cX5_withBall 198 = .ok (.lmul, 1) := by decide +kernel
theorem dX5_withBall_199 : decode cX5_withBall 199 = .ok (.aload_n 0, 1) := by decide +kernel
theorem dX5_withBall_200 : decode cX5_withBall 200 = .ok (.iload_n 3, 1) := by decide +kernel
theorem dX5_withBall_201 : decode cX5_withBall 201 = .ok (.invokevirtual 360, 3) := by decide +kernel
theorem dX5_withBall_204 : decode cX5_withBall 204 = .ok (.i2l, 1) := by decide +kernel
theorem dX5_withBall_205 : decode cX5_withBall 205 = .ok (.ladd, 1) := by decide +kernel
theorem dX5_withBall_206 : decode cX5_withBall 206 = .ok (.lstore 4, 2) := by decide +kernel
theorem dX5_withBall_208 : decode cX5_withBall 208 = .ok (.ldc2_w 294, 3) := by decide +kernel
theorem dX5_withBall_211 : decode cX5_withBall 211 = .ok (.lload 4, 2) := by decide +kernel
theorem dX5_withBall_213 : decode cX5_withBall 213 = .ok (.lmul, 1) := by decide +kernel
theorem dX5_withBall_214 : decode cX5_withBall 214 = .ok (.aload_n 0, 1) := by decide +kernel
theorem dX5_withBall_215 : decode cX5_withBall 215 = .ok (.iload_n 3, 1) := by decide +kernel
theorem dX5_withBall_216 : decode cX5_withBall 216 = .ok (.invokevirtual 363, 3) := by decide +kernel
theorem dX5_withBall_219 : decode cX5_withBall 219 = .ok (.i2l, 1) := by decide +kernel
theorem dX5_withBall_220 : decode cX5_withBall 220 = .ok (.ladd, 1) := by decide +kernel
theorem dX5_withBall_221 : decode cX5_withBall 221 = .ok (.lstore 4, 2) := by decide +kernel
theorem dX5_withBall_223 : decode cX5_withBall 223 = .ok (.ldc2_w 294, 3) := by decide +kernel
theorem dX5_withBall_226 : decode cX5_withBall 226 = .ok (.lload 4, 2) := by decide +kernel
theorem dX5_withBall_228 : decode cX5_withBall 228 = .ok (.lmul, 1) := by decide +kernel
theorem dX5_withBall_229 : decode cX5_withBall 229 = .ok (.aload_n 0, 1) := by decide +kernel
theorem dX5_withBall_230 : decode cX5_withBall 230 = .ok (.iconst 5, 1) := by decide +kernel
theorem dX5_withBall_231 : decode cX5_withBall 231 = .ok (.iload_n 3, 1) := by decide +kernel
theorem dX5_withBall_232 : decode cX5_withBall 232 = .ok (.iconst 0, 1) := by decide +kernel
theorem dX5_withBall_233 : decode cX5_withBall 233 = .ok (.invokevirtual 366, 3) := by decide +kernel
theorem dX5_withBall_236 : decode cX5_withBall 236 = .ok (.ladd, 1) := by decide +kernel
theorem dX5_withBall_237 : decode cX5_withBall 237 = .ok (.lstore 4, 2) := by decide +kernel
theorem dX5_withBall_239 : decode cX5_withBall 239 = .ok (.ldc2_w 294, 3) := by decide +kernel
theorem dX5_withBall_242 : decode cX5_withBall 242 = .ok (.lload 4, 2) := by decide +kernel
theorem dX5_withBall_244 : decode cX5_withBall 244 = .ok (.lmul, 1) := by decide +kernel
theorem dX5_withBall_245 : decode cX5_withBall 245 = .ok (.aload_n 0, 1) := by decide +kernel
theorem dX5_withBall_246 : decode cX5_withBall 246 = .ok (.iconst 5, 1) := by decide +kernel
theorem dX5_withBall_247 : decode cX5_withBall 247 = .ok (.iload_n 3, 1) := by decide +kernel
theorem dX5_withBall_248 : decode cX5_withBall 248 = .ok (.iconst 1, 1) := by decide +kernel
theorem dX5_withBall_249 : decode cX5_withBall 249 = .ok (.invokevirtual 366, 3) := by decide +kernel
theorem dX5_withBall_252 : decode cX5_withBall 252 = .ok (.ladd, 1) := by decide +kernel
theorem dX5_withBall_253 : decode cX5_withBall 253 = .ok (.lreturn, 1) := by decide +kernel
theorem dX5_digest_0 : decode cX5_digest 0 = .ok (.ldc2_w 292, 3) := by decide +kernel
theorem dX5_digest_3 : decode cX5_digest 3 = .ok (.lstore_n 1, 1) := by decide +kernel
theorem dX5_digest_4 : decode cX5_digest 4 = .ok (.iconst 0, 1) := by decide +kernel
theorem dX5_digest_5 : decode cX5_digest 5 = .ok (.istore_n 3, 1) := by decide +kernel
theorem dX5_digest_6 : decode cX5_digest 6 = .ok (.iload_n 3, 1) := by decide +kernel
theorem dX5_digest_7 : decode cX5_digest 7 = .ok (.bipush 8, 2) := by decide +kernel
theorem dX5_digest_9 : decode cX5_digest 9 = .ok (.if_icmp .ge 22, 3) := by decide +kernel
theorem dX5_digest_12 : decode cX5_digest 12 = .ok (.ldc2_w 294, 3) := by decide +kernel
theorem dX5_digest_15 : decode cX5_digest 15 = .ok (.lload_n 1, 1) := by decide +kernel
theorem dX5_digest_16 : decode cX5_digest 16 = .ok (.lmul, 1) := by decide +kernel
theorem dX5_digest_17 : decode cX5_digest 17 = .ok (.aload_n 0, 1) := by decide +kernel
theorem dX5_digest_18 : decode cX5_digest 18 = .ok (.iload_n 3, 1) := by decide +kernel
theorem dX5_digest_19 : decode cX5_digest 19 = .ok (.invokevirtual 296, 3) := by decide +kernel
theorem dX5_digest_22 : decode cX5_digest 22 = .ok (.i2l, 1) := by decide +kernel
theorem dX5_digest_23 : decode cX5_digest 23 = .ok (.ladd, 1) := by decide +kernel
theorem dX5_digest_24 : decode cX5_digest 24 = .ok (.lstore_n 1, 1) := by decide +kernel
theorem dX5_digest_25 : decode cX5_digest 25 = .ok (.iinc 3 1, 3) := by decide +kernel
theorem dX5_digest_28 : decode cX5_digest 28 = .ok (.goto (-22), 3) := by decide +kernel
theorem dX5_digest_31 : decode cX5_digest 31 = .ok (.iconst 0, 1) := by decide +kernel
theorem dX5_digest_32 : decode cX5_digest 32 = .ok (.istore_n 3, 1) := by decide +kernel
theorem dX5_digest_33 : decode cX5_digest 33 = .ok (.iload_n 3, 1) := by decide +kernel
theorem dX5_digest_34 : decode cX5_digest 34 = .ok (.iconst 3, 1) := by decide +kernel
theorem dX5_digest_35 : decode cX5_digest 35 = .ok (.if_icmp .ge 22, 3) := by decide +kernel
theorem dX5_digest_38 : decode cX5_digest 38 = .ok (.ldc2_w 294, 3) := by decide +kernel
theorem dX5_digest_41 : decode cX5_digest 41 = .ok (.lload_n 1, 1) := by decide +kernel
theorem dX5_digest_42 : decode cX5_digest 42 = .ok (.lmul, 1) := by decide +kernel
theorem dX5_digest_43 : decode cX5_digest 43 = .ok (.aload_n 0, 1) := by decide +kernel
theorem dX5_digest_44 : decode cX5_digest 44 = .ok (.iload_n 3, 1) := by decide +kernel
theorem dX5_digest_45 : decode cX5_digest 45 = .ok (.invokevirtual 299, 3) := by decide +kernel
theorem dX5_digest_48 : decode cX5_digest 48 = .ok (.i2l, 1) := by decide +kernel
theorem dX5_digest_49 : decode cX5_digest 49 = .ok (.ladd, 1) := by decide +kernel
theorem dX5_digest_50 : decode cX5_digest 50 = .ok (.lstore_n 1, 1) := by decide +kernel
theorem dX5_digest_51 : decode cX5_digest 51 = .ok (.iinc 3 1, 3) := by decide +kernel
theorem dX5_digest_54 : decode cX5_digest 54 = .ok (.goto (-21), 3) := by decide +kernel
theorem dX5_digest_57 : decode cX5_digest 57 = .ok (.iconst 0, 1) := by decide +kernel
theorem dX5_digest_58 : decode cX5_digest 58 = .ok (.istore_n 3, 1) := by decide +kernel
theorem dX5_digest_59 : decode cX5_digest 59 = .ok (.iload_n 3, 1) := by decide +kernel
theorem dX5_digest_60 : decode cX5_digest 60 = .ok (.bipush 72, 2) := by decide +kernel
theorem dX5_digest_62 : decode cX5_digest 62 = .ok (.if_icmp .ge 31, 3) := by decide +kernel
theorem dX5_digest_65 : decode cX5_digest 65 = .ok (.ldc2_w 294, 3) := by decide +kernel
theorem dX5_digest_68 : decode cX5_digest 68 = .ok (.lload_n 1, 1) := by decide +kernel
theorem dX5_digest_69 : decode cX5_digest 69 = .ok (.lmul, 1) := by decide +kernel
theorem dX5_digest_70 : decode cX5_digest 70 = .ok (.aload_n 0, 1) := by decide +kernel
theorem dX5_digest_71 : decode cX5_digest 71 = .ok (.bipush 9, 2) := by decide +kernel
theorem dX5_digest_73 : decode cX5_digest 73 = .ok (.iload_n 3, 1) := by decide +kernel
theorem dX5_digest_74 : decode cX5_digest 74 = .ok (.bipush 9, 2) := by decide +kernel
theorem dX5_digest_76 : decode cX5_digest 76 = .ok (.idiv, 1) := by decide +kernel
theorem dX5_digest_77 : decode cX5_digest 77 = .ok (.iload_n 3, 1) := by decide +kernel
theorem dX5_digest_78 : decode cX5_digest 78 = .ok (.bipush 9, 2) := by decide +kernel
theorem dX5_digest_80 : decode cX5_digest 80 = .ok (.irem, 1) := by decide +kernel
theorem dX5_digest_81 : decode cX5_digest 81 = .ok (.invokevirtual 302, 3) := by decide +kernel
theorem dX5_digest_84 : decode cX5_digest 84 = .ok (.i2l, 1) := by decide +kernel
theorem dX5_digest_85 : decode cX5_digest 85 = .ok (.ladd, 1) := by decide +kernel
theorem dX5_digest_86 : decode cX5_digest 86 = .ok (.lstore_n 1, 1) := by decide +kernel
theorem dX5_digest_87 : decode cX5_digest 87 = .ok (.iinc 3 1, 3) := by decide +kernel
theorem dX5_digest_90 : decode cX5_digest 90 = .ok (.goto (-31), 3) := by decide +kernel
theorem dX5_digest_93 : decode cX5_digest 93 = .ok (.iconst 0, 1) := by decide +kernel
theorem dX5_digest_94 : decode cX5_digest 94 = .ok (.istore_n 3, 1) := by decide +kernel
theorem dX5_digest_95 : decode cX5_digest 95 = .ok (.iload_n 3, 1) := by decide +kernel
theorem dX5_digest_96 : decode cX5_digest 96 = .ok (.bipush 9, 2) := by decide +kernel
theorem dX5_digest_98 : decode cX5_digest 98 = .ok (.if_icmp .ge 39, 3) := by decide +kernel
theorem dX5_digest_101 : decode cX5_digest 101 = .ok (.iconst 0, 1) := by decide +kernel
theorem dX5_digest_102 : decode cX5_digest 102 = .ok (.istore 4, 2) := by decide +kernel
theorem dX5_digest_104 : decode cX5_digest 104 = .ok (.iload 4, 2) := by decide +kernel
theorem dX5_digest_106 : decode cX5_digest 106 = .ok (.iconst 3, 1) := by decide +kernel
theorem dX5_digest_107 : decode cX5_digest 107 = .ok (.if_icmp .ge 24, 3) := by decide +kernel
theorem dX5_digest_110 : decode cX5_digest 110 = .ok (.ldc2_w 294, 3) := by decide +kernel
theorem dX5_digest_113 : decode cX5_digest 113 = .ok (.lload_n 1, 1) := by decide +kernel
theorem dX5_digest_114 : decode cX5_digest 114 = .ok (.lmul, 1) := by decide +kernel
theorem dX5_digest_115 : decode cX5_digest 115 = .ok (.aload_n 0, 1) := by decide +kernel
theorem dX5_digest_116 : decode cX5_digest 116 = .ok (.iload_n 3, 1) := by decide +kernel
theorem dX5_digest_117 : decode cX5_digest 117 = .ok (.iload 4, 2) := by decide +kernel
theorem dX5_digest_119 : decode cX5_digest 119 = .ok (.invokevirtual 305, 3) := by decide +kernel
theorem dX5_digest_122 : decode cX5_digest 122 = .ok (.i2l, 1) := by decide +kernel
theorem dX5_digest_123 : decode cX5_digest 123 = .ok (.ladd, 1) := by decide +kernel
theorem dX5_digest_124 : decode cX5_digest 124 = .ok (.lstore_n 1, 1) := by decide +kernel
theorem dX5_digest_125 : decode cX5_digest 125 = .ok (.iinc 4 1, 3) := by decide +kernel
theorem dX5_digest_128 : decode cX5_digest 128 = .ok (.goto (-24), 3) := by decide +kernel
theorem dX5_digest_131 : decode cX5_digest 131 = .ok (.iinc 3 1, 3) := by decide +kernel
theorem dX5_digest_134 : decode cX5_digest 134 = .ok (.goto (-39), 3) := by decide +kernel
theorem dX5_digest_137 : decode cX5_digest 137 = .ok (.iconst 0, 1) := by decide +kernel
theorem dX5_digest_138 : decode cX5_digest 138 = .ok (.istore_n 3, 1) := by decide +kernel
theorem dX5_digest_139 : decode cX5_digest 139 = .ok (.iload_n 3, 1) := by decide +kernel
theorem dX5_digest_140 : decode cX5_digest 140 = .ok (.aload_n 0, 1) := by decide +kernel
theorem dX5_digest_141 : decode cX5_digest 141 = .ok (.getfield 22, 3) := by decide +kernel
theorem dX5_digest_144 : decode cX5_digest 144 = .ok (.getfield 111, 3) := by decide +kernel
theorem dX5_digest_147 : decode cX5_digest 147 = .ok (.if_icmp .ge 16, 3) := by decide +kernel
theorem dX5_digest_150 : decode cX5_digest 150 = .ok (.aload_n 0, 1) := by decide +kernel
theorem dX5_digest_151 : decode cX5_digest 151 = .ok (.lload_n 1, 1) := by decide +kernel
theorem dX5_digest_152 : decode cX5_digest 152 = .ok (.iload_n 3, 1) := by decide +kernel
theorem dX5_digest_153 : decode cX5_digest 153 = .ok (.invokevirtual 308, 3) := by decide +kernel
theorem dX5_digest_156 : decode cX5_digest 156 = .ok (.lstore_n 1, 1) := by decide +kernel
theorem dX5_digest_157 : decode cX5_digest 157 = .ok (.iinc 3 1, 3) := by decide +kernel
theorem dX5_digest_160 : decode cX5_digest 160 = .ok (.goto (-21), 3) := by decide +kernel
theorem dX5_digest_163 : decode cX5_digest 163 = .ok (.iconst 0, 1) := by decide +kernel
theorem dX5_digest_164 : decode cX5_digest 164 = .ok (.istore_n 3, 1) := by decide +kernel
theorem dX5_digest_165 : decode cX5_digest 165 = .ok (.iload_n 3, 1) := by decide +kernel
theorem dX5_digest_166 : decode cX5_digest 166 = .ok (.aload_n 0, 1) := by decide +kernel
theorem dX5_digest_167 : decode cX5_digest 167 = .ok (.getfield 22, 3) := by decide +kernel
theorem dX5_digest_170 : decode cX5_digest 170 = .ok (.getfield 132, 3) := by decide +kernel
theorem dX5_digest_173 : decode cX5_digest 173 = .ok (.if_icmp .ge 16, 3) := by decide +kernel
theorem dX5_digest_176 : decode cX5_digest 176 = .ok (.aload_n 0, 1) := by decide +kernel
theorem dX5_digest_177 : decode cX5_digest 177 = .ok (.lload_n 1, 1) := by decide +kernel
theorem dX5_digest_178 : decode cX5_digest 178 = .ok (.iload_n 3, 1) := by decide +kernel
theorem dX5_digest_179 : decode cX5_digest 179 = .ok (.invokevirtual 312, 3) := by decide +kernel
theorem dX5_digest_182 : decode cX5_digest 182 = .ok (.lstore_n 1, 1) := by decide +kernel
theorem dX5_digest_183 : decode cX5_digest 183 = .ok (.iinc 3 1, 3) := by decide +kernel
theorem dX5_digest_186 : decode cX5_digest 186 = .ok (.goto (-21), 3) := by decide +kernel
theorem dX5_digest_189 : decode cX5_digest 189 = .ok (.iconst 0, 1) := by decide +kernel
theorem dX5_digest_190 : decode cX5_digest 190 = .ok (.istore_n 3, 1) := by decide +kernel
theorem dX5_digest_191 : decode cX5_digest 191 = .ok (.iload_n 3, 1) := by decide +kernel
theorem dX5_digest_192 : decode cX5_digest 192 = .ok (.iconst 3, 1) := by decide +kernel
theorem dX5_digest_193 : decode cX5_digest 193 = .ok (.if_icmp .ge 22, 3) := by decide +kernel
theorem dX5_digest_196 : decode cX5_digest 196 = .ok (.ldc2_w 294, 3) := by decide +kernel
theorem dX5_digest_199 : decode cX5_digest 199 = .ok (.lload_n 1, 1) := by decide +kernel
theorem dX5_digest_200 : decode cX5_digest 200 = .ok (.lmul, 1) := by decide +kernel
theorem dX5_digest_201 : decode cX5_digest 201 = .ok (.aload_n 0, 1) := by decide +kernel
theorem dX5_digest_202 : decode cX5_digest 202 = .ok (.iload_n 3, 1) := by decide +kernel
theorem dX5_digest_203 : decode cX5_digest 203 = .ok (.invokevirtual 286, 3) := by decide +kernel
theorem dX5_digest_206 : decode cX5_digest 206 = .ok (.i2l, 1) := by decide +kernel
theorem dX5_digest_207 : decode cX5_digest 207 = .ok (.ladd, 1) := by decide +kernel
theorem dX5_digest_208 : decode cX5_digest 208 = .ok (.lstore_n 1, 1) := by decide +kernel
theorem dX5_digest_209 : decode cX5_digest 209 = .ok (.iinc 3 1, 3) := by decide +kernel
theorem dX5_digest_212 : decode cX5_digest 212 = .ok (.goto (-21), 3) := by decide +kernel
theorem dX5_digest_215 : decode cX5_digest 215 = .ok (.ldc2_w 294, 3) := by decide +kernel
theorem dX5_digest_218 : decode cX5_digest 218 = .ok (.lload_n 1, 1) := by decide +kernel
theorem dX5_digest_219 : decode cX5_digest 219 = .ok (.lmul, 1) := by decide +kernel
theorem dX5_digest_220 : decode cX5_digest 220 = .ok (.aload_n 0, 1) := by decide +kernel
theorem dX5_digest_221 : decode cX5_digest 221 = .ok (.invokevirtual 315, 3) := by decide +kernel
theorem dX5_digest_224 : decode cX5_digest 224 = .ok (.i2l, 1) := by decide +kernel
theorem dX5_digest_225 : decode cX5_digest 225 = .ok (.ladd, 1) := by decide +kernel
theorem dX5_digest_226 : decode cX5_digest 226 = .ok (.lstore_n 1, 1) := by decide +kernel
theorem dX5_digest_227 : decode cX5_digest 227 = .ok (.ldc2_w 294, 3) := by decide +kernel
theorem dX5_digest_230 : decode cX5_digest 230 = .ok (.lload_n 1, 1) := by decide +kernel
theorem dX5_digest_231 : decode cX5_digest 231 = .ok (.lmul, 1) := by decide +kernel
theorem dX5_digest_232 : decode cX5_digest 232 = .ok (.aload_n 0, 1) := by decide +kernel
theorem dX5_digest_233 : decode cX5_digest 233 = .ok (.invokevirtual 318, 3) := by decide +kernel
theorem dX5_digest_236 : decode cX5_digest 236 = .ok (.i2l, 1) := by decide +kernel
theorem dX5_digest_237 : decode cX5_digest 237 = .ok (.ladd, 1) := by decide +kernel
theorem dX5_digest_238 : decode cX5_digest 238 = .ok (.lstore_n 1, 1) := by decide +kernel
theorem dX5_digest_239 : decode cX5_digest 239 = .ok (.ldc2_w 294, 3) := by decide +kernel
theorem dX5_digest_242 : decode cX5_digest 242 = .ok (.lload_n 1, 1) := by decide +kernel
theorem dX5_digest_243 : decode cX5_digest 243 = .ok (.lmul, 1) := by decide +kernel
theorem dX5_digest_244 : decode cX5_digest 244 = .ok (.aload_n 0, 1) := by decide +kernel
theorem dX5_digest_245 : decode cX5_digest 245 = .ok (.iconst 0, 1) := by decide +kernel
theorem dX5_digest_246 : decode cX5_digest 246 = .ok (.invokevirtual 321, 3) := by decide +kernel
theorem dX5_digest_249 : decode cX5_digest 249 = .ok (.i2l, 1) := by decide +kernel
theorem dX5_digest_250 : decode cX5_digest 250 = .ok (.ladd, 1) := by decide +kernel
theorem dX5_digest_251 : decode cX5_digest 251 = .ok (.lstore_n 1, 1) := by decide +kernel
theorem dX5_digest_252 : decode cX5_digest 252 = .ok (.ldc2_w 294, 3) := by decide +kernel
theorem dX5_digest_255 : decode cX5_digest 255 = .ok (.lload_n 1, 1) := by decide +kernel
theorem dX5_digest_256 : decode cX5_digest 256 = .ok (.lmul, 1) := by decide +kernel
theorem dX5_digest_257 : decode cX5_digest 257 = .ok (.aload_n 0, 1) := by decide +kernel
theorem dX5_digest_258 : decode cX5_digest 258 = .ok (.iconst 1, 1) := by decide +kernel
theorem dX5_digest_259 : decode cX5_digest 259 = .ok (.invokevirtual 321, 3) := by decide +kernel
theorem dX5_digest_262 : decode cX5_digest 262 = .ok (.i2l, 1) := by decide +kernel
theorem dX5_digest_263 : decode cX5_digest 263 = .ok (.ladd, 1) := by decide +kernel
theorem dX5_digest_264 : decode cX5_digest 264 = .ok (.lstore_n 1, 1) := by decide +kernel
theorem dX5_digest_265 : decode cX5_digest 265 = .ok (.ldc2_w 294, 3) := by decide +kernel
theorem dX5_digest_268 : decode cX5_digest 268 = .ok (.lload_n 1, 1) := by decide +kernel
theorem dX5_digest_269 : decode cX5_digest 269 = .ok (.lmul, 1) := by decide +kernel
theorem dX5_digest_270 : decode cX5_digest 270 = .ok (.aload_n 0, 1) := by decide +kernel
theorem dX5_digest_271 : decode cX5_digest 271 = .ok (.iconst (-1), 1) := by decide +kernel
theorem dX5_digest_272 : decode cX5_digest 272 = .ok (.invokevirtual 324, 3) := by decide +kernel
theorem dX5_digest_275 : decode cX5_digest 275 = .ok (.i2l, 1) := by decide +kernel
theorem dX5_digest_276 : decode cX5_digest 276 = .ok (.ladd, 1) := by decide +kernel
theorem dX5_digest_277 : decode cX5_digest 277 = .ok (.lstore_n 1, 1) := by decide +kernel
theorem dX5_digest_278 : decode cX5_digest 278 = .ok (.ldc2_w 294, 3) := by decide +kernel
theorem dX5_digest_281 : decode cX5_digest 281 = .ok (.lload_n 1, 1) := by decide +kernel
theorem dX5_digest_282 : decode cX5_digest 282 = .ok (.lmul, 1) := by decide +kernel
theorem dX5_digest_283 : decode cX5_digest 283 = .ok (.aload_n 0, 1) := by decide +kernel
theorem dX5_digest_284 : decode cX5_digest 284 = .ok (.iconst 0, 1) := by decide +kernel
theorem dX5_digest_285 : decode cX5_digest 285 = .ok (.invokevirtual 324, 3) := by decide +kernel
theorem dX5_digest_288 : decode cX5_digest 288 = .ok (.i2l, 1) := by decide +kernel
theorem dX5_digest_289 : decode cX5_digest 289 = .ok (.ladd, 1) := by decide +kernel
theorem dX5_digest_290 : decode cX5_digest 290 = .ok (.lstore_n 1, 1) := by decide +kernel
theorem dX5_digest_291 : decode cX5_digest 291 = .ok (.ldc2_w 294, 3) := by decide +kernel
theorem dX5_digest_294 : decode cX5_digest 294 = .ok (.lload_n 1, 1) := by decide +kernel
theorem dX5_digest_295 : decode cX5_digest 295 = .ok (.lmul, 1) := by decide +kernel
theorem dX5_digest_296 : decode cX5_digest 296 = .ok (.aload_n 0, 1) := by decide +kernel
theorem dX5_digest_297 : decode cX5_digest 297 = .ok (.invokevirtual 327, 3) := by decide +kernel
theorem dX5_digest_300 : decode cX5_digest 300 = .ok (.i2l, 1) := by decide +kernel
theorem dX5_digest_301 : decode cX5_digest 301 = .ok (.ladd, 1) := by decide +kernel
theorem dX5_digest_302 : decode cX5_digest 302 = .ok (.lstore_n 1, 1) := by decide +kernel
theorem dX5_digest_303 : decode cX5_digest 303 = .ok (.ldc2_w 294, 3) := by decide +kernel
theorem dX5_digest_306 : decode cX5_digest 306 = .ok (.lload_n 1, 1) := by decide +kernel
theorem dX5_digest_307 : decode cX5_digest 307 = .ok (.lmul, 1) := by decide +kernel
theorem dX5_digest_308 : decode cX5_digest 308 = .ok (.aload_n 0, 1) := by decide +kernel
theorem dX5_digest_309 : decode cX5_digest 309 = .ok (.bipush 7, 2) := by decide +kernel
theorem dX5_digest_311 : decode cX5_digest 311 = .ok (.bipush 9, 2) := by decide +kernel
theorem dX5_digest_313 : decode cX5_digest 313 = .ok (.iconst 0, 1) := by decide +kernel
theorem dX5_digest_314 : decode cX5_digest 314 = .ok (.invokevirtual 330, 3) := by decide +kernel
theorem dX5_digest_317 : decode cX5_digest 317 = .ok (.i2l, 1) := by decide +kernel
theorem dX5_digest_318 : decode cX5_digest 318 = .ok (.ladd, 1) := by decide +kernel
theorem dX5_digest_319 : decode cX5_digest 319 = .ok (.lstore_n 1, 1) := by decide +kernel
theorem dX5_digest_320 : decode cX5_digest 320 = .ok (.ldc2_w 294, 3) := by decide +kernel
theorem dX5_digest_323 : decode cX5_digest 323 = .ok (.lload_n 1, 1) := by decide +kernel
theorem dX5_digest_324 : decode cX5_digest 324 = .ok (.lmul, 1) := by decide +kernel
theorem dX5_digest_325 : decode cX5_digest 325 = .ok (.aload_n 0, 1) := by decide +kernel
theorem dX5_digest_326 : decode cX5_digest 326 = .ok (.bipush 7, 2) := by decide +kernel
theorem dX5_digest_328 : decode cX5_digest 328 = .ok (.bipush 9, 2) := by decide +kernel
theorem dX5_digest_330 : decode cX5_digest 330 = .ok (.iconst 1, 1) := by decide +kernel
theorem dX5_digest_331 : decode cX5_digest 331 = .ok (.invokevirtual 330, 3) := by decide +kernel
theorem dX5_digest_334 : decode cX5_digest 334 = .ok (.i2l, 1) := by decide +kernel
theorem dX5_digest_335 : decode cX5_digest 335 = .ok (.ladd, 1) := by decide +kernel
theorem dX5_digest_336 : decode cX5_digest 336 = .ok (.lreturn, 1) := by decide +kernel
theorem dX6_in_0 : decode cX6_in 0 = .ok (.lload_n 0, 1) := by decide +kernel
theorem dX6_in_1 : decode cX6_in 1 = .ok (.lload_n 2, 1) := by decide +kernel
theorem dX6_in_2 : decode cX6_in 2 = .ok (.lcmp, 1) := by decide +kernel
theorem dX6_in_3 : decode cX6_in 3 = .ok (.ifCond .lt 14, 3) := by decide +kernel
theorem dX6_in_6 : decode cX6_in 6 = .ok (.lload_n 0, 1) := by decide +kernel
theorem dX6_in_7 : decode cX6_in 7 = .ok (.lload 4, 2) := by decide +kernel
theorem dX6_in_9 : decode cX6_in 9 = .ok (.lcmp, 1) := by decide +kernel
theorem dX6_in_10 : decode cX6_in 10 = .ok (.ifCond .gt 7, 3) := by decide +kernel
theorem dX6_in_13 : decode cX6_in 13 = .ok (.iconst 1, 1) := by decide +kernel
theorem dX6_in_14 : decode cX6_in 14 = .ok (.goto 4, 3) := by decide +kernel
theorem dX6_in_17 : decode cX6_in 17 = .ok (.iconst 0, 1) := by decide +kernel
theorem dX6_in_18 : decode cX6_in 18 = .ok (.ireturn, 1) := by decide +kernel
theorem dX6_no_0 : decode cX6_no 0 = .ok (.ldc2_w 86, 3) := by decide +kernel
theorem dX6_no_3 : decode cX6_no 3 = .ok (.iload_n 0, 1) := by decide +kernel
theorem dX6_no_4 : decode cX6_no 4 = .ok (.i2l, 1) := by decide +kernel
theorem dX6_no_5 : decode cX6_no 5 = .ok (.lsub, 1) := by decide +kernel
theorem dX6_no_6 : decode cX6_no 6 = .ok (.lreturn, 1) := by decide +kernel
theorem dX6_isTwo_0 : decode cX6_isTwo 0 = .ok (.iload_n 0, 1) := by decide +kernel
theorem dX6_isTwo_1 : decode cX6_isTwo 1 = .ok (.i2l, 1) := by decide +kernel
theorem dX6_isTwo_2 : decode cX6_isTwo 2 = .ok (.lconst 0, 1) := by decide +kernel
theorem dX6_isTwo_3 : decode cX6_isTwo 3 = .ok (.lconst 1, 1) := by decide +kernel
theorem dX6_isTwo_4 : decode cX6_isTwo 4 = .ok (.invokestatic 88, 3) := by decide +kernel
theorem dX6_isTwo_7 : decode cX6_isTwo 7 = .ok (.ireturn, 1) := by decide +kernel
theorem dX6_isIn_0 : decode cX6_isIn 0 = .ok (.iload_n 0, 1) := by decide +kernel
theorem dX6_isIn_1 : decode cX6_isIn 1 = .ok (.iload_n 1, 1) := by decide +kernel
theorem dX6_isIn_2 : decode cX6_isIn 2 = .ok (.ishr, 1) := by decide +kernel
theorem dX6_isIn_3 : decode cX6_isIn 3 = .ok (.iconst 1, 1) := by decide +kernel
theorem dX6_isIn_4 : decode cX6_isIn 4 = .ok (.iand, 1) := by decide +kernel
theorem dX6_isIn_5 : decode cX6_isIn 5 = .ok (.iconst 1, 1) := by decide +kernel
theorem dX6_isIn_6 : decode cX6_isIn 6 = .ok (.if_icmp .ne 7, 3) := by decide +kernel
theorem dX6_isIn_9 : decode cX6_isIn 9 = .ok (.iconst 1, 1) := by decide +kernel
theorem dX6_isIn_10 : decode cX6_isIn 10 = .ok (.goto 4, 3) := by decide +kernel
theorem dX6_isIn_13 : decode cX6_isIn 13 = .ok (.iconst 0, 1) := by decide +kernel
theorem dX6_isIn_14 : decode cX6_isIn 14 = .ok (.ireturn, 1) := by decide +kernel
theorem dX6_lesser_0 : decode cX6_lesser 0 = .ok (.iload_n 0, 1) := by decide +kernel
theorem dX6_lesser_1 : decode cX6_lesser 1 = .ok (.iload_n 1, 1) := by decide +kernel
theorem dX6_lesser_2 : decode cX6_lesser 2 = .ok (.if_icmp .ge 7, 3) := by decide +kernel
theorem dX6_lesser_5 : decode cX6_lesser 5 = .ok (.iload_n 0, 1) := by decide +kernel
theorem dX6_lesser_6 : decode cX6_lesser 6 = .ok (.goto 4, 3) := by decide +kernel
theorem dX6_lesser_9 : decode cX6_lesser 9 = .ok (.iload_n 1, 1) := by decide +kernel
theorem dX6_lesser_10 : decode cX6_lesser 10 = .ok (.ireturn, 1) := by decide +kernel
theorem dX6_greater_0 : decode cX6_greater 0 = .ok (.iload_n 0, 1) := by decide +kernel
theorem dX6_greater_1 : decode cX6_greater 1 = .ok (.iload_n 1, 1) := by decide +kernel
theorem dX6_greater_2 : decode cX6_greater 2 = .ok (.if_icmp .le 7, 3) := by decide +kernel
theorem dX6_greater_5 : decode cX6_greater 5 = .ok (.iload_n 0, 1) := by decide +kernel
theorem dX6_greater_6 : decode cX6_greater 6 = .ok (.goto 4, 3) := by decide +kernel
theorem dX6_greater_9 : decode cX6_greater 9 = .ok (.iload_n 1, 1) := by decide +kernel
theorem dX6_greater_10 : decode cX6_greater 10 = .ok (.ireturn, 1) := by decide +kernel
theorem dX6_part_0 : decode cX6_part 0 = .ok (.lload_n 0, 1) := by decide +kernel
theorem dX6_part_1 : decode cX6_part 1 = .ok (.lstore 5, 2) := by decide +kernel
theorem dX6_part_3 : decode cX6_part 3 = .ok (.lload_n 2, 1) := by decide +kernel
theorem dX6_part_4 : decode cX6_part 4 = .ok (.lstore 7, 2) := by decide +kernel
theorem dX6_part_6 : decode cX6_part 6 = .ok (.lload 7, 2) := by decide +kernel
theorem dX6_part_8 : decode cX6_part 8 = .ok (.lconst 0, 1) := by decide +kernel
theorem dX6_part_9 : decode cX6_part 9 = .ok (.lcmp, 1) := by decide +kernel
theorem dX6_part_10 : decode cX6_part 10 = .ok (.ifCond .eq 21, 3) := by decide +kernel
theorem dX6_part_13 : decode cX6_part 13 = .ok (.lload 5, 2) := by decide +kernel
theorem dX6_part_15 : decode cX6_part 15 = .ok (.lload 7, 2) := by decide +kernel
theorem dX6_part_17 : decode cX6_part 17 = .ok (.lrem, 1) := by decide +kernel
theorem dX6_part_18 : decode cX6_part 18 = .ok (.lstore 9, 2) := by decide +kernel
theorem dX6_part_20 : decode cX6_part 20 = .ok (.lload 7, 2) := by decide +kernel
theorem dX6_part_22 : decode cX6_part 22 = .ok (.lstore 5, 2) := by decide +kernel
theorem dX6_part_24 : decode cX6_part 24 = .ok (.lload 9, 2) := by decide +kernel
theorem dX6_part_26 : decode cX6_part 26 = .ok (.lstore 7, 2) := by decide +kernel
theorem dX6_part_28 : decode cX6_part 28 = .ok (.goto (-22), 3) := by decide +kernel
theorem dX6_part_31 : decode cX6_part 31 = .ok (.iload 4, 2) := by decide +kernel
theorem dX6_part_33 : decode cX6_part 33 = .ok (.ifCond .ne 7, 3) := by decide +kernel
theorem dX6_part_36 : decode cX6_part 36 = .ok (.lload_n 0, 1) := by decide +kernel
theorem dX6_part_37 : decode cX6_part 37 = .ok (.goto 4, 3) := by decide +kernel
theorem dX6_part_40 : decode cX6_part 40 = .ok (.lload_n 2, 1) := by decide +kernel
theorem dX6_part_41 : decode cX6_part 41 = .ok (.lload 5, 2) := by decide +kernel
theorem dX6_part_43 : decode cX6_part 43 = .ok (.ldiv, 1) := by decide +kernel
theorem dX6_part_44 : decode cX6_part 44 = .ok (.lreturn, 1) := by decide +kernel
theorem dX6_finds_0 : decode cX6_finds 0 = .ok (.aload_n 0, 1) := by decide +kernel
theorem dX6_finds_1 : decode cX6_finds 1 = .ok (.iload_n 1, 1) := by decide +kernel
theorem dX6_finds_2 : decode cX6_finds 2 = .ok (.putfield 92, 3) := by decide +kernel
theorem dX6_finds_5 : decode cX6_finds 5 = .ok (.bipush (-10), 2) := by decide +kernel
theorem dX6_finds_7 : decode cX6_finds 7 = .ok (.iload_n 1, 1) := by decide +kernel
theorem dX6_finds_8 : decode cX6_finds 8 = .ok (.isub, 1) := by decide +kernel
theorem dX6_finds_9 : decode cX6_finds 9 = .ok (.ireturn, 1) := by decide +kernel
theorem dX6_isSheet_0 : decode cX6_isSheet 0 = .ok (.iload_n 0, 1) := by decide +kernel
theorem dX6_isSheet_1 : decode cX6_isSheet 1 = .ok (.i2l, 1) := by decide +kernel
theorem dX6_isSheet_2 : decode cX6_isSheet 2 = .ok (.lconst 0, 1) := by decide +kernel
theorem dX6_isSheet_3 : decode cX6_isSheet 3 = .ok (.ldc2_w 95, 3) := by decide +kernel
theorem dX6_isSheet_6 : decode cX6_isSheet 6 = .ok (.invokestatic 88, 3) := by decide +kernel
theorem dX6_isSheet_9 : decode cX6_isSheet 9 = .ok (.ireturn, 1) := by decide +kernel
theorem dX6_sheet_0 : decode cX6_sheet 0 = .ok (.iload_n 1, 1) := by decide +kernel
theorem dX6_sheet_1 : decode cX6_sheet 1 = .ok (.invokestatic 97, 3) := by decide +kernel
theorem dX6_sheet_4 : decode cX6_sheet 4 = .ok (.ifCond .eq 21, 3) := by decide +kernel
theorem dX6_sheet_7 : decode cX6_sheet 7 = .ok (.iload_n 2, 1) := by decide +kernel
theorem dX6_sheet_8 : decode cX6_sheet 8 = .ok (.i2l, 1) := by decide +kernel
theorem dX6_sheet_9 : decode cX6_sheet 9 = .ok (.lconst 0, 1) := by decide +kernel
theorem dX6_sheet_10 : decode cX6_sheet 10 = .ok (.ldc2_w 101, 3) := by decide +kernel
theorem dX6_sheet_13 : decode cX6_sheet 13 = .ok (.invokestatic 88, 3) := by decide +kernel
theorem dX6_sheet_16 : decode cX6_sheet 16 = .ok (.ifCond .eq 9, 3) := by decide +kernel
theorem dX6_sheet_19 : decode cX6_sheet 19 = .ok (.iload_n 3, 1) := by decide +kernel
theorem dX6_sheet_20 : decode cX6_sheet 20 = .ok (.bipush 60, 2) := by decide +kernel
theorem dX6_sheet_22 : decode cX6_sheet 22 = .ok (.if_icmp .le 6, 3) := by decide +kernel
theorem dX6_sheet_25 : decode cX6_sheet 25 = .ok (.bipush (-2), 2) := by decide +kernel
theorem dX6_sheet_27 : decode cX6_sheet 27 = .ok (.ireturn, 1) := by decide +kernel
theorem dX6_sheet_28 : decode cX6_sheet 28 = .ok (.iload_n 3, 1) := by decide +kernel
theorem dX6_sheet_29 : decode cX6_sheet 29 = .ok (.ifCond .ge 9, 3) := by decide +kernel
theorem dX6_sheet_32 : decode cX6_sheet 32 = .ok (.aload_n 0, 1) := by decide +kernel
theorem dX6_sheet_33 : decode cX6_sheet 33 = .ok (.iconst 5, 1) := by decide +kernel
theorem dX6_sheet_34 : decode cX6_sheet 34 = .ok (.invokevirtual 103, 3) := by decide +kernel
theorem dX6_sheet_37 : decode cX6_sheet 37 = .ok (.ireturn, 1) := by decide +kernel
theorem dX6_sheet_38 : decode cX6_sheet 38 = .ok (.aload_n 0, 1) := by decide +kernel
theorem dX6_sheet_39 : decode cX6_sheet 39 = .ok (.getfield 7, 3) := by decide +kernel
theorem dX6_sheet_42 : decode cX6_sheet 42 = .ok (.iload_n 1, 1) := by decide +kernel
theorem dX6_sheet_43 : decode cX6_sheet 43 = .ok (.iload_n 2, 1) := by decide +kernel
theorem dX6_sheet_44 : decode cX6_sheet 44 = .ok (.iastore, 1) := by decide +kernel
theorem dX6_sheet_45 : decode cX6_sheet 45 = .ok (.aload_n 0, 1) := by decide +kernel
theorem dX6_sheet_46 : decode cX6_sheet 46 = .ok (.getfield 13, 3) := by decide +kernel
theorem dX6_sheet_49 : decode cX6_sheet 49 = .ok (.iload_n 1, 1) := by decide +kernel
theorem dX6_sheet_50 : decode cX6_sheet 50 = .ok (.iload_n 3, 1) := by decide +kernel
theorem dX6_sheet_51 : decode cX6_sheet 51 = .ok (.iastore, 1) := by decide +kernel
theorem dX6_sheet_52 : decode cX6_sheet 52 = .ok (.iconst 0, 1) := by decide +kernel
theorem dX6_sheet_53 : decode cX6_sheet 53 = .ok (.istore 4, 2) := by decide +kernel
theorem dX6_sheet_55 : decode cX6_sheet 55 = .ok (.iload 4, 2) := by decide +kernel
theorem dX6_sheet_57 : decode cX6_sheet 57 = .ok (.iload_n 3, 1) := by decide +kernel
theorem dX6_sheet_58 : decode cX6_sheet 58 = .ok (.if_icmp .ge 22, 3) := by decide +kernel
theorem dX6_sheet_61 : decode cX6_sheet 61 = .ok (.aload_n 0, 1) := by decide +kernel
theorem dX6_sheet_62 : decode cX6_sheet 62 = .ok (.getfield 16, 3) := by decide +kernel
theorem dX6_sheet_65 : decode cX6_sheet 65 = .ok (.bipush 60, 2) := by decide +kernel
theorem dX6_sheet_67 : decode cX6_sheet 67 = .ok (.iload_n 1, 1) := by decide +kernel
theorem dX6_sheet_68 : decode cX6_sheet 68 = .ok (.imul, 1) := by decide +kernel
theorem dX6_sheet_69 : decode cX6_sheet 69 = .ok (.iload 4, 2) := by decide +kernel
theorem dX6_sheet_71 : decode cX6_sheet 71 = .ok (.iadd, 1) := by decide +kernel
theorem dX6_sheet_72 : decode cX6_sheet 72 = .ok (.iconst 0, 1) := by decide +kernel
theorem dX6_sheet_73 : decode cX6_sheet 73 = .ok (.iastore, 1) := by decide +kernel
theorem dX6_sheet_74 : decode cX6_sheet 74 = .ok (.iinc 4 1, 3) := by decide +kernel
theorem dX6_sheet_77 : decode cX6_sheet 77 = .ok (.goto (-22), 3) := by decide +kernel
theorem dX6_sheet_80 : decode cX6_sheet 80 = .ok (.iload_n 3, 1) := by decide +kernel
theorem dX6_sheet_81 : decode cX6_sheet 81 = .ok (.ireturn, 1) := by decide +kernel
theorem dX6_lose_0 : decode cX6_lose 0 = .ok (.iload_n 1, 1) := by decide +kernel
theorem dX6_lose_1 : decode cX6_lose 1 = .ok (.invokestatic 97, 3) := by decide +kernel
theorem dX6_lose_4 : decode cX6_lose 4 = .ok (.ifCond .ne 6, 3) := by decide +kernel
theorem dX6_lose_7 : decode cX6_lose 7 = .ok (.bipush (-2), 2) := by decide +kernel
theorem dX6_lose_9 : decode cX6_lose 9 = .ok (.ireturn, 1) := by decide +kernel
theorem dX6_lose_10 : decode cX6_lose 10 = .ok (.aload_n 0, 1) := by decide +kernel
theorem dX6_lose_11 : decode cX6_lose 11 = .ok (.getfield 7, 3) := by decide +kernel
theorem dX6_lose_14 : decode cX6_lose 14 = .ok (.iload_n 1, 1) := by decide +kernel
theorem dX6_lose_15 : decode cX6_lose 15 = .ok (.iaload, 1) := by decide +kernel
theorem dX6_lose_16 : decode cX6_lose 16 = .ok (.ifCond .ge 9, 3) := by decide +kernel
theorem dX6_lose_19 : decode cX6_lose 19 = .ok (.aload_n 0, 1) := by decide +kernel
theorem dX6_lose_20 : decode cX6_lose 20 = .ok (.iconst 1, 1) := by decide +kernel
theorem dX6_lose_21 : decode cX6_lose 21 = .ok (.invokevirtual 103, 3) := by decide +kernel
theorem dX6_lose_24 : decode cX6_lose 24 = .ok (.ireturn, 1) := by decide +kernel
theorem dX6_lose_25 : decode cX6_lose 25 = .ok (.aload_n 0, 1) := by decide +kernel
theorem dX6_lose_26 : decode cX6_lose 26 = .ok (.getfield 7, 3) := by decide +kernel
theorem dX6_lose_29 : decode cX6_lose 29 = .ok (.iload_n 1, 1) := by decide +kernel
theorem dX6_lose_30 : decode cX6_lose 30 = .ok (.iconst (-1), 1) := by decide +kernel
theorem dX6_lose_31 : decode cX6_lose 31 = .ok (.iastore, 1) := by decide +kernel
theorem dX6_lose_32 : decode cX6_lose 32 = .ok (.aload_n 0, 1) := by decide +kernel
theorem dX6_lose_33 : decode cX6_lose 33 = .ok (.getfield 13, 3) := by decide +kernel
theorem dX6_lose_36 : decode cX6_lose 36 = .ok (.iload_n 1, 1) := by decide +kernel
theorem dX6_lose_37 : decode cX6_lose 37 = .ok (.iaload, 1) := by decide +kernel
theorem dX6_lose_38 : decode cX6_lose 38 = .ok (.ireturn, 1) := by decide +kernel
theorem dX6_lacks_0 : decode cX6_lacks 0 = .ok (.aload_n 0, 1) := by decide +kernel
theorem dX6_lacks_1 : decode cX6_lacks 1 = .ok (.getfield 7, 3) := by decide +kernel
theorem dX6_lacks_4 : decode cX6_lacks 4 = .ok (.iload_n 1, 1) := by decide +kernel
theorem dX6_lacks_5 : decode cX6_lacks 5 = .ok (.iaload, 1) := by decide +kernel
theorem dX6_lacks_6 : decode cX6_lacks 6 = .ok (.ifCond .ge 9, 3) := by decide +kernel
theorem dX6_lacks_9 : decode cX6_lacks 9 = .ok (.aload_n 0, 1) := by decide +kernel
theorem dX6_lacks_10 : decode cX6_lacks 10 = .ok (.iconst 1, 1) := by decide +kernel
theorem dX6_lacks_11 : decode cX6_lacks 11 = .ok (.invokevirtual 103, 3) := by decide +kernel
theorem dX6_lacks_14 : decode cX6_lacks 14 = .ok (.ireturn, 1) := by decide +kernel
theorem dX6_lacks_15 : decode cX6_lacks 15 = .ok (.aload_n 0, 1) := by decide +kernel
theorem dX6_lacks_16 : decode cX6_lacks 16 = .ok (.getfield 7, 3) := by decide +kernel
theorem dX6_lacks_19 : decode cX6_lacks 19 = .ok (.iload_n 1, 1) := by decide +kernel
theorem dX6_lacks_20 : decode cX6_lacks 20 = .ok (.iaload, 1) := by decide +kernel
theorem dX6_lacks_21 : decode cX6_lacks 21 = .ok (.iload_n 2, 1) := by decide +kernel
theorem dX6_lacks_22 : decode cX6_lacks 22 = .ok (.if_icmp .eq 9, 3) := by decide +kernel
theorem dX6_lacks_25 : decode cX6_lacks 25 = .ok (.aload_n 0, 1) := by decide +kernel
theorem dX6_lacks_26 : decode cX6_lacks 26 = .ok (.iconst 3, 1) := by decide +kernel
theorem dX6_lacks_27 : decode cX6_lacks 27 = .ok (.invokevirtual 103, 3) := by decide +kernel
theorem dX6_lacks_30 : decode cX6_lacks 30 = .ok (.ireturn, 1) := by decide +kernel
theorem dX6_lacks_31 : decode cX6_lacks 31 = .ok (.iload_n 3, 1) := by decide +kernel
theorem dX6_lacks_32 : decode cX6_lacks 32 = .ok (.i2l, 1) := by decide +kernel
theorem dX6_lacks_33 : decode cX6_lacks 33 = .ok (.lconst 0, 1) := by decide +kernel
theorem dX6_lacks_34 : decode cX6_lacks 34 = .ok (.aload_n 0, 1) := by decide +kernel
theorem dX6_lacks_35 : decode cX6_lacks 35 = .ok (.getfield 13, 3) := by decide +kernel
theorem dX6_lacks_38 : decode cX6_lacks 38 = .ok (.iload_n 1, 1) := by decide +kernel
theorem dX6_lacks_39 : decode cX6_lacks 39 = .ok (.iaload, 1) := by decide +kernel
theorem dX6_lacks_40 : decode cX6_lacks 40 = .ok (.iconst 1, 1) := by decide +kernel
theorem dX6_lacks_41 : decode cX6_lacks 41 = .ok (.isub, 1) := by decide +kernel
theorem dX6_lacks_42 : decode cX6_lacks 42 = .ok (.i2l, 1) := by decide +kernel
theorem dX6_lacks_43 : decode cX6_lacks 43 = .ok (.invokestatic 88, 3) := by decide +kernel
theorem dX6_lacks_46 : decode cX6_lacks 46 = .ok (.ifCond .eq 7, 3) := by decide +kernel
theorem dX6_lacks_49 : decode cX6_lacks 49 = .ok (.iconst 0, 1) := by decide +kernel
theorem dX6_lacks_50 : decode cX6_lacks 50 = .ok (.goto 8, 3) := by decide +kernel
theorem dX6_lacks_53 : decode cX6_lacks 53 = .ok (.aload_n 0, 1) := by decide +kernel
theorem dX6_lacks_54 : decode cX6_lacks 54 = .ok (.iconst 2, 1) := by decide +kernel
theorem dX6_lacks_55 : decode cX6_lacks 55 = .ok (.invokevirtual 103, 3) := by decide +kernel
theorem dX6_lacks_58 : decode cX6_lacks 58 = .ok (.ireturn, 1) := by decide +kernel
theorem dX6_cut_0 : decode cX6_cut 0 = .ok (.iload_n 0, 1) := by decide +kernel
theorem dX6_cut_1 : decode cX6_cut 1 = .ok (.ifCond .ne 8, 3) := by decide +kernel
theorem dX6_cut_4 : decode cX6_cut 4 = .ok (.iload_n 1, 1) := by decide +kernel
theorem dX6_cut_5 : decode cX6_cut 5 = .ok (.i2b, 1) := by decide +kernel
theorem dX6_cut_6 : decode cX6_cut 6 = .ok (.goto 14, 3) := by decide +kernel
theorem dX6_cut_9 : decode cX6_cut 9 = .ok (.iload_n 0, 1) := by decide +kernel
theorem dX6_cut_10 : decode cX6_cut 10 = .ok (.iconst 1, 1) := by decide +kernel
theorem dX6_cut_11 : decode cX6_cut 11 = .ok (.if_icmp .ne 8, 3) := by decide +kernel
theorem dX6_cut_14 : decode cX6_cut 14 = .ok (.iload_n 1, 1) := by decide +kernel
theorem dX6_cut_15 : decode cX6_cut 15 = .ok (.i2s, 1) := by decide +kernel
theorem dX6_cut_16 : decode cX6_cut 16 = .ok (.goto 4, 3) := by decide +kernel
theorem dX6_cut_19 : decode cX6_cut 19 = .ok (.iload_n 1, 1) := by decide +kernel
theorem dX6_cut_20 : decode cX6_cut 20 = .ok (.ireturn, 1) := by decide +kernel
theorem dX6_lay_0 : decode cX6_lay 0 = .ok (.iload_n 1, 1) := by decide +kernel
theorem dX6_lay_1 : decode cX6_lay 1 = .ok (.invokestatic 97, 3) := by decide +kernel
theorem dX6_lay_4 : decode cX6_lay 4 = .ok (.ifCond .eq 15, 3) := by decide +kernel
theorem dX6_lay_7 : decode cX6_lay 7 = .ok (.iload_n 2, 1) := by decide +kernel
theorem dX6_lay_8 : decode cX6_lay 8 = .ok (.i2l, 1) := by decide +kernel
theorem dX6_lay_9 : decode cX6_lay 9 = .ok (.lconst 0, 1) := by decide +kernel
theorem dX6_lay_10 : decode cX6_lay 10 = .ok (.ldc2_w 101, 3) := by decide +kernel
theorem dX6_lay_13 : decode cX6_lay 13 = .ok (.invokestatic 88, 3) := by decide +kernel
theorem dX6_lay_16 : decode cX6_lay 16 = .ok (.ifCond .ne 6, 3) := by decide +kernel
theorem dX6_lay_19 : decode cX6_lay 19 = .ok (.bipush (-2), 2) := by decide +kernel
theorem dX6_lay_21 : decode cX6_lay 21 = .ok (.ireturn, 1) := by decide +kernel
theorem dX6_lay_22 : decode cX6_lay 22 = .ok (.aload_n 0, 1) := by decide +kernel
theorem dX6_lay_23 : decode cX6_lay 23 = .ok (.iload_n 1, 1) := by decide +kernel
theorem dX6_lay_24 : decode cX6_lay 24 = .ok (.iload_n 2, 1) := by decide +kernel
theorem dX6_lay_25 : decode cX6_lay 25 = .ok (.iload_n 3, 1) := by decide +kernel
theorem dX6_lay_26 : decode cX6_lay 26 = .ok (.invokevirtual 107, 3) := by decide +kernel
theorem dX6_lay_29 : decode cX6_lay 29 = .ok (.istore 5, 2) := by decide +kernel
theorem dX6_lay_31 : decode cX6_lay 31 = .ok (.iload 5, 2) := by decide +kernel
theorem dX6_lay_33 : decode cX6_lay 33 = .ok (.ifCond .eq 6, 3) := by decide +kernel
theorem dX6_lay_36 : decode cX6_lay 36 = .ok (.iload 5, 2) := by decide +kernel
theorem dX6_lay_38 : decode cX6_lay 38 = .ok (.ireturn, 1) := by decide +kernel
theorem dX6_lay_39 : decode cX6_lay 39 = .ok (.aload_n 0, 1) := by decide +kernel
theorem dX6_lay_40 : decode cX6_lay 40 = .ok (.getfield 16, 3) := by decide +kernel
theorem dX6_lay_43 : decode cX6_lay 43 = .ok (.bipush 60, 2) := by decide +kernel
theorem dX6_lay_45 : decode cX6_lay 45 = .ok (.iload_n 1, 1) := by decide +kernel
theorem dX6_lay_46 : decode cX6_lay 46 = .ok (.imul, 1) := by decide +kernel
theorem dX6_lay_47 : decode cX6_lay 47 = .ok (.iload_n 3, 1) := by decide +kernel
theorem dX6_lay_48 : decode cX6_lay 48 = .ok (.iadd, 1) := by decide +kernel
theorem dX6_lay_49 : decode cX6_lay 49 = .ok (.iload_n 2, 1) := by decide +kernel
theorem dX6_lay_50 : decode cX6_lay 50 = .ok (.iload 4, 2) := by decide +kernel
theorem dX6_lay_52 : decode cX6_lay 52 = .ok (.invokestatic 111, 3) := by decide +kernel
theorem dX6_lay_55 : decode cX6_lay 55 = .ok (.iastore, 1) := by decide +kernel
theorem dX6_lay_56 : decode cX6_lay 56 = .ok (.iconst 1, 1) := by decide +kernel
theorem dX6_lay_57 : decode cX6_lay 57 = .ok (.ireturn, 1) := by decide +kernel
theorem dX6_get_0 : decode cX6_get 0 = .ok (.iload_n 1, 1) := by decide +kernel
theorem dX6_get_1 : decode cX6_get 1 = .ok (.invokestatic 97, 3) := by decide +kernel
theorem dX6_get_4 : decode cX6_get 4 = .ok (.ifCond .eq 25, 3) := by decide +kernel
theorem dX6_get_7 : decode cX6_get 7 = .ok (.iload_n 2, 1) := by decide +kernel
theorem dX6_get_8 : decode cX6_get 8 = .ok (.i2l, 1) := by decide +kernel
theorem dX6_get_9 : decode cX6_get 9 = .ok (.lconst 0, 1) := by decide +kernel
theorem dX6_get_10 : decode cX6_get 10 = .ok (.ldc2_w 101, 3) := by decide +kernel
theorem dX6_get_13 : decode cX6_get 13 = .ok (.invokestatic 88, 3) := by decide +kernel
theorem dX6_get_16 : decode cX6_get 16 = .ok (.ifCond .eq 13, 3) := by decide +kernel
theorem dX6_get_19 : decode cX6_get 19 = .ok (.aload_n 0, 1) := by decide +kernel
theorem dX6_get_20 : decode cX6_get 20 = .ok (.iload_n 1, 1) := by decide +kernel
theorem dX6_get_21 : decode cX6_get 21 = .ok (.iload_n 2, 1) := by decide +kernel
theorem dX6_get_22 : decode cX6_get 22 = .ok (.iload_n 3, 1) := by decide +kernel
theorem dX6_get_23 : decode cX6_get 23 = .ok (.invokevirtual 107, 3) := by decide +kernel
theorem dX6_get_26 : decode cX6_get 26 = .ok (.ifCond .eq 6, 3) := by decide +kernel
theorem dX6_get_29 : decode cX6_get 29 = .ok (.ldc 115, 2) := by decide +kernel
theorem dX6_get_31 : decode cX6_get 31 = .ok (.ireturn, 1) := by decide +kernel
theorem dX6_get_32 : decode cX6_get 32 = .ok (.aload_n 0, 1) := by decide +kernel
theorem dX6_get_33 : decode cX6_get 33 = .ok (.getfield 16, 3) := by decide +kernel
theorem dX6_get_36 : decode cX6_get 36 = .ok (.bipush 60, 2) := by decide +kernel
theorem dX6_get_38 : decode cX6_get 38 = .ok (.iload_n 1, 1) := by decide +kernel
theorem dX6_get_39 : decode cX6_get 39 = .ok (.imul, 1) := by decide +kernel
theorem dX6_get_40 : decode cX6_get 40 = .ok (.iload_n 3, 1) := by decide +kernel
theorem dX6_get_41 : decode cX6_get 41 = .ok (.iadd, 1) := by decide +kernel
theorem dX6_get_42 : decode cX6_get 42 = .ok (.iaload, 1) := by decide +kernel
theorem dX6_get_43 : decode cX6_get 43 = .ok (.ireturn, 1) := by decide +kernel
theorem dX6_copy_0 : decode cX6_copy 0 = .ok (.iload_n 1, 1) := by decide +kernel
theorem dX6_copy_1 : decode cX6_copy 1 = .ok (.invokestatic 97, 3) := by decide +kernel
theorem dX6_copy_4 : decode cX6_copy 4 = .ok (.ifCond .eq 10, 3) := by decide +kernel
theorem dX6_copy_7 : decode cX6_copy 7 = .ok (.iload_n 3, 1) := by decide +kernel
theorem dX6_copy_8 : decode cX6_copy 8 = .ok (.invokestatic 97, 3) := by decide +kernel
theorem dX6_copy_11 : decode cX6_copy 11 = .ok (.ifCond .ne 6, 3) := by decide +kernel
theorem dX6_copy_14 : decode cX6_copy 14 = .ok (.bipush (-2), 2) := by decide +kernel
theorem dX6_copy_16 : decode cX6_copy 16 = .ok (.ireturn, 1) := by decide +kernel
theorem dX6_copy_17 : decode cX6_copy 17 = .ok (.aload_n 0, 1) := by decide +kernel
theorem dX6_copy_18 : decode cX6_copy 18 = .ok (.getfield 7, 3) := by decide +kernel
theorem dX6_copy_21 : decode cX6_copy 21 = .ok (.iload_n 1, 1) := by decide +kernel
theorem dX6_copy_22 : decode cX6_copy 22 = .ok (.iaload, 1) := by decide +kernel
theorem dX6_copy_23 : decode cX6_copy 23 = .ok (.ifCond .lt 12, 3) := by decide +kernel
theorem dX6_copy_26 : decode cX6_copy 26 = .ok (.aload_n 0, 1) := by decide +kernel
theorem dX6_copy_27 : decode cX6_copy 27 = .ok (.getfield 7, 3) := by decide +kernel
theorem dX6_copy_30 : decode cX6_copy 30 = .ok (.iload_n 3, 1) := by decide +kernel
theorem dX6_copy_31 : decode cX6_copy 31 = .ok (.iaload, 1) := by decide +kernel
theorem dX6_copy_32 : decode cX6_copy 32 = .ok (.ifCond .ge 9, 3) := by decide +kernel
theorem dX6_copy_35 : decode cX6_copy 35 = .ok (.aload_n 0, 1) := by decide +kernel
theorem dX6_copy_36 : decode cX6_copy 36 = .ok (.iconst 1, 1) := by decide +kernel
theorem dX6_copy_37 : decode cX6_copy 37 = .ok (.invokevirtual 103, 3) := by decide +kernel
theorem dX6_copy_40 : decode cX6_copy 40 = .ok (.ireturn, 1) := by decide +kernel
theorem dX6_copy_41 : decode cX6_copy 41 = .ok (.aload_n 0, 1) := by decide +kernel
theorem dX6_copy_42 : decode cX6_copy 42 = .ok (.getfield 7, 3) := by decide +kernel
theorem dX6_copy_45 : decode cX6_copy 45 = .ok (.iload_n 1, 1) := by decide +kernel
theorem dX6_copy_46 : decode cX6_copy 46 = .ok (.iaload, 1) := by decide +kernel
theorem dX6_copy_47 : decode cX6_copy 47 = .ok (.aload_n 0, 1) := by decide +kernel
theorem dX6_copy_48 : decode cX6_copy 48 = .ok (.getfield 7, 3) := by decide +kernel
theorem dX6_copy_51 : decode cX6_copy 51 = .ok (.iload_n 3, 1) := by decide +kernel
theorem dX6_copy_52 : decode cX6_copy 52 = .ok (.iaload, 1) := by decide +kernel
theorem dX6_copy_53 : decode cX6_copy 53 = .ok (.if_icmp .eq 9, 3) := by decide +kernel
theorem dX6_copy_56 : decode cX6_copy 56 = .ok (.aload_n 0, 1) := by decide +kernel
theorem dX6_copy_57 : decode cX6_copy 57 = .ok (.iconst 4, 1) := by decide +kernel
theorem dX6_copy_58 : decode cX6_copy 58 = .ok (.invokevirtual 103, 3) := by decide +kernel
theorem dX6_copy_61 : decode cX6_copy 61 = .ok (.ireturn, 1) := by decide +kernel
theorem dX6_copy_62 : decode cX6_copy 62 = .ok (.iload_n 2, 1) := by decide +kernel
theorem dX6_copy_63 : decode cX6_copy 63 = .ok (.ifCond .lt 48, 3) := by decide +kernel
theorem dX6_copy_66 : decode cX6_copy 66 = .ok (.iload 4, 2) := by decide +kernel
theorem dX6_copy_68 : decode cX6_copy 68 = .ok (.ifCond .lt 43, 3) := by decide +kernel
theorem dX6_copy_71 : decode cX6_copy 71 = .ok (.iload 5, 2) := by decide +kernel
theorem dX6_copy_73 : decode cX6_copy 73 = .ok (.ifCond .lt 38, 3) := by decide +kernel
theorem dX6_copy_76 : decode cX6_copy 76 = .ok (.iload_n 2, 1) := by decide +kernel
theorem dX6_copy_77 : decode cX6_copy 77 = .ok (.i2l, 1) := by decide +kernel
theorem dX6_copy_78 : decode cX6_copy 78 = .ok (.iload 5, 2) := by decide +kernel
theorem dX6_copy_80 : decode cX6_copy 80 = .ok (.i2l, 1) := by decide +kernel
theorem dX6_copy_81 : decode cX6_copy 81 = .ok (.ladd, 1) := by decide +kernel
theorem dX6_copy_82 : decode cX6_copy 82 = .ok (.aload_n 0, 1) := by decide +kernel
theorem dX6_copy_83 : decode cX6_copy 83 = .ok (.getfield 13, 3) := by decide +kernel
theorem dX6_copy_86 : decode cX6_copy 86 = .ok (.iload_n 1, 1) := by decide +kernel
theorem dX6_copy_87 : decode cX6_copy 87 = .ok (.iaload, 1) := by decide +kernel
theorem dX6_copy_88 : decode cX6_copy 88 = .ok (.i2l, 1) := by decide +kernel
theorem dX6_copy_89 : decode cX6_copy 89 = .ok (.lcmp, 1) := by decide +kernel
theorem dX6_copy_90 : decode cX6_copy 90 = .ok (.ifCond .gt 21, 3) := by decide +kernel
theorem dX6_copy_93 : decode cX6_copy 93 = .ok (.iload 4, 2) := by decide +kernel
theorem dX6_copy_95 : decode cX6_copy 95 = .ok (.i2l, 1) := by decide +kernel
theorem dX6_copy_96 : decode cX6_copy 96 = .ok (.iload 5, 2) := by decide +kernel
theorem dX6_copy_98 : decode cX6_copy 98 = .ok (.i2l, 1) := by decide +kernel
theorem dX6_copy_99 : decode cX6_copy 99 = .ok (.ladd, 1) := by decide +kernel
theorem dX6_copy_100 : decode cX6_copy 100 = .ok (.aload_n 0, 1) := by decide +kernel
theorem dX6_copy_101 : decode cX6_copy 101 = .ok (.getfield 13, 3) := by decide +kernel
theorem dX6_copy_104 : decode cX6_copy 104 = .ok (.iload_n 3, 1) := by decide +kernel
theorem dX6_copy_105 : decode cX6_copy 105 = .ok (.iaload, 1) := by decide +kernel
theorem dX6_copy_106 : decode cX6_copy 106 = .ok (.i2l, 1) := by decide +kernel
theorem dX6_copy_107 : decode cX6_copy 107 = .ok (.lcmp, 1) := by decide +kernel
theorem dX6_copy_108 : decode cX6_copy 108 = .ok (.ifCond .le 9, 3) := by decide +kernel
theorem dX6_copy_111 : decode cX6_copy 111 = .ok (.aload_n 0, 1) := by decide +kernel
theorem dX6_copy_112 : decode cX6_copy 112 = .ok (.iconst 2, 1) := by decide +kernel
theorem dX6_copy_113 : decode cX6_copy 113 = .ok (.invokevirtual 103, 3) := by decide +kernel
theorem dX6_copy_116 : decode cX6_copy 116 = .ok (.ireturn, 1) := by decide +kernel
theorem dX6_copy_117 : decode cX6_copy 117 = .ok (.iconst 0, 1) := by decide +kernel
theorem dX6_copy_118 : decode cX6_copy 118 = .ok (.istore 6, 2) := by decide +kernel
theorem dX6_copy_120 : decode cX6_copy 120 = .ok (.iload 6, 2) := by decide +kernel
theorem dX6_copy_122 : decode cX6_copy 122 = .ok (.iload 5, 2) := by decide +kernel
theorem dX6_copy_124 : decode cX6_copy 124 = .ok (.if_icmp .ge 30, 3) := by decide +kernel
theorem dX6_copy_127 : decode cX6_copy 127 = .ok (.aload_n 0, 1) := by decide +kernel
theorem dX6_copy_128 : decode cX6_copy 128 = .ok (.getfield 19, 3) := by decide +kernel
theorem dX6_copy_131 : decode cX6_copy 131 = .ok (.iload 6, 2) := by decide +kernel
theorem dX6_copy_133 : decode cX6_copy 133 = .ok (.aload_n 0, 1) := by decide +kernel
theorem dX6_copy_134 : decode cX6_copy 134 = .ok (.getfield 16, 3) := by decide +kernel
theorem dX6_copy_137 : decode cX6_copy 137 = .ok (.bipush 60, 2) := by decide +kernel
theorem dX6_copy_139 : decode cX6_copy 139 = .ok (.iload_n 1, 1) := by decide +kernel
theorem dX6_copy_140 : decode cX6_copy 140 = .ok (.imul, 1) := by decide +kernel
theorem dX6_copy_141 : decode cX6_copy 141 = .ok (.iload_n 2, 1) := by decide +kernel
theorem dX6_copy_142 : decode cX6_copy 142 = .ok (.iadd, 1) := by decide +kernel
theorem dX6_copy_143 : decode cX6_copy 143 = .ok (.iload 6, 2) := by decide +kernel
theorem dX6_copy_145 : decode cX6_copy 145 = .ok (.iadd, 1) := by decide +kernel
theorem dX6_copy_146 : decode cX6_copy 146 = .ok (.iaload, 1) := by decide +kernel
theorem dX6_copy_147 : decode cX6_copy 147 = .ok (.iastore, 1) := by decide +kernel
theorem dX6_copy_148 : decode cX6_copy 148 = .ok (.iinc 6 1, 3) := by decide +kernel
theorem dX6_copy_151 : decode cX6_copy 151 = .ok (.goto (-31), 3) := by decide +kernel
theorem dX6_copy_154 : decode cX6_copy 154 = .ok (.iconst 0, 1) := by decide +kernel
theorem dX6_copy_155 : decode cX6_copy 155 = .ok (.istore 6, 2) := by decide +kernel
theorem dX6_copy_157 : decode cX6_copy 157 = .ok (.iload 6, 2) := by decide +kernel
theorem dX6_copy_159 : decode cX6_copy 159 = .ok (.iload 5, 2) := by decide +kernel
theorem dX6_copy_161 : decode cX6_copy 161 = .ok (.if_icmp .ge 31, 3) := by decide +kernel
theorem dX6_copy_164 : decode cX6_copy 164 = .ok (.aload_n 0, 1) := by decide +kernel
theorem dX6_copy_165 : decode cX6_copy 165 = .ok (.getfield 16, 3) := by decide +kernel
theorem dX6_copy_168 : decode cX6_copy 168 = .ok (.bipush 60, 2) := by decide +kernel
theorem dX6_copy_170 : decode cX6_copy 170 = .ok (.iload_n 3, 1) := by decide +kernel
theorem dX6_copy_171 : decode cX6_copy 171 = .ok (.imul, 1) := by decide +kernel
theorem dX6_copy_172 : decode cX6_copy 172 = .ok (.iload 4, 2) := by decide +kernel
theorem dX6_copy_174 : decode cX6_copy 174 = .ok (.iadd, 1) := by decide +kernel
theorem dX6_copy_175 : decode cX6_copy 175 = .ok (.iload 6, 2) := by decide +kernel
theorem dX6_copy_177 : decode cX6_copy 177 = .ok (.iadd, 1) := by decide +kernel
theorem dX6_copy_178 : decode cX6_copy 178 = .ok (.aload_n 0, 1) := by decide +kernel
theorem dX6_copy_179 : decode cX6_copy 179 = .ok (.getfield 19, 3) := by decide +kernel
theorem dX6_copy_182 : decode cX6_copy 182 = .ok (.iload 6, 2) := by decide +kernel
theorem dX6_copy_184 : decode cX6_copy 184 = .ok (.iaload, 1) := by decide +kernel
theorem dX6_copy_185 : decode cX6_copy 185 = .ok (.iastore, 1) := by decide +kernel
theorem dX6_copy_186 : decode cX6_copy 186 = .ok (.iinc 6 1, 3) := by decide +kernel
theorem dX6_copy_189 : decode cX6_copy 189 = .ok (.goto (-32), 3) := by decide +kernel
theorem dX6_copy_192 : decode cX6_copy 192 = .ok (.iconst 1, 1) := by decide +kernel
theorem dX6_copy_193 : decode cX6_copy 193 = .ok (.ireturn, 1) := by decide +kernel
theorem dX6_isText_0 : decode cX6_isText 0 = .ok (.iload_n 0, 1) := by decide +kernel
theorem dX6_isText_1 : decode cX6_isText 1 = .ok (.i2l, 1) := by decide +kernel
theorem dX6_isText_2 : decode cX6_isText 2 = .ok (.lconst 0, 1) := by decide +kernel
theorem dX6_isText_3 : decode cX6_isText 3 = .ok (.ldc2_w 101, 3) := by decide +kernel
theorem dX6_isText_6 : decode cX6_isText 6 = .ok (.invokestatic 88, 3) := by decide +kernel
theorem dX6_isText_9 : decode cX6_isText 9 = .ok (.ireturn, 1) := by decide +kernel
theorem dX6_type_0 : decode cX6_type 0 = .ok (.iload_n 1, 1) := by decide +kernel
theorem dX6_type_1 : decode cX6_type 1 = .ok (.invokestatic 116, 3) := by decide +kernel
theorem dX6_type_4 : decode cX6_type 4 = .ok (.ifCond .eq 15, 3) := by decide +kernel
theorem dX6_type_7 : decode cX6_type 7 = .ok (.iload_n 2, 1) := by decide +kernel
theorem dX6_type_8 : decode cX6_type 8 = .ok (.i2l, 1) := by decide +kernel
theorem dX6_type_9 : decode cX6_type 9 = .ok (.lconst 0, 1) := by decide +kernel
theorem dX6_type_10 : decode cX6_type 10 = .ok (.ldc2_w 119, 3) := by decide +kernel
theorem dX6_type_13 : decode cX6_type 13 = .ok (.invokestatic 88, 3) := by decide +kernel
theorem dX6_type_16 : decode cX6_type 16 = .ok (.ifCond .ne 6, 3) := by decide +kernel
theorem dX6_type_19 : decode cX6_type 19 = .ok (.bipush (-2), 2) := by decide +kernel
theorem dX6_type_21 : decode cX6_type 21 = .ok (.ireturn, 1) := by decide +kernel
theorem dX6_type_22 : decode cX6_type 22 = .ok (.aload_n 0, 1) := by decide +kernel
theorem dX6_type_23 : decode cX6_type 23 = .ok (.getfield 25, 3) := by decide +kernel
theorem dX6_type_26 : decode cX6_type 26 = .ok (.iload_n 1, 1) := by decide +kernel
theorem dX6_type_27 : decode cX6_type 27 = .ok (.iaload, 1) := by decide +kernel
theorem dX6_type_28 : decode cX6_type 28 = .ok (.iload_n 1, 1) := by decide +kernel
theorem dX6_type_29 : decode cX6_type 29 = .ok (.ifCond .ne 8, 3) := by decide +kernel
theorem dX6_type_32 : decode cX6_type 32 = .ok (.bipush 47, 2) := by decide +kernel
theorem dX6_type_34 : decode cX6_type 34 = .ok (.goto 15, 3) := by decide +kernel
theorem dX6_type_37 : decode cX6_type 37 = .ok (.iload_n 1, 1) := by decide +kernel
theorem dX6_type_38 : decode cX6_type 38 = .ok (.iconst 1, 1) := by decide +kernel
theorem dX6_type_39 : decode cX6_type 39 = .ok (.if_icmp .ne 8, 3) := by decide +kernel
theorem dX6_type_42 : decode cX6_type 42 = .ok (.bipush 9, 2) := by decide +kernel
theorem dX6_type_44 : decode cX6_type 44 = .ok (.goto 5, 3) := by decide +kernel
theorem dX6_type_47 : decode cX6_type 47 = .ok (.bipush 35, 2) := by decide +kernel
theorem dX6_type_49 : decode cX6_type 49 = .ok (.if_icmp .ne 6, 3) := by decide +kernel
theorem dX6_type_52 : decode cX6_type 52 = .ok (.bipush (-4), 2) := by decide +kernel
theorem dX6_type_54 : decode cX6_type 54 = .ok (.ireturn, 1) := by decide +kernel
theorem dX6_type_55 : decode cX6_type 55 = .ok (.aload_n 0, 1) := by decide +kernel
theorem dX6_type_56 : decode cX6_type 56 = .ok (.getfield 22, 3) := by decide +kernel
theorem dX6_type_59 : decode cX6_type 59 = .ok (.bipush 48, 2) := by decide +kernel
theorem dX6_type_61 : decode cX6_type 61 = .ok (.iload_n 1, 1) := by decide +kernel
theorem dX6_type_62 : decode cX6_type 62 = .ok (.imul, 1) := by decide +kernel
theorem dX6_type_63 : decode cX6_type 63 = .ok (.aload_n 0, 1) := by decide +kernel
theorem dX6_type_64 : decode cX6_type 64 = .ok (.getfield 25, 3) := by decide +kernel
theorem dX6_type_67 : decode cX6_type 67 = .ok (.iload_n 1, 1) := by decide +kernel
theorem dX6_type_68 : decode cX6_type 68 = .ok (.iaload, 1) := by decide +kernel
theorem dX6_type_69 : decode cX6_type 69 = .ok (.iadd, 1) := by decide +kernel
theorem dX6_type_70 : decode cX6_type 70 = .ok (.iload_n 2, 1) := by decide +kernel
theorem dX6_type_71 : decode cX6_type 71 = .ok (.iastore, 1) := by decide +kernel
theorem dX6_type_72 : decode cX6_type 72 = .ok (.aload_n 0, 1) := by decide +kernel
theorem dX6_type_73 : decode cX6_type 73 = .ok (.getfield 25, 3) := by decide +kernel
theorem dX6_type_76 : decode cX6_type 76 = .ok (.iload_n 1, 1) := by decide +kernel
theorem dX6_type_77 : decode cX6_type 77 = .ok (.dup2, 1) := by decide +kernel
theorem dX6_type_78 : decode cX6_type 78 = .ok (.iaload, 1) := by decide +kernel
theorem dX6_type_79 : decode cX6_type 79 = .ok (.iconst 1, 1) := by decide +kernel
theorem dX6_type_80 : decode cX6_type 80 = .ok (.iadd, 1) := by decide +kernel
theorem dX6_type_81 : decode cX6_type 81 = .ok (.iastore, 1) := by decide +kernel
theorem dX6_type_82 : decode cX6_type 82 = .ok (.aload_n 0, 1) := by decide +kernel
theorem dX6_type_83 : decode cX6_type 83 = .ok (.getfield 25, 3) := by decide +kernel
theorem dX6_type_86 : decode cX6_type 86 = .ok (.iload_n 1, 1) := by decide +kernel
theorem dX6_type_87 : decode cX6_type 87 = .ok (.iaload, 1) := by decide +kernel
theorem dX6_type_88 : decode cX6_type 88 = .ok (.ireturn, 1) := by decide +kernel
theorem dX6_wipe_0 : decode cX6_wipe 0 = .ok (.iload_n 1, 1) := by decide +kernel
theorem dX6_wipe_1 : decode cX6_wipe 1 = .ok (.invokestatic 116, 3) := by decide +kernel
theorem dX6_wipe_4 : decode cX6_wipe 4 = .ok (.ifCond .ne 6, 3) := by decide +kernel
theorem dX6_wipe_7 : decode cX6_wipe 7 = .ok (.bipush (-2), 2) := by decide +kernel
theorem dX6_wipe_9 : decode cX6_wipe 9 = .ok (.ireturn, 1) := by decide +kernel
theorem dX6_wipe_10 : decode cX6_wipe 10 = .ok (.aload_n 0, 1) := by decide +kernel
theorem dX6_wipe_11 : decode cX6_wipe 11 = .ok (.getfield 25, 3) := by decide +kernel
theorem dX6_wipe_14 : decode cX6_wipe 14 = .ok (.iload_n 1, 1) := by decide +kernel
theorem dX6_wipe_15 : decode cX6_wipe 15 = .ok (.iaload, 1) := by decide +kernel
theorem dX6_wipe_16 : decode cX6_wipe 16 = .ok (.istore_n 2, 1) := by decide +kernel
theorem dX6_wipe_17 : decode cX6_wipe 17 = .ok (.aload_n 0, 1) := by decide +kernel
theorem dX6_wipe_18 : decode cX6_wipe 18 = .ok (.getfield 25, 3) := by decide +kernel
theorem dX6_wipe_21 : decode cX6_wipe 21 = .ok (.iload_n 1, 1) := by decide +kernel
theorem dX6_wipe_22 : decode cX6_wipe 22 = .ok (.iconst 0, 1) := by decide +kernel
theorem dX6_wipe_23 : decode cX6_wipe 23 = .ok (.iastore, 1) := by decide +kernel
theorem dX6_wipe_24 : decode cX6_wipe 24 = .ok (.iload_n 2, 1) := by decide +kernel
theorem dX6_wipe_25 : decode cX6_wipe 25 = .ok (.ireturn, 1) := by decide +kernel
theorem dX6_undo_0 : decode cX6_undo 0 = .ok (.iload_n 1, 1) := by decide +kernel
theorem dX6_undo_1 : decode cX6_undo 1 = .ok (.invokestatic 116, 3) := by decide +kernel
theorem dX6_undo_4 : decode cX6_undo 4 = .ok (.ifCond .ne 6, 3) := by decide +kernel
theorem dX6_undo_7 : decode cX6_undo 7 = .ok (.bipush (-2), 2) := by decide +kernel
theorem dX6_undo_9 : decode cX6_undo 9 = .ok (.ireturn, 1) := by decide +kernel
theorem dX6_undo_10 : decode cX6_undo 10 = .ok (.aload_n 0, 1) := by decide +kernel
theorem dX6_undo_11 : decode cX6_undo 11 = .ok (.getfield 25, 3) := by decide +kernel
theorem dX6_undo_14 : decode cX6_undo 14 = .ok (.iload_n 1, 1) := by decide +kernel
theorem dX6_undo_15 : decode cX6_undo 15 = .ok (.iaload, 1) := by decide +kernel
theorem dX6_undo_16 : decode cX6_undo 16 = .ok (.ifCond .ne 6, 3) := by decide +kernel
theorem dX6_undo_19 : decode cX6_undo 19 = .ok (.bipush (-3), 2) := by decide +kernel
theorem dX6_undo_21 : decode cX6_undo 21 = .ok (.ireturn, 1) := by decide +kernel
theorem dX6_undo_22 : decode cX6_undo 22 = .ok (.aload_n 0, 1) := by decide +kernel
theorem dX6_undo_23 : decode cX6_undo 23 = .ok (.getfield 25, 3) := by decide +kernel
theorem dX6_undo_26 : decode cX6_undo 26 = .ok (.iload_n 1, 1) := by decide +kernel
theorem dX6_undo_27 : decode cX6_undo 27 = .ok (.dup2, 1) := by decide +kernel
theorem dX6_undo_28 : decode cX6_undo 28 = .ok (.iaload, 1) := by decide +kernel
theorem dX6_undo_29 : decode cX6_undo 29 = .ok (.iconst 1, 1) := by decide +kernel
theorem dX6_undo_30 : decode cX6_undo 30 = .ok (.isub, 1) := by decide +kernel
theorem dX6_undo_31 : decode cX6_undo 31 = .ok (.iastore, 1) := by decide +kernel
theorem dX6_undo_32 : decode cX6_undo 32 = .ok (.aload_n 0, 1) := by decide +kernel
theorem dX6_undo_33 : decode cX6_undo 33 = .ok (.getfield 25, 3) := by decide +kernel
theorem dX6_undo_36 : decode cX6_undo 36 = .ok (.iload_n 1, 1) := by decide +kernel
theorem dX6_undo_37 : decode cX6_undo 37 = .ok (.iaload, 1) := by decide +kernel
theorem dX6_undo_38 : decode cX6_undo 38 = .ok (.ireturn, 1) := by decide +kernel
theorem dX6_figureOf_0 : decode cX6_figureOf 0 = .ok (.iload_n 0, 1) := by decide +kernel
theorem dX6_figureOf_1 : decode cX6_figureOf 1 = .ok (.i2l, 1) := by decide +kernel
theorem dX6_figureOf_2 : decode cX6_figureOf 2 = .ok (.bipush 48, 2) := by decide +kernel
theorem dX6_figureOf_4 : decode cX6_figureOf 4 = .ok (.iload_n 1, 1) := by decide +kernel
theorem dX6_figureOf_5 : decode cX6_figureOf 5 = .ok (.iadd, 1) := by decide +kernel
theorem dX6_figureOf_6 : decode cX6_figureOf 6 = .ok (.i2l, 1) := by decide +kernel
theorem dX6_figureOf_7 : decode cX6_figureOf 7 = .ok (.bipush 48, 2) := by decide +kernel
theorem dX6_figureOf_9 : decode cX6_figureOf 9 = .ok (.iload_n 2, 1) := by decide +kernel
theorem dX6_figureOf_10 : decode cX6_figureOf 10 = .ok (.iadd, 1) := by decide +kernel
theorem dX6_figureOf_11 : decode cX6_figureOf 11 = .ok (.i2l, 1) := by decide +kernel
theorem dX6_figureOf_12 : decode cX6_figureOf 12 = .ok (.invokestatic 88, 3) := by decide +kernel
theorem dX6_figureOf_15 : decode cX6_figureOf 15 = .ok (.ifCond .eq 10, 3) := by decide +kernel
theorem dX6_figureOf_18 : decode cX6_figureOf 18 = .ok (.iload_n 0, 1) := by decide +kernel
theorem dX6_figureOf_19 : decode cX6_figureOf 19 = .ok (.bipush 48, 2) := by decide +kernel
theorem dX6_figureOf_21 : decode cX6_figureOf 21 = .ok (.isub, 1) := by decide +kernel
theorem dX6_figureOf_22 : decode cX6_figureOf 22 = .ok (.goto 5, 3) := by decide +kernel
theorem dX6_figureOf_25 : decode cX6_figureOf 25 = .ok (.bipush (-9), 2) := by decide +kernel
theorem dX6_figureOf_27 : decode cX6_figureOf 27 = .ok (.ireturn, 1) := by decide +kernel
theorem dX6_between_0 : decode cX6_between 0 = .ok (.iload_n 0, 1) := by decide +kernel
theorem dX6_between_1 : decode cX6_between 1 = .ok (.bipush 59, 2) := by decide +kernel
theorem dX6_between_3 : decode cX6_between 3 = .ok (.if_icmp .ne 7, 3) := by decide +kernel
theorem dX6_between_6 : decode cX6_between 6 = .ok (.iconst 0, 1) := by decide +kernel
theorem dX6_between_7 : decode cX6_between 7 = .ok (.goto 5, 3) := by decide +kernel
theorem dX6_between_10 : decode cX6_between 10 = .ok (.bipush (-9), 2) := by decide +kernel
theorem dX6_between_12 : decode cX6_between 12 = .ok (.ireturn, 1) := by decide +kernel
theorem dX6_pinOf_0 : decode cX6_pinOf 0 = .ok (.iload_n 0, 1) := by decide +kernel
theorem dX6_pinOf_1 : decode cX6_pinOf 1 = .ok (.tableswitch 86 0 2 #[27, 35, 43], 27) := by decide +kernel
theorem dX6_pinOf_28 : decode cX6_pinOf 28 = .ok (.iload_n 1, 1) := by decide +kernel
theorem dX6_pinOf_29 : decode cX6_pinOf 29 = .ok (.iconst 0, 1) := by decide +kernel
theorem dX6_pinOf_30 : decode cX6_pinOf 30 = .ok (.bipush 7, 2) := by decide +kernel
theorem dX6_pinOf_32 : decode cX6_pinOf 32 = .ok (.invokestatic 121, 3) := by decide +kernel
theorem dX6_pinOf_35 : decode cX6_pinOf 35 = .ok (.ireturn, 1) := by decide +kernel
theorem dX6_pinOf_36 : decode cX6_pinOf 36 = .ok (.iload_n 1, 1) := by decide +kernel
theorem dX6_pinOf_37 : decode cX6_pinOf 37 = .ok (.iconst 0, 1) := by decide +kernel
theorem dX6_pinOf_38 : decode cX6_pinOf 38 = .ok (.bipush 8, 2) := by decide +kernel
theorem dX6_pinOf_40 : decode cX6_pinOf 40 = .ok (.invokestatic 121, 3) := by decide +kernel
theorem dX6_pinOf_43 : decode cX6_pinOf 43 = .ok (.ireturn, 1) := by decide +kernel
theorem dX6_pinOf_44 : decode cX6_pinOf 44 = .ok (.iload_n 1, 1) := by decide +kernel
theorem dX6_pinOf_45 : decode cX6_pinOf 45 = .ok (.bipush 108, 2) := by decide +kernel
theorem dX6_pinOf_47 : decode cX6_pinOf 47 = .ok (.if_icmp .ne 7, 3) := by decide +kernel
theorem dX6_pinOf_50 : decode cX6_pinOf 50 = .ok (.iconst 0, 1) := by decide +kernel
theorem dX6_pinOf_51 : decode cX6_pinOf 51 = .ok (.goto 35, 3) := by decide +kernel
theorem dX6_pinOf_54 : decode cX6_pinOf 54 = .ok (.iload_n 1, 1) := by decide +kernel
theorem dX6_pinOf_55 : decode cX6_pinOf 55 = .ok (.bipush 114, 2) := by decide +kernel
theorem dX6_pinOf_57 : decode cX6_pinOf 57 = .ok (.if_icmp .ne 7, 3) := by decide +kernel
theorem dX6_pinOf_60 : decode cX6_pinOf 60 = .ok (.iconst 1, 1) := by decide +kernel
theorem dX6_pinOf_61 : decode cX6_pinOf 61 = .ok (.goto 25, 3) := by decide +kernel
theorem dX6_pinOf_64 : decode cX6_pinOf 64 = .ok (.iload_n 1, 1) := by decide +kernel
theorem dX6_pinOf_65 : decode cX6_pinOf 65 = .ok (.bipush 116, 2) := by decide +kernel
theorem dX6_pinOf_67 : decode cX6_pinOf 67 = .ok (.if_icmp .ne 7, 3) := by decide +kernel
theorem dX6_pinOf_70 : decode cX6_pinOf 70 = .ok (.iconst 2, 1) := by decide +kernel
theorem dX6_pinOf_71 : decode cX6_pinOf 71 = .ok (.goto 15, 3) := by decide +kernel
theorem dX6_pinOf_74 : decode cX6_pinOf 74 = .ok (.iload_n 1, 1) := by decide +kernel
theorem dX6_pinOf_75 : decode cX6_pinOf 75 = .ok (.bipush 98, 2) := by decide +kernel
theorem dX6_pinOf_77 : decode cX6_pinOf 77 = .ok (.if_icmp .ne 7, 3) := by decide +kernel
theorem dX6_pinOf_80 : decode cX6_pinOf 80 = .ok (.iconst 3, 1) := by decide +kernel
theorem dX6_pinOf_81 : decode cX6_pinOf 81 = .ok (.goto 5, 3) := by decide +kernel
theorem dX6_pinOf_84 : decode cX6_pinOf 84 = .ok (.bipush (-9), 2) := by decide +kernel
theorem dX6_pinOf_86 : decode cX6_pinOf 86 = .ok (.ireturn, 1) := by decide +kernel
