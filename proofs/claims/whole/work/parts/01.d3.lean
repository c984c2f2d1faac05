theorem dX8_flees_26 : decode cX8_flees 26 = .ok (.bipush 99, 2) := by decide +kernel
theorem dX8_flees_28 : decode cX8_flees 28 = .ok (.istore 4, 2) := by decide +kernel
theorem dX8_flees_30 : decode cX8_flees 30 = .ok (.iload 4, 2) := by decide +kernel
theorem dX8_flees_32 : decode cX8_flees 32 = .ok (.ifCond .lt 33, 3) := by decide +kernel
theorem dX8_flees_35 : decode cX8_flees 35 = .ok (.aload_n 0, 1) := by decide +kernel
theorem dX8_flees_36 : decode cX8_flees 36 = .ok (.getfield 17, 3) := by decide +kernel
theorem dX8_flees_39 : decode cX8_flees 39 = .ok (.bipush 33, 2) := by decide +kernel
theorem dX8_flees_41 : decode cX8_flees 41 = .ok (.iload 4, 2) := by decide +kernel
theorem dX8_flees_43 : decode cX8_flees 43 = .ok (.iastore, 1) := by decide +kernel
theorem dX8_flees_44 : decode cX8_flees 44 = .ok (.aload_n 0, 1) := by decide +kernel
theorem dX8_flees_45 : decode cX8_flees 45 = .ok (.iload_n 1, 1) := by decide +kernel
theorem dX8_flees_46 : decode cX8_flees 46 = .ok (.invokevirtual 166, 3) := by decide +kernel
theorem dX8_flees_49 : decode cX8_flees 49 = .ok (.ifCond .eq 7, 3) := by decide +kernel
theorem dX8_flees_52 : decode cX8_flees 52 = .ok (.iload_n 3, 1) := by decide +kernel
theorem dX8_flees_53 : decode cX8_flees 53 = .ok (.goto 5, 3) := by decide +kernel
theorem dX8_flees_56 : decode cX8_flees 56 = .ok (.iload 4, 2) := by decide +kernel
theorem dX8_flees_58 : decode cX8_flees 58 = .ok (.istore_n 3, 1) := by decide +kernel
theorem dX8_flees_59 : decode cX8_flees 59 = .ok (.iinc 4 (-1), 3) := by decide +kernel
theorem dX8_flees_62 : decode cX8_flees 62 = .ok (.goto (-32), 3) := by decide +kernel
theorem dX8_flees_65 : decode cX8_flees 65 = .ok (.aload_n 0, 1) := by decide +kernel
theorem dX8_flees_66 : decode cX8_flees 66 = .ok (.getfield 17, 3) := by decide +kernel
theorem dX8_flees_69 : decode cX8_flees 69 = .ok (.bipush 33, 2) := by decide +kernel
theorem dX8_flees_71 : decode cX8_flees 71 = .ok (.iload_n 2, 1) := by decide +kernel
theorem dX8_flees_72 : decode cX8_flees 72 = .ok (.iastore, 1) := by decide +kernel
theorem dX8_flees_73 : decode cX8_flees 73 = .ok (.iload_n 3, 1) := by decide +kernel
theorem dX8_flees_74 : decode cX8_flees 74 = .ok (.ireturn, 1) := by decide +kernel
theorem dX8_needs_0 : decode cX8_needs 0 = .ok (.aload_n 0, 1) := by decide +kernel
theorem dX8_needs_1 : decode cX8_needs 1 = .ok (.iload_n 1, 1) := by decide +kernel
theorem dX8_needs_2 : decode cX8_needs 2 = .ok (.i2l, 1) := by decide +kernel
theorem dX8_needs_3 : decode cX8_needs 3 = .ok (.invokevirtual 76, 3) := by decide +kernel
theorem dX8_needs_6 : decode cX8_needs 6 = .ok (.ifCond .ne 10, 3) := by decide +kernel
theorem dX8_needs_9 : decode cX8_needs 9 = .ok (.aload_n 0, 1) := by decide +kernel
theorem dX8_needs_10 : decode cX8_needs 10 = .ok (.bipush (-2), 2) := by decide +kernel
theorem dX8_needs_12 : decode cX8_needs 12 = .ok (.invokevirtual 90, 3) := by decide +kernel
theorem dX8_needs_15 : decode cX8_needs 15 = .ok (.ireturn, 1) := by decide +kernel
theorem dX8_needs_16 : decode cX8_needs 16 = .ok (.aload_n 0, 1) := by decide +kernel
theorem dX8_needs_17 : decode cX8_needs 17 = .ok (.iload_n 1, 1) := by decide +kernel
theorem dX8_needs_18 : decode cX8_needs 18 = .ok (.invokevirtual 98, 3) := by decide +kernel
theorem dX8_needs_21 : decode cX8_needs 21 = .ok (.istore_n 2, 1) := by decide +kernel
theorem dX8_needs_22 : decode cX8_needs 22 = .ok (.iconst (-1), 1) := by decide +kernel
theorem dX8_needs_23 : decode cX8_needs 23 = .ok (.istore_n 3, 1) := by decide +kernel
theorem dX8_needs_24 : decode cX8_needs 24 = .ok (.bipush 40, 2) := by decide +kernel
theorem dX8_needs_26 : decode cX8_needs 26 = .ok (.istore 4, 2) := by decide +kernel
theorem dX8_needs_28 : decode cX8_needs 28 = .ok (.iload 4, 2) := by decide +kernel
theorem dX8_needs_30 : decode cX8_needs 30 = .ok (.ifCond .lt 36, 3) := by decide +kernel
theorem dX8_needs_33 : decode cX8_needs 33 = .ok (.aload_n 0, 1) := by decide +kernel
theorem dX8_needs_34 : decode cX8_needs 34 = .ok (.getfield 17, 3) := by decide +kernel
theorem dX8_needs_37 : decode cX8_needs 37 = .ok (.iconst 4, 1) := by decide +kernel
theorem dX8_needs_38 : decode cX8_needs 38 = .ok (.iload_n 1, 1) := by decide +kernel
theorem dX8_needs_39 : decode cX8_needs 39 = .ok (.imul, 1) := by decide +kernel
theorem dX8_needs_40 : decode cX8_needs 40 = .ok (.iconst 2, 1) := by decide +kernel
theorem dX8_needs_41 : decode cX8_needs 41 = .ok (.iadd, 1) := by decide +kernel
theorem dX8_needs_42 : decode cX8_needs 42 = .ok (.iload 4, 2) := by decide +kernel
theorem dX8_needs_44 : decode cX8_needs 44 = .ok (.iastore, 1) := by decide +kernel
theorem dX8_needs_45 : decode cX8_needs 45 = .ok (.aload_n 0, 1) := by decide +kernel
theorem dX8_needs_46 : decode cX8_needs 46 = .ok (.iload_n 1, 1) := by decide +kernel
theorem dX8_needs_47 : decode cX8_needs 47 = .ok (.invokevirtual 166, 3) := by decide +kernel
theorem dX8_needs_50 : decode cX8_needs 50 = .ok (.ifCond .eq 8, 3) := by decide +kernel
theorem dX8_needs_53 : decode cX8_needs 53 = .ok (.iload 4, 2) := by decide +kernel
theorem dX8_needs_55 : decode cX8_needs 55 = .ok (.goto 4, 3) := by decide +kernel
theorem dX8_needs_58 : decode cX8_needs 58 = .ok (.iload_n 3, 1) := by decide +kernel
theorem dX8_needs_59 : decode cX8_needs 59 = .ok (.istore_n 3, 1) := by decide +kernel
theorem dX8_needs_60 : decode cX8_needs 60 = .ok (.iinc 4 (-1), 3) := by decide +kernel
theorem dX8_needs_63 : decode cX8_needs 63 = .ok (.goto (-35), 3) := by decide +kernel
theorem dX8_needs_66 : decode cX8_needs 66 = .ok (.aload_n 0, 1) := by decide +kernel
theorem dX8_needs_67 : decode cX8_needs 67 = .ok (.getfield 17, 3) := by decide +kernel
theorem dX8_needs_70 : decode cX8_needs 70 = .ok (.iconst 4, 1) := by decide +kernel
theorem dX8_needs_71 : decode cX8_needs 71 = .ok (.iload_n 1, 1) := by decide +kernel
theorem dX8_needs_72 : decode cX8_needs 72 = .ok (.imul, 1) := by decide +kernel
theorem dX8_needs_73 : decode cX8_needs 73 = .ok (.iconst 2, 1) := by decide +kernel
theorem dX8_needs_74 : decode cX8_needs 74 = .ok (.iadd, 1) := by decide +kernel
theorem dX8_needs_75 : decode cX8_needs 75 = .ok (.iload_n 2, 1) := by decide +kernel
theorem dX8_needs_76 : decode cX8_needs 76 = .ok (.iastore, 1) := by decide +kernel
theorem dX8_needs_77 : decode cX8_needs 77 = .ok (.iload_n 3, 1) := by decide +kernel
theorem dX8_needs_78 : decode cX8_needs 78 = .ok (.ireturn, 1) := by decide +kernel
theorem dX8_both_0 : decode cX8_both 0 = .ok (.aload_n 0, 1) := by decide +kernel
theorem dX8_both_1 : decode cX8_both 1 = .ok (.getfield 49, 3) := by decide +kernel
theorem dX8_both_4 : decode cX8_both 4 = .ok (.iconst 0, 1) := by decide +kernel
theorem dX8_both_5 : decode cX8_both 5 = .ok (.iload_n 1, 1) := by decide +kernel
theorem dX8_both_6 : decode cX8_both 6 = .ok (.iastore, 1) := by decide +kernel
theorem dX8_both_7 : decode cX8_both 7 = .ok (.aload_n 0, 1) := by decide +kernel
theorem dX8_both_8 : decode cX8_both 8 = .ok (.getfield 49, 3) := by decide +kernel
theorem dX8_both_11 : decode cX8_both 11 = .ok (.iconst 1, 1) := by decide +kernel
theorem dX8_both_12 : decode cX8_both 12 = .ok (.iload_n 2, 1) := by decide +kernel
theorem dX8_both_13 : decode cX8_both 13 = .ok (.iastore, 1) := by decide +kernel
theorem dX8_both_14 : decode cX8_both 14 = .ok (.aload_n 0, 1) := by decide +kernel
theorem dX8_both_15 : decode cX8_both 15 = .ok (.iconst 2, 1) := by decide +kernel
theorem dX8_both_16 : decode cX8_both 16 = .ok (.invokevirtual 229, 3) := by decide +kernel
theorem dX8_both_19 : decode cX8_both 19 = .ok (.ireturn, 1) := by decide +kernel
theorem dX8_first_0 : decode cX8_first 0 = .ok (.aload_n 0, 1) := by decide +kernel
theorem dX8_first_1 : decode cX8_first 1 = .ok (.iload_n 1, 1) := by decide +kernel
theorem dX8_first_2 : decode cX8_first 2 = .ok (.i2l, 1) := by decide +kernel
theorem dX8_first_3 : decode cX8_first 3 = .ok (.invokevirtual 184, 3) := by decide +kernel
theorem dX8_first_6 : decode cX8_first 6 = .ok (.ifCond .eq 12, 3) := by decide +kernel
theorem dX8_first_9 : decode cX8_first 9 = .ok (.aload_n 0, 1) := by decide +kernel
theorem dX8_first_10 : decode cX8_first 10 = .ok (.iload_n 2, 1) := by decide +kernel
theorem dX8_first_11 : decode cX8_first 11 = .ok (.i2l, 1) := by decide +kernel
theorem dX8_first_12 : decode cX8_first 12 = .ok (.invokevirtual 184, 3) := by decide +kernel
theorem dX8_first_15 : decode cX8_first 15 = .ok (.ifCond .ne 10, 3) := by decide +kernel
theorem dX8_first_18 : decode cX8_first 18 = .ok (.aload_n 0, 1) := by decide +kernel
theorem dX8_first_19 : decode cX8_first 19 = .ok (.bipush (-2), 2) := by decide +kernel
theorem dX8_first_21 : decode cX8_first 21 = .ok (.invokevirtual 90, 3) := by decide +kernel
theorem dX8_first_24 : decode cX8_first 24 = .ok (.ireturn, 1) := by decide +kernel
theorem dX8_first_25 : decode cX8_first 25 = .ok (.aload_n 0, 1) := by decide +kernel
theorem dX8_first_26 : decode cX8_first 26 = .ok (.iload_n 1, 1) := by decide +kernel
theorem dX8_first_27 : decode cX8_first 27 = .ok (.iload_n 2, 1) := by decide +kernel
theorem dX8_first_28 : decode cX8_first 28 = .ok (.invokevirtual 282, 3) := by decide +kernel
theorem dX8_first_31 : decode cX8_first 31 = .ok (.istore_n 3, 1) := by decide +kernel
theorem dX8_first_32 : decode cX8_first 32 = .ok (.aload_n 0, 1) := by decide +kernel
theorem dX8_first_33 : decode cX8_first 33 = .ok (.iload_n 2, 1) := by decide +kernel
theorem dX8_first_34 : decode cX8_first 34 = .ok (.iload_n 1, 1) := by decide +kernel
theorem dX8_first_35 : decode cX8_first 35 = .ok (.invokevirtual 282, 3) := by decide +kernel
theorem dX8_first_38 : decode cX8_first 38 = .ok (.istore 4, 2) := by decide +kernel
theorem dX8_first_40 : decode cX8_first 40 = .ok (.iload_n 3, 1) := by decide +kernel
theorem dX8_first_41 : decode cX8_first 41 = .ok (.iload 4, 2) := by decide +kernel
theorem dX8_first_43 : decode cX8_first 43 = .ok (.if_icmp .ge 7, 3) := by decide +kernel
theorem dX8_first_46 : decode cX8_first 46 = .ok (.iconst 0, 1) := by decide +kernel
theorem dX8_first_47 : decode cX8_first 47 = .ok (.goto 14, 3) := by decide +kernel
theorem dX8_first_50 : decode cX8_first 50 = .ok (.iload_n 3, 1) := by decide +kernel
theorem dX8_first_51 : decode cX8_first 51 = .ok (.iload 4, 2) := by decide +kernel
theorem dX8_first_53 : decode cX8_first 53 = .ok (.if_icmp .le 7, 3) := by decide +kernel
theorem dX8_first_56 : decode cX8_first 56 = .ok (.iconst 1, 1) := by decide +kernel
theorem dX8_first_57 : decode cX8_first 57 = .ok (.goto 4, 3) := by decide +kernel
theorem dX8_first_60 : decode cX8_first 60 = .ok (.iconst 2, 1) := by decide +kernel
theorem dX8_first_61 : decode cX8_first 61 = .ok (.ireturn, 1) := by decide +kernel
theorem dX8_turns_0 : decode cX8_turns 0 = .ok (.aload_n 0, 1) := by decide +kernel
theorem dX8_turns_1 : decode cX8_turns 1 = .ok (.iconst 0, 1) := by decide +kernel
theorem dX8_turns_2 : decode cX8_turns 2 = .ok (.invokevirtual 142, 3) := by decide +kernel
theorem dX8_turns_5 : decode cX8_turns 5 = .ok (.iconst 0, 1) := by decide +kernel
theorem dX8_turns_6 : decode cX8_turns 6 = .ok (.istore 4, 2) := by decide +kernel
theorem dX8_turns_8 : decode cX8_turns 8 = .ok (.iconst 0, 1) := by decide +kernel
theorem dX8_turns_9 : decode cX8_turns 9 = .ok (.istore 5, 2) := by decide +kernel
theorem dX8_turns_11 : decode cX8_turns 11 = .ok (.iload 5, 2) := by decide +kernel
theorem dX8_turns_13 : decode cX8_turns 13 = .ok (.iload_n 2, 1) := by decide +kernel
theorem dX8_turns_14 : decode cX8_turns 14 = .ok (.if_icmp .ge 27, 3) := by decide +kernel
theorem dX8_turns_17 : decode cX8_turns 17 = .ok (.iload 4, 2) := by decide +kernel
theorem dX8_turns_19 : decode cX8_turns 19 = .ok (.aload_n 0, 1) := by decide +kernel
theorem dX8_turns_20 : decode cX8_turns 20 = .ok (.iload_n 1, 1) := by decide +kernel
theorem dX8_turns_21 : decode cX8_turns 21 = .ok (.iload 5, 2) := by decide +kernel
theorem dX8_turns_23 : decode cX8_turns 23 = .ok (.iadd, 1) := by decide +kernel
theorem dX8_turns_24 : decode cX8_turns 24 = .ok (.aload_n 0, 1) := by decide +kernel
theorem dX8_turns_25 : decode cX8_turns 25 = .ok (.invokevirtual 80, 3) := by decide +kernel
theorem dX8_turns_28 : decode cX8_turns 28 = .ok (.irem, 1) := by decide +kernel
theorem dX8_turns_29 : decode cX8_turns 29 = .ok (.invokevirtual 181, 3) := by decide +kernel
theorem dX8_turns_32 : decode cX8_turns 32 = .ok (.iadd, 1) := by decide +kernel
theorem dX8_turns_33 : decode cX8_turns 33 = .ok (.istore 4, 2) := by decide +kernel
theorem dX8_turns_35 : decode cX8_turns 35 = .ok (.iinc 5 1, 3) := by decide +kernel
theorem dX8_turns_38 : decode cX8_turns 38 = .ok (.goto (-27), 3) := by decide +kernel
theorem dX8_turns_41 : decode cX8_turns 41 = .ok (.iload_n 3, 1) := by decide +kernel
theorem dX8_turns_42 : decode cX8_turns 42 = .ok (.ifCond .ne 13, 3) := by decide +kernel
theorem dX8_turns_45 : decode cX8_turns 45 = .ok (.aload_n 0, 1) := by decide +kernel
theorem dX8_turns_46 : decode cX8_turns 46 = .ok (.getfield 17, 3) := by decide +kernel
theorem dX8_turns_49 : decode cX8_turns 49 = .ok (.bipush 33, 2) := by decide +kernel
theorem dX8_turns_51 : decode cX8_turns 51 = .ok (.iaload, 1) := by decide +kernel
theorem dX8_turns_52 : decode cX8_turns 52 = .ok (.goto 5, 3) := by decide +kernel
theorem dX8_turns_55 : decode cX8_turns 55 = .ok (.iload 4, 2) := by decide +kernel
theorem dX8_turns_57 : decode cX8_turns 57 = .ok (.istore 5, 2) := by decide +kernel
theorem dX8_turns_59 : decode cX8_turns 59 = .ok (.aload_n 0, 1) := by decide +kernel
theorem dX8_turns_60 : decode cX8_turns 60 = .ok (.iconst 0, 1) := by decide +kernel
theorem dX8_turns_61 : decode cX8_turns 61 = .ok (.invokevirtual 150, 3) := by decide +kernel
theorem dX8_turns_64 : decode cX8_turns 64 = .ok (.iload 5, 2) := by decide +kernel
theorem dX8_turns_66 : decode cX8_turns 66 = .ok (.ireturn, 1) := by decide +kernel
theorem dX8_byTurns_0 : decode cX8_byTurns 0 = .ok (.aload_n 0, 1) := by decide +kernel
theorem dX8_byTurns_1 : decode cX8_byTurns 1 = .ok (.iload_n 1, 1) := by decide +kernel
theorem dX8_byTurns_2 : decode cX8_byTurns 2 = .ok (.i2l, 1) := by decide +kernel
theorem dX8_byTurns_3 : decode cX8_byTurns 3 = .ok (.invokevirtual 76, 3) := by decide +kernel
theorem dX8_byTurns_6 : decode cX8_byTurns 6 = .ok (.ifCond .eq 25, 3) := by decide +kernel
theorem dX8_byTurns_9 : decode cX8_byTurns 9 = .ok (.iload_n 2, 1) := by decide +kernel
theorem dX8_byTurns_10 : decode cX8_byTurns 10 = .ok (.i2l, 1) := by decide +kernel
theorem dX8_byTurns_11 : decode cX8_byTurns 11 = .ok (.lconst 0, 1) := by decide +kernel
theorem dX8_byTurns_12 : decode cX8_byTurns 12 = .ok (.ldc2_w 117, 3) := by decide +kernel
theorem dX8_byTurns_15 : decode cX8_byTurns 15 = .ok (.invokestatic 68, 3) := by decide +kernel
theorem dX8_byTurns_18 : decode cX8_byTurns 18 = .ok (.ifCond .eq 13, 3) := by decide +kernel
theorem dX8_byTurns_21 : decode cX8_byTurns 21 = .ok (.aload_n 0, 1) := by decide +kernel
theorem dX8_byTurns_22 : decode cX8_byTurns 22 = .ok (.iload_n 1, 1) := by decide +kernel
theorem dX8_byTurns_23 : decode cX8_byTurns 23 = .ok (.iload_n 2, 1) := by decide +kernel
theorem dX8_byTurns_24 : decode cX8_byTurns 24 = .ok (.iconst 0, 1) := by decide +kernel
theorem dX8_byTurns_25 : decode cX8_byTurns 25 = .ok (.invokevirtual 285, 3) := by decide +kernel
theorem dX8_byTurns_28 : decode cX8_byTurns 28 = .ok (.goto 9, 3) := by decide +kernel
theorem dX8_byTurns_31 : decode cX8_byTurns 31 = .ok (.aload_n 0, 1) := by decide +kernel
theorem dX8_byTurns_32 : decode cX8_byTurns 32 = .ok (.bipush (-2), 2) := by decide +kernel
theorem dX8_byTurns_34 : decode cX8_byTurns 34 = .ok (.invokevirtual 90, 3) := by decide +kernel
theorem dX8_byTurns_37 : decode cX8_byTurns 37 = .ok (.ireturn, 1) := by decide +kernel
theorem dX8_harms_0 : decode cX8_harms 0 = .ok (.aload_n 0, 1) := by decide +kernel
theorem dX8_harms_1 : decode cX8_harms 1 = .ok (.iload_n 1, 1) := by decide +kernel
theorem dX8_harms_2 : decode cX8_harms 2 = .ok (.i2l, 1) := by decide +kernel
theorem dX8_harms_3 : decode cX8_harms 3 = .ok (.invokevirtual 76, 3) := by decide +kernel
theorem dX8_harms_6 : decode cX8_harms 6 = .ok (.ifCond .eq 25, 3) := by decide +kernel
theorem dX8_harms_9 : decode cX8_harms 9 = .ok (.iload_n 2, 1) := by decide +kernel
theorem dX8_harms_10 : decode cX8_harms 10 = .ok (.i2l, 1) := by decide +kernel
theorem dX8_harms_11 : decode cX8_harms 11 = .ok (.lconst 0, 1) := by decide +kernel
theorem dX8_harms_12 : decode cX8_harms 12 = .ok (.ldc2_w 117, 3) := by decide +kernel
theorem dX8_harms_15 : decode cX8_harms 15 = .ok (.invokestatic 68, 3) := by decide +kernel
theorem dX8_harms_18 : decode cX8_harms 18 = .ok (.ifCond .eq 13, 3) := by decide +kernel
theorem dX8_harms_21 : decode cX8_harms 21 = .ok (.aload_n 0, 1) := by decide +kernel
theorem dX8_harms_22 : decode cX8_harms 22 = .ok (.iload_n 1, 1) := by decide +kernel
theorem dX8_harms_23 : decode cX8_harms 23 = .ok (.iload_n 2, 1) := by decide +kernel
theorem dX8_harms_24 : decode cX8_harms 24 = .ok (.iconst 1, 1) := by decide +kernel
theorem dX8_harms_25 : decode cX8_harms 25 = .ok (.invokevirtual 285, 3) := by decide +kernel
theorem dX8_harms_28 : decode cX8_harms 28 = .ok (.goto 9, 3) := by decide +kernel
theorem dX8_harms_31 : decode cX8_harms 31 = .ok (.aload_n 0, 1) := by decide +kernel
theorem dX8_harms_32 : decode cX8_harms 32 = .ok (.bipush (-2), 2) := by decide +kernel
theorem dX8_harms_34 : decode cX8_harms 34 = .ok (.invokevirtual 90, 3) := by decide +kernel
theorem dX8_harms_37 : decode cX8_harms 37 = .ok (.ireturn, 1) := by decide +kernel
theorem dX8_starts_0 : decode cX8_starts 0 = .ok (.aload_n 0, 1) := by decide +kernel
theorem dX8_starts_1 : decode cX8_starts 1 = .ok (.invokevirtual 80, 3) := by decide +kernel
theorem dX8_starts_4 : decode cX8_starts 4 = .ok (.ifCond .ne 10, 3) := by decide +kernel
theorem dX8_starts_7 : decode cX8_starts 7 = .ok (.aload_n 0, 1) := by decide +kernel
theorem dX8_starts_8 : decode cX8_starts 8 = .ok (.bipush (-5), 2) := by decide +kernel
theorem dX8_starts_10 : decode cX8_starts 10 = .ok (.invokevirtual 90, 3) := by decide +kernel
theorem dX8_starts_13 : decode cX8_starts 13 = .ok (.ireturn, 1) := by decide +kernel
theorem dX8_starts_14 : decode cX8_starts 14 = .ok (.iconst 0, 1) := by decide +kernel
theorem dX8_starts_15 : decode cX8_starts 15 = .ok (.istore_n 1, 1) := by decide +kernel
theorem dX8_starts_16 : decode cX8_starts 16 = .ok (.iconst 1, 1) := by decide +kernel
theorem dX8_starts_17 : decode cX8_starts 17 = .ok (.istore_n 2, 1) := by decide +kernel
theorem dX8_starts_18 : decode cX8_starts 18 = .ok (.iload_n 2, 1) := by decide +kernel
theorem dX8_starts_19 : decode cX8_starts 19 = .ok (.aload_n 0, 1) := by decide +kernel
theorem dX8_starts_20 : decode cX8_starts 20 = .ok (.invokevirtual 80, 3) := by decide +kernel
theorem dX8_starts_23 : decode cX8_starts 23 = .ok (.if_icmp .ge 34, 3) := by decide +kernel
theorem dX8_starts_26 : decode cX8_starts 26 = .ok (.aload_n 0, 1) := by decide +kernel
theorem dX8_starts_27 : decode cX8_starts 27 = .ok (.iload_n 2, 1) := by decide +kernel
theorem dX8_starts_28 : decode cX8_starts 28 = .ok (.bipush 24, 2) := by decide +kernel
theorem dX8_starts_30 : decode cX8_starts 30 = .ok (.iconst 1, 1) := by decide +kernel
theorem dX8_starts_31 : decode cX8_starts 31 = .ok (.invokevirtual 285, 3) := by decide +kernel
theorem dX8_starts_34 : decode cX8_starts 34 = .ok (.aload_n 0, 1) := by decide +kernel
theorem dX8_starts_35 : decode cX8_starts 35 = .ok (.iload_n 1, 1) := by decide +kernel
theorem dX8_starts_36 : decode cX8_starts 36 = .ok (.bipush 24, 2) := by decide +kernel
theorem dX8_starts_38 : decode cX8_starts 38 = .ok (.iconst 1, 1) := by decide +kernel
theorem dX8_starts_39 : decode cX8_starts 39 = .ok (.invokevirtual 285, 3) := by decide +kernel
theorem dX8_starts_42 : decode cX8_starts 42 = .ok (.if_icmp .ge 7, 3) := by decide +kernel
theorem dX8_starts_45 : decode cX8_starts 45 = .ok (.iload_n 2, 1) := by decide +kernel
theorem dX8_starts_46 : decode cX8_starts 46 = .ok (.goto 4, 3) := by decide +kernel
theorem dX8_starts_49 : decode cX8_starts 49 = .ok (.iload_n 1, 1) := by decide +kernel
theorem dX8_starts_50 : decode cX8_starts 50 = .ok (.istore_n 1, 1) := by decide +kernel
theorem dX8_starts_51 : decode cX8_starts 51 = .ok (.iinc 2 1, 3) := by decide +kernel
theorem dX8_starts_54 : decode cX8_starts 54 = .ok (.goto (-36), 3) := by decide +kernel
theorem dX8_starts_57 : decode cX8_starts 57 = .ok (.iload_n 1, 1) := by decide +kernel
theorem dX8_starts_58 : decode cX8_starts 58 = .ok (.ireturn, 1) := by decide +kernel
theorem dX8_of_0 : decode cX8_of 0 = .ok (.iload_n 1, 1) := by decide +kernel
theorem dX8_of_1 : decode cX8_of 1 = .ok (.i2l, 1) := by decide +kernel
theorem dX8_of_2 : decode cX8_of 2 = .ok (.lconst 0, 1) := by decide +kernel
theorem dX8_of_3 : decode cX8_of 3 = .ok (.ldc2_w 190, 3) := by decide +kernel
theorem dX8_of_6 : decode cX8_of 6 = .ok (.invokestatic 68, 3) := by decide +kernel
theorem dX8_of_9 : decode cX8_of 9 = .ok (.ifCond .ne 10, 3) := by decide +kernel
theorem dX8_of_12 : decode cX8_of 12 = .ok (.aload_n 0, 1) := by decide +kernel
theorem dX8_of_13 : decode cX8_of 13 = .ok (.bipush (-2), 2) := by decide +kernel
theorem dX8_of_15 : decode cX8_of 15 = .ok (.invokevirtual 90, 3) := by decide +kernel
theorem dX8_of_18 : decode cX8_of 18 = .ok (.ireturn, 1) := by decide +kernel
theorem dX8_of_19 : decode cX8_of 19 = .ok (.aload_n 0, 1) := by decide +kernel
theorem dX8_of_20 : decode cX8_of 20 = .ok (.invokevirtual 80, 3) := by decide +kernel
theorem dX8_of_23 : decode cX8_of 23 = .ok (.ifCond .ne 10, 3) := by decide +kernel
theorem dX8_of_26 : decode cX8_of 26 = .ok (.aload_n 0, 1) := by decide +kernel
theorem dX8_of_27 : decode cX8_of 27 = .ok (.bipush (-5), 2) := by decide +kernel
theorem dX8_of_29 : decode cX8_of 29 = .ok (.invokevirtual 90, 3) := by decide +kernel
theorem dX8_of_32 : decode cX8_of 32 = .ok (.ireturn, 1) := by decide +kernel
theorem dX8_of_33 : decode cX8_of 33 = .ok (.iconst 0, 1) := by decide +kernel
theorem dX8_of_34 : decode cX8_of 34 = .ok (.istore_n 2, 1) := by decide +kernel
theorem dX8_of_35 : decode cX8_of 35 = .ok (.iconst 1, 1) := by decide +kernel
theorem dX8_of_36 : decode cX8_of 36 = .ok (.istore_n 3, 1) := by decide +kernel
theorem dX8_of_37 : decode cX8_of 37 = .ok (.iload_n 3, 1) := by decide +kernel
theorem dX8_of_38 : decode cX8_of 38 = .ok (.aload_n 0, 1) := by decide +kernel
theorem dX8_of_39 : decode cX8_of 39 = .ok (.invokevirtual 80, 3) := by decide +kernel
theorem dX8_of_42 : decode cX8_of 42 = .ok (.if_icmp .ge 68, 3) := by decide +kernel
theorem dX8_of_45 : decode cX8_of 45 = .ok (.iload_n 1, 1) := by decide +kernel
theorem dX8_of_46 : decode cX8_of 46 = .ok (.iconst 2, 1) := by decide +kernel
theorem dX8_of_47 : decode cX8_of 47 = .ok (.if_icmp .ne 7, 3) := by decide +kernel
theorem dX8_of_50 : decode cX8_of 50 = .ok (.iconst 3, 1) := by decide +kernel
theorem dX8_of_51 : decode cX8_of 51 = .ok (.goto 4, 3) := by decide +kernel
theorem dX8_of_54 : decode cX8_of 54 = .ok (.iconst 2, 1) := by decide +kernel
theorem dX8_of_55 : decode cX8_of 55 = .ok (.istore 4, 2) := by decide +kernel
theorem dX8_of_57 : decode cX8_of 57 = .ok (.aload_n 0, 1) := by decide +kernel
theorem dX8_of_58 : decode cX8_of 58 = .ok (.getfield 17, 3) := by decide +kernel
theorem dX8_of_61 : decode cX8_of 61 = .ok (.iconst 4, 1) := by decide +kernel
theorem dX8_of_62 : decode cX8_of 62 = .ok (.iload_n 3, 1) := by decide +kernel
theorem dX8_of_63 : decode cX8_of 63 = .ok (.imul, 1) := by decide +kernel
theorem dX8_of_64 : decode cX8_of 64 = .ok (.iload 4, 2) := by decide +kernel
theorem dX8_of_66 : decode cX8_of 66 = .ok (.iadd, 1) := by decide +kernel
theorem dX8_of_67 : decode cX8_of 67 = .ok (.iaload, 1) := by decide +kernel
theorem dX8_of_68 : decode cX8_of 68 = .ok (.aload_n 0, 1) := by decide +kernel
theorem dX8_of_69 : decode cX8_of 69 = .ok (.getfield 17, 3) := by decide +kernel
theorem dX8_of_72 : decode cX8_of 72 = .ok (.iconst 4, 1) := by decide +kernel
theorem dX8_of_73 : decode cX8_of 73 = .ok (.iload_n 2, 1) := by decide +kernel
theorem dX8_of_74 : decode cX8_of 74 = .ok (.imul, 1) := by decide +kernel
theorem dX8_of_75 : decode cX8_of 75 = .ok (.iload 4, 2) := by decide +kernel
theorem dX8_of_77 : decode cX8_of 77 = .ok (.iadd, 1) := by decide +kernel
theorem dX8_of_78 : decode cX8_of 78 = .ok (.iaload, 1) := by decide +kernel
theorem dX8_of_79 : decode cX8_of 79 = .ok (.isub, 1) := by decide +kernel
theorem dX8_of_80 : decode cX8_of 80 = .ok (.istore 5, 2) := by decide +kernel
theorem dX8_of_82 : decode cX8_of 82 = .ok (.iload_n 1, 1) := by decide +kernel
theorem dX8_of_83 : decode cX8_of 83 = .ok (.iconst 1, 1) := by decide +kernel
theorem dX8_of_84 : decode cX8_of 84 = .ok (.if_icmp .ne 9, 3) := by decide +kernel
theorem dX8_of_87 : decode cX8_of 87 = .ok (.iload 5, 2) := by decide +kernel
theorem dX8_of_89 : decode cX8_of 89 = .ok (.ineg, 1) := by decide +kernel
theorem dX8_of_90 : decode cX8_of 90 = .ok (.goto 5, 3) := by decide +kernel
theorem dX8_of_93 : decode cX8_of 93 = .ok (.iload 5, 2) := by decide +kernel
theorem dX8_of_95 : decode cX8_of 95 = .ok (.ifCond .le 7, 3) := by decide +kernel
theorem dX8_of_98 : decode cX8_of 98 = .ok (.iload_n 3, 1) := by decide +kernel
theorem dX8_of_99 : decode cX8_of 99 = .ok (.goto 4, 3) := by decide +kernel
theorem dX8_of_102 : decode cX8_of 102 = .ok (.iload_n 2, 1) := by decide +kernel
theorem dX8_of_103 : decode cX8_of 103 = .ok (.istore_n 2, 1) := by decide +kernel
theorem dX8_of_104 : decode cX8_of 104 = .ok (.iinc 3 1, 3) := by decide +kernel
theorem dX8_of_107 : decode cX8_of 107 = .ok (.goto (-70), 3) := by decide +kernel
theorem dX8_of_110 : decode cX8_of 110 = .ok (.iload_n 2, 1) := by decide +kernel
theorem dX8_of_111 : decode cX8_of 111 = .ok (.ireturn, 1) := by decide +kernel
theorem dX8_better_0 : decode cX8_better 0 = .ok (.aload_n 0, 1) := by decide +kernel
theorem dX8_better_1 : decode cX8_better 1 = .ok (.iload_n 1, 1) := by decide +kernel
theorem dX8_better_2 : decode cX8_better 2 = .ok (.i2l, 1) := by decide +kernel
theorem dX8_better_3 : decode cX8_better 3 = .ok (.invokevirtual 184, 3) := by decide +kernel
theorem dX8_better_6 : decode cX8_better 6 = .ok (.ifCond .eq 12, 3) := by decide +kernel
theorem dX8_better_9 : decode cX8_better 9 = .ok (.aload_n 0, 1) := by decide +kernel
theorem dX8_better_10 : decode cX8_better 10 = .ok (.iload_n 2, 1) := by decide +kernel
theorem dX8_better_11 : decode cX8_better 11 = .ok (.i2l, 1) := by decide +kernel
theorem dX8_better_12 : decode cX8_better 12 = .ok (.invokevirtual 184, 3) := by decide +kernel
theorem dX8_better_15 : decode cX8_better 15 = .ok (.ifCond .ne 10, 3) := by decide +kernel
theorem dX8_better_18 : decode cX8_better 18 = .ok (.aload_n 0, 1) := by decide +kernel
theorem dX8_better_19 : decode cX8_better 19 = .ok (.bipush (-2), 2) := by decide +kernel
theorem dX8_better_21 : decode cX8_better 21 = .ok (.invokevirtual 90, 3) := by decide +kernel
theorem dX8_better_24 : decode cX8_better 24 = .ok (.ireturn, 1) := by decide +kernel
theorem dX8_better_25 : decode cX8_better 25 = .ok (.iconst 0, 1) := by decide +kernel
theorem dX8_better_26 : decode cX8_better 26 = .ok (.istore_n 3, 1) := by decide +kernel
theorem dX8_better_27 : decode cX8_better 27 = .ok (.iconst 0, 1) := by decide +kernel
theorem dX8_better_28 : decode cX8_better 28 = .ok (.istore 4, 2) := by decide +kernel
theorem dX8_better_30 : decode cX8_better 30 = .ok (.iload 4, 2) := by decide +kernel
theorem dX8_better_32 : decode cX8_better 32 = .ok (.bipush 100, 2) := by decide +kernel
theorem dX8_better_34 : decode cX8_better 34 = .ok (.if_icmp .ge 36, 3) := by decide +kernel
theorem dX8_better_37 : decode cX8_better 37 = .ok (.iload_n 3, 1) := by decide +kernel
theorem dX8_better_38 : decode cX8_better 38 = .ok (.aload_n 0, 1) := by decide +kernel
theorem dX8_better_39 : decode cX8_better 39 = .ok (.iload_n 1, 1) := by decide +kernel
theorem dX8_better_40 : decode cX8_better 40 = .ok (.iconst 0, 1) := by decide +kernel
theorem dX8_better_41 : decode cX8_better 41 = .ok (.iload 4, 2) := by decide +kernel
theorem dX8_better_43 : decode cX8_better 43 = .ok (.invokevirtual 187, 3) := by decide +kernel
theorem dX8_better_46 : decode cX8_better 46 = .ok (.aload_n 0, 1) := by decide +kernel
theorem dX8_better_47 : decode cX8_better 47 = .ok (.iload_n 2, 1) := by decide +kernel
theorem dX8_better_48 : decode cX8_better 48 = .ok (.iconst 0, 1) := by decide +kernel
theorem dX8_better_49 : decode cX8_better 49 = .ok (.iload 4, 2) := by decide +kernel
theorem dX8_better_51 : decode cX8_better 51 = .ok (.invokevirtual 187, 3) := by decide +kernel
theorem dX8_better_54 : decode cX8_better 54 = .ok (.if_icmp .ge 7, 3) := by decide +kernel
theorem dX8_better_57 : decode cX8_better 57 = .ok (.iconst 1, 1) := by decide +kernel
theorem dX8_better_58 : decode cX8_better 58 = .ok (.goto 4, 3) := by decide +kernel
theorem dX8_better_61 : decode cX8_better 61 = .ok (.iconst 0, 1) := by decide +kernel
theorem dX8_better_62 : decode cX8_better 62 = .ok (.iadd, 1) := by decide +kernel
theorem dX8_better_63 : decode cX8_better 63 = .ok (.istore_n 3, 1) := by decide +kernel
theorem dX8_better_64 : decode cX8_better 64 = .ok (.iinc 4 1, 3) := by decide +kernel
theorem dX8_better_67 : decode cX8_better 67 = .ok (.goto (-37), 3) := by decide +kernel
theorem dX8_better_70 : decode cX8_better 70 = .ok (.iload_n 3, 1) := by decide +kernel
theorem dX8_better_71 : decode cX8_better 71 = .ok (.ireturn, 1) := by decide +kernel
theorem dX8_still_0 : decode cX8_still 0 = .ok (.aload_n 0, 1) := by decide +kernel
theorem dX8_still_1 : decode cX8_still 1 = .ok (.iload_n 1, 1) := by decide +kernel
theorem dX8_still_2 : decode cX8_still 2 = .ok (.i2l, 1) := by decide +kernel
theorem dX8_still_3 : decode cX8_still 3 = .ok (.invokevirtual 184, 3) := by decide +kernel
theorem dX8_still_6 : decode cX8_still 6 = .ok (.ifCond .ne 10, 3) := by decide +kernel
theorem dX8_still_9 : decode cX8_still 9 = .ok (.aload_n 0, 1) := by decide +kernel
theorem dX8_still_10 : decode cX8_still 10 = .ok (.bipush (-2), 2) := by decide +kernel
theorem dX8_still_12 : decode cX8_still 12 = .ok (.invokevirtual 90, 3) := by decide +kernel
theorem dX8_still_15 : decode cX8_still 15 = .ok (.ireturn, 1) := by decide +kernel
theorem dX8_still_16 : decode cX8_still 16 = .ok (.iconst 0, 1) := by decide +kernel
theorem dX8_still_17 : decode cX8_still 17 = .ok (.istore_n 2, 1) := by decide +kernel
theorem dX8_still_18 : decode cX8_still 18 = .ok (.iload_n 2, 1) := by decide +kernel
theorem dX8_still_19 : decode cX8_still 19 = .ok (.bipush 100, 2) := by decide +kernel
theorem dX8_still_21 : decode cX8_still 21 = .ok (.if_icmp .ge 22, 3) := by decide +kernel
theorem dX8_still_24 : decode cX8_still 24 = .ok (.aload_n 0, 1) := by decide +kernel
theorem dX8_still_25 : decode cX8_still 25 = .ok (.iload_n 1, 1) := by decide +kernel
theorem dX8_still_26 : decode cX8_still 26 = .ok (.iconst 0, 1) := by decide +kernel
theorem dX8_still_27 : decode cX8_still 27 = .ok (.iload_n 2, 1) := by decide +kernel
theorem dX8_still_28 : decode cX8_still 28 = .ok (.invokevirtual 187, 3) := by decide +kernel
theorem dX8_still_31 : decode cX8_still 31 = .ok (.iload_n 2, 1) := by decide +kernel
theorem dX8_still_32 : decode cX8_still 32 = .ok (.if_icmp .ne 5, 3) := by decide +kernel
theorem dX8_still_35 : decode cX8_still 35 = .ok (.iload_n 2, 1) := by decide +kernel
theorem dX8_still_36 : decode cX8_still 36 = .ok (.ireturn, 1) := by decide +kernel
theorem dX8_still_37 : decode cX8_still 37 = .ok (.iinc 2 1, 3) := by decide +kernel
theorem dX8_still_40 : decode cX8_still 40 = .ok (.goto (-22), 3) := by decide +kernel
theorem dX8_still_43 : decode cX8_still 43 = .ok (.iconst (-1), 1) := by decide +kernel
theorem dX8_still_44 : decode cX8_still 44 = .ok (.ireturn, 1) := by decide +kernel
theorem dX8_calmFor_0 : decode cX8_calmFor 0 = .ok (.iload_n 1, 1) := by decide +kernel
theorem dX8_calmFor_1 : decode cX8_calmFor 1 = .ok (.i2l, 1) := by decide +kernel
theorem dX8_calmFor_2 : decode cX8_calmFor 2 = .ok (.lconst 0, 1) := by decide +kernel
theorem dX8_calmFor_3 : decode cX8_calmFor 3 = .ok (.ldc2_w 105, 3) := by decide +kernel
theorem dX8_calmFor_6 : decode cX8_calmFor 6 = .ok (.invokestatic 68, 3) := by decide +kernel
theorem dX8_calmFor_9 : decode cX8_calmFor 9 = .ok (.ifCond .ne 10, 3) := by decide +kernel
theorem dX8_calmFor_12 : decode cX8_calmFor 12 = .ok (.aload_n 0, 1) := by decide +kernel
theorem dX8_calmFor_13 : decode cX8_calmFor 13 = .ok (.bipush (-2), 2) := by decide +kernel
theorem dX8_calmFor_15 : decode cX8_calmFor 15 = .ok (.invokevirtual 90, 3) := by decide +kernel
theorem dX8_calmFor_18 : decode cX8_calmFor 18 = .ok (.ireturn, 1) := by decide +kernel
theorem dX8_calmFor_19 : decode cX8_calmFor 19 = .ok (.aload_n 0, 1) := by decide +kernel
theorem dX8_calmFor_20 : decode cX8_calmFor 20 = .ok (.getfield 17, 3) := by decide +kernel
theorem dX8_calmFor_23 : decode cX8_calmFor 23 = .ok (.bipush 34, 2) := by decide +kernel
theorem dX8_calmFor_25 : decode cX8_calmFor 25 = .ok (.iaload, 1) := by decide +kernel
theorem dX8_calmFor_26 : decode cX8_calmFor 26 = .ok (.istore_n 2, 1) := by decide +kernel
theorem dX8_calmFor_27 : decode cX8_calmFor 27 = .ok (.iconst (-1), 1) := by decide +kernel
theorem dX8_calmFor_28 : decode cX8_calmFor 28 = .ok (.istore_n 3, 1) := by decide +kernel
theorem dX8_calmFor_29 : decode cX8_calmFor 29 = .ok (.bipush 99, 2) := by decide +kernel
theorem dX8_calmFor_31 : decode cX8_calmFor 31 = .ok (.istore 4, 2) := by decide +kernel
theorem dX8_calmFor_33 : decode cX8_calmFor 33 = .ok (.iload 4, 2) := by decide +kernel
theorem dX8_calmFor_35 : decode cX8_calmFor 35 = .ok (.ifCond .lt 43, 3) := by decide +kernel
theorem dX8_calmFor_38 : decode cX8_calmFor 38 = .ok (.aload_n 0, 1) := by decide +kernel
theorem dX8_calmFor_39 : decode cX8_calmFor 39 = .ok (.getfield 17, 3) := by decide +kernel
theorem dX8_calmFor_42 : decode cX8_calmFor 42 = .ok (.bipush 34, 2) := by decide +kernel
theorem dX8_calmFor_44 : decode cX8_calmFor 44 = .ok (.iload 4, 2) := by decide +kernel
theorem dX8_calmFor_46 : decode cX8_calmFor 46 = .ok (.iastore, 1) := by decide +kernel
theorem dX8_calmFor_47 : decode cX8_calmFor 47 = .ok (.aload_n 0, 1) := by decide +kernel
theorem dX8_calmFor_48 : decode cX8_calmFor 48 = .ok (.bipush 10, 2) := by decide +kernel
theorem dX8_calmFor_50 : decode cX8_calmFor 50 = .ok (.iconst 0, 1) := by decide +kernel
theorem dX8_calmFor_51 : decode cX8_calmFor 51 = .ok (.aload_n 0, 1) := by decide +kernel
theorem dX8_calmFor_52 : decode cX8_calmFor 52 = .ok (.getfield 17, 3) := by decide +kernel
theorem dX8_calmFor_55 : decode cX8_calmFor 55 = .ok (.bipush 33, 2) := by decide +kernel
theorem dX8_calmFor_57 : decode cX8_calmFor 57 = .ok (.iaload, 1) := by decide +kernel
theorem dX8_calmFor_58 : decode cX8_calmFor 58 = .ok (.invokevirtual 187, 3) := by decide +kernel
theorem dX8_calmFor_61 : decode cX8_calmFor 61 = .ok (.iload_n 1, 1) := by decide +kernel
theorem dX8_calmFor_62 : decode cX8_calmFor 62 = .ok (.if_icmp .gt 8, 3) := by decide +kernel
theorem dX8_calmFor_65 : decode cX8_calmFor 65 = .ok (.iload 4, 2) := by decide +kernel
theorem dX8_calmFor_67 : decode cX8_calmFor 67 = .ok (.goto 4, 3) := by decide +kernel
theorem dX8_calmFor_70 : decode cX8_calmFor 70 = .ok (.iload_n 3, 1) := by decide +kernel
theorem dX8_calmFor_71 : decode cX8_calmFor 71 = .ok (.istore_n 3, 1) := by decide +kernel
theorem dX8_calmFor_72 : decode cX8_calmFor 72 = .ok (.iinc 4 (-1), 3) := by decide +kernel
theorem dX8_calmFor_75 : decode cX8_calmFor 75 = .ok (.goto (-42), 3) := by decide +kernel
theorem dX8_calmFor_78 : decode cX8_calmFor 78 = .ok (.aload_n 0, 1) := by decide +kernel
theorem dX8_calmFor_79 : decode cX8_calmFor 79 = .ok (.getfield 17, 3) := by decide +kernel
theorem dX8_calmFor_82 : decode cX8_calmFor 82 = .ok (.bipush 34, 2) := by decide +kernel
theorem dX8_calmFor_84 : decode cX8_calmFor 84 = .ok (.iload_n 2, 1) := by decide +kernel
theorem dX8_calmFor_85 : decode cX8_calmFor 85 = .ok (.iastore, 1) := by decide +kernel
theorem dX8_calmFor_86 : decode cX8_calmFor 86 = .ok (.iload_n 3, 1) := by decide +kernel
theorem dX8_calmFor_87 : decode cX8_calmFor 87 = .ok (.ireturn, 1) := by decide +kernel
theorem dX8_brave_0 : decode cX8_brave 0 = .ok (.iload_n 1, 1) := by decide +kernel
theorem dX8_brave_1 : decode cX8_brave 1 = .ok (.i2l, 1) := by decide +kernel
theorem dX8_brave_2 : decode cX8_brave 2 = .ok (.lconst 0, 1) := by decide +kernel
theorem dX8_brave_3 : decode cX8_brave 3 = .ok (.ldc2_w 105, 3) := by decide +kernel
theorem dX8_brave_6 : decode cX8_brave 6 = .ok (.invokestatic 68, 3) := by decide +kernel
theorem dX8_brave_9 : decode cX8_brave 9 = .ok (.ifCond .ne 10, 3) := by decide +kernel
theorem dX8_brave_12 : decode cX8_brave 12 = .ok (.aload_n 0, 1) := by decide +kernel
theorem dX8_brave_13 : decode cX8_brave 13 = .ok (.bipush (-2), 2) := by decide +kernel
theorem dX8_brave_15 : decode cX8_brave 15 = .ok (.invokevirtual 90, 3) := by decide +kernel
theorem dX8_brave_18 : decode cX8_brave 18 = .ok (.ireturn, 1) := by decide +kernel
theorem dX8_brave_19 : decode cX8_brave 19 = .ok (.aload_n 0, 1) := by decide +kernel
theorem dX8_brave_20 : decode cX8_brave 20 = .ok (.getfield 17, 3) := by decide +kernel
theorem dX8_brave_23 : decode cX8_brave 23 = .ok (.bipush 33, 2) := by decide +kernel
theorem dX8_brave_25 : decode cX8_brave 25 = .ok (.iaload, 1) := by decide +kernel
theorem dX8_brave_26 : decode cX8_brave 26 = .ok (.istore_n 2, 1) := by decide +kernel
theorem dX8_brave_27 : decode cX8_brave 27 = .ok (.aload_n 0, 1) := by decide +kernel
theorem dX8_brave_28 : decode cX8_brave 28 = .ok (.getfield 17, 3) := by decide +kernel
theorem dX8_brave_31 : decode cX8_brave 31 = .ok (.bipush 33, 2) := by decide +kernel
theorem dX8_brave_33 : decode cX8_brave 33 = .ok (.iload_n 1, 1) := by decide +kernel
theorem dX8_brave_34 : decode cX8_brave 34 = .ok (.iastore, 1) := by decide +kernel
theorem dX8_brave_35 : decode cX8_brave 35 = .ok (.aload_n 0, 1) := by decide +kernel
theorem dX8_brave_36 : decode cX8_brave 36 = .ok (.invokevirtual 288, 3) := by decide +kernel
theorem dX8_brave_39 : decode cX8_brave 39 = .ok (.istore_n 3, 1) := by decide +kernel
theorem dX8_brave_40 : decode cX8_brave 40 = .ok (.aload_n 0, 1) := by decide +kernel
theorem dX8_brave_41 : decode cX8_brave 41 = .ok (.getfield 17, 3) := by decide +kernel
theorem dX8_brave_44 : decode cX8_brave 44 = .ok (.bipush 33, 2) := by decide +kernel
theorem dX8_brave_46 : decode cX8_brave 46 = .ok (.iload_n 2, 1) := by decide +kernel
theorem dX8_brave_47 : decode cX8_brave 47 = .ok (.iastore, 1) := by decide +kernel
theorem dX8_brave_48 : decode cX8_brave 48 = .ok (.iload_n 3, 1) := by decide +kernel
theorem dX8_brave_49 : decode cX8_brave 49 = .ok (.ireturn, 1) := by decide +kernel
theorem dX8_ofKind_0 : decode cX8_ofKind 0 = .ok (.iload_n 1, 1) := by decide +kernel
theorem dX8_ofKind_1 : decode cX8_ofKind 1 = .ok (.i2l, 1) := by decide +kernel
theorem dX8_ofKind_2 : decode cX8_ofKind 2 = .ok (.lconst 0, 1) := by decide +kernel
theorem dX8_ofKind_3 : decode cX8_ofKind 3 = .ok (.ldc2_w 84, 3) := by decide +kernel
theorem dX8_ofKind_6 : decode cX8_ofKind 6 = .ok (.invokestatic 68, 3) := by decide +kernel
theorem dX8_ofKind_9 : decode cX8_ofKind 9 = .ok (.ifCond .ne 10, 3) := by decide +kernel
theorem dX8_ofKind_12 : decode cX8_ofKind 12 = .ok (.aload_n 0, 1) := by decide +kernel
theorem dX8_ofKind_13 : decode cX8_ofKind 13 = .ok (.bipush (-2), 2) := by decide +kernel
theorem dX8_ofKind_15 : decode cX8_ofKind 15 = .ok (.invokevirtual 90, 3) := by decide +kernel
theorem dX8_ofKind_18 : decode cX8_ofKind 18 = .ok (.ireturn, 1) := by decide +kernel
theorem dX8_ofKind_19 : decode cX8_ofKind 19 = .ok (.iconst 0, 1) := by decide +kernel
theorem dX8_ofKind_20 : decode cX8_ofKind 20 = .ok (.istore_n 2, 1) := by decide +kernel
theorem dX8_ofKind_21 : decode cX8_ofKind 21 = .ok (.iconst 0, 1) := by decide +kernel
theorem dX8_ofKind_22 : decode cX8_ofKind 22 = .ok (.istore_n 3, 1) := by decide +kernel
theorem dX8_ofKind_23 : decode cX8_ofKind 23 = .ok (.iload_n 3, 1) := by decide +kernel
theorem dX8_ofKind_24 : decode cX8_ofKind 24 = .ok (.aload_n 0, 1) := by decide +kernel
theorem dX8_ofKind_25 : decode cX8_ofKind 25 = .ok (.invokevirtual 80, 3) := by decide +kernel
theorem dX8_ofKind_28 : decode cX8_ofKind 28 = .ok (.if_icmp .ge 26, 3) := by decide +kernel
theorem dX8_ofKind_31 : decode cX8_ofKind 31 = .ok (.iload_n 2, 1) := by decide +kernel
theorem dX8_ofKind_32 : decode cX8_ofKind 32 = .ok (.aload_n 0, 1) := by decide +kernel
theorem dX8_ofKind_33 : decode cX8_ofKind 33 = .ok (.iload_n 3, 1) := by decide +kernel
theorem dX8_ofKind_34 : decode cX8_ofKind 34 = .ok (.invokevirtual 153, 3) := by decide +kernel
theorem dX8_ofKind_37 : decode cX8_ofKind 37 = .ok (.iload_n 1, 1) := by decide +kernel
theorem dX8_ofKind_38 : decode cX8_ofKind 38 = .ok (.if_icmp .ne 7, 3) := by decide +kernel
theorem dX8_ofKind_41 : decode cX8_ofKind 41 = .ok (.iconst 1, 1) := by decide +kernel
theorem dX8_ofKind_42 : decode cX8_ofKind 42 = .ok (.goto 4, 3) := by decide +kernel
theorem dX8_ofKind_45 : decode cX8_ofKind 45 = .ok (.iconst 0, 1) := by decide +kernel
theorem dX8_ofKind_46 : decode cX8_ofKind 46 = .ok (.iadd, 1) := by decide +kernel
theorem dX8_ofKind_47 : decode cX8_ofKind 47 = .ok (.istore_n 2, 1) := by decide +kernel
theorem dX8_ofKind_48 : decode cX8_ofKind 48 = .ok (.iinc 3 1, 3) := by decide +kernel
theorem dX8_ofKind_51 : decode cX8_ofKind 51 = .ok (.goto (-28), 3) := by decide +kernel
theorem dX8_ofKind_54 : decode cX8_ofKind 54 = .ok (.iload_n 2, 1) := by decide +kernel
theorem dX8_ofKind_55 : decode cX8_ofKind 55 = .ok (.ireturn, 1) := by decide +kernel
theorem dX8_order_0 : decode cX8_order 0 = .ok (.aload_n 0, 1) := by decide +kernel
theorem dX8_order_1 : decode cX8_order 1 = .ok (.iload_n 1, 1) := by decide +kernel
theorem dX8_order_2 : decode cX8_order 2 = .ok (.i2l, 1) := by decide +kernel
theorem dX8_order_3 : decode cX8_order 3 = .ok (.invokevirtual 184, 3) := by decide +kernel
theorem dX8_order_6 : decode cX8_order 6 = .ok (.ifCond .ne 10, 3) := by decide +kernel
theorem dX8_order_9 : decode cX8_order 9 = .ok (.aload_n 0, 1) := by decide +kernel
theorem dX8_order_10 : decode cX8_order 10 = .ok (.bipush (-2), 2) := by decide +kernel
theorem dX8_order_12 : decode cX8_order 12 = .ok (.invokevirtual 90, 3) := by decide +kernel
theorem dX8_order_15 : decode cX8_order 15 = .ok (.ireturn, 1) := by decide +kernel
theorem dX8_order_16 : decode cX8_order 16 = .ok (.aload_n 0, 1) := by decide +kernel
theorem dX8_order_17 : decode cX8_order 17 = .ok (.iload_n 1, 1) := by decide +kernel
theorem dX8_order_18 : decode cX8_order 18 = .ok (.invokevirtual 181, 3) := by decide +kernel
theorem dX8_order_21 : decode cX8_order 21 = .ok (.pop, 1) := by decide +kernel
theorem dX8_order_22 : decode cX8_order 22 = .ok (.aload_n 0, 1) := by decide +kernel
theorem dX8_order_23 : decode cX8_order 23 = .ok (.getfield 17, 3) := by decide +kernel
theorem dX8_order_26 : decode cX8_order 26 = .ok (.bipush 33, 2) := by decide +kernel
theorem dX8_order_28 : decode cX8_order 28 = .ok (.iaload, 1) := by decide +kernel
theorem dX8_order_29 : decode cX8_order 29 = .ok (.ireturn, 1) := by decide +kernel
theorem dX8_done_0 : decode cX8_done 0 = .ok (.aload_n 0, 1) := by decide +kernel
theorem dX8_done_1 : decode cX8_done 1 = .ok (.iconst 1, 1) := by decide +kernel
theorem dX8_done_2 : decode cX8_done 2 = .ok (.iload_n 1, 1) := by decide +kernel
theorem dX8_done_3 : decode cX8_done 3 = .ok (.iload_n 2, 1) := by decide +kernel
theorem dX8_done_4 : decode cX8_done 4 = .ok (.invokevirtual 223, 3) := by decide +kernel
theorem dX8_done_7 : decode cX8_done 7 = .ok (.istore_n 3, 1) := by decide +kernel
theorem dX8_done_8 : decode cX8_done 8 = .ok (.iload_n 3, 1) := by decide +kernel
theorem dX8_done_9 : decode cX8_done 9 = .ok (.ifCond .ge 11, 3) := by decide +kernel
theorem dX8_done_12 : decode cX8_done 12 = .ok (.aload_n 0, 1) := by decide +kernel
theorem dX8_done_13 : decode cX8_done 13 = .ok (.iload_n 3, 1) := by decide +kernel
theorem dX8_done_14 : decode cX8_done 14 = .ok (.invokevirtual 90, 3) := by decide +kernel
theorem dX8_done_17 : decode cX8_done 17 = .ok (.goto 8, 3) := by decide +kernel
theorem dX8_done_20 : decode cX8_done 20 = .ok (.aload_n 0, 1) := by decide +kernel
theorem dX8_done_21 : decode cX8_done 21 = .ok (.iload_n 2, 1) := by decide +kernel
theorem dX8_done_22 : decode cX8_done 22 = .ok (.invokevirtual 226, 3) := by decide +kernel
theorem dX8_done_25 : decode cX8_done 25 = .ok (.ireturn, 1) := by decide +kernel
theorem dX8_draw_0 : decode cX8_draw 0 = .ok (.aload_n 0, 1) := by decide +kernel
theorem dX8_draw_1 : decode cX8_draw 1 = .ok (.getfield 17, 3) := by decide +kernel
theorem dX8_draw_4 : decode cX8_draw 4 = .ok (.bipush 38, 2) := by decide +kernel
theorem dX8_draw_6 : decode cX8_draw 6 = .ok (.aload_n 0, 1) := by decide +kernel
theorem dX8_draw_7 : decode cX8_draw 7 = .ok (.getfield 17, 3) := by decide +kernel
theorem dX8_draw_10 : decode cX8_draw 10 = .ok (.bipush 38, 2) := by decide +kernel
theorem dX8_draw_12 : decode cX8_draw 12 = .ok (.iaload, 1) := by decide +kernel
theorem dX8_draw_13 : decode cX8_draw 13 = .ok (.ldc_w 291, 3) := by decide +kernel
theorem dX8_draw_16 : decode cX8_draw 16 = .ok (.imul, 1) := by decide +kernel
theorem dX8_draw_17 : decode cX8_draw 17 = .ok (.sipush 12345, 3) := by decide +kernel
theorem dX8_draw_20 : decode cX8_draw 20 = .ok (.iadd, 1) := by decide +kernel
theorem dX8_draw_21 : decode cX8_draw 21 = .ok (.iastore, 1) := by decide +kernel
theorem dX8_draw_22 : decode cX8_draw 22 = .ok (.aload_n 0, 1) := by decide +kernel
theorem dX8_draw_23 : decode cX8_draw 23 = .ok (.getfield 17, 3) := by decide +kernel
theorem dX8_draw_26 : decode cX8_draw 26 = .ok (.bipush 38, 2) := by decide +kernel
theorem dX8_draw_28 : decode cX8_draw 28 = .ok (.iaload, 1) := by decide +kernel
theorem dX8_draw_29 : decode cX8_draw 29 = .ok (.bipush 16, 2) := by decide +kernel
theorem dX8_draw_31 : decode cX8_draw 31 = .ok (.iushr, 1) := by decide +kernel
theorem dX8_draw_32 : decode cX8_draw 32 = .ok (.iload_n 1, 1) := by decide +kernel
theorem dX8_draw_33 : decode cX8_draw 33 = .ok (.irem, 1) := by decide +kernel
theorem dX8_draw_34 : decode cX8_draw 34 = .ok (.ireturn, 1) := by decide +kernel
theorem dX8_drawn_0 : decode cX8_drawn 0 = .ok (.iload_n 1, 1) := by decide +kernel
theorem dX8_drawn_1 : decode cX8_drawn 1 = .ok (.i2l, 1) := by decide +kernel
theorem dX8_drawn_2 : decode cX8_drawn 2 = .ok (.lconst 1, 1) := by decide +kernel
theorem dX8_drawn_3 : decode cX8_drawn 3 = .ok (.ldc2_w 292, 3) := by decide +kernel
theorem dX8_drawn_6 : decode cX8_drawn 6 = .ok (.invokestatic 68, 3) := by decide +kernel
theorem dX8_drawn_9 : decode cX8_drawn 9 = .ok (.ifCond .ne 10, 3) := by decide +kernel
theorem dX8_drawn_12 : decode cX8_drawn 12 = .ok (.aload_n 0, 1) := by decide +kernel
theorem dX8_drawn_13 : decode cX8_drawn 13 = .ok (.bipush (-2), 2) := by decide +kernel
theorem dX8_drawn_15 : decode cX8_drawn 15 = .ok (.invokevirtual 90, 3) := by decide +kernel
theorem dX8_drawn_18 : decode cX8_drawn 18 = .ok (.ireturn, 1) := by decide +kernel
theorem dX8_drawn_19 : decode cX8_drawn 19 = .ok (.iconst 0, 1) := by decide +kernel
theorem dX8_drawn_20 : decode cX8_drawn 20 = .ok (.istore_n 2, 1) := by decide +kernel
theorem dX8_drawn_21 : decode cX8_drawn 21 = .ok (.iconst 0, 1) := by decide +kernel
theorem dX8_drawn_22 : decode cX8_drawn 22 = .ok (.istore_n 3, 1) := by decide +kernel
theorem dX8_drawn_23 : decode cX8_drawn 23 = .ok (.iload_n 3, 1) := by decide +kernel
theorem dX8_drawn_24 : decode cX8_drawn 24 = .ok (.iload_n 1, 1) := by decide +kernel
theorem dX8_drawn_25 : decode cX8_drawn 25 = .ok (.if_icmp .ge 57, 3) := by decide +kernel
theorem dX8_drawn_28 : decode cX8_drawn 28 = .ok (.aload_n 0, 1) := by decide +kernel
theorem dX8_drawn_29 : decode cX8_drawn 29 = .ok (.aload_n 0, 1) := by decide +kernel
theorem dX8_drawn_30 : decode cX8_drawn 30 = .ok (.invokevirtual 80, 3) := by decide +kernel
theorem dX8_drawn_33 : decode cX8_drawn 33 = .ok (.iconst 2, 1) := by decide +kernel
theorem dX8_drawn_34 : decode cX8_drawn 34 = .ok (.iadd, 1) := by decide +kernel
theorem dX8_drawn_35 : decode cX8_drawn 35 = .ok (.invokevirtual 294, 3) := by decide +kernel
theorem dX8_drawn_38 : decode cX8_drawn 38 = .ok (.istore 4, 2) := by decide +kernel
theorem dX8_drawn_40 : decode cX8_drawn 40 = .ok (.iload_n 2, 1) := by decide +kernel
theorem dX8_drawn_41 : decode cX8_drawn 41 = .ok (.aload_n 0, 1) := by decide +kernel
theorem dX8_drawn_42 : decode cX8_drawn 42 = .ok (.iload 4, 2) := by decide +kernel
theorem dX8_drawn_44 : decode cX8_drawn 44 = .ok (.aload_n 0, 1) := by decide +kernel
theorem dX8_drawn_45 : decode cX8_drawn 45 = .ok (.invokevirtual 80, 3) := by decide +kernel
theorem dX8_drawn_48 : decode cX8_drawn 48 = .ok (.if_icmp .ge 8, 3) := by decide +kernel
theorem dX8_drawn_51 : decode cX8_drawn 51 = .ok (.iload 4, 2) := by decide +kernel
theorem dX8_drawn_53 : decode cX8_drawn 53 = .ok (.goto 18, 3) := by decide +kernel
theorem dX8_drawn_56 : decode cX8_drawn 56 = .ok (.iload 4, 2) := by decide +kernel
theorem dX8_drawn_58 : decode cX8_drawn 58 = .ok (.aload_n 0, 1) := by decide +kernel
theorem dX8_drawn_59 : decode cX8_drawn 59 = .ok (.invokevirtual 80, 3) := by decide +kernel
theorem dX8_drawn_62 : decode cX8_drawn 62 = .ok (.if_icmp .ne 7, 3) := by decide +kernel
theorem dX8_drawn_65 : decode cX8_drawn 65 = .ok (.iconst (-1), 1) := by decide +kernel
theorem dX8_drawn_66 : decode cX8_drawn 66 = .ok (.goto 5, 3) := by decide +kernel
theorem dX8_drawn_69 : decode cX8_drawn 69 = .ok (.bipush 10, 2) := by decide +kernel
theorem dX8_drawn_71 : decode cX8_drawn 71 = .ok (.invokevirtual 181, 3) := by decide +kernel
theorem dX8_drawn_74 : decode cX8_drawn 74 = .ok (.iadd, 1) := by decide +kernel
theorem dX8_drawn_75 : decode cX8_drawn 75 = .ok (.istore_n 2, 1) := by decide +kernel
theorem dX8_drawn_76 : decode cX8_drawn 76 = .ok (.iinc 3 1, 3) := by decide +kernel
theorem dX8_drawn_79 : decode cX8_drawn 79 = .ok (.goto (-56), 3) := by decide +kernel
theorem dX8_drawn_82 : decode cX8_drawn 82 = .ok (.iload_n 2, 1) := by decide +kernel
theorem dX8_drawn_83 : decode cX8_drawn 83 = .ok (.ireturn, 1) := by decide +kernel
theorem dX8_seed_0 : decode cX8_seed 0 = .ok (.aload_n 0, 1) := by decide +kernel
theorem dX8_seed_1 : decode cX8_seed 1 = .ok (.getfield 17, 3) := by decide +kernel
theorem dX8_seed_4 : decode cX8_seed 4 = .ok (.bipush 38, 2) := by decide +kernel
theorem dX8_seed_6 : decode cX8_seed 6 = .ok (.iaload, 1) := by decide +kernel
theorem dX8_seed_7 : decode cX8_seed 7 = .ok (.istore_n 2, 1) := by decide +kernel
theorem dX8_seed_8 : decode cX8_seed 8 = .ok (.aload_n 0, 1) := by decide +kernel
theorem dX8_seed_9 : decode cX8_seed 9 = .ok (.getfield 17, 3) := by decide +kernel
theorem dX8_seed_12 : decode cX8_seed 12 = .ok (.bipush 38, 2) := by decide +kernel
theorem dX8_seed_14 : decode cX8_seed 14 = .ok (.iload_n 1, 1) := by decide +kernel
theorem dX8_seed_15 : decode cX8_seed 15 = .ok (.iastore, 1) := by decide +kernel
theorem dX8_seed_16 : decode cX8_seed 16 = .ok (.iload_n 2, 1) := by decide +kernel
theorem dX8_seed_17 : decode cX8_seed 17 = .ok (.ireturn, 1) := by decide +kernel
theorem dX8_image_0 : decode cX8_image 0 = .ok (.iconst 0, 1) := by decide +kernel
theorem dX8_image_1 : decode cX8_image 1 = .ok (.istore_n 1, 1) := by decide +kernel
theorem dX8_image_2 : decode cX8_image 2 = .ok (.iload_n 1, 1) := by decide +kernel
theorem dX8_image_3 : decode cX8_image 3 = .ok (.bipush 39, 2) := by decide +kernel
theorem dX8_image_5 : decode cX8_image 5 = .ok (.if_icmp .ge 21, 3) := by decide +kernel
theorem dX8_image_8 : decode cX8_image 8 = .ok (.aload_n 0, 1) := by decide +kernel
theorem dX8_image_9 : decode cX8_image 9 = .ok (.getfield 20, 3) := by decide +kernel
theorem dX8_image_12 : decode cX8_image 12 = .ok (.iload_n 1, 1) := by decide +kernel
theorem dX8_image_13 : decode cX8_image 13 = .ok (.aload_n 0, 1) := by decide +kernel
theorem dX8_image_14 : decode cX8_image 14 = .ok (.getfield 17, 3) := by decide +kernel
theorem dX8_image_17 : decode cX8_image 17 = .ok (.iload_n 1, 1) := by decide +kernel
theorem dX8_image_18 : decode cX8_image 18 = .ok (.iaload, 1) := by decide +kernel
theorem dX8_image_19 : decode cX8_image 19 = .ok (.iastore, 1) := by decide +kernel
theorem dX8_image_20 : decode cX8_image 20 = .ok (.iinc 1 1, 3) := by decide +kernel
theorem dX8_image_23 : decode cX8_image 23 = .ok (.goto (-21), 3) := by decide +kernel
theorem dX8_image_26 : decode cX8_image 26 = .ok (.aload_n 0, 1) := by decide +kernel
theorem dX8_image_27 : decode cX8_image 27 = .ok (.iconst 1, 1) := by decide +kernel
theorem dX8_image_28 : decode cX8_image 28 = .ok (.putfield 297, 3) := by decide +kernel
theorem dX8_image_31 : decode cX8_image 31 = .ok (.iconst 1, 1) := by decide +kernel
theorem dX8_image_32 : decode cX8_image 32 = .ok (.ireturn, 1) := by decide +kernel
theorem dX8_back_0 : decode cX8_back 0 = .ok (.aload_n 0, 1) := by decide +kernel
theorem dX8_back_1 : decode cX8_back 1 = .ok (.getfield 297, 3) := by decide +kernel
theorem dX8_back_4 : decode cX8_back 4 = .ok (.ifCond .ne 10, 3) := by decide +kernel
theorem dX8_back_7 : decode cX8_back 7 = .ok (.aload_n 0, 1) := by decide +kernel
theorem dX8_back_8 : decode cX8_back 8 = .ok (.bipush (-5), 2) := by decide +kernel
theorem dX8_back_10 : decode cX8_back 10 = .ok (.invokevirtual 90, 3) := by decide +kernel
theorem dX8_back_13 : decode cX8_back 13 = .ok (.ireturn, 1) := by decide +kernel
theorem dX8_back_14 : decode cX8_back 14 = .ok (.iconst 0, 1) := by decide +kernel
theorem dX8_back_15 : decode cX8_back 15 = .ok (.istore_n 1, 1) := by decide +kernel
theorem dX8_back_16 : decode cX8_back 16 = .ok (.iload_n 1, 1) := by decide +kernel
theorem dX8_back_17 : decode cX8_back 17 = .ok (.bipush 39, 2) := by decide +kernel
theorem dX8_back_19 : decode cX8_back 19 = .ok (.if_icmp .ge 21, 3) := by decide +kernel
theorem dX8_back_22 : decode cX8_back 22 = .ok (.aload_n 0, 1) := by decide +kernel
theorem dX8_back_23 : decode cX8_back 23 = .ok (.getfield 17, 3) := by decide +kernel
theorem dX8_back_26 : decode cX8_back 26 = .ok (.iload_n 1, 1) := by decide +kernel
theorem dX8_back_27 : decode cX8_back 27 = .ok (.aload_n 0, 1) := by decide +kernel
theorem dX8_back_28 : decode cX8_back 28 = .ok (.getfield 20, 3) := by decide +kernel
theorem dX8_back_31 : decode cX8_back 31 = .ok (.iload_n 1, 1) := by decide +kernel
theorem dX8_back_32 : decode cX8_back 32 = .ok (.iaload, 1) := by decide +kernel
theorem dX8_back_33 : decode cX8_back 33 = .ok (.iastore, 1) := by decide +kernel
theorem dX8_back_34 : decode cX8_back 34 = .ok (.iinc 1 1, 3) := by decide +kernel
theorem dX8_back_37 : decode cX8_back 37 = .ok (.goto (-21), 3) := by decide +kernel
theorem dX8_back_40 : decode cX8_back 40 = .ok (.iconst 0, 1) := by decide +kernel
theorem dX8_back_41 : decode cX8_back 41 = .ok (.istore_n 1, 1) := by decide +kernel
theorem dX8_back_42 : decode cX8_back 42 = .ok (.iload_n 1, 1) := by decide +kernel
theorem dX8_back_43 : decode cX8_back 43 = .ok (.bipush 8, 2) := by decide +kernel
theorem dX8_back_45 : decode cX8_back 45 = .ok (.if_icmp .ge 41, 3) := by decide +kernel
theorem dX8_back_48 : decode cX8_back 48 = .ok (.aload_n 0, 1) := by decide +kernel
theorem dX8_back_49 : decode cX8_back 49 = .ok (.getfield 33, 3) := by decide +kernel
theorem dX8_back_52 : decode cX8_back 52 = .ok (.iload_n 1, 1) := by decide +kernel
theorem dX8_back_53 : decode cX8_back 53 = .ok (.aload_n 0, 1) := by decide +kernel
theorem dX8_back_54 : decode cX8_back 54 = .ok (.getfield 33, 3) := by decide +kernel
theorem dX8_back_57 : decode cX8_back 57 = .ok (.iload_n 1, 1) := by decide +kernel
theorem dX8_back_58 : decode cX8_back 58 = .ok (.iaload, 1) := by decide +kernel
theorem dX8_back_59 : decode cX8_back 59 = .ok (.bipush 10, 2) := by decide +kernel
theorem dX8_back_61 : decode cX8_back 61 = .ok (.aload_n 0, 1) := by decide +kernel
theorem dX8_back_62 : decode cX8_back 62 = .ok (.invokevirtual 80, 3) := by decide +kernel
theorem dX8_back_65 : decode cX8_back 65 = .ok (.iadd, 1) := by decide +kernel
theorem dX8_back_66 : decode cX8_back 66 = .ok (.if_icmp .lt 7, 3) := by decide +kernel
theorem dX8_back_69 : decode cX8_back 69 = .ok (.iconst (-1), 1) := by decide +kernel
theorem dX8_back_70 : decode cX8_back 70 = .ok (.goto 9, 3) := by decide +kernel
theorem dX8_back_73 : decode cX8_back 73 = .ok (.aload_n 0, 1) := by decide +kernel
theorem dX8_back_74 : decode cX8_back 74 = .ok (.getfield 33, 3) := by decide +kernel
theorem dX8_back_77 : decode cX8_back 77 = .ok (.iload_n 1, 1) := by decide +kernel
theorem dX8_back_78 : decode cX8_back 78 = .ok (.iaload, 1) := by decide +kernel
theorem dX8_back_79 : decode cX8_back 79 = .ok (.iastore, 1) := by decide +kernel
theorem dX8_back_80 : decode cX8_back 80 = .ok (.iinc 1 1, 3) := by decide +kernel
theorem dX8_back_83 : decode cX8_back 83 = .ok (.goto (-41), 3) := by decide +kernel
theorem dX8_back_86 : decode cX8_back 86 = .ok (.iconst 1, 1) := by decide +kernel
theorem dX8_back_87 : decode cX8_back 87 = .ok (.ireturn, 1) := by decide +kernel
theorem dX8_status_0 : decode cX8_status 0 = .ok (.iload_n 1, 1) := by decide +kernel
theorem dX8_status_1 : decode cX8_status 1 = .ok (.i2l, 1) := by decide +kernel
theorem dX8_status_2 : decode cX8_status 2 = .ok (.ldc2_w 300, 3) := by decide +kernel
theorem dX8_status_5 : decode cX8_status 5 = .ok (.ldc2_w 302, 3) := by decide +kernel
theorem dX8_status_8 : decode cX8_status 8 = .ok (.invokestatic 68, 3) := by decide +kernel
theorem dX8_status_11 : decode cX8_status 11 = .ok (.ifCond .eq 13, 3) := by decide +kernel
theorem dX8_status_14 : decode cX8_status 14 = .ok (.aload_n 0, 1) := by decide +kernel
theorem dX8_status_15 : decode cX8_status 15 = .ok (.getfield 7, 3) := by decide +kernel
theorem dX8_status_18 : decode cX8_status 18 = .ok (.iload_n 1, 1) := by decide +kernel
theorem dX8_status_19 : decode cX8_status 19 = .ok (.bipush 10, 2) := by decide +kernel
theorem dX8_status_21 : decode cX8_status 21 = .ok (.isub, 1) := by decide +kernel
theorem dX8_status_22 : decode cX8_status 22 = .ok (.iaload, 1) := by decide +kernel
theorem dX8_status_23 : decode cX8_status 23 = .ok (.ireturn, 1) := by decide +kernel
theorem dX8_status_24 : decode cX8_status 24 = .ok (.iconst 0, 1) := by decide +kernel
theorem dX8_status_25 : decode cX8_status 25 = .ok (.istore_n 2, 1) := by decide +kernel
theorem dX8_status_26 : decode cX8_status 26 = .ok (.iload_n 1, 1) := by decide +kernel
theorem dX8_status_27 : decode cX8_status 27 = .ok (.tableswitch 141 0 9 #[53, 53, 53, 53, 53, 53, 63, 94, 99, 107], 53) := by decide +kernel
theorem dX8_status_80 : decode cX8_status 80 = .ok (.aload_n 0, 1) := by decide +kernel
theorem dX8_status_81 : decode cX8_status 81 = .ok (.getfield 17, 3) := by decide +kernel
theorem dX8_status_84 : decode cX8_status 84 = .ok (.bipush 32, 2) := by decide +kernel
theorem dX8_status_86 : decode cX8_status 86 = .ok (.iload_n 1, 1) := by decide +kernel
theorem dX8_status_87 : decode cX8_status 87 = .ok (.iadd, 1) := by decide +kernel
theorem dX8_status_88 : decode cX8_status 88 = .ok (.iaload, 1) := by decide +kernel
theorem dX8_status_89 : decode cX8_status 89 = .ok (.ireturn, 1) := by decide +kernel
theorem dX8_status_90 : decode cX8_status 90 = .ok (.iconst 0, 1) := by decide +kernel
theorem dX8_status_91 : decode cX8_status 91 = .ok (.istore_n 3, 1) := by decide +kernel
theorem dX8_status_92 : decode cX8_status 92 = .ok (.iload_n 3, 1) := by decide +kernel
theorem dX8_status_93 : decode cX8_status 93 = .ok (.aload_n 0, 1) := by decide +kernel
theorem dX8_status_94 : decode cX8_status 94 = .ok (.invokevirtual 80, 3) := by decide +kernel
theorem dX8_status_97 : decode cX8_status 97 = .ok (.if_icmp .ge 22, 3) := by decide +kernel
theorem dX8_status_100 : decode cX8_status 100 = .ok (.iload_n 2, 1) := by decide +kernel
theorem dX8_status_101 : decode cX8_status 101 = .ok (.aload_n 0, 1) := by decide +kernel
theorem dX8_status_102 : decode cX8_status 102 = .ok (.getfield 17, 3) := by decide +kernel
theorem dX8_status_105 : decode cX8_status 105 = .ok (.iconst 4, 1) := by decide +kernel
theorem dX8_status_106 : decode cX8_status 106 = .ok (.iload_n 3, 1) := by decide +kernel
theorem dX8_status_107 : decode cX8_status 107 = .ok (.imul, 1) := by decide +kernel
theorem dX8_status_108 : decode cX8_status 108 = .ok (.iconst 3, 1) := by decide +kernel
theorem dX8_status_109 : decode cX8_status 109 = .ok (.iadd, 1) := by decide +kernel
theorem dX8_status_110 : decode cX8_status 110 = .ok (.iaload, 1) := by decide +kernel
theorem dX8_status_111 : decode cX8_status 111 = .ok (.iadd, 1) := by decide +kernel
theorem dX8_status_112 : decode cX8_status 112 = .ok (.istore_n 2, 1) := by decide +kernel
theorem dX8_status_113 : decode cX8_status 113 = .ok (.iinc 3 1, 3) := by decide +kernel
theorem dX8_status_116 : decode cX8_status 116 = .ok (.goto (-24), 3) := by decide +kernel
theorem dX8_status_119 : decode cX8_status 119 = .ok (.iload_n 2, 1) := by decide +kernel
theorem dX8_status_120 : decode cX8_status 120 = .ok (.ireturn, 1) := by decide +kernel
theorem dX8_status_121 : decode cX8_status 121 = .ok (.aload_n 0, 1) := by decide +kernel
theorem dX8_status_122 : decode cX8_status 122 = .ok (.getfield 109, 3) := by decide +kernel
theorem dX8_status_125 : decode cX8_status 125 = .ok (.ireturn, 1) := by decide +kernel
theorem dX8_status_126 : decode cX8_status 126 = .ok (.aload_n 0, 1) := by decide +kernel
theorem dX8_status_127 : decode cX8_status 127 = .ok (.getfield 17, 3) := by decide +kernel
theorem dX8_status_130 : decode cX8_status 130 = .ok (.bipush 38, 2) := by decide +kernel
theorem dX8_status_132 : decode cX8_status 132 = .ok (.iaload, 1) := by decide +kernel
theorem dX8_status_133 : decode cX8_status 133 = .ok (.ireturn, 1) := by decide +kernel
theorem dX8_status_134 : decode cX8_status 134 = .ok (.iconst 0, 1) := by decide +kernel
theorem dX8_status_135 : decode cX8_status 135 = .ok (.istore_n 3, 1) := by decide +kernel
theorem dX8_status_136 : decode cX8_status 136 = .ok (.iload_n 3, 1) := by decide +kernel
theorem dX8_status_137 : decode cX8_status 137 = .ok (.bipush 8, 2) := by decide +kernel
theorem dX8_status_139 : decode cX8_status 139 = .ok (.if_icmp .ge 27, 3) := by decide +kernel
theorem dX8_status_142 : decode cX8_status 142 = .ok (.iload_n 2, 1) := by decide +kernel
theorem dX8_status_143 : decode cX8_status 143 = .ok (.aload_n 0, 1) := by decide +kernel
theorem dX8_status_144 : decode cX8_status 144 = .ok (.getfield 33, 3) := by decide +kernel
theorem dX8_status_147 : decode cX8_status 147 = .ok (.iload_n 3, 1) := by decide +kernel
theorem dX8_status_148 : decode cX8_status 148 = .ok (.iaload, 1) := by decide +kernel
theorem dX8_status_149 : decode cX8_status 149 = .ok (.iconst (-1), 1) := by decide +kernel
theorem dX8_status_150 : decode cX8_status 150 = .ok (.if_icmp .ne 7, 3) := by decide +kernel
theorem dX8_status_153 : decode cX8_status 153 = .ok (.iconst 0, 1) := by decide +kernel
theorem dX8_status_154 : decode cX8_status 154 = .ok (.goto 4, 3) := by decide +kernel
theorem dX8_status_157 : decode cX8_status 157 = .ok (.iconst 1, 1) := by decide +kernel
theorem dX8_status_158 : decode cX8_status 158 = .ok (.iadd, 1) := by decide +kernel
theorem dX8_status_159 : decode cX8_status 159 = .ok (.istore_n 2, 1) := by decide +kernel
theorem dX8_status_160 : decode cX8_status 160 = .ok (.iinc 3 1, 3) := by decide +kernel
theorem dX8_status_163 : decode cX8_status 163 = .ok (.goto (-27), 3) := by decide +kernel
theorem dX8_status_166 : decode cX8_status 166 = .ok (.iload_n 2, 1) := by decide +kernel
theorem dX8_status_167 : decode cX8_status 167 = .ok (.ireturn, 1) := by decide +kernel
theorem dX8_status_168 : decode cX8_status 168 = .ok (.iconst (-1), 1) := by decide +kernel
theorem dX8_status_169 : decode cX8_status 169 = .ok (.ireturn, 1) := by decide +kernel
theorem dL_law_0 : decode cL_law 0 = .ok (.new 7, 3) := by decide +kernel
theorem dL_law_3 : decode cL_law 3 = .ok (.dup, 1) := by decide +kernel
theorem dL_law_4 : decode cL_law 4 = .ok (.invokespecial 9, 3) := by decide +kernel
theorem dL_law_7 : decode cL_law 7 = .ok (.astore_n 1, 1) := by decide +kernel
theorem dL_law_8 : decode cL_law 8 = .ok (.new 10, 3) := by decide +kernel
theorem dL_law_11 : decode cL_law 11 = .ok (.dup, 1) := by decide +kernel
theorem dL_law_12 : decode cL_law 12 = .ok (.invokespecial 12, 3) := by decide +kernel
theorem dL_law_15 : decode cL_law 15 = .ok (.astore_n 2, 1) := by decide +kernel
theorem dL_law_16 : decode cL_law 16 = .ok (.iconst 0, 1) := by decide +kernel
theorem dL_law_17 : decode cL_law 17 = .ok (.istore_n 3, 1) := by decide +kernel
theorem dL_law_18 : decode cL_law 18 = .ok (.iload_n 3, 1) := by decide +kernel
theorem dL_law_19 : decode cL_law 19 = .ok (.aload_n 0, 1) := by decide +kernel
theorem dL_law_20 : decode cL_law 20 = .ok (.arraylength, 1) := by decide +kernel
theorem dL_law_21 : decode cL_law 21 = .ok (.bipush 6, 2) := by decide +kernel
theorem dL_law_23 : decode cL_law 23 = .ok (.isub, 1) := by decide +kernel
theorem dL_law_24 : decode cL_law 24 = .ok (.if_icmp .gt 1866, 3) := by decide +kernel
theorem dL_law_27 : decode cL_law 27 = .ok (.aload_n 0, 1) := by decide +kernel
theorem dL_law_28 : decode cL_law 28 = .ok (.iload_n 3, 1) := by decide +kernel
theorem dL_law_29 : decode cL_law 29 = .ok (.iaload, 1) := by decide +kernel
theorem dL_law_30 : decode cL_law 30 = .ok (.bipush 63, 2) := by decide +kernel
theorem dL_law_32 : decode cL_law 32 = .ok (.iand, 1) := by decide +kernel
theorem dL_law_33 : decode cL_law 33 = .ok (.tableswitch 1851 0 54 #[235, 278, 351, 414, 448, 471, 504, 537, 580, 613, 646, 669, 682, 695, 728, 741, 764, 777, 810, 833, 876, 909, 942, 975, 1018, 1071, 1104, 1127, 1160, 1173, 1206, 1229, 1252, 1285, 1318, 1331, 1364, 1397, 1410, 1433, 1476, 1509, 1552, 1585, 1608, 1631, 1654, 1677, 1700, 1723, 1756, 1779, 1802, 1815, 1828], 235) := by decide +kernel
theorem dL_law_268 : decode cL_law 268 = .ok (.aload_n 1, 1) := by decide +kernel
theorem dL_law_269 : decode cL_law 269 = .ok (.aload_n 0, 1) := by decide +kernel
theorem dL_law_270 : decode cL_law 270 = .ok (.iload_n 3, 1) := by decide +kernel
theorem dL_law_271 : decode cL_law 271 = .ok (.iconst 1, 1) := by decide +kernel
theorem dL_law_272 : decode cL_law 272 = .ok (.iadd, 1) := by decide +kernel
theorem dL_law_273 : decode cL_law 273 = .ok (.iaload, 1) := by decide +kernel
theorem dL_law_274 : decode cL_law 274 = .ok (.aload_n 0, 1) := by decide +kernel
theorem dL_law_275 : decode cL_law 275 = .ok (.iload_n 3, 1) := by decide +kernel
theorem dL_law_276 : decode cL_law 276 = .ok (.iconst 2, 1) := by decide +kernel
theorem dL_law_277 : decode cL_law 277 = .ok (.iadd, 1) := by decide +kernel
theorem dL_law_278 : decode cL_law 278 = .ok (.iaload, 1) := by decide +kernel
theorem dL_law_279 : decode cL_law 279 = .ok (.aload_n 0, 1) := by decide +kernel
theorem dL_law_280 : decode cL_law 280 = .ok (.iload_n 3, 1) := by decide +kernel
theorem dL_law_281 : decode cL_law 281 = .ok (.iconst 3, 1) := by decide +kernel
theorem dL_law_282 : decode cL_law 282 = .ok (.iadd, 1) := by decide +kernel
theorem dL_law_283 : decode cL_law 283 = .ok (.iaload, 1) := by decide +kernel
theorem dL_law_284 : decode cL_law 284 = .ok (.invokevirtual 13, 3) := by decide +kernel
theorem dL_law_287 : decode cL_law 287 = .ok (.aload_n 2, 1) := by decide +kernel
theorem dL_law_288 : decode cL_law 288 = .ok (.aload_n 0, 1) := by decide +kernel
theorem dL_law_289 : decode cL_law 289 = .ok (.iload_n 3, 1) := by decide +kernel
theorem dL_law_290 : decode cL_law 290 = .ok (.iconst 1, 1) := by decide +kernel
theorem dL_law_291 : decode cL_law 291 = .ok (.iadd, 1) := by decide +kernel
theorem dL_law_292 : decode cL_law 292 = .ok (.iaload, 1) := by decide +kernel
theorem dL_law_293 : decode cL_law 293 = .ok (.aload_n 0, 1) := by decide +kernel
theorem dL_law_294 : decode cL_law 294 = .ok (.iload_n 3, 1) := by decide +kernel
theorem dL_law_295 : decode cL_law 295 = .ok (.iconst 2, 1) := by decide +kernel
theorem dL_law_296 : decode cL_law 296 = .ok (.iadd, 1) := by decide +kernel
theorem dL_law_297 : decode cL_law 297 = .ok (.iaload, 1) := by decide +kernel
theorem dL_law_298 : decode cL_law 298 = .ok (.aload_n 0, 1) := by decide +kernel
theorem dL_law_299 : decode cL_law 299 = .ok (.iload_n 3, 1) := by decide +kernel
theorem dL_law_300 : decode cL_law 300 = .ok (.iconst 3, 1) := by decide +kernel
theorem dL_law_301 : decode cL_law 301 = .ok (.iadd, 1) := by decide +kernel
theorem dL_law_302 : decode cL_law 302 = .ok (.iaload, 1) := by decide +kernel
theorem dL_law_303 : decode cL_law 303 = .ok (.invokevirtual 17, 3) := by decide +kernel
theorem dL_law_306 : decode cL_law 306 = .ok (.if_icmp .eq 1578, 3) := by decide +kernel
theorem dL_law_309 : decode cL_law 309 = .ok (.iconst 0, 1) := by decide +kernel
theorem dL_law_310 : decode cL_law 310 = .ok (.ireturn, 1) := by decide +kernel
theorem dL_law_311 : decode cL_law 311 = .ok (.aload_n 1, 1) := by decide +kernel
theorem dL_law_312 : decode cL_law 312 = .ok (.aload_n 0, 1) := by decide +kernel
theorem dL_law_313 : decode cL_law 313 = .ok (.iload_n 3, 1) := by decide +kernel
theorem dL_law_314 : decode cL_law 314 = .ok (.iconst 1, 1) := by decide +kernel
theorem dL_law_315 : decode cL_law 315 = .ok (.iadd, 1) := by decide +kernel
theorem dL_law_316 : decode cL_law 316 = .ok (.iaload, 1) := by decide +kernel
theorem dL_law_317 : decode cL_law 317 = .ok (.aload_n 0, 1) := by decide +kernel
theorem dL_law_318 : decode cL_law 318 = .ok (.iload_n 3, 1) := by decide +kernel
theorem dL_law_319 : decode cL_law 319 = .ok (.iconst 2, 1) := by decide +kernel
theorem dL_law_320 : decode cL_law 320 = .ok (.iadd, 1) := by decide +kernel
theorem dL_law_321 : decode cL_law 321 = .ok (.iaload, 1) := by decide +kernel
theorem dL_law_322 : decode cL_law 322 = .ok (.aload_n 0, 1) := by decide +kernel
theorem dL_law_323 : decode cL_law 323 = .ok (.iload_n 3, 1) := by decide +kernel
theorem dL_law_324 : decode cL_law 324 = .ok (.iconst 3, 1) := by decide +kernel
theorem dL_law_325 : decode cL_law 325 = .ok (.iadd, 1) := by decide +kernel
theorem dL_law_326 : decode cL_law 326 = .ok (.iaload, 1) := by decide +kernel
theorem dL_law_327 : decode cL_law 327 = .ok (.i2l, 1) := by decide +kernel
theorem dL_law_328 : decode cL_law 328 = .ok (.bipush 32, 2) := by decide +kernel
theorem dL_law_330 : decode cL_law 330 = .ok (.lshl, 1) := by decide +kernel
theorem dL_law_331 : decode cL_law 331 = .ok (.aload_n 0, 1) := by decide +kernel
theorem dL_law_332 : decode cL_law 332 = .ok (.iload_n 3, 1) := by decide +kernel
theorem dL_law_333 : decode cL_law 333 = .ok (.iconst 4, 1) := by decide +kernel
theorem dL_law_334 : decode cL_law 334 = .ok (.iadd, 1) := by decide +kernel
theorem dL_law_335 : decode cL_law 335 = .ok (.iaload, 1) := by decide +kernel
theorem dL_law_336 : decode cL_law 336 = .ok (.i2l, 1) := by decide +kernel
theorem dL_law_337 : decode cL_law 337 = .ok (.ldc2_w 18, 3) := by decide +kernel
theorem dL_law_340 : decode cL_law 340 = .ok (.land, 1) := by decide +kernel
theorem dL_law_341 : decode cL_law 341 = .ok (.lor, 1) := by decide +kernel
theorem dL_law_342 : decode cL_law 342 = .ok (.invokevirtual 20, 3) := by decide +kernel
theorem dL_law_345 : decode cL_law 345 = .ok (.aload_n 2, 1) := by decide +kernel
theorem dL_law_346 : decode cL_law 346 = .ok (.aload_n 0, 1) := by decide +kernel
theorem dL_law_347 : decode cL_law 347 = .ok (.iload_n 3, 1) := by decide +kernel
theorem dL_law_348 : decode cL_law 348 = .ok (.iconst 1, 1) := by decide +kernel
theorem dL_law_349 : decode cL_law 349 = .ok (.iadd, 1) := by decide +kernel
theorem dL_law_350 : decode cL_law 350 = .ok (.iaload, 1) := by decide +kernel
theorem dL_law_351 : decode cL_law 351 = .ok (.aload_n 0, 1) := by decide +kernel
theorem dL_law_352 : decode cL_law 352 = .ok (.iload_n 3, 1) := by decide +kernel
theorem dL_law_353 : decode cL_law 353 = .ok (.iconst 2, 1) := by decide +kernel
theorem dL_law_354 : decode cL_law 354 = .ok (.iadd, 1) := by decide +kernel
theorem dL_law_355 : decode cL_law 355 = .ok (.iaload, 1) := by decide +kernel
theorem dL_law_356 : decode cL_law 356 = .ok (.aload_n 0, 1) := by decide +kernel
theorem dL_law_357 : decode cL_law 357 = .ok (.iload_n 3, 1) := by decide +kernel
theorem dL_law_358 : decode cL_law 358 = .ok (.iconst 3, 1) := by decide +kernel
theorem dL_law_359 : decode cL_law 359 = .ok (.iadd, 1) := by decide +kernel
theorem dL_law_360 : decode cL_law 360 = .ok (.iaload, 1) := by decide +kernel
theorem dL_law_361 : decode cL_law 361 = .ok (.i2l, 1) := by decide +kernel
theorem dL_law_362 : decode cL_law 362 = .ok (.bipush 32, 2) := by decide +kernel
theorem dL_law_364 : decode cL_law 364 = .ok (.lshl, 1) := by decide +kernel
theorem dL_law_365 : decode cL_law 365 = .ok (.aload_n 0, 1) := by decide +kernel
theorem dL_law_366 : decode cL_law 366 = .ok (.iload_n 3, 1) := by decide +kernel
theorem dL_law_367 : decode cL_law 367 = .ok (.iconst 4, 1) := by decide +kernel
theorem dL_law_368 : decode cL_law 368 = .ok (.iadd, 1) := by decide +kernel
theorem dL_law_369 : decode cL_law 369 = .ok (.iaload, 1) := by decide +kernel
theorem dL_law_370 : decode cL_law 370 = .ok (.i2l, 1) := by decide +kernel
theorem dL_law_371 : decode cL_law 371 = .ok (.ldc2_w 18, 3) := by decide +kernel
theorem dL_law_374 : decode cL_law 374 = .ok (.land, 1) := by decide +kernel
theorem dL_law_375 : decode cL_law 375 = .ok (.lor, 1) := by decide +kernel
theorem dL_law_376 : decode cL_law 376 = .ok (.invokevirtual 24, 3) := by decide +kernel
theorem dL_law_379 : decode cL_law 379 = .ok (.if_icmp .eq 1505, 3) := by decide +kernel
theorem dL_law_382 : decode cL_law 382 = .ok (.iconst 0, 1) := by decide +kernel
theorem dL_law_383 : decode cL_law 383 = .ok (.ireturn, 1) := by decide +kernel
theorem dL_law_384 : decode cL_law 384 = .ok (.aload_n 1, 1) := by decide +kernel
theorem dL_law_385 : decode cL_law 385 = .ok (.aload_n 0, 1) := by decide +kernel
theorem dL_law_386 : decode cL_law 386 = .ok (.iload_n 3, 1) := by decide +kernel
theorem dL_law_387 : decode cL_law 387 = .ok (.iconst 1, 1) := by decide +kernel
theorem dL_law_388 : decode cL_law 388 = .ok (.iadd, 1) := by decide +kernel
theorem dL_law_389 : decode cL_law 389 = .ok (.iaload, 1) := by decide +kernel
theorem dL_law_390 : decode cL_law 390 = .ok (.aload_n 0, 1) := by decide +kernel
theorem dL_law_391 : decode cL_law 391 = .ok (.iload_n 3, 1) := by decide +kernel
theorem dL_law_392 : decode cL_law 392 = .ok (.iconst 2, 1) := by decide +kernel
theorem dL_law_393 : decode cL_law 393 = .ok (.iadd, 1) := by decide +kernel
theorem dL_law_394 : decode cL_law 394 = .ok (.iaload, 1) := by decide +kernel
theorem dL_law_395 : decode cL_law 395 = .ok (.aload_n 0, 1) := by decide +kernel
theorem dL_law_396 : decode cL_law 396 = .ok (.iload_n 3, 1) := by decide +kernel
theorem dL_law_397 : decode cL_law 397 = .ok (.iconst 3, 1) := by decide +kernel
theorem dL_law_398 : decode cL_law 398 = .ok (.iadd, 1) := by decide +kernel
theorem dL_law_399 : decode cL_law 399 = .ok (.iaload, 1) := by decide +kernel
theorem dL_law_400 : decode cL_law 400 = .ok (.aload_n 0, 1) := by decide +kernel
theorem dL_law_401 : decode cL_law 401 = .ok (.iload_n 3, 1) := by decide +kernel
theorem dL_law_402 : decode cL_law 402 = .ok (.iconst 4, 1) := by decide +kernel
theorem dL_law_403 : decode cL_law 403 = .ok (.iadd, 1) := by decide +kernel
theorem dL_law_404 : decode cL_law 404 = .ok (.iaload, 1) := by decide +kernel
theorem dL_law_405 : decode cL_law 405 = .ok (.aload_n 0, 1) := by decide +kernel
theorem dL_law_406 : decode cL_law 406 = .ok (.iload_n 3, 1) := by decide +kernel
theorem dL_law_407 : decode cL_law 407 = .ok (.iconst 5, 1) := by decide +kernel
theorem dL_law_408 : decode cL_law 408 = .ok (.iadd, 1) := by decide +kernel
theorem dL_law_409 : decode cL_law 409 = .ok (.iaload, 1) := by decide +kernel
theorem dL_law_410 : decode cL_law 410 = .ok (.invokevirtual 25, 3) := by decide +kernel
theorem dL_law_413 : decode cL_law 413 = .ok (.aload_n 2, 1) := by decide +kernel
theorem dL_law_414 : decode cL_law 414 = .ok (.aload_n 0, 1) := by decide +kernel
theorem dL_law_415 : decode cL_law 415 = .ok (.iload_n 3, 1) := by decide +kernel
theorem dL_law_416 : decode cL_law 416 = .ok (.iconst 1, 1) := by decide +kernel
theorem dL_law_417 : decode cL_law 417 = .ok (.iadd, 1) := by decide +kernel
theorem dL_law_418 : decode cL_law 418 = .ok (.iaload, 1) := by decide +kernel
theorem dL_law_419 : decode cL_law 419 = .ok (.aload_n 0, 1) := by decide +kernel
theorem dL_law_420 : decode cL_law 420 = .ok (.iload_n 3, 1) := by decide +kernel
theorem dL_law_421 : decode cL_law 421 = .ok (.iconst 2, 1) := by decide +kernel
theorem dL_law_422 : decode cL_law 422 = .ok (.iadd, 1) := by decide +kernel
theorem dL_law_423 : decode cL_law 423 = .ok (.iaload, 1) := by decide +kernel
theorem dL_law_424 : decode cL_law 424 = .ok (.aload_n 0, 1) := by decide +kernel
theorem dL_law_425 : decode cL_law 425 = .ok (.iload_n 3, 1) := by decide +kernel
theorem dL_law_426 : decode cL_law 426 = .ok (.iconst 3, 1) := by decide +kernel
theorem dL_law_427 : decode cL_law 427 = .ok (.iadd, 1) := by decide +kernel
theorem dL_law_428 : decode cL_law 428 = .ok (.iaload, 1) := by decide +kernel
theorem dL_law_429 : decode cL_law 429 = .ok (.aload_n 0, 1) := by decide +kernel
theorem dL_law_430 : decode cL_law 430 = .ok (.iload_n 3, 1) := by decide +kernel
theorem dL_law_431 : decode cL_law 431 = .ok (.iconst 4, 1) := by decide +kernel
theorem dL_law_432 : decode cL_law 432 = .ok (.iadd, 1) := by decide +kernel
theorem dL_law_433 : decode cL_law 433 = .ok (.iaload, 1) := by decide +kernel
theorem dL_law_434 : decode cL_law 434 = .ok (.aload_n 0, 1) := by decide +kernel
theorem dL_law_435 : decode cL_law 435 = .ok (.iload_n 3, 1) := by decide +kernel
theorem dL_law_436 : decode cL_law 436 = .ok (.iconst 5, 1) := by decide +kernel
theorem dL_law_437 : decode cL_law 437 = .ok (.iadd, 1) := by decide +kernel
theorem dL_law_438 : decode cL_law 438 = .ok (.iaload, 1) := by decide +kernel
theorem dL_law_439 : decode cL_law 439 = .ok (.invokevirtual 29, 3) := by decide +kernel
theorem dL_law_442 : decode cL_law 442 = .ok (.if_icmp .eq 1442, 3) := by decide +kernel
theorem dL_law_445 : decode cL_law 445 = .ok (.iconst 0, 1) := by decide +kernel
theorem dL_law_446 : decode cL_law 446 = .ok (.ireturn, 1) := by decide +kernel
theorem dL_law_447 : decode cL_law 447 = .ok (.aload_n 1, 1) := by decide +kernel
theorem dL_law_448 : decode cL_law 448 = .ok (.aload_n 0, 1) := by decide +kernel
theorem dL_law_449 : decode cL_law 449 = .ok (.iload_n 3, 1) := by decide +kernel
theorem dL_law_450 : decode cL_law 450 = .ok (.iconst 1, 1) := by decide +kernel
theorem dL_law_451 : decode cL_law 451 = .ok (.iadd, 1) := by decide +kernel
theorem dL_law_452 : decode cL_law 452 = .ok (.iaload, 1) := by decide +kernel
theorem dL_law_453 : decode cL_law 453 = .ok (.aload_n 0, 1) := by decide +kernel
theorem dL_law_454 : decode cL_law 454 = .ok (.iload_n 3, 1) := by decide +kernel
theorem dL_law_455 : decode cL_law 455 = .ok (.iconst 2, 1) := by decide +kernel
theorem dL_law_456 : decode cL_law 456 = .ok (.iadd, 1) := by decide +kernel
theorem dL_law_457 : decode cL_law 457 = .ok (.iaload, 1) := by decide +kernel
theorem dL_law_458 : decode cL_law 458 = .ok (.invokevirtual 30, 3) := by decide +kernel
theorem dL_law_461 : decode cL_law 461 = .ok (.aload_n 2, 1) := by decide +kernel
theorem dL_law_462 : decode cL_law 462 = .ok (.aload_n 0, 1) := by decide +kernel
theorem dL_law_463 : decode cL_law 463 = .ok (.iload_n 3, 1) := by decide +kernel
theorem dL_law_464 : decode cL_law 464 = .ok (.iconst 1, 1) := by decide +kernel
theorem dL_law_465 : decode cL_law 465 = .ok (.iadd, 1) := by decide +kernel
theorem dL_law_466 : decode cL_law 466 = .ok (.iaload, 1) := by decide +kernel
theorem dL_law_467 : decode cL_law 467 = .ok (.aload_n 0, 1) := by decide +kernel
theorem dL_law_468 : decode cL_law 468 = .ok (.iload_n 3, 1) := by decide +kernel
theorem dL_law_469 : decode cL_law 469 = .ok (.iconst 2, 1) := by decide +kernel
theorem dL_law_470 : decode cL_law 470 = .ok (.iadd, 1) := by decide +kernel
theorem dL_law_471 : decode cL_law 471 = .ok (.iaload, 1) := by decide +kernel
theorem dL_law_472 : decode cL_law 472 = .ok (.invokevirtual 34, 3) := by decide +kernel
theorem dL_law_475 : decode cL_law 475 = .ok (.lcmp, 1) := by decide +kernel
theorem dL_law_476 : decode cL_law 476 = .ok (.ifCond .eq 1408, 3) := by decide +kernel
theorem dL_law_479 : decode cL_law 479 = .ok (.iconst 0, 1) := by decide +kernel
theorem dL_law_480 : decode cL_law 480 = .ok (.ireturn, 1) := by decide +kernel
theorem dL_law_481 : decode cL_law 481 = .ok (.aload_n 1, 1) := by decide +kernel
theorem dL_law_482 : decode cL_law 482 = .ok (.aload_n 0, 1) := by decide +kernel
theorem dL_law_483 : decode cL_law 483 = .ok (.iload_n 3, 1) := by decide +kernel
theorem dL_law_484 : decode cL_law 484 = .ok (.iconst 1, 1) := by decide +kernel
theorem dL_law_485 : decode cL_law 485 = .ok (.iadd, 1) := by decide +kernel
theorem dL_law_486 : decode cL_law 486 = .ok (.iaload, 1) := by decide +kernel
theorem dL_law_487 : decode cL_law 487 = .ok (.invokevirtual 35, 3) := by decide +kernel
theorem dL_law_490 : decode cL_law 490 = .ok (.aload_n 2, 1) := by decide +kernel
theorem dL_law_491 : decode cL_law 491 = .ok (.aload_n 0, 1) := by decide +kernel
theorem dL_law_492 : decode cL_law 492 = .ok (.iload_n 3, 1) := by decide +kernel
theorem dL_law_493 : decode cL_law 493 = .ok (.iconst 1, 1) := by decide +kernel
theorem dL_law_494 : decode cL_law 494 = .ok (.iadd, 1) := by decide +kernel
theorem dL_law_495 : decode cL_law 495 = .ok (.iaload, 1) := by decide +kernel
theorem dL_law_496 : decode cL_law 496 = .ok (.invokevirtual 39, 3) := by decide +kernel
theorem dL_law_499 : decode cL_law 499 = .ok (.if_icmp .eq 1385, 3) := by decide +kernel
theorem dL_law_502 : decode cL_law 502 = .ok (.iconst 0, 1) := by decide +kernel
theorem dL_law_503 : decode cL_law 503 = .ok (.ireturn, 1) := by decide +kernel
theorem dL_law_504 : decode cL_law 504 = .ok (.aload_n 1, 1) := by decide +kernel
theorem dL_law_505 : decode cL_law 505 = .ok (.aload_n 0, 1) := by decide +kernel
theorem dL_law_506 : decode cL_law 506 = .ok (.iload_n 3, 1) := by decide +kernel
theorem dL_law_507 : decode cL_law 507 = .ok (.iconst 1, 1) := by decide +kernel
theorem dL_law_508 : decode cL_law 508 = .ok (.iadd, 1) := by decide +kernel
theorem dL_law_509 : decode cL_law 509 = .ok (.iaload, 1) := by decide +kernel
theorem dL_law_510 : decode cL_law 510 = .ok (.aload_n 0, 1) := by decide +kernel
theorem dL_law_511 : decode cL_law 511 = .ok (.iload_n 3, 1) := by decide +kernel
theorem dL_law_512 : decode cL_law 512 = .ok (.iconst 2, 1) := by decide +kernel
theorem dL_law_513 : decode cL_law 513 = .ok (.iadd, 1) := by decide +kernel
theorem dL_law_514 : decode cL_law 514 = .ok (.iaload, 1) := by decide +kernel
theorem dL_law_515 : decode cL_law 515 = .ok (.invokevirtual 40, 3) := by decide +kernel
theorem dL_law_518 : decode cL_law 518 = .ok (.aload_n 2, 1) := by decide +kernel
theorem dL_law_519 : decode cL_law 519 = .ok (.aload_n 0, 1) := by decide +kernel
theorem dL_law_520 : decode cL_law 520 = .ok (.iload_n 3, 1) := by decide +kernel
theorem dL_law_521 : decode cL_law 521 = .ok (.iconst 1, 1) := by decide +kernel
theorem dL_law_522 : decode cL_law 522 = .ok (.iadd, 1) := by decide +kernel
theorem dL_law_523 : decode cL_law 523 = .ok (.iaload, 1) := by decide +kernel
theorem dL_law_524 : decode cL_law 524 = .ok (.aload_n 0, 1) := by decide +kernel
theorem dL_law_525 : decode cL_law 525 = .ok (.iload_n 3, 1) := by decide +kernel
theorem dL_law_526 : decode cL_law 526 = .ok (.iconst 2, 1) := by decide +kernel
theorem dL_law_527 : decode cL_law 527 = .ok (.iadd, 1) := by decide +kernel
theorem dL_law_528 : decode cL_law 528 = .ok (.iaload, 1) := by decide +kernel
theorem dL_law_529 : decode cL_law 529 = .ok (.invokevirtual 44, 3) := by decide +kernel
theorem dL_law_532 : decode cL_law 532 = .ok (.if_icmp .eq 1352, 3) := by decide +kernel
theorem dL_law_535 : decode cL_law 535 = .ok (.iconst 0, 1) := by decide +kernel
theorem dL_law_536 : decode cL_law 536 = .ok (.ireturn, 1) := by decide +kernel
theorem dL_law_537 : decode cL_law 537 = .ok (.aload_n 1, 1) := by decide +kernel
theorem dL_law_538 : decode cL_law 538 = .ok (.aload_n 0, 1) := by decide +kernel
theorem dL_law_539 : decode cL_law 539 = .ok (.iload_n 3, 1) := by decide +kernel
theorem dL_law_540 : decode cL_law 540 = .ok (.iconst 1, 1) := by decide +kernel
theorem dL_law_541 : decode cL_law 541 = .ok (.iadd, 1) := by decide +kernel
theorem dL_law_542 : decode cL_law 542 = .ok (.iaload, 1) := by decide +kernel
theorem dL_law_543 : decode cL_law 543 = .ok (.aload_n 0, 1) := by decide +kernel
theorem dL_law_544 : decode cL_law 544 = .ok (.iload_n 3, 1) := by decide +kernel
theorem dL_law_545 : decode cL_law 545 = .ok (.iconst 2, 1) := by decide +kernel
theorem dL_law_546 : decode cL_law 546 = .ok (.iadd, 1) := by decide +kernel
theorem dL_law_547 : decode cL_law 547 = .ok (.iaload, 1) := by decide +kernel
theorem dL_law_548 : decode cL_law 548 = .ok (.invokevirtual 45, 3) := by decide +kernel
theorem dL_law_551 : decode cL_law 551 = .ok (.aload_n 2, 1) := by decide +kernel
theorem dL_law_552 : decode cL_law 552 = .ok (.aload_n 0, 1) := by decide +kernel
theorem dL_law_553 : decode cL_law 553 = .ok (.iload_n 3, 1) := by decide +kernel
theorem dL_law_554 : decode cL_law 554 = .ok (.iconst 1, 1) := by decide +kernel
theorem dL_law_555 : decode cL_law 555 = .ok (.iadd, 1) := by decide +kernel
theorem dL_law_556 : decode cL_law 556 = .ok (.iaload, 1) := by decide +kernel
theorem dL_law_557 : decode cL_law 557 = .ok (.aload_n 0, 1) := by decide +kernel
theorem dL_law_558 : decode cL_law 558 = .ok (.iload_n 3, 1) := by decide +kernel
theorem dL_law_559 : decode cL_law 559 = .ok (.iconst 2, 1) := by decide +kernel
theorem dL_law_560 : decode cL_law 560 = .ok (.iadd, 1) := by decide +kernel
theorem dL_law_561 : decode cL_law 561 = .ok (.iaload, 1) := by decide +kernel
theorem dL_law_562 : decode cL_law 562 = .ok (.invokevirtual 48, 3) := by decide +kernel
theorem dL_law_565 : decode cL_law 565 = .ok (.if_icmp .eq 1319, 3) := by decide +kernel
theorem dL_law_568 : decode cL_law 568 = .ok (.iconst 0, 1) := by decide +kernel
theorem dL_law_569 : decode cL_law 569 = .ok (.ireturn, 1) := by decide +kernel
theorem dL_law_570 : decode cL_law 570 = .ok (.aload_n 1, 1) := by decide +kernel
theorem dL_law_571 : decode cL_law 571 = .ok (.aload_n 0, 1) := by decide +kernel
theorem dL_law_572 : decode cL_law 572 = .ok (.iload_n 3, 1) := by decide +kernel
theorem dL_law_573 : decode cL_law 573 = .ok (.iconst 1, 1) := by decide +kernel
theorem dL_law_574 : decode cL_law 574 = .ok (.iadd, 1) := by decide +kernel
theorem dL_law_575 : decode cL_law 575 = .ok (.iaload, 1) := by decide +kernel
theorem dL_law_576 : decode cL_law 576 = .ok (.aload_n 0, 1) := by decide +kernel
theorem dL_law_577 : decode cL_law 577 = .ok (.iload_n 3, 1) := by decide +kernel
theorem dL_law_578 : decode cL_law 578 = .ok (.iconst 2, 1) := by decide +kernel
theorem dL_law_579 : decode cL_law 579 = .ok (.iadd, 1) := by decide +kernel
theorem dL_law_580 : decode cL_law 580 = .ok (.iaload, 1) := by decide +kernel
theorem dL_law_581 : decode cL_law 581 = .ok (.aload_n 0, 1) := by decide +kernel
theorem dL_law_582 : decode cL_law 582 = .ok (.iload_n 3, 1) := by decide +kernel
theorem dL_law_583 : decode cL_law 583 = .ok (.iconst 3, 1) := by decide +kernel
theorem dL_law_584 : decode cL_law 584 = .ok (.iadd, 1) := by decide +kernel
theorem dL_law_585 : decode cL_law 585 = .ok (.iaload, 1) := by decide +kernel
theorem dL_law_586 : decode cL_law 586 = .ok (.invokevirtual 49, 3) := by decide +kernel
theorem dL_law_589 : decode cL_law 589 = .ok (.aload_n 2, 1) := by decide +kernel
theorem dL_law_590 : decode cL_law 590 = .ok (.aload_n 0, 1) := by decide +kernel
theorem dL_law_591 : decode cL_law 591 = .ok (.iload_n 3, 1) := by decide +kernel
theorem dL_law_592 : decode cL_law 592 = .ok (.iconst 1, 1) := by decide +kernel
theorem dL_law_593 : decode cL_law 593 = .ok (.iadd, 1) := by decide +kernel
theorem dL_law_594 : decode cL_law 594 = .ok (.iaload, 1) := by decide +kernel
theorem dL_law_595 : decode cL_law 595 = .ok (.aload_n 0, 1) := by decide +kernel
theorem dL_law_596 : decode cL_law 596 = .ok (.iload_n 3, 1) := by decide +kernel
theorem dL_law_597 : decode cL_law 597 = .ok (.iconst 2, 1) := by decide +kernel
theorem dL_law_598 : decode cL_law 598 = .ok (.iadd, 1) := by decide +kernel
theorem dL_law_599 : decode cL_law 599 = .ok (.iaload, 1) := by decide +kernel
theorem dL_law_600 : decode cL_law 600 = .ok (.aload_n 0, 1) := by decide +kernel
theorem dL_law_601 : decode cL_law 601 = .ok (.iload_n 3, 1) := by decide +kernel
theorem dL_law_602 : decode cL_law 602 = .ok (.iconst 3, 1) := by decide +kernel
theorem dL_law_603 : decode cL_law 603 = .ok (.iadd, 1) := by decide +kernel
theorem dL_law_604 : decode cL_law 604 = .ok (.iaload, 1) := by decide +kernel
theorem dL_law_605 : decode cL_law 605 = .ok (.invokevirtual 52, 3) := by decide +kernel
theorem dL_law_608 : decode cL_law 608 = .ok (.if_icmp .eq 1276, 3) := by decide +kernel
theorem dL_law_611 : decode cL_law 611 = .ok (.iconst 0, 1) := by decide +kernel
theorem dL_law_612 : decode cL_law 612 = .ok (.ireturn, 1) := by decide +kernel
theorem dL_law_613 : decode cL_law 613 = .ok (.aload_n 1, 1) := by decide +kernel
theorem dL_law_614 : decode cL_law 614 = .ok (.aload_n 0, 1) := by decide +kernel
theorem dL_law_615 : decode cL_law 615 = .ok (.iload_n 3, 1) := by decide +kernel
theorem dL_law_616 : decode cL_law 616 = .ok (.iconst 1, 1) := by decide +kernel
theorem dL_law_617 : decode cL_law 617 = .ok (.iadd, 1) := by decide +kernel
theorem dL_law_618 : decode cL_law 618 = .ok (.iaload, 1) := by decide +kernel
theorem dL_law_619 : decode cL_law 619 = .ok (.aload_n 0, 1) := by decide +kernel
theorem dL_law_620 : decode cL_law 620 = .ok (.iload_n 3, 1) := by decide +kernel
theorem dL_law_621 : decode cL_law 621 = .ok (.iconst 2, 1) := by decide +kernel
theorem dL_law_622 : decode cL_law 622 = .ok (.iadd, 1) := by decide +kernel
theorem dL_law_623 : decode cL_law 623 = .ok (.iaload, 1) := by decide +kernel
theorem dL_law_624 : decode cL_law 624 = .ok (.invokevirtual 53, 3) := by decide +kernel
theorem dL_law_627 : decode cL_law 627 = .ok (.aload_n 2, 1) := by decide +kernel
theorem dL_law_628 : decode cL_law 628 = .ok (.aload_n 0, 1) := by decide +kernel
theorem dL_law_629 : decode cL_law 629 = .ok (.iload_n 3, 1) := by decide +kernel
theorem dL_law_630 : decode cL_law 630 = .ok (.iconst 1, 1) := by decide +kernel
theorem dL_law_631 : decode cL_law 631 = .ok (.iadd, 1) := by decide +kernel
theorem dL_law_632 : decode cL_law 632 = .ok (.iaload, 1) := by decide +kernel
theorem dL_law_633 : decode cL_law 633 = .ok (.aload_n 0, 1) := by decide +kernel
theorem dL_law_634 : decode cL_law 634 = .ok (.iload_n 3, 1) := by decide +kernel
theorem dL_law_635 : decode cL_law 635 = .ok (.iconst 2, 1) := by decide +kernel
theorem dL_law_636 : decode cL_law 636 = .ok (.iadd, 1) := by decide +kernel
theorem dL_law_637 : decode cL_law 637 = .ok (.iaload, 1) := by decide +kernel
theorem dL_law_638 : decode cL_law 638 = .ok (.invokevirtual 56, 3) := by decide +kernel
theorem dL_law_641 : decode cL_law 641 = .ok (.if_icmp .eq 1243, 3) := by decide +kernel
theorem dL_law_644 : decode cL_law 644 = .ok (.iconst 0, 1) := by decide +kernel
theorem dL_law_645 : decode cL_law 645 = .ok (.ireturn, 1) := by decide +kernel
theorem dL_law_646 : decode cL_law 646 = .ok (.aload_n 1, 1) := by decide +kernel
theorem dL_law_647 : decode cL_law 647 = .ok (.aload_n 0, 1) := by decide +kernel
theorem dL_law_648 : decode cL_law 648 = .ok (.iload_n 3, 1) := by decide +kernel
theorem dL_law_649 : decode cL_law 649 = .ok (.iconst 1, 1) := by decide +kernel
theorem dL_law_650 : decode cL_law 650 = .ok (.iadd, 1) := by decide +kernel
theorem dL_law_651 : decode cL_law 651 = .ok (.iaload, 1) := by decide +kernel
theorem dL_law_652 : decode cL_law 652 = .ok (.aload_n 0, 1) := by decide +kernel
theorem dL_law_653 : decode cL_law 653 = .ok (.iload_n 3, 1) := by decide +kernel
theorem dL_law_654 : decode cL_law 654 = .ok (.iconst 2, 1) := by decide +kernel
theorem dL_law_655 : decode cL_law 655 = .ok (.iadd, 1) := by decide +kernel
theorem dL_law_656 : decode cL_law 656 = .ok (.iaload, 1) := by decide +kernel
theorem dL_law_657 : decode cL_law 657 = .ok (.invokevirtual 57, 3) := by decide +kernel
theorem dL_law_660 : decode cL_law 660 = .ok (.aload_n 2, 1) := by decide +kernel
theorem dL_law_661 : decode cL_law 661 = .ok (.aload_n 0, 1) := by decide +kernel
theorem dL_law_662 : decode cL_law 662 = .ok (.iload_n 3, 1) := by decide +kernel
theorem dL_law_663 : decode cL_law 663 = .ok (.iconst 1, 1) := by decide +kernel
theorem dL_law_664 : decode cL_law 664 = .ok (.iadd, 1) := by decide +kernel
theorem dL_law_665 : decode cL_law 665 = .ok (.iaload, 1) := by decide +kernel
theorem dL_law_666 : decode cL_law 666 = .ok (.aload_n 0, 1) := by decide +kernel
theorem dL_law_667 : decode cL_law 667 = .ok (.iload_n 3, 1) := by decide +kernel
theorem dL_law_668 : decode cL_law 668 = .ok (.iconst 2, 1) := by decide +kernel
theorem dL_law_669 : decode cL_law 669 = .ok (.iadd, 1) := by decide +kernel
theorem dL_law_670 : decode cL_law 670 = .ok (.iaload, 1) := by decide +kernel
theorem dL_law_671 : decode cL_law 671 = .ok (.invokevirtual 60, 3) := by decide +kernel
theorem dL_law_674 : decode cL_law 674 = .ok (.if_icmp .eq 1210, 3) := by decide +kernel
theorem dL_law_677 : decode cL_law 677 = .ok (.iconst 0, 1) := by decide +kernel
theorem dL_law_678 : decode cL_law 678 = .ok (.ireturn, 1) := by decide +kernel
theorem dL_law_679 : decode cL_law 679 = .ok (.aload_n 1, 1) := by decide +kernel
theorem dL_law_680 : decode cL_law 680 = .ok (.aload_n 0, 1) := by decide +kernel
theorem dL_law_681 : decode cL_law 681 = .ok (.iload_n 3, 1) := by decide +kernel
theorem dL_law_682 : decode cL_law 682 = .ok (.iconst 1, 1) := by decide +kernel
theorem dL_law_683 : decode cL_law 683 = .ok (.iadd, 1) := by decide +kernel
theorem dL_law_684 : decode cL_law 684 = .ok (.iaload, 1) := by decide +kernel
theorem dL_law_685 : decode cL_law 685 = .ok (.invokevirtual 61, 3) := by decide +kernel
theorem dL_law_688 : decode cL_law 688 = .ok (.aload_n 2, 1) := by decide +kernel
theorem dL_law_689 : decode cL_law 689 = .ok (.aload_n 0, 1) := by decide +kernel
theorem dL_law_690 : decode cL_law 690 = .ok (.iload_n 3, 1) := by decide +kernel
theorem dL_law_691 : decode cL_law 691 = .ok (.iconst 1, 1) := by decide +kernel
theorem dL_law_692 : decode cL_law 692 = .ok (.iadd, 1) := by decide +kernel
theorem dL_law_693 : decode cL_law 693 = .ok (.iaload, 1) := by decide +kernel
theorem dL_law_694 : decode cL_law 694 = .ok (.invokevirtual 64, 3) := by decide +kernel
theorem dL_law_697 : decode cL_law 697 = .ok (.if_icmp .eq 1187, 3) := by decide +kernel
theorem dL_law_700 : decode cL_law 700 = .ok (.iconst 0, 1) := by decide +kernel
theorem dL_law_701 : decode cL_law 701 = .ok (.ireturn, 1) := by decide +kernel
theorem dL_law_702 : decode cL_law 702 = .ok (.aload_n 1, 1) := by decide +kernel
theorem dL_law_703 : decode cL_law 703 = .ok (.invokevirtual 65, 3) := by decide +kernel
theorem dL_law_706 : decode cL_law 706 = .ok (.aload_n 2, 1) := by decide +kernel
theorem dL_law_707 : decode cL_law 707 = .ok (.invokevirtual 69, 3) := by decide +kernel
theorem dL_law_710 : decode cL_law 710 = .ok (.if_icmp .eq 1174, 3) := by decide +kernel
theorem dL_law_713 : decode cL_law 713 = .ok (.iconst 0, 1) := by decide +kernel
theorem dL_law_714 : decode cL_law 714 = .ok (.ireturn, 1) := by decide +kernel
theorem dL_law_715 : decode cL_law 715 = .ok (.aload_n 1, 1) := by decide +kernel
theorem dL_law_716 : decode cL_law 716 = .ok (.invokevirtual 70, 3) := by decide +kernel
theorem dL_law_719 : decode cL_law 719 = .ok (.aload_n 2, 1) := by decide +kernel
theorem dL_law_720 : decode cL_law 720 = .ok (.invokevirtual 73, 3) := by decide +kernel
theorem dL_law_723 : decode cL_law 723 = .ok (.if_icmp .eq 1161, 3) := by decide +kernel
theorem dL_law_726 : decode cL_law 726 = .ok (.iconst 0, 1) := by decide +kernel
theorem dL_law_727 : decode cL_law 727 = .ok (.ireturn, 1) := by decide +kernel
theorem dL_law_728 : decode cL_law 728 = .ok (.aload_n 1, 1) := by decide +kernel
theorem dL_law_729 : decode cL_law 729 = .ok (.aload_n 0, 1) := by decide +kernel
theorem dL_law_730 : decode cL_law 730 = .ok (.iload_n 3, 1) := by decide +kernel
theorem dL_law_731 : decode cL_law 731 = .ok (.iconst 1, 1) := by decide +kernel
theorem dL_law_732 : decode cL_law 732 = .ok (.iadd, 1) := by decide +kernel
theorem dL_law_733 : decode cL_law 733 = .ok (.iaload, 1) := by decide +kernel
theorem dL_law_734 : decode cL_law 734 = .ok (.aload_n 0, 1) := by decide +kernel
theorem dL_law_735 : decode cL_law 735 = .ok (.iload_n 3, 1) := by decide +kernel
theorem dL_law_736 : decode cL_law 736 = .ok (.iconst 2, 1) := by decide +kernel
theorem dL_law_737 : decode cL_law 737 = .ok (.iadd, 1) := by decide +kernel
theorem dL_law_738 : decode cL_law 738 = .ok (.iaload, 1) := by decide +kernel
theorem dL_law_739 : decode cL_law 739 = .ok (.invokevirtual 74, 3) := by decide +kernel
theorem dL_law_742 : decode cL_law 742 = .ok (.aload_n 2, 1) := by decide +kernel
theorem dL_law_743 : decode cL_law 743 = .ok (.aload_n 0, 1) := by decide +kernel
theorem dL_law_744 : decode cL_law 744 = .ok (.iload_n 3, 1) := by decide +kernel
theorem dL_law_745 : decode cL_law 745 = .ok (.iconst 1, 1) := by decide +kernel
theorem dL_law_746 : decode cL_law 746 = .ok (.iadd, 1) := by decide +kernel
theorem dL_law_747 : decode cL_law 747 = .ok (.iaload, 1) := by decide +kernel
theorem dL_law_748 : decode cL_law 748 = .ok (.aload_n 0, 1) := by decide +kernel
theorem dL_law_749 : decode cL_law 749 = .ok (.iload_n 3, 1) := by decide +kernel
theorem dL_law_750 : decode cL_law 750 = .ok (.iconst 2, 1) := by decide +kernel
theorem dL_law_751 : decode cL_law 751 = .ok (.iadd, 1) := by decide +kernel
theorem dL_law_752 : decode cL_law 752 = .ok (.iaload, 1) := by decide +kernel
theorem dL_law_753 : decode cL_law 753 = .ok (.invokevirtual 77, 3) := by decide +kernel
theorem dL_law_756 : decode cL_law 756 = .ok (.if_icmp .eq 1128, 3) := by decide +kernel
theorem dL_law_759 : decode cL_law 759 = .ok (.iconst 0, 1) := by decide +kernel
theorem dL_law_760 : decode cL_law 760 = .ok (.ireturn, 1) := by decide +kernel
theorem dL_law_761 : decode cL_law 761 = .ok (.aload_n 1, 1) := by decide +kernel
theorem dL_law_762 : decode cL_law 762 = .ok (.invokevirtual 78, 3) := by decide +kernel
theorem dL_law_765 : decode cL_law 765 = .ok (.aload_n 2, 1) := by decide +kernel
theorem dL_law_766 : decode cL_law 766 = .ok (.invokevirtual 81, 3) := by decide +kernel
theorem dL_law_769 : decode cL_law 769 = .ok (.if_icmp .eq 1115, 3) := by decide +kernel
theorem dL_law_772 : decode cL_law 772 = .ok (.iconst 0, 1) := by decide +kernel
theorem dL_law_773 : decode cL_law 773 = .ok (.ireturn, 1) := by decide +kernel
theorem dL_law_774 : decode cL_law 774 = .ok (.aload_n 1, 1) := by decide +kernel
theorem dL_law_775 : decode cL_law 775 = .ok (.aload_n 0, 1) := by decide +kernel
theorem dL_law_776 : decode cL_law 776 = .ok (.iload_n 3, 1) := by decide +kernel
theorem dL_law_777 : decode cL_law 777 = .ok (.iconst 1, 1) := by decide +kernel
theorem dL_law_778 : decode cL_law 778 = .ok (.iadd, 1) := by decide +kernel
theorem dL_law_779 : decode cL_law 779 = .ok (.iaload, 1) := by decide +kernel
theorem dL_law_780 : decode cL_law 780 = .ok (.invokevirtual 82, 3) := by decide +kernel
theorem dL_law_783 : decode cL_law 783 = .ok (.aload_n 2, 1) := by decide +kernel
theorem dL_law_784 : decode cL_law 784 = .ok (.aload_n 0, 1) := by decide +kernel
theorem dL_law_785 : decode cL_law 785 = .ok (.iload_n 3, 1) := by decide +kernel
theorem dL_law_786 : decode cL_law 786 = .ok (.iconst 1, 1) := by decide +kernel
theorem dL_law_787 : decode cL_law 787 = .ok (.iadd, 1) := by decide +kernel
theorem dL_law_788 : decode cL_law 788 = .ok (.iaload, 1) := by decide +kernel
theorem dL_law_789 : decode cL_law 789 = .ok (.invokevirtual 85, 3) := by decide +kernel
theorem dL_law_792 : decode cL_law 792 = .ok (.if_icmp .eq 1092, 3) := by decide +kernel
theorem dL_law_795 : decode cL_law 795 = .ok (.iconst 0, 1) := by decide +kernel
theorem dL_law_796 : decode cL_law 796 = .ok (.ireturn, 1) := by decide +kernel
theorem dL_law_797 : decode cL_law 797 = .ok (.aload_n 1, 1) := by decide +kernel
theorem dL_law_798 : decode cL_law 798 = .ok (.invokevirtual 86, 3) := by decide +kernel
theorem dL_law_801 : decode cL_law 801 = .ok (.aload_n 2, 1) := by decide +kernel
theorem dL_law_802 : decode cL_law 802 = .ok (.invokevirtual 89, 3) := by decide +kernel
theorem dL_law_805 : decode cL_law 805 = .ok (.if_icmp .eq 1079, 3) := by decide +kernel
theorem dL_law_808 : decode cL_law 808 = .ok (.iconst 0, 1) := by decide +kernel
theorem dL_law_809 : decode cL_law 809 = .ok (.ireturn, 1) := by decide +kernel
theorem dL_law_810 : decode cL_law 810 = .ok (.aload_n 1, 1) := by decide +kernel
theorem dL_law_811 : decode cL_law 811 = .ok (.aload_n 0, 1) := by decide +kernel
theorem dL_law_812 : decode cL_law 812 = .ok (.iload_n 3, 1) := by decide +kernel
theorem dL_law_813 : decode cL_law 813 = .ok (.iconst 1, 1) := by decide +kernel
theorem dL_law_814 : decode cL_law 814 = .ok (.iadd, 1) := by decide +kernel
theorem dL_law_815 : decode cL_law 815 = .ok (.iaload, 1) := by decide +kernel
theorem dL_law_816 : decode cL_law 816 = .ok (.aload_n 0, 1) := by decide +kernel
theorem dL_law_817 : decode cL_law 817 = .ok (.iload_n 3, 1) := by decide +kernel
theorem dL_law_818 : decode cL_law 818 = .ok (.iconst 2, 1) := by decide +kernel
theorem dL_law_819 : decode cL_law 819 = .ok (.iadd, 1) := by decide +kernel
theorem dL_law_820 : decode cL_law 820 = .ok (.iaload, 1) := by decide +kernel
theorem dL_law_821 : decode cL_law 821 = .ok (.invokevirtual 90, 3) := by decide +kernel
theorem dL_law_824 : decode cL_law 824 = .ok (.aload_n 2, 1) := by decide +kernel
theorem dL_law_825 : decode cL_law 825 = .ok (.aload_n 0, 1) := by decide +kernel
theorem dL_law_826 : decode cL_law 826 = .ok (.iload_n 3, 1) := by decide +kernel
theorem dL_law_827 : decode cL_law 827 = .ok (.iconst 1, 1) := by decide +kernel
theorem dL_law_828 : decode cL_law 828 = .ok (.iadd, 1) := by decide +kernel
theorem dL_law_829 : decode cL_law 829 = .ok (.iaload, 1) := by decide +kernel
theorem dL_law_830 : decode cL_law 830 = .ok (.aload_n 0, 1) := by decide +kernel
theorem dL_law_831 : decode cL_law 831 = .ok (.iload_n 3, 1) := by decide +kernel
theorem dL_law_832 : decode cL_law 832 = .ok (.iconst 2, 1) := by decide +kernel
theorem dL_law_833 : decode cL_law 833 = .ok (.iadd, 1) := by decide +kernel
theorem dL_law_834 : decode cL_law 834 = .ok (.iaload, 1) := by decide +kernel
theorem dL_law_835 : decode cL_law 835 = .ok (.invokevirtual 93, 3) := by decide +kernel
theorem dL_law_838 : decode cL_law 838 = .ok (.if_icmp .eq 1046, 3) := by decide +kernel
theorem dL_law_841 : decode cL_law 841 = .ok (.iconst 0, 1) := by decide +kernel
theorem dL_law_842 : decode cL_law 842 = .ok (.ireturn, 1) := by decide +kernel
theorem dL_law_843 : decode cL_law 843 = .ok (.aload_n 1, 1) := by decide +kernel
theorem dL_law_844 : decode cL_law 844 = .ok (.aload_n 0, 1) := by decide +kernel
theorem dL_law_845 : decode cL_law 845 = .ok (.iload_n 3, 1) := by decide +kernel
theorem dL_law_846 : decode cL_law 846 = .ok (.iconst 1, 1) := by decide +kernel
theorem dL_law_847 : decode cL_law 847 = .ok (.iadd, 1) := by decide +kernel
theorem dL_law_848 : decode cL_law 848 = .ok (.iaload, 1) := by decide +kernel
theorem dL_law_849 : decode cL_law 849 = .ok (.invokevirtual 94, 3) := by decide +kernel
theorem dL_law_852 : decode cL_law 852 = .ok (.aload_n 2, 1) := by decide +kernel
theorem dL_law_853 : decode cL_law 853 = .ok (.aload_n 0, 1) := by decide +kernel
theorem dL_law_854 : decode cL_law 854 = .ok (.iload_n 3, 1) := by decide +kernel
theorem dL_law_855 : decode cL_law 855 = .ok (.iconst 1, 1) := by decide +kernel
theorem dL_law_856 : decode cL_law 856 = .ok (.iadd, 1) := by decide +kernel
theorem dL_law_857 : decode cL_law 857 = .ok (.iaload, 1) := by decide +kernel
theorem dL_law_858 : decode cL_law 858 = .ok (.invokevirtual 97, 3) := by decide +kernel
theorem dL_law_861 : decode cL_law 861 = .ok (.if_icmp .eq 1023, 3) := by decide +kernel
theorem dL_law_864 : decode cL_law 864 = .ok (.iconst 0, 1) := by decide +kernel
theorem dL_law_865 : decode cL_law 865 = .ok (.ireturn, 1) := by decide +kernel
theorem dL_law_866 : decode cL_law 866 = .ok (.aload_n 1, 1) := by decide +kernel
theorem dL_law_867 : decode cL_law 867 = .ok (.aload_n 0, 1) := by decide +kernel
theorem dL_law_868 : decode cL_law 868 = .ok (.iload_n 3, 1) := by decide +kernel
theorem dL_law_869 : decode cL_law 869 = .ok (.iconst 1, 1) := by decide +kernel
theorem dL_law_870 : decode cL_law 870 = .ok (.iadd, 1) := by decide +kernel
theorem dL_law_871 : decode cL_law 871 = .ok (.iaload, 1) := by decide +kernel
theorem dL_law_872 : decode cL_law 872 = .ok (.aload_n 0, 1) := by decide +kernel
theorem dL_law_873 : decode cL_law 873 = .ok (.iload_n 3, 1) := by decide +kernel
theorem dL_law_874 : decode cL_law 874 = .ok (.iconst 2, 1) := by decide +kernel
theorem dL_law_875 : decode cL_law 875 = .ok (.iadd, 1) := by decide +kernel
theorem dL_law_876 : decode cL_law 876 = .ok (.iaload, 1) := by decide +kernel
theorem dL_law_877 : decode cL_law 877 = .ok (.aload_n 0, 1) := by decide +kernel
theorem dL_law_878 : decode cL_law 878 = .ok (.iload_n 3, 1) := by decide +kernel
theorem dL_law_879 : decode cL_law 879 = .ok (.iconst 3, 1) := by decide +kernel
theorem dL_law_880 : decode cL_law 880 = .ok (.iadd, 1) := by decide +kernel
theorem dL_law_881 : decode cL_law 881 = .ok (.iaload, 1) := by decide +kernel
theorem dL_law_882 : decode cL_law 882 = .ok (.invokevirtual 98, 3) := by decide +kernel
theorem dL_law_885 : decode cL_law 885 = .ok (.aload_n 2, 1) := by decide +kernel
theorem dL_law_886 : decode cL_law 886 = .ok (.aload_n 0, 1) := by decide +kernel
theorem dL_law_887 : decode cL_law 887 = .ok (.iload_n 3, 1) := by decide +kernel
theorem dL_law_888 : decode cL_law 888 = .ok (.iconst 1, 1) := by decide +kernel
theorem dL_law_889 : decode cL_law 889 = .ok (.iadd, 1) := by decide +kernel
theorem dL_law_890 : decode cL_law 890 = .ok (.iaload, 1) := by decide +kernel
theorem dL_law_891 : decode cL_law 891 = .ok (.aload_n 0, 1) := by decide +kernel
theorem dL_law_892 : decode cL_law 892 = .ok (.iload_n 3, 1) := by decide +kernel
theorem dL_law_893 : decode cL_law 893 = .ok (.iconst 2, 1) := by decide +kernel
theorem dL_law_894 : decode cL_law 894 = .ok (.iadd, 1) := by decide +kernel
theorem dL_law_895 : decode cL_law 895 = .ok (.iaload, 1) := by decide +kernel
theorem dL_law_896 : decode cL_law 896 = .ok (.aload_n 0, 1) := by decide +kernel
theorem dL_law_897 : decode cL_law 897 = .ok (.iload_n 3, 1) := by decide +kernel
theorem dL_law_898 : decode cL_law 898 = .ok (.iconst 3, 1) := by decide +kernel
theorem dL_law_899 : decode cL_law 899 = .ok (.iadd, 1) := by decide +kernel
theorem dL_law_900 : decode cL_law 900 = .ok (.iaload, 1) := by decide +kernel
theorem dL_law_901 : decode cL_law 901 = .ok (.invokevirtual 101, 3) := by decide +kernel
theorem dL_law_904 : decode cL_law 904 = .ok (.if_icmp .eq 980, 3) := by decide +kernel
theorem dL_law_907 : decode cL_law 907 = .ok (.iconst 0, 1) := by decide +kernel
theorem dL_law_908 : decode cL_law 908 = .ok (.ireturn, 1) := by decide +kernel
theorem dL_law_909 : decode cL_law 909 = .ok (.aload_n 1, 1) := by decide +kernel
theorem dL_law_910 : decode cL_law 910 = .ok (.aload_n 0, 1) := by decide +kernel
theorem dL_law_911 : decode cL_law 911 = .ok (.iload_n 3, 1) := by decide +kernel
theorem dL_law_912 : decode cL_law 912 = .ok (.iconst 1, 1) := by decide +kernel
theorem dL_law_913 : decode cL_law 913 = .ok (.iadd, 1) := by decide +kernel
theorem dL_law_914 : decode cL_law 914 = .ok (.iaload, 1) := by decide +kernel
theorem dL_law_915 : decode cL_law 915 = .ok (.aload_n 0, 1) := by decide +kernel
theorem dL_law_916 : decode cL_law 916 = .ok (.iload_n 3, 1) := by decide +kernel
theorem dL_law_917 : decode cL_law 917 = .ok (.iconst 2, 1) := by decide +kernel
theorem dL_law_918 : decode cL_law 918 = .ok (.iadd, 1) := by decide +kernel
theorem dL_law_919 : decode cL_law 919 = .ok (.iaload, 1) := by decide +kernel
theorem dL_law_920 : decode cL_law 920 = .ok (.invokevirtual 102, 3) := by decide +kernel
theorem dL_law_923 : decode cL_law 923 = .ok (.aload_n 2, 1) := by decide +kernel
theorem dL_law_924 : decode cL_law 924 = .ok (.aload_n 0, 1) := by decide +kernel
theorem dL_law_925 : decode cL_law 925 = .ok (.iload_n 3, 1) := by decide +kernel
theorem dL_law_926 : decode cL_law 926 = .ok (.iconst 1, 1) := by decide +kernel
theorem dL_law_927 : decode cL_law 927 = .ok (.iadd, 1) := by decide +kernel
theorem dL_law_928 : decode cL_law 928 = .ok (.iaload, 1) := by decide +kernel
theorem dL_law_929 : decode cL_law 929 = .ok (.aload_n 0, 1) := by decide +kernel
theorem dL_law_930 : decode cL_law 930 = .ok (.iload_n 3, 1) := by decide +kernel
theorem dL_law_931 : decode cL_law 931 = .ok (.iconst 2, 1) := by decide +kernel
theorem dL_law_932 : decode cL_law 932 = .ok (.iadd, 1) := by decide +kernel
theorem dL_law_933 : decode cL_law 933 = .ok (.iaload, 1) := by decide +kernel
theorem dL_law_934 : decode cL_law 934 = .ok (.invokevirtual 105, 3) := by decide +kernel
theorem dL_law_937 : decode cL_law 937 = .ok (.if_icmp .eq 947, 3) := by decide +kernel
theorem dL_law_940 : decode cL_law 940 = .ok (.iconst 0, 1) := by decide +kernel
theorem dL_law_941 : decode cL_law 941 = .ok (.ireturn, 1) := by decide +kernel
theorem dL_law_942 : decode cL_law 942 = .ok (.aload_n 1, 1) := by decide +kernel
theorem dL_law_943 : decode cL_law 943 = .ok (.aload_n 0, 1) := by decide +kernel
theorem dL_law_944 : decode cL_law 944 = .ok (.iload_n 3, 1) := by decide +kernel
theorem dL_law_945 : decode cL_law 945 = .ok (.iconst 1, 1) := by decide +kernel
theorem dL_law_946 : decode cL_law 946 = .ok (.iadd, 1) := by decide +kernel
theorem dL_law_947 : decode cL_law 947 = .ok (.iaload, 1) := by decide +kernel
theorem dL_law_948 : decode cL_law 948 = .ok (.aload_n 0, 1) := by decide +kernel
theorem dL_law_949 : decode cL_law 949 = .ok (.iload_n 3, 1) := by decide +kernel
theorem dL_law_950 : decode cL_law 950 = .ok (.iconst 2, 1) := by decide +kernel
theorem dL_law_951 : decode cL_law 951 = .ok (.iadd, 1) := by decide +kernel
theorem dL_law_952 : decode cL_law 952 = .ok (.iaload, 1) := by decide +kernel
theorem dL_law_953 : decode cL_law 953 = .ok (.invokevirtual 106, 3) := by decide +kernel
theorem dL_law_956 : decode cL_law 956 = .ok (.aload_n 2, 1) := by decide +kernel
theorem dL_law_957 : decode cL_law 957 = .ok (.aload_n 0, 1) := by decide +kernel
theorem dL_law_958 : decode cL_law 958 = .ok (.iload_n 3, 1) := by decide +kernel
theorem dL_law_959 : decode cL_law 959 = .ok (.iconst 1, 1) := by decide +kernel
theorem dL_law_960 : decode cL_law 960 = .ok (.iadd, 1) := by decide +kernel
theorem dL_law_961 : decode cL_law 961 = .ok (.iaload, 1) := by decide +kernel
theorem dL_law_962 : decode cL_law 962 = .ok (.aload_n 0, 1) := by decide +kernel
theorem dL_law_963 : decode cL_law 963 = .ok (.iload_n 3, 1) := by decide +kernel
theorem dL_law_964 : decode cL_law 964 = .ok (.iconst 2, 1) := by decide +kernel
theorem dL_law_965 : decode cL_law 965 = .ok (.iadd, 1) := by decide +kernel
theorem dL_law_966 : decode cL_law 966 = .ok (.iaload, 1) := by decide +kernel
theorem dL_law_967 : decode cL_law 967 = .ok (.invokevirtual 109, 3) := by decide +kernel
theorem dL_law_970 : decode cL_law 970 = .ok (.if_icmp .eq 914, 3) := by decide +kernel
theorem dL_law_973 : decode cL_law 973 = .ok (.iconst 0, 1) := by decide +kernel
theorem dL_law_974 : decode cL_law 974 = .ok (.ireturn, 1) := by decide +kernel
theorem dL_law_975 : decode cL_law 975 = .ok (.aload_n 1, 1) := by decide +kernel
theorem dL_law_976 : decode cL_law 976 = .ok (.aload_n 0, 1) := by decide +kernel
theorem dL_law_977 : decode cL_law 977 = .ok (.iload_n 3, 1) := by decide +kernel
theorem dL_law_978 : decode cL_law 978 = .ok (.iconst 1, 1) := by decide +kernel
theorem dL_law_979 : decode cL_law 979 = .ok (.iadd, 1) := by decide +kernel
theorem dL_law_980 : decode cL_law 980 = .ok (.iaload, 1) := by decide +kernel
theorem dL_law_981 : decode cL_law 981 = .ok (.aload_n 0, 1) := by decide +kernel
theorem dL_law_982 : decode cL_law 982 = .ok (.iload_n 3, 1) := by decide +kernel
theorem dL_law_983 : decode cL_law 983 = .ok (.iconst 2, 1) := by decide +kernel
theorem dL_law_984 : decode cL_law 984 = .ok (.iadd, 1) := by decide +kernel
theorem dL_law_985 : decode cL_law 985 = .ok (.iaload, 1) := by decide +kernel
theorem dL_law_986 : decode cL_law 986 = .ok (.invokevirtual 110, 3) := by decide +kernel
theorem dL_law_989 : decode cL_law 989 = .ok (.aload_n 2, 1) := by decide +kernel
theorem dL_law_990 : decode cL_law 990 = .ok (.aload_n 0, 1) := by decide +kernel
theorem dL_law_991 : decode cL_law 991 = .ok (.iload_n 3, 1) := by decide +kernel
theorem dL_law_992 : decode cL_law 992 = .ok (.iconst 1, 1) := by decide +kernel
theorem dL_law_993 : decode cL_law 993 = .ok (.iadd, 1) := by decide +kernel
theorem dL_law_994 : decode cL_law 994 = .ok (.iaload, 1) := by decide +kernel
theorem dL_law_995 : decode cL_law 995 = .ok (.aload_n 0, 1) := by decide +kernel
theorem dL_law_996 : decode cL_law 996 = .ok (.iload_n 3, 1) := by decide +kernel
theorem dL_law_997 : decode cL_law 997 = .ok (.iconst 2, 1) := by decide +kernel
theorem dL_law_998 : decode cL_law 998 = .ok (.iadd, 1) := by decide +kernel
theorem dL_law_999 : decode cL_law 999 = .ok (.iaload, 1) := by decide +kernel
theorem dL_law_1000 : decode cL_law 1000 = .ok (.invokevirtual 113, 3) := by decide +kernel
theorem dL_law_1003 : decode cL_law 1003 = .ok (.if_icmp .eq 881, 3) := by decide +kernel
theorem dL_law_1006 : decode cL_law 1006 = .ok (.iconst 0, 1) := by decide +kernel
theorem dL_law_1007 : decode cL_law 1007 = .ok (.ireturn, 1) := by decide +kernel
theorem dL_law_1008 : decode cL_law 1008 = .ok (.aload_n 1, 1) := by decide +kernel
theorem dL_law_1009 : decode cL_law 1009 = .ok (.aload_n 0, 1) := by decide +kernel
theorem dL_law_1010 : decode cL_law 1010 = .ok (.iload_n 3, 1) := by decide +kernel
theorem dL_law_1011 : decode cL_law 1011 = .ok (.iconst 1, 1) := by decide +kernel
theorem dL_law_1012 : decode cL_law 1012 = .ok (.iadd, 1) := by decide +kernel
theorem dL_law_1013 : decode cL_law 1013 = .ok (.iaload, 1) := by decide +kernel
theorem dL_law_1014 : decode cL_law 1014 = .ok (.aload_n 0, 1) := by decide +kernel
theorem dL_law_1015 : decode cL_law 1015 = .ok (.iload_n 3, 1) := by decide +kernel
theorem dL_law_1016 : decode cL_law 1016 = .ok (.iconst 2, 1) := by decide +kernel
theorem dL_law_1017 : decode cL_law 1017 = .ok (.iadd, 1) := by decide +kernel
theorem dL_law_1018 : decode cL_law 1018 = .ok (.iaload, 1) := by decide +kernel
theorem dL_law_1019 : decode cL_law 1019 = .ok (.aload_n 0, 1) := by decide +kernel
theorem dL_law_1020 : decode cL_law 1020 = .ok (.iload_n 3, 1) := by decide +kernel
theorem dL_law_1021 : decode cL_law 1021 = .ok (.iconst 3, 1) := by decide +kernel
theorem dL_law_1022 : decode cL_law 1022 = .ok (.iadd, 1) := by decide +kernel
theorem dL_law_1023 : decode cL_law 1023 = .ok (.iaload, 1) := by decide +kernel
theorem dL_law_1024 : decode cL_law 1024 = .ok (.invokevirtual 114, 3) := by decide +kernel
theorem dL_law_1027 : decode cL_law 1027 = .ok (.aload_n 2, 1) := by decide +kernel
theorem dL_law_1028 : decode cL_law 1028 = .ok (.aload_n 0, 1) := by decide +kernel
theorem dL_law_1029 : decode cL_law 1029 = .ok (.iload_n 3, 1) := by decide +kernel
theorem dL_law_1030 : decode cL_law 1030 = .ok (.iconst 1, 1) := by decide +kernel
theorem dL_law_1031 : decode cL_law 1031 = .ok (.iadd, 1) := by decide +kernel
theorem dL_law_1032 : decode cL_law 1032 = .ok (.iaload, 1) := by decide +kernel
theorem dL_law_1033 : decode cL_law 1033 = .ok (.aload_n 0, 1) := by decide +kernel
theorem dL_law_1034 : decode cL_law 1034 = .ok (.iload_n 3, 1) := by decide +kernel
theorem dL_law_1035 : decode cL_law 1035 = .ok (.iconst 2, 1) := by decide +kernel
theorem dL_law_1036 : decode cL_law 1036 = .ok (.iadd, 1) := by decide +kernel
theorem dL_law_1037 : decode cL_law 1037 = .ok (.iaload, 1) := by decide +kernel
theorem dL_law_1038 : decode cL_law 1038 = .ok (.aload_n 0, 1) := by decide +kernel
theorem dL_law_1039 : decode cL_law 1039 = .ok (.iload_n 3, 1) := by decide +kernel
theorem dL_law_1040 : decode cL_law 1040 = .ok (.iconst 3, 1) := by decide +kernel
theorem dL_law_1041 : decode cL_law 1041 = .ok (.iadd, 1) := by decide +kernel
theorem dL_law_1042 : decode cL_law 1042 = .ok (.iaload, 1) := by decide +kernel
theorem dL_law_1043 : decode cL_law 1043 = .ok (.invokevirtual 117, 3) := by decide +kernel
theorem dL_law_1046 : decode cL_law 1046 = .ok (.if_icmp .eq 838, 3) := by decide +kernel
theorem dL_law_1049 : decode cL_law 1049 = .ok (.iconst 0, 1) := by decide +kernel
theorem dL_law_1050 : decode cL_law 1050 = .ok (.ireturn, 1) := by decide +kernel
theorem dL_law_1051 : decode cL_law 1051 = .ok (.aload_n 1, 1) := by decide +kernel
theorem dL_law_1052 : decode cL_law 1052 = .ok (.aload_n 0, 1) := by decide +kernel
theorem dL_law_1053 : decode cL_law 1053 = .ok (.iload_n 3, 1) := by decide +kernel
theorem dL_law_1054 : decode cL_law 1054 = .ok (.iconst 1, 1) := by decide +kernel
theorem dL_law_1055 : decode cL_law 1055 = .ok (.iadd, 1) := by decide +kernel
theorem dL_law_1056 : decode cL_law 1056 = .ok (.iaload, 1) := by decide +kernel
theorem dL_law_1057 : decode cL_law 1057 = .ok (.aload_n 0, 1) := by decide +kernel
theorem dL_law_1058 : decode cL_law 1058 = .ok (.iload_n 3, 1) := by decide +kernel
theorem dL_law_1059 : decode cL_law 1059 = .ok (.iconst 2, 1) := by decide +kernel
theorem dL_law_1060 : decode cL_law 1060 = .ok (.iadd, 1) := by decide +kernel
theorem dL_law_1061 : decode cL_law 1061 = .ok (.iaload, 1) := by decide +kernel
theorem dL_law_1062 : decode cL_law 1062 = .ok (.aload_n 0, 1) := by decide +kernel
theorem dL_law_1063 : decode cL_law 1063 = .ok (.iload_n 3, 1) := by decide +kernel
theorem dL_law_1064 : decode cL_law 1064 = .ok (.iconst 3, 1) := by decide +kernel
theorem dL_law_1065 : decode cL_law 1065 = .ok (.iadd, 1) := by decide +kernel
theorem dL_law_1066 : decode cL_law 1066 = .ok (.iaload, 1) := by decide +kernel
theorem dL_law_1067 : decode cL_law 1067 = .ok (.aload_n 0, 1) := by decide +kernel
theorem dL_law_1068 : decode cL_law 1068 = .ok (.iload_n 3, 1) := by decide +kernel
theorem dL_law_1069 : decode cL_law 1069 = .ok (.iconst 4, 1) := by decide +kernel
theorem dL_law_1070 : decode cL_law 1070 = .ok (.iadd, 1) := by decide +kernel
theorem dL_law_1071 : decode cL_law 1071 = .ok (.iaload, 1) := by decide +kernel
theorem dL_law_1072 : decode cL_law 1072 = .ok (.invokevirtual 118, 3) := by decide +kernel
theorem dL_law_1075 : decode cL_law 1075 = .ok (.aload_n 2, 1) := by decide +kernel
theorem dL_law_1076 : decode cL_law 1076 = .ok (.aload_n 0, 1) := by decide +kernel
theorem dL_law_1077 : decode cL_law 1077 = .ok (.iload_n 3, 1) := by decide +kernel
theorem dL_law_1078 : decode cL_law 1078 = .ok (.iconst 1, 1) := by decide +kernel
theorem dL_law_1079 : decode cL_law 1079 = .ok (.iadd, 1) := by decide +kernel
theorem dL_law_1080 : decode cL_law 1080 = .ok (.iaload, 1) := by decide +kernel
theorem dL_law_1081 : decode cL_law 1081 = .ok (.aload_n 0, 1) := by decide +kernel
theorem dL_law_1082 : decode cL_law 1082 = .ok (.iload_n 3, 1) := by decide +kernel
theorem dL_law_1083 : decode cL_law 1083 = .ok (.iconst 2, 1) := by decide +kernel
theorem dL_law_1084 : decode cL_law 1084 = .ok (.iadd, 1) := by decide +kernel
theorem dL_law_1085 : decode cL_law 1085 = .ok (.iaload, 1) := by decide +kernel
theorem dL_law_1086 : decode cL_law 1086 = .ok (.aload_n 0, 1) := by decide +kernel
theorem dL_law_1087 : decode cL_law 1087 = .ok (.iload_n 3, 1) := by decide +kernel
theorem dL_law_1088 : decode cL_law 1088 = .ok (.iconst 3, 1) := by decide +kernel
theorem dL_law_1089 : decode cL_law 1089 = .ok (.iadd, 1) := by decide +kernel
theorem dL_law_1090 : decode cL_law 1090 = .ok (.iaload, 1) := by decide +kernel
theorem dL_law_1091 : decode cL_law 1091 = .ok (.aload_n 0, 1) := by decide +kernel
theorem dL_law_1092 : decode cL_law 1092 = .ok (.iload_n 3, 1) := by decide +kernel
theorem dL_law_1093 : decode cL_law 1093 = .ok (.iconst 4, 1) := by decide +kernel
theorem dL_law_1094 : decode cL_law 1094 = .ok (.iadd, 1) := by decide +kernel
theorem dL_law_1095 : decode cL_law 1095 = .ok (.iaload, 1) := by decide +kernel
theorem dL_law_1096 : decode cL_law 1096 = .ok (.invokevirtual 122, 3) := by decide +kernel
theorem dL_law_1099 : decode cL_law 1099 = .ok (.if_icmp .eq 785, 3) := by decide +kernel
theorem dL_law_1102 : decode cL_law 1102 = .ok (.iconst 0, 1) := by decide +kernel
theorem dL_law_1103 : decode cL_law 1103 = .ok (.ireturn, 1) := by decide +kernel
theorem dL_law_1104 : decode cL_law 1104 = .ok (.aload_n 1, 1) := by decide +kernel
theorem dL_law_1105 : decode cL_law 1105 = .ok (.aload_n 0, 1) := by decide +kernel
theorem dL_law_1106 : decode cL_law 1106 = .ok (.iload_n 3, 1) := by decide +kernel
theorem dL_law_1107 : decode cL_law 1107 = .ok (.iconst 1, 1) := by decide +kernel
theorem dL_law_1108 : decode cL_law 1108 = .ok (.iadd, 1) := by decide +kernel
theorem dL_law_1109 : decode cL_law 1109 = .ok (.iaload, 1) := by decide +kernel
theorem dL_law_1110 : decode cL_law 1110 = .ok (.aload_n 0, 1) := by decide +kernel
theorem dL_law_1111 : decode cL_law 1111 = .ok (.iload_n 3, 1) := by decide +kernel
theorem dL_law_1112 : decode cL_law 1112 = .ok (.iconst 2, 1) := by decide +kernel
theorem dL_law_1113 : decode cL_law 1113 = .ok (.iadd, 1) := by decide +kernel
theorem dL_law_1114 : decode cL_law 1114 = .ok (.iaload, 1) := by decide +kernel
theorem dL_law_1115 : decode cL_law 1115 = .ok (.invokevirtual 123, 3) := by decide +kernel
theorem dL_law_1118 : decode cL_law 1118 = .ok (.aload_n 2, 1) := by decide +kernel
theorem dL_law_1119 : decode cL_law 1119 = .ok (.aload_n 0, 1) := by decide +kernel
theorem dL_law_1120 : decode cL_law 1120 = .ok (.iload_n 3, 1) := by decide +kernel
theorem dL_law_1121 : decode cL_law 1121 = .ok (.iconst 1, 1) := by decide +kernel
theorem dL_law_1122 : decode cL_law 1122 = .ok (.iadd, 1) := by decide +kernel
theorem dL_law_1123 : decode cL_law 1123 = .ok (.iaload, 1) := by decide +kernel
theorem dL_law_1124 : decode cL_law 1124 = .ok (.aload_n 0, 1) := by decide +kernel
theorem dL_law_1125 : decode cL_law 1125 = .ok (.iload_n 3, 1) := by decide +kernel
theorem dL_law_1126 : decode cL_law 1126 = .ok (.iconst 2, 1) := by decide +kernel
theorem dL_law_1127 : decode cL_law 1127 = .ok (.iadd, 1) := by decide +kernel
theorem dL_law_1128 : decode cL_law 1128 = .ok (.iaload, 1) := by decide +kernel
theorem dL_law_1129 : decode cL_law 1129 = .ok (.invokevirtual 126, 3) := by decide +kernel
theorem dL_law_1132 : decode cL_law 1132 = .ok (.if_icmp .eq 752, 3) := by decide +kernel
theorem dL_law_1135 : decode cL_law 1135 = .ok (.iconst 0, 1) := by decide +kernel
theorem dL_law_1136 : decode cL_law 1136 = .ok (.ireturn, 1) := by decide +kernel
theorem dL_law_1137 : decode cL_law 1137 = .ok (.aload_n 1, 1) := by decide +kernel
theorem dL_law_1138 : decode cL_law 1138 = .ok (.aload_n 0, 1) := by decide +kernel
theorem dL_law_1139 : decode cL_law 1139 = .ok (.iload_n 3, 1) := by decide +kernel
theorem dL_law_1140 : decode cL_law 1140 = .ok (.iconst 1, 1) := by decide +kernel
theorem dL_law_1141 : decode cL_law 1141 = .ok (.iadd, 1) := by decide +kernel
theorem dL_law_1142 : decode cL_law 1142 = .ok (.iaload, 1) := by decide +kernel
theorem dL_law_1143 : decode cL_law 1143 = .ok (.invokevirtual 127, 3) := by decide +kernel
theorem dL_law_1146 : decode cL_law 1146 = .ok (.aload_n 2, 1) := by decide +kernel
theorem dL_law_1147 : decode cL_law 1147 = .ok (.aload_n 0, 1) := by decide +kernel
theorem dL_law_1148 : decode cL_law 1148 = .ok (.iload_n 3, 1) := by decide +kernel
theorem dL_law_1149 : decode cL_law 1149 = .ok (.iconst 1, 1) := by decide +kernel
theorem dL_law_1150 : decode cL_law 1150 = .ok (.iadd, 1) := by decide +kernel
theorem dL_law_1151 : decode cL_law 1151 = .ok (.iaload, 1) := by decide +kernel
theorem dL_law_1152 : decode cL_law 1152 = .ok (.invokevirtual 130, 3) := by decide +kernel
theorem dL_law_1155 : decode cL_law 1155 = .ok (.if_icmp .eq 729, 3) := by decide +kernel
theorem dL_law_1158 : decode cL_law 1158 = .ok (.iconst 0, 1) := by decide +kernel
theorem dL_law_1159 : decode cL_law 1159 = .ok (.ireturn, 1) := by decide +kernel
theorem dL_law_1160 : decode cL_law 1160 = .ok (.aload_n 1, 1) := by decide +kernel
theorem dL_law_1161 : decode cL_law 1161 = .ok (.aload_n 0, 1) := by decide +kernel
theorem dL_law_1162 : decode cL_law 1162 = .ok (.iload_n 3, 1) := by decide +kernel
theorem dL_law_1163 : decode cL_law 1163 = .ok (.iconst 1, 1) := by decide +kernel
theorem dL_law_1164 : decode cL_law 1164 = .ok (.iadd, 1) := by decide +kernel
theorem dL_law_1165 : decode cL_law 1165 = .ok (.iaload, 1) := by decide +kernel
theorem dL_law_1166 : decode cL_law 1166 = .ok (.aload_n 0, 1) := by decide +kernel
theorem dL_law_1167 : decode cL_law 1167 = .ok (.iload_n 3, 1) := by decide +kernel
theorem dL_law_1168 : decode cL_law 1168 = .ok (.iconst 2, 1) := by decide +kernel
theorem dL_law_1169 : decode cL_law 1169 = .ok (.iadd, 1) := by decide +kernel
theorem dL_law_1170 : decode cL_law 1170 = .ok (.iaload, 1) := by decide +kernel
theorem dL_law_1171 : decode cL_law 1171 = .ok (.invokevirtual 131, 3) := by decide +kernel
theorem dL_law_1174 : decode cL_law 1174 = .ok (.aload_n 2, 1) := by decide +kernel
theorem dL_law_1175 : decode cL_law 1175 = .ok (.aload_n 0, 1) := by decide +kernel
theorem dL_law_1176 : decode cL_law 1176 = .ok (.iload_n 3, 1) := by decide +kernel
theorem dL_law_1177 : decode cL_law 1177 = .ok (.iconst 1, 1) := by decide +kernel
theorem dL_law_1178 : decode cL_law 1178 = .ok (.iadd, 1) := by decide +kernel
theorem dL_law_1179 : decode cL_law 1179 = .ok (.iaload, 1) := by decide +kernel
theorem dL_law_1180 : decode cL_law 1180 = .ok (.aload_n 0, 1) := by decide +kernel
theorem dL_law_1181 : decode cL_law 1181 = .ok (.iload_n 3, 1) := by decide +kernel
theorem dL_law_1182 : decode cL_law 1182 = .ok (.iconst 2, 1) := by decide +kernel
theorem dL_law_1183 : decode cL_law 1183 = .ok (.iadd, 1) := by decide +kernel
theorem dL_law_1184 : decode cL_law 1184 = .ok (.iaload, 1) := by decide +kernel
theorem dL_law_1185 : decode cL_law 1185 = .ok (.invokevirtual 134, 3) := by decide +kernel
theorem dL_law_1188 : decode cL_law 1188 = .ok (.if_icmp .eq 696, 3) := by decide +kernel
theorem dL_law_1191 : decode cL_law 1191 = .ok (.iconst 0, 1) := by decide +kernel
theorem dL_law_1192 : decode cL_law 1192 = .ok (.ireturn, 1) := by decide +kernel
theorem dL_law_1193 : decode cL_law 1193 = .ok (.aload_n 1, 1) := by decide +kernel
theorem dL_law_1194 : decode cL_law 1194 = .ok (.invokevirtual 135, 3) := by decide +kernel
theorem dL_law_1197 : decode cL_law 1197 = .ok (.aload_n 2, 1) := by decide +kernel
theorem dL_law_1198 : decode cL_law 1198 = .ok (.invokevirtual 138, 3) := by decide +kernel
theorem dL_law_1201 : decode cL_law 1201 = .ok (.if_icmp .eq 683, 3) := by decide +kernel
theorem dL_law_1204 : decode cL_law 1204 = .ok (.iconst 0, 1) := by decide +kernel
theorem dL_law_1205 : decode cL_law 1205 = .ok (.ireturn, 1) := by decide +kernel
theorem dL_law_1206 : decode cL_law 1206 = .ok (.aload_n 1, 1) := by decide +kernel
theorem dL_law_1207 : decode cL_law 1207 = .ok (.aload_n 0, 1) := by decide +kernel
theorem dL_law_1208 : decode cL_law 1208 = .ok (.iload_n 3, 1) := by decide +kernel
theorem dL_law_1209 : decode cL_law 1209 = .ok (.iconst 1, 1) := by decide +kernel
theorem dL_law_1210 : decode cL_law 1210 = .ok (.iadd, 1) := by decide +kernel
theorem dL_law_1211 : decode cL_law 1211 = .ok (.iaload, 1) := by decide +kernel
theorem dL_law_1212 : decode cL_law 1212 = .ok (.aload_n 0, 1) := by decide +kernel
theorem dL_law_1213 : decode cL_law 1213 = .ok (.iload_n 3, 1) := by decide +kernel
theorem dL_law_1214 : decode cL_law 1214 = .ok (.iconst 2, 1) := by decide +kernel
theorem dL_law_1215 : decode cL_law 1215 = .ok (.iadd, 1) := by decide +kernel
theorem dL_law_1216 : decode cL_law 1216 = .ok (.iaload, 1) := by decide +kernel
theorem dL_law_1217 : decode cL_law 1217 = .ok (.invokevirtual 139, 3) := by decide +kernel
theorem dL_law_1220 : decode cL_law 1220 = .ok (.aload_n 2, 1) := by decide +kernel
theorem dL_law_1221 : decode cL_law 1221 = .ok (.aload_n 0, 1) := by decide +kernel
theorem dL_law_1222 : decode cL_law 1222 = .ok (.iload_n 3, 1) := by decide +kernel
theorem dL_law_1223 : decode cL_law 1223 = .ok (.iconst 1, 1) := by decide +kernel
theorem dL_law_1224 : decode cL_law 1224 = .ok (.iadd, 1) := by decide +kernel
theorem dL_law_1225 : decode cL_law 1225 = .ok (.iaload, 1) := by decide +kernel
theorem dL_law_1226 : decode cL_law 1226 = .ok (.aload_n 0, 1) := by decide +kernel
theorem dL_law_1227 : decode cL_law 1227 = .ok (.iload_n 3, 1) := by decide +kernel
theorem dL_law_1228 : decode cL_law 1228 = .ok (.iconst 2, 1) := by decide +kernel
theorem dL_law_1229 : decode cL_law 1229 = .ok (.iadd, 1) := by decide +kernel
theorem dL_law_1230 : decode cL_law 1230 = .ok (.iaload, 1) := by decide +kernel
theorem dL_law_1231 : decode cL_law 1231 = .ok (.invokevirtual 142, 3) := by decide +kernel
theorem dL_law_1234 : decode cL_law 1234 = .ok (.if_icmp .eq 650, 3) := by decide +kernel
theorem dL_law_1237 : decode cL_law 1237 = .ok (.iconst 0, 1) := by decide +kernel
theorem dL_law_1238 : decode cL_law 1238 = .ok (.ireturn, 1) := by decide +kernel
theorem dL_law_1239 : decode cL_law 1239 = .ok (.aload_n 1, 1) := by decide +kernel
theorem dL_law_1240 : decode cL_law 1240 = .ok (.aload_n 0, 1) := by decide +kernel
theorem dL_law_1241 : decode cL_law 1241 = .ok (.iload_n 3, 1) := by decide +kernel
theorem dL_law_1242 : decode cL_law 1242 = .ok (.iconst 1, 1) := by decide +kernel
theorem dL_law_1243 : decode cL_law 1243 = .ok (.iadd, 1) := by decide +kernel
theorem dL_law_1244 : decode cL_law 1244 = .ok (.iaload, 1) := by decide +kernel
theorem dL_law_1245 : decode cL_law 1245 = .ok (.invokevirtual 143, 3) := by decide +kernel
theorem dL_law_1248 : decode cL_law 1248 = .ok (.aload_n 2, 1) := by decide +kernel
theorem dL_law_1249 : decode cL_law 1249 = .ok (.aload_n 0, 1) := by decide +kernel
theorem dL_law_1250 : decode cL_law 1250 = .ok (.iload_n 3, 1) := by decide +kernel
theorem dL_law_1251 : decode cL_law 1251 = .ok (.iconst 1, 1) := by decide +kernel
theorem dL_law_1252 : decode cL_law 1252 = .ok (.iadd, 1) := by decide +kernel
theorem dL_law_1253 : decode cL_law 1253 = .ok (.iaload, 1) := by decide +kernel
theorem dL_law_1254 : decode cL_law 1254 = .ok (.invokevirtual 146, 3) := by decide +kernel
theorem dL_law_1257 : decode cL_law 1257 = .ok (.if_icmp .eq 627, 3) := by decide +kernel
theorem dL_law_1260 : decode cL_law 1260 = .ok (.iconst 0, 1) := by decide +kernel
theorem dL_law_1261 : decode cL_law 1261 = .ok (.ireturn, 1) := by decide +kernel
theorem dL_law_1262 : decode cL_law 1262 = .ok (.aload_n 1, 1) := by decide +kernel
theorem dL_law_1263 : decode cL_law 1263 = .ok (.aload_n 0, 1) := by decide +kernel
theorem dL_law_1264 : decode cL_law 1264 = .ok (.iload_n 3, 1) := by decide +kernel
theorem dL_law_1265 : decode cL_law 1265 = .ok (.iconst 1, 1) := by decide +kernel
theorem dL_law_1266 : decode cL_law 1266 = .ok (.iadd, 1) := by decide +kernel
theorem dL_law_1267 : decode cL_law 1267 = .ok (.iaload, 1) := by decide +kernel
theorem dL_law_1268 : decode cL_law 1268 = .ok (.invokevirtual 147, 3) := by decide +kernel
theorem dL_law_1271 : decode cL_law 1271 = .ok (.aload_n 2, 1) := by decide +kernel
theorem dL_law_1272 : decode cL_law 1272 = .ok (.aload_n 0, 1) := by decide +kernel
theorem dL_law_1273 : decode cL_law 1273 = .ok (.iload_n 3, 1) := by decide +kernel
theorem dL_law_1274 : decode cL_law 1274 = .ok (.iconst 1, 1) := by decide +kernel
theorem dL_law_1275 : decode cL_law 1275 = .ok (.iadd, 1) := by decide +kernel
theorem dL_law_1276 : decode cL_law 1276 = .ok (.iaload, 1) := by decide +kernel
theorem dL_law_1277 : decode cL_law 1277 = .ok (.invokevirtual 150, 3) := by decide +kernel
theorem dL_law_1280 : decode cL_law 1280 = .ok (.if_icmp .eq 604, 3) := by decide +kernel
theorem dL_law_1283 : decode cL_law 1283 = .ok (.iconst 0, 1) := by decide +kernel
theorem dL_law_1284 : decode cL_law 1284 = .ok (.ireturn, 1) := by decide +kernel
theorem dL_law_1285 : decode cL_law 1285 = .ok (.aload_n 1, 1) := by decide +kernel
theorem dL_law_1286 : decode cL_law 1286 = .ok (.aload_n 0, 1) := by decide +kernel
theorem dL_law_1287 : decode cL_law 1287 = .ok (.iload_n 3, 1) := by decide +kernel
theorem dL_law_1288 : decode cL_law 1288 = .ok (.iconst 1, 1) := by decide +kernel
theorem dL_law_1289 : decode cL_law 1289 = .ok (.iadd, 1) := by decide +kernel
theorem dL_law_1290 : decode cL_law 1290 = .ok (.iaload, 1) := by decide +kernel
theorem dL_law_1291 : decode cL_law 1291 = .ok (.aload_n 0, 1) := by decide +kernel
theorem dL_law_1292 : decode cL_law 1292 = .ok (.iload_n 3, 1) := by decide +kernel
theorem dL_law_1293 : decode cL_law 1293 = .ok (.iconst 2, 1) := by decide +kernel
theorem dL_law_1294 : decode cL_law 1294 = .ok (.iadd, 1) := by decide +kernel
theorem dL_law_1295 : decode cL_law 1295 = .ok (.iaload, 1) := by decide +kernel
theorem dL_law_1296 : decode cL_law 1296 = .ok (.invokevirtual 151, 3) := by decide +kernel
theorem dL_law_1299 : decode cL_law 1299 = .ok (.aload_n 2, 1) := by decide +kernel
theorem dL_law_1300 : decode cL_law 1300 = .ok (.aload_n 0, 1) := by decide +kernel
theorem dL_law_1301 : decode cL_law 1301 = .ok (.iload_n 3, 1) := by decide +kernel
theorem dL_law_1302 : decode cL_law 1302 = .ok (.iconst 1, 1) := by decide +kernel
theorem dL_law_1303 : decode cL_law 1303 = .ok (.iadd, 1) := by decide +kernel
theorem dL_law_1304 : decode cL_law 1304 = .ok (.iaload, 1) := by decide +kernel
theorem dL_law_1305 : decode cL_law 1305 = .ok (.aload_n 0, 1) := by decide +kernel
theorem dL_law_1306 : decode cL_law 1306 = .ok (.iload_n 3, 1) := by decide +kernel
theorem dL_law_1307 : decode cL_law 1307 = .ok (.iconst 2, 1) := by decide +kernel
theorem dL_law_1308 : decode cL_law 1308 = .ok (.iadd, 1) := by decide +kernel
theorem dL_law_1309 : decode cL_law 1309 = .ok (.iaload, 1) := by decide +kernel
theorem dL_law_1310 : decode cL_law 1310 = .ok (.invokevirtual 154, 3) := by decide +kernel
theorem dL_law_1313 : decode cL_law 1313 = .ok (.if_icmp .eq 571, 3) := by decide +kernel
theorem dL_law_1316 : decode cL_law 1316 = .ok (.iconst 0, 1) := by decide +kernel
theorem dL_law_1317 : decode cL_law 1317 = .ok (.ireturn, 1) := by decide +kernel
theorem dL_law_1318 : decode cL_law 1318 = .ok (.aload_n 1, 1) := by decide +kernel
theorem dL_law_1319 : decode cL_law 1319 = .ok (.aload_n 0, 1) := by decide +kernel
theorem dL_law_1320 : decode cL_law 1320 = .ok (.iload_n 3, 1) := by decide +kernel
theorem dL_law_1321 : decode cL_law 1321 = .ok (.iconst 1, 1) := by decide +kernel
theorem dL_law_1322 : decode cL_law 1322 = .ok (.iadd, 1) := by decide +kernel
theorem dL_law_1323 : decode cL_law 1323 = .ok (.iaload, 1) := by decide +kernel
theorem dL_law_1324 : decode cL_law 1324 = .ok (.aload_n 0, 1) := by decide +kernel
theorem dL_law_1325 : decode cL_law 1325 = .ok (.iload_n 3, 1) := by decide +kernel
theorem dL_law_1326 : decode cL_law 1326 = .ok (.iconst 2, 1) := by decide +kernel
theorem dL_law_1327 : decode cL_law 1327 = .ok (.iadd, 1) := by decide +kernel
theorem dL_law_1328 : decode cL_law 1328 = .ok (.iaload, 1) := by decide +kernel
theorem dL_law_1329 : decode cL_law 1329 = .ok (.invokevirtual 155, 3) := by decide +kernel
theorem dL_law_1332 : decode cL_law 1332 = .ok (.aload_n 2, 1) := by decide +kernel
theorem dL_law_1333 : decode cL_law 1333 = .ok (.aload_n 0, 1) := by decide +kernel
theorem dL_law_1334 : decode cL_law 1334 = .ok (.iload_n 3, 1) := by decide +kernel
theorem dL_law_1335 : decode cL_law 1335 = .ok (.iconst 1, 1) := by decide +kernel
theorem dL_law_1336 : decode cL_law 1336 = .ok (.iadd, 1) := by decide +kernel
theorem dL_law_1337 : decode cL_law 1337 = .ok (.iaload, 1) := by decide +kernel
theorem dL_law_1338 : decode cL_law 1338 = .ok (.aload_n 0, 1) := by decide +kernel
theorem dL_law_1339 : decode cL_law 1339 = .ok (.iload_n 3, 1) := by decide +kernel
theorem dL_law_1340 : decode cL_law 1340 = .ok (.iconst 2, 1) := by decide +kernel
theorem dL_law_1341 : decode cL_law 1341 = .ok (.iadd, 1) := by decide +kernel
theorem dL_law_1342 : decode cL_law 1342 = .ok (.iaload, 1) := by decide +kernel
theorem dL_law_1343 : decode cL_law 1343 = .ok (.invokevirtual 158, 3) := by decide +kernel
theorem dL_law_1346 : decode cL_law 1346 = .ok (.if_icmp .eq 538, 3) := by decide +kernel
theorem dL_law_1349 : decode cL_law 1349 = .ok (.iconst 0, 1) := by decide +kernel
theorem dL_law_1350 : decode cL_law 1350 = .ok (.ireturn, 1) := by decide +kernel
theorem dL_law_1351 : decode cL_law 1351 = .ok (.aload_n 1, 1) := by decide +kernel
theorem dL_law_1352 : decode cL_law 1352 = .ok (.invokevirtual 159, 3) := by decide +kernel
theorem dL_law_1355 : decode cL_law 1355 = .ok (.aload_n 2, 1) := by decide +kernel
theorem dL_law_1356 : decode cL_law 1356 = .ok (.invokevirtual 162, 3) := by decide +kernel
theorem dL_law_1359 : decode cL_law 1359 = .ok (.if_icmp .eq 525, 3) := by decide +kernel
theorem dL_law_1362 : decode cL_law 1362 = .ok (.iconst 0, 1) := by decide +kernel
theorem dL_law_1363 : decode cL_law 1363 = .ok (.ireturn, 1) := by decide +kernel
theorem dL_law_1364 : decode cL_law 1364 = .ok (.aload_n 1, 1) := by decide +kernel
theorem dL_law_1365 : decode cL_law 1365 = .ok (.aload_n 0, 1) := by decide +kernel
theorem dL_law_1366 : decode cL_law 1366 = .ok (.iload_n 3, 1) := by decide +kernel
theorem dL_law_1367 : decode cL_law 1367 = .ok (.iconst 1, 1) := by decide +kernel
theorem dL_law_1368 : decode cL_law 1368 = .ok (.iadd, 1) := by decide +kernel
theorem dL_law_1369 : decode cL_law 1369 = .ok (.iaload, 1) := by decide +kernel
theorem dL_law_1370 : decode cL_law 1370 = .ok (.aload_n 0, 1) := by decide +kernel
theorem dL_law_1371 : decode cL_law 1371 = .ok (.iload_n 3, 1) := by decide +kernel
theorem dL_law_1372 : decode cL_law 1372 = .ok (.iconst 2, 1) := by decide +kernel
theorem dL_law_1373 : decode cL_law 1373 = .ok (.iadd, 1) := by decide +kernel
theorem dL_law_1374 : decode cL_law 1374 = .ok (.iaload, 1) := by decide +kernel
theorem dL_law_1375 : decode cL_law 1375 = .ok (.invokevirtual 163, 3) := by decide +kernel
theorem dL_law_1378 : decode cL_law 1378 = .ok (.aload_n 2, 1) := by decide +kernel
theorem dL_law_1379 : decode cL_law 1379 = .ok (.aload_n 0, 1) := by decide +kernel
theorem dL_law_1380 : decode cL_law 1380 = .ok (.iload_n 3, 1) := by decide +kernel
theorem dL_law_1381 : decode cL_law 1381 = .ok (.iconst 1, 1) := by decide +kernel
theorem dL_law_1382 : decode cL_law 1382 = .ok (.iadd, 1) := by decide +kernel
theorem dL_law_1383 : decode cL_law 1383 = .ok (.iaload, 1) := by decide +kernel
theorem dL_law_1384 : decode cL_law 1384 = .ok (.aload_n 0, 1) := by decide +kernel
theorem dL_law_1385 : decode cL_law 1385 = .ok (.iload_n 3, 1) := by decide +kernel
theorem dL_law_1386 : decode cL_law 1386 = .ok (.iconst 2, 1) := by decide +kernel
theorem dL_law_1387 : decode cL_law 1387 = .ok (.iadd, 1) := by decide +kernel
theorem dL_law_1388 : decode cL_law 1388 = .ok (.iaload, 1) := by decide +kernel
theorem dL_law_1389 : decode cL_law 1389 = .ok (.invokevirtual 166, 3) := by decide +kernel
theorem dL_law_1392 : decode cL_law 1392 = .ok (.if_icmp .eq 492, 3) := by decide +kernel
theorem dL_law_1395 : decode cL_law 1395 = .ok (.iconst 0, 1) := by decide +kernel
theorem dL_law_1396 : decode cL_law 1396 = .ok (.ireturn, 1) := by decide +kernel
theorem dL_law_1397 : decode cL_law 1397 = .ok (.aload_n 1, 1) := by decide +kernel
theorem dL_law_1398 : decode cL_law 1398 = .ok (.aload_n 0, 1) := by decide +kernel
theorem dL_law_1399 : decode cL_law 1399 = .ok (.iload_n 3, 1) := by decide +kernel
theorem dL_law_1400 : decode cL_law 1400 = .ok (.iconst 1, 1) := by decide +kernel
theorem dL_law_1401 : decode cL_law 1401 = .ok (.iadd, 1) := by decide +kernel
theorem dL_law_1402 : decode cL_law 1402 = .ok (.iaload, 1) := by decide +kernel
theorem dL_law_1403 : decode cL_law 1403 = .ok (.aload_n 0, 1) := by decide +kernel
theorem dL_law_1404 : decode cL_law 1404 = .ok (.iload_n 3, 1) := by decide +kernel
theorem dL_law_1405 : decode cL_law 1405 = .ok (.iconst 2, 1) := by decide +kernel
theorem dL_law_1406 : decode cL_law 1406 = .ok (.iadd, 1) := by decide +kernel
theorem dL_law_1407 : decode cL_law 1407 = .ok (.iaload, 1) := by decide +kernel
theorem dL_law_1408 : decode cL_law 1408 = .ok (.invokevirtual 167, 3) := by decide +kernel
theorem dL_law_1411 : decode cL_law 1411 = .ok (.aload_n 2, 1) := by decide +kernel
theorem dL_law_1412 : decode cL_law 1412 = .ok (.aload_n 0, 1) := by decide +kernel
theorem dL_law_1413 : decode cL_law 1413 = .ok (.iload_n 3, 1) := by decide +kernel
theorem dL_law_1414 : decode cL_law 1414 = .ok (.iconst 1, 1) := by decide +kernel
theorem dL_law_1415 : decode cL_law 1415 = .ok (.iadd, 1) := by decide +kernel
theorem dL_law_1416 : decode cL_law 1416 = .ok (.iaload, 1) := by decide +kernel
theorem dL_law_1417 : decode cL_law 1417 = .ok (.aload_n 0, 1) := by decide +kernel
theorem dL_law_1418 : decode cL_law 1418 = .ok (.iload_n 3, 1) := by decide +kernel
theorem dL_law_1419 : decode cL_law 1419 = .ok (.iconst 2, 1) := by decide +kernel
theorem dL_law_1420 : decode cL_law 1420 = .ok (.iadd, 1) := by decide +kernel
theorem dL_law_1421 : decode cL_law 1421 = .ok (.iaload, 1) := by decide +kernel
theorem dL_law_1422 : decode cL_law 1422 = .ok (.invokevirtual 170, 3) := by decide +kernel
theorem dL_law_1425 : decode cL_law 1425 = .ok (.if_icmp .eq 459, 3) := by decide +kernel
theorem dL_law_1428 : decode cL_law 1428 = .ok (.iconst 0, 1) := by decide +kernel
theorem dL_law_1429 : decode cL_law 1429 = .ok (.ireturn, 1) := by decide +kernel
theorem dL_law_1430 : decode cL_law 1430 = .ok (.aload_n 1, 1) := by decide +kernel
theorem dL_law_1431 : decode cL_law 1431 = .ok (.invokevirtual 171, 3) := by decide +kernel
theorem dL_law_1434 : decode cL_law 1434 = .ok (.aload_n 2, 1) := by decide +kernel
theorem dL_law_1435 : decode cL_law 1435 = .ok (.invokevirtual 174, 3) := by decide +kernel
theorem dL_law_1438 : decode cL_law 1438 = .ok (.if_icmp .eq 446, 3) := by decide +kernel
theorem dL_law_1441 : decode cL_law 1441 = .ok (.iconst 0, 1) := by decide +kernel
theorem dL_law_1442 : decode cL_law 1442 = .ok (.ireturn, 1) := by decide +kernel
theorem dL_law_1443 : decode cL_law 1443 = .ok (.aload_n 1, 1) := by decide +kernel
theorem dL_law_1444 : decode cL_law 1444 = .ok (.aload_n 0, 1) := by decide +kernel
theorem dL_law_1445 : decode cL_law 1445 = .ok (.iload_n 3, 1) := by decide +kernel
theorem dL_law_1446 : decode cL_law 1446 = .ok (.iconst 1, 1) := by decide +kernel
theorem dL_law_1447 : decode cL_law 1447 = .ok (.iadd, 1) := by decide +kernel
theorem dL_law_1448 : decode cL_law 1448 = .ok (.iaload, 1) := by decide +kernel
theorem dL_law_1449 : decode cL_law 1449 = .ok (.invokevirtual 175, 3) := by decide +kernel
theorem dL_law_1452 : decode cL_law 1452 = .ok (.aload_n 2, 1) := by decide +kernel
theorem dL_law_1453 : decode cL_law 1453 = .ok (.aload_n 0, 1) := by decide +kernel
theorem dL_law_1454 : decode cL_law 1454 = .ok (.iload_n 3, 1) := by decide +kernel
theorem dL_law_1455 : decode cL_law 1455 = .ok (.iconst 1, 1) := by decide +kernel
theorem dL_law_1456 : decode cL_law 1456 = .ok (.iadd, 1) := by decide +kernel
theorem dL_law_1457 : decode cL_law 1457 = .ok (.iaload, 1) := by decide +kernel
theorem dL_law_1458 : decode cL_law 1458 = .ok (.invokevirtual 178, 3) := by decide +kernel
theorem dL_law_1461 : decode cL_law 1461 = .ok (.if_icmp .eq 423, 3) := by decide +kernel
theorem dL_law_1464 : decode cL_law 1464 = .ok (.iconst 0, 1) := by decide +kernel
theorem dL_law_1465 : decode cL_law 1465 = .ok (.ireturn, 1) := by decide +kernel
theorem dL_law_1466 : decode cL_law 1466 = .ok (.aload_n 1, 1) := by decide +kernel
theorem dL_law_1467 : decode cL_law 1467 = .ok (.aload_n 0, 1) := by decide +kernel
theorem dL_law_1468 : decode cL_law 1468 = .ok (.iload_n 3, 1) := by decide +kernel
theorem dL_law_1469 : decode cL_law 1469 = .ok (.iconst 1, 1) := by decide +kernel
theorem dL_law_1470 : decode cL_law 1470 = .ok (.iadd, 1) := by decide +kernel
theorem dL_law_1471 : decode cL_law 1471 = .ok (.iaload, 1) := by decide +kernel
theorem dL_law_1472 : decode cL_law 1472 = .ok (.aload_n 0, 1) := by decide +kernel
theorem dL_law_1473 : decode cL_law 1473 = .ok (.iload_n 3, 1) := by decide +kernel
theorem dL_law_1474 : decode cL_law 1474 = .ok (.iconst 2, 1) := by decide +kernel
theorem dL_law_1475 : decode cL_law 1475 = .ok (.iadd, 1) := by decide +kernel
theorem dL_law_1476 : decode cL_law 1476 = .ok (.iaload, 1) := by decide +kernel
theorem dL_law_1477 : decode cL_law 1477 = .ok (.aload_n 0, 1) := by decide +kernel
theorem dL_law_1478 : decode cL_law 1478 = .ok (.iload_n 3, 1) := by decide +kernel
theorem dL_law_1479 : decode cL_law 1479 = .ok (.iconst 3, 1) := by decide +kernel
theorem dL_law_1480 : decode cL_law 1480 = .ok (.iadd, 1) := by decide +kernel
theorem dL_law_1481 : decode cL_law 1481 = .ok (.iaload, 1) := by decide +kernel
theorem dL_law_1482 : decode cL_law 1482 = .ok (.invokevirtual 179, 3) := by decide +kernel
theorem dL_law_1485 : decode cL_law 1485 = .ok (.aload_n 2, 1) := by decide +kernel
theorem dL_law_1486 : decode cL_law 1486 = .ok (.aload_n 0, 1) := by decide +kernel
theorem dL_law_1487 : decode cL_law 1487 = .ok (.iload_n 3, 1) := by decide +kernel
theorem dL_law_1488 : decode cL_law 1488 = .ok (.iconst 1, 1) := by decide +kernel
theorem dL_law_1489 : decode cL_law 1489 = .ok (.iadd, 1) := by decide +kernel
theorem dL_law_1490 : decode cL_law 1490 = .ok (.iaload, 1) := by decide +kernel
theorem dL_law_1491 : decode cL_law 1491 = .ok (.aload_n 0, 1) := by decide +kernel
theorem dL_law_1492 : decode cL_law 1492 = .ok (.iload_n 3, 1) := by decide +kernel
theorem dL_law_1493 : decode cL_law 1493 = .ok (.iconst 2, 1) := by decide +kernel
theorem dL_law_1494 : decode cL_law 1494 = .ok (.iadd, 1) := by decide +kernel
theorem dL_law_1495 : decode cL_law 1495 = .ok (.iaload, 1) := by decide +kernel
theorem dL_law_1496 : decode cL_law 1496 = .ok (.aload_n 0, 1) := by decide +kernel
theorem dL_law_1497 : decode cL_law 1497 = .ok (.iload_n 3, 1) := by decide +kernel
theorem dL_law_1498 : decode cL_law 1498 = .ok (.iconst 3, 1) := by decide +kernel
theorem dL_law_1499 : decode cL_law 1499 = .ok (.iadd, 1) := by decide +kernel
theorem dL_law_1500 : decode cL_law 1500 = .ok (.iaload, 1) := by decide +kernel
theorem dL_law_1501 : decode cL_law 1501 = .ok (.invokevirtual 182, 3) := by decide +kernel
theorem dL_law_1504 : decode cL_law 1504 = .ok (.if_icmp .eq 380, 3) := by decide +kernel
theorem dL_law_1507 : decode cL_law 1507 = .ok (.iconst 0, 1) := by decide +kernel
theorem dL_law_1508 : decode cL_law 1508 = .ok (.ireturn, 1) := by decide +kernel
theorem dL_law_1509 : decode cL_law 1509 = .ok (.aload_n 1, 1) := by decide +kernel
theorem dL_law_1510 : decode cL_law 1510 = .ok (.aload_n 0, 1) := by decide +kernel
theorem dL_law_1511 : decode cL_law 1511 = .ok (.iload_n 3, 1) := by decide +kernel
theorem dL_law_1512 : decode cL_law 1512 = .ok (.iconst 1, 1) := by decide +kernel
theorem dL_law_1513 : decode cL_law 1513 = .ok (.iadd, 1) := by decide +kernel
theorem dL_law_1514 : decode cL_law 1514 = .ok (.iaload, 1) := by decide +kernel
theorem dL_law_1515 : decode cL_law 1515 = .ok (.aload_n 0, 1) := by decide +kernel
theorem dL_law_1516 : decode cL_law 1516 = .ok (.iload_n 3, 1) := by decide +kernel
theorem dL_law_1517 : decode cL_law 1517 = .ok (.iconst 2, 1) := by decide +kernel
theorem dL_law_1518 : decode cL_law 1518 = .ok (.iadd, 1) := by decide +kernel
theorem dL_law_1519 : decode cL_law 1519 = .ok (.iaload, 1) := by decide +kernel
theorem dL_law_1520 : decode cL_law 1520 = .ok (.invokevirtual 183, 3) := by decide +kernel
theorem dL_law_1523 : decode cL_law 1523 = .ok (.aload_n 2, 1) := by decide +kernel
theorem dL_law_1524 : decode cL_law 1524 = .ok (.aload_n 0, 1) := by decide +kernel
theorem dL_law_1525 : decode cL_law 1525 = .ok (.iload_n 3, 1) := by decide +kernel
theorem dL_law_1526 : decode cL_law 1526 = .ok (.iconst 1, 1) := by decide +kernel
theorem dL_law_1527 : decode cL_law 1527 = .ok (.iadd, 1) := by decide +kernel
theorem dL_law_1528 : decode cL_law 1528 = .ok (.iaload, 1) := by decide +kernel
theorem dL_law_1529 : decode cL_law 1529 = .ok (.aload_n 0, 1) := by decide +kernel
theorem dL_law_1530 : decode cL_law 1530 = .ok (.iload_n 3, 1) := by decide +kernel
theorem dL_law_1531 : decode cL_law 1531 = .ok (.iconst 2, 1) := by decide +kernel
theorem dL_law_1532 : decode cL_law 1532 = .ok (.iadd, 1) := by decide +kernel
theorem dL_law_1533 : decode cL_law 1533 = .ok (.iaload, 1) := by decide +kernel
theorem dL_law_1534 : decode cL_law 1534 = .ok (.invokevirtual 186, 3) := by decide +kernel
theorem dL_law_1537 : decode cL_law 1537 = .ok (.if_icmp .eq 347, 3) := by decide +kernel
theorem dL_law_1540 : decode cL_law 1540 = .ok (.iconst 0, 1) := by decide +kernel
theorem dL_law_1541 : decode cL_law 1541 = .ok (.ireturn, 1) := by decide +kernel
theorem dL_law_1542 : decode cL_law 1542 = .ok (.aload_n 1, 1) := by decide +kernel
theorem dL_law_1543 : decode cL_law 1543 = .ok (.aload_n 0, 1) := by decide +kernel
theorem dL_law_1544 : decode cL_law 1544 = .ok (.iload_n 3, 1) := by decide +kernel
theorem dL_law_1545 : decode cL_law 1545 = .ok (.iconst 1, 1) := by decide +kernel
theorem dL_law_1546 : decode cL_law 1546 = .ok (.iadd, 1) := by decide +kernel
theorem dL_law_1547 : decode cL_law 1547 = .ok (.iaload, 1) := by decide +kernel
theorem dL_law_1548 : decode cL_law 1548 = .ok (.aload_n 0, 1) := by decide +kernel
theorem dL_law_1549 : decode cL_law 1549 = .ok (.iload_n 3, 1) := by decide +kernel
theorem dL_law_1550 : decode cL_law 1550 = .ok (.iconst 2, 1) := by decide +kernel
theorem dL_law_1551 : decode cL_law 1551 = .ok (.iadd, 1) := by decide +kernel
theorem dL_law_1552 : decode cL_law 1552 = .ok (.iaload, 1) := by decide +kernel
theorem dL_law_1553 : decode cL_law 1553 = .ok (.aload_n 0, 1) := by decide +kernel
theorem dL_law_1554 : decode cL_law 1554 = .ok (.iload_n 3, 1) := by decide +kernel
theorem dL_law_1555 : decode cL_law 1555 = .ok (.iconst 3, 1) := by decide +kernel
theorem dL_law_1556 : decode cL_law 1556 = .ok (.iadd, 1) := by decide +kernel
theorem dL_law_1557 : decode cL_law 1557 = .ok (.iaload, 1) := by decide +kernel
theorem dL_law_1558 : decode cL_law 1558 = .ok (.invokevirtual 187, 3) := by decide +kernel
theorem dL_law_1561 : decode cL_law 1561 = .ok (.aload_n 2, 1) := by decide +kernel
theorem dL_law_1562 : decode cL_law 1562 = .ok (.aload_n 0, 1) := by decide +kernel
theorem dL_law_1563 : decode cL_law 1563 = .ok (.iload_n 3, 1) := by decide +kernel
theorem dL_law_1564 : decode cL_law 1564 = .ok (.iconst 1, 1) := by decide +kernel
theorem dL_law_1565 : decode cL_law 1565 = .ok (.iadd, 1) := by decide +kernel
theorem dL_law_1566 : decode cL_law 1566 = .ok (.iaload, 1) := by decide +kernel
theorem dL_law_1567 : decode cL_law 1567 = .ok (.aload_n 0, 1) := by decide +kernel
theorem dL_law_1568 : decode cL_law 1568 = .ok (.iload_n 3, 1) := by decide +kernel
theorem dL_law_1569 : decode cL_law 1569 = .ok (.iconst 2, 1) := by decide +kernel
theorem dL_law_1570 : decode cL_law 1570 = .ok (.iadd, 1) := by decide +kernel
theorem dL_law_1571 : decode cL_law 1571 = .ok (.iaload, 1) := by decide +kernel
theorem dL_law_1572 : decode cL_law 1572 = .ok (.aload_n 0, 1) := by decide +kernel
theorem dL_law_1573 : decode cL_law 1573 = .ok (.iload_n 3, 1) := by decide +kernel
theorem dL_law_1574 : decode cL_law 1574 = .ok (.iconst 3, 1) := by decide +kernel
theorem dL_law_1575 : decode cL_law 1575 = .ok (.iadd, 1) := by decide +kernel
theorem dL_law_1576 : decode cL_law 1576 = .ok (.iaload, 1) := by decide +kernel
theorem dL_law_1577 : decode cL_law 1577 = .ok (.invokevirtual 190, 3) := by decide +kernel
theorem dL_law_1580 : decode cL_law 1580 = .ok (.if_icmp .eq 304, 3) := by decide +kernel
theorem dL_law_1583 : decode cL_law 1583 = .ok (.iconst 0, 1) := by decide +kernel
theorem dL_law_1584 : decode cL_law 1584 = .ok (.ireturn, 1) := by decide +kernel
theorem dL_law_1585 : decode cL_law 1585 = .ok (.aload_n 1, 1) := by decide +kernel
theorem dL_law_1586 : decode cL_law 1586 = .ok (.aload_n 0, 1) := by decide +kernel
theorem dL_law_1587 : decode cL_law 1587 = .ok (.iload_n 3, 1) := by decide +kernel
theorem dL_law_1588 : decode cL_law 1588 = .ok (.iconst 1, 1) := by decide +kernel
theorem dL_law_1589 : decode cL_law 1589 = .ok (.iadd, 1) := by decide +kernel
theorem dL_law_1590 : decode cL_law 1590 = .ok (.iaload, 1) := by decide +kernel
theorem dL_law_1591 : decode cL_law 1591 = .ok (.aload_n 0, 1) := by decide +kernel
theorem dL_law_1592 : decode cL_law 1592 = .ok (.iload_n 3, 1) := by decide +kernel
theorem dL_law_1593 : decode cL_law 1593 = .ok (.iconst 2, 1) := by decide +kernel
theorem dL_law_1594 : decode cL_law 1594 = .ok (.iadd, 1) := by decide +kernel
theorem dL_law_1595 : decode cL_law 1595 = .ok (.iaload, 1) := by decide +kernel
theorem dL_law_1596 : decode cL_law 1596 = .ok (.invokevirtual 191, 3) := by decide +kernel
theorem dL_law_1599 : decode cL_law 1599 = .ok (.aload_n 2, 1) := by decide +kernel
theorem dL_law_1600 : decode cL_law 1600 = .ok (.aload_n 0, 1) := by decide +kernel
theorem dL_law_1601 : decode cL_law 1601 = .ok (.iload_n 3, 1) := by decide +kernel
theorem dL_law_1602 : decode cL_law 1602 = .ok (.iconst 1, 1) := by decide +kernel
theorem dL_law_1603 : decode cL_law 1603 = .ok (.iadd, 1) := by decide +kernel
theorem dL_law_1604 : decode cL_law 1604 = .ok (.iaload, 1) := by decide +kernel
theorem dL_law_1605 : decode cL_law 1605 = .ok (.aload_n 0, 1) := by decide +kernel
theorem dL_law_1606 : decode cL_law 1606 = .ok (.iload_n 3, 1) := by decide +kernel
theorem dL_law_1607 : decode cL_law 1607 = .ok (.iconst 2, 1) := by decide +kernel
theorem dL_law_1608 : decode cL_law 1608 = .ok (.iadd, 1) := by decide +kernel
theorem dL_law_1609 : decode cL_law 1609 = .ok (.iaload, 1) := by decide +kernel
theorem dL_law_1610 : decode cL_law 1610 = .ok (.invokevirtual 194, 3) := by decide +kernel
theorem dL_law_1613 : decode cL_law 1613 = .ok (.if_icmp .eq 271, 3) := by decide +kernel
theorem dL_law_1616 : decode cL_law 1616 = .ok (.iconst 0, 1) := by decide +kernel
theorem dL_law_1617 : decode cL_law 1617 = .ok (.ireturn, 1) := by decide +kernel
theorem dL_law_1618 : decode cL_law 1618 = .ok (.aload_n 1, 1) := by decide +kernel
theorem dL_law_1619 : decode cL_law 1619 = .ok (.aload_n 0, 1) := by decide +kernel
theorem dL_law_1620 : decode cL_law 1620 = .ok (.iload_n 3, 1) := by decide +kernel
theorem dL_law_1621 : decode cL_law 1621 = .ok (.iconst 1, 1) := by decide +kernel
theorem dL_law_1622 : decode cL_law 1622 = .ok (.iadd, 1) := by decide +kernel
theorem dL_law_1623 : decode cL_law 1623 = .ok (.iaload, 1) := by decide +kernel
theorem dL_law_1624 : decode cL_law 1624 = .ok (.invokevirtual 195, 3) := by decide +kernel
theorem dL_law_1627 : decode cL_law 1627 = .ok (.aload_n 2, 1) := by decide +kernel
theorem dL_law_1628 : decode cL_law 1628 = .ok (.aload_n 0, 1) := by decide +kernel
theorem dL_law_1629 : decode cL_law 1629 = .ok (.iload_n 3, 1) := by decide +kernel
theorem dL_law_1630 : decode cL_law 1630 = .ok (.iconst 1, 1) := by decide +kernel
theorem dL_law_1631 : decode cL_law 1631 = .ok (.iadd, 1) := by decide +kernel
theorem dL_law_1632 : decode cL_law 1632 = .ok (.iaload, 1) := by decide +kernel
theorem dL_law_1633 : decode cL_law 1633 = .ok (.invokevirtual 198, 3) := by decide +kernel
theorem dL_law_1636 : decode cL_law 1636 = .ok (.if_icmp .eq 248, 3) := by decide +kernel
theorem dL_law_1639 : decode cL_law 1639 = .ok (.iconst 0, 1) := by decide +kernel
theorem dL_law_1640 : decode cL_law 1640 = .ok (.ireturn, 1) := by decide +kernel
theorem dL_law_1641 : decode cL_law 1641 = .ok (.aload_n 1, 1) := by decide +kernel
theorem dL_law_1642 : decode cL_law 1642 = .ok (.aload_n 0, 1) := by decide +kernel
theorem dL_law_1643 : decode cL_law 1643 = .ok (.iload_n 3, 1) := by decide +kernel
theorem dL_law_1644 : decode cL_law 1644 = .ok (.iconst 1, 1) := by decide +kernel
theorem dL_law_1645 : decode cL_law 1645 = .ok (.iadd, 1) := by decide +kernel
theorem dL_law_1646 : decode cL_law 1646 = .ok (.iaload, 1) := by decide +kernel
theorem dL_law_1647 : decode cL_law 1647 = .ok (.invokevirtual 199, 3) := by decide +kernel
theorem dL_law_1650 : decode cL_law 1650 = .ok (.aload_n 2, 1) := by decide +kernel
theorem dL_law_1651 : decode cL_law 1651 = .ok (.aload_n 0, 1) := by decide +kernel
theorem dL_law_1652 : decode cL_law 1652 = .ok (.iload_n 3, 1) := by decide +kernel
theorem dL_law_1653 : decode cL_law 1653 = .ok (.iconst 1, 1) := by decide +kernel
theorem dL_law_1654 : decode cL_law 1654 = .ok (.iadd, 1) := by decide +kernel
theorem dL_law_1655 : decode cL_law 1655 = .ok (.iaload, 1) := by decide +kernel
theorem dL_law_1656 : decode cL_law 1656 = .ok (.invokevirtual 202, 3) := by decide +kernel
theorem dL_law_1659 : decode cL_law 1659 = .ok (.if_icmp .eq 225, 3) := by decide +kernel
theorem dL_law_1662 : decode cL_law 1662 = .ok (.iconst 0, 1) := by decide +kernel
theorem dL_law_1663 : decode cL_law 1663 = .ok (.ireturn, 1) := by decide +kernel
theorem dL_law_1664 : decode cL_law 1664 = .ok (.aload_n 1, 1) := by decide +kernel
theorem dL_law_1665 : decode cL_law 1665 = .ok (.aload_n 0, 1) := by decide +kernel
theorem dL_law_1666 : decode cL_law 1666 = .ok (.iload_n 3, 1) := by decide +kernel
theorem dL_law_1667 : decode cL_law 1667 = .ok (.iconst 1, 1) := by decide +kernel
theorem dL_law_1668 : decode cL_law 1668 = .ok (.iadd, 1) := by decide +kernel
theorem dL_law_1669 : decode cL_law 1669 = .ok (.iaload, 1) := by decide +kernel
theorem dL_law_1670 : decode cL_law 1670 = .ok (.invokevirtual 203, 3) := by decide +kernel
theorem dL_law_1673 : decode cL_law 1673 = .ok (.aload_n 2, 1) := by decide +kernel
theorem dL_law_1674 : decode cL_law 1674 = .ok (.aload_n 0, 1) := by decide +kernel
theorem dL_law_1675 : decode cL_law 1675 = .ok (.iload_n 3, 1) := by decide +kernel
theorem dL_law_1676 : decode cL_law 1676 = .ok (.iconst 1, 1) := by decide +kernel
theorem dL_law_1677 : decode cL_law 1677 = .ok (.iadd, 1) := by decide +kernel
theorem dL_law_1678 : decode cL_law 1678 = .ok (.iaload, 1) := by decide +kernel
theorem dL_law_1679 : decode cL_law 1679 = .ok (.invokevirtual 206, 3) := by decide +kernel
theorem dL_law_1682 : decode cL_law 1682 = .ok (.if_icmp .eq 202, 3) := by decide +kernel
theorem dL_law_1685 : decode cL_law 1685 = .ok (.iconst 0, 1) := by decide +kernel
theorem dL_law_1686 : decode cL_law 1686 = .ok (.ireturn, 1) := by decide +kernel
theorem dL_law_1687 : decode cL_law 1687 = .ok (.aload_n 1, 1) := by decide +kernel
theorem dL_law_1688 : decode cL_law 1688 = .ok (.aload_n 0, 1) := by decide +kernel
theorem dL_law_1689 : decode cL_law 1689 = .ok (.iload_n 3, 1) := by decide +kernel
theorem dL_law_1690 : decode cL_law 1690 = .ok (.iconst 1, 1) := by decide +kernel
theorem dL_law_1691 : decode cL_law 1691 = .ok (.iadd, 1) := by decide +kernel
theorem dL_law_1692 : decode cL_law 1692 = .ok (.iaload, 1) := by decide +kernel
theorem dL_law_1693 : decode cL_law 1693 = .ok (.invokevirtual 207, 3) := by decide +kernel
theorem dL_law_1696 : decode cL_law 1696 = .ok (.aload_n 2, 1) := by decide +kernel
theorem dL_law_1697 : decode cL_law 1697 = .ok (.aload_n 0, 1) := by decide +kernel
theorem dL_law_1698 : decode cL_law 1698 = .ok (.iload_n 3, 1) := by decide +kernel
theorem dL_law_1699 : decode cL_law 1699 = .ok (.iconst 1, 1) := by decide +kernel
theorem dL_law_1700 : decode cL_law 1700 = .ok (.iadd, 1) := by decide +kernel
theorem dL_law_1701 : decode cL_law 1701 = .ok (.iaload, 1) := by decide +kernel
theorem dL_law_1702 : decode cL_law 1702 = .ok (.invokevirtual 210, 3) := by decide +kernel
theorem dL_law_1705 : decode cL_law 1705 = .ok (.if_icmp .eq 179, 3) := by decide +kernel
theorem dL_law_1708 : decode cL_law 1708 = .ok (.iconst 0, 1) := by decide +kernel
theorem dL_law_1709 : decode cL_law 1709 = .ok (.ireturn, 1) := by decide +kernel
theorem dL_law_1710 : decode cL_law 1710 = .ok (.aload_n 1, 1) := by decide +kernel
theorem dL_law_1711 : decode cL_law 1711 = .ok (.aload_n 0, 1) := by decide +kernel
theorem dL_law_1712 : decode cL_law 1712 = .ok (.iload_n 3, 1) := by decide +kernel
theorem dL_law_1713 : decode cL_law 1713 = .ok (.iconst 1, 1) := by decide +kernel
theorem dL_law_1714 : decode cL_law 1714 = .ok (.iadd, 1) := by decide +kernel
theorem dL_law_1715 : decode cL_law 1715 = .ok (.iaload, 1) := by decide +kernel
theorem dL_law_1716 : decode cL_law 1716 = .ok (.invokevirtual 211, 3) := by decide +kernel
theorem dL_law_1719 : decode cL_law 1719 = .ok (.aload_n 2, 1) := by decide +kernel
theorem dL_law_1720 : decode cL_law 1720 = .ok (.aload_n 0, 1) := by decide +kernel
theorem dL_law_1721 : decode cL_law 1721 = .ok (.iload_n 3, 1) := by decide +kernel
theorem dL_law_1722 : decode cL_law 1722 = .ok (.iconst 1, 1) := by decide +kernel
theorem dL_law_1723 : decode cL_law 1723 = .ok (.iadd, 1) := by decide +kernel
theorem dL_law_1724 : decode cL_law 1724 = .ok (.iaload, 1) := by decide +kernel
theorem dL_law_1725 : decode cL_law 1725 = .ok (.invokevirtual 214, 3) := by decide +kernel
theorem dL_law_1728 : decode cL_law 1728 = .ok (.if_icmp .eq 156, 3) := by decide +kernel
theorem dL_law_1731 : decode cL_law 1731 = .ok (.iconst 0, 1) := by decide +kernel
theorem dL_law_1732 : decode cL_law 1732 = .ok (.ireturn, 1) := by decide +kernel
theorem dL_law_1733 : decode cL_law 1733 = .ok (.aload_n 1, 1) := by decide +kernel
theorem dL_law_1734 : decode cL_law 1734 = .ok (.aload_n 0, 1) := by decide +kernel
theorem dL_law_1735 : decode cL_law 1735 = .ok (.iload_n 3, 1) := by decide +kernel
theorem dL_law_1736 : decode cL_law 1736 = .ok (.iconst 1, 1) := by decide +kernel
theorem dL_law_1737 : decode cL_law 1737 = .ok (.iadd, 1) := by decide +kernel
theorem dL_law_1738 : decode cL_law 1738 = .ok (.iaload, 1) := by decide +kernel
theorem dL_law_1739 : decode cL_law 1739 = .ok (.invokevirtual 215, 3) := by decide +kernel
theorem dL_law_1742 : decode cL_law 1742 = .ok (.aload_n 2, 1) := by decide +kernel
theorem dL_law_1743 : decode cL_law 1743 = .ok (.aload_n 0, 1) := by decide +kernel
theorem dL_law_1744 : decode cL_law 1744 = .ok (.iload_n 3, 1) := by decide +kernel
theorem dL_law_1745 : decode cL_law 1745 = .ok (.iconst 1, 1) := by decide +kernel
theorem dL_law_1746 : decode cL_law 1746 = .ok (.iadd, 1) := by decide +kernel
theorem dL_law_1747 : decode cL_law 1747 = .ok (.iaload, 1) := by decide +kernel
theorem dL_law_1748 : decode cL_law 1748 = .ok (.invokevirtual 218, 3) := by decide +kernel
theorem dL_law_1751 : decode cL_law 1751 = .ok (.if_icmp .eq 133, 3) := by decide +kernel
theorem dL_law_1754 : decode cL_law 1754 = .ok (.iconst 0, 1) := by decide +kernel
theorem dL_law_1755 : decode cL_law 1755 = .ok (.ireturn, 1) := by decide +kernel
theorem dL_law_1756 : decode cL_law 1756 = .ok (.aload_n 1, 1) := by decide +kernel
theorem dL_law_1757 : decode cL_law 1757 = .ok (.aload_n 0, 1) := by decide +kernel
theorem dL_law_1758 : decode cL_law 1758 = .ok (.iload_n 3, 1) := by decide +kernel
theorem dL_law_1759 : decode cL_law 1759 = .ok (.iconst 1, 1) := by decide +kernel
theorem dL_law_1760 : decode cL_law 1760 = .ok (.iadd, 1) := by decide +kernel
theorem dL_law_1761 : decode cL_law 1761 = .ok (.iaload, 1) := by decide +kernel
theorem dL_law_1762 : decode cL_law 1762 = .ok (.aload_n 0, 1) := by decide +kernel
theorem dL_law_1763 : decode cL_law 1763 = .ok (.iload_n 3, 1) := by decide +kernel
theorem dL_law_1764 : decode cL_law 1764 = .ok (.iconst 2, 1) := by decide +kernel
theorem dL_law_1765 : decode cL_law 1765 = .ok (.iadd, 1) := by decide +kernel
theorem dL_law_1766 : decode cL_law 1766 = .ok (.iaload, 1) := by decide +kernel
theorem dL_law_1767 : decode cL_law 1767 = .ok (.invokevirtual 219, 3) := by decide +kernel
theorem dL_law_1770 : decode cL_law 1770 = .ok (.aload_n 2, 1) := by decide +kernel
theorem dL_law_1771 : decode cL_law 1771 = .ok (.aload_n 0, 1) := by decide +kernel
theorem dL_law_1772 : decode cL_law 1772 = .ok (.iload_n 3, 1) := by decide +kernel
theorem dL_law_1773 : decode cL_law 1773 = .ok (.iconst 1, 1) := by decide +kernel
theorem dL_law_1774 : decode cL_law 1774 = .ok (.iadd, 1) := by decide +kernel
theorem dL_law_1775 : decode cL_law 1775 = .ok (.iaload, 1) := by decide +kernel
theorem dL_law_1776 : decode cL_law 1776 = .ok (.aload_n 0, 1) := by decide +kernel
theorem dL_law_1777 : decode cL_law 1777 = .ok (.iload_n 3, 1) := by decide +kernel
theorem dL_law_1778 : decode cL_law 1778 = .ok (.iconst 2, 1) := by decide +kernel
theorem dL_law_1779 : decode cL_law 1779 = .ok (.iadd, 1) := by decide +kernel
theorem dL_law_1780 : decode cL_law 1780 = .ok (.iaload, 1) := by decide +kernel
theorem dL_law_1781 : decode cL_law 1781 = .ok (.invokevirtual 222, 3) := by decide +kernel
theorem dL_law_1784 : decode cL_law 1784 = .ok (.if_icmp .eq 100, 3) := by decide +kernel
theorem dL_law_1787 : decode cL_law 1787 = .ok (.iconst 0, 1) := by decide +kernel
theorem dL_law_1788 : decode cL_law 1788 = .ok (.ireturn, 1) := by decide +kernel
theorem dL_law_1789 : decode cL_law 1789 = .ok (.aload_n 1, 1) := by decide +kernel
theorem dL_law_1790 : decode cL_law 1790 = .ok (.aload_n 0, 1) := by decide +kernel
theorem dL_law_1791 : decode cL_law 1791 = .ok (.iload_n 3, 1) := by decide +kernel
theorem dL_law_1792 : decode cL_law 1792 = .ok (.iconst 1, 1) := by decide +kernel
theorem dL_law_1793 : decode cL_law 1793 = .ok (.iadd, 1) := by decide +kernel
theorem dL_law_1794 : decode cL_law 1794 = .ok (.iaload, 1) := by decide +kernel
theorem dL_law_1795 : decode cL_law 1795 = .ok (.invokevirtual 223, 3) := by decide +kernel
theorem dL_law_1798 : decode cL_law 1798 = .ok (.aload_n 2, 1) := by decide +kernel
theorem dL_law_1799 : decode cL_law 1799 = .ok (.aload_n 0, 1) := by decide +kernel
theorem dL_law_1800 : decode cL_law 1800 = .ok (.iload_n 3, 1) := by decide +kernel
theorem dL_law_1801 : decode cL_law 1801 = .ok (.iconst 1, 1) := by decide +kernel
theorem dL_law_1802 : decode cL_law 1802 = .ok (.iadd, 1) := by decide +kernel
theorem dL_law_1803 : decode cL_law 1803 = .ok (.iaload, 1) := by decide +kernel
theorem dL_law_1804 : decode cL_law 1804 = .ok (.invokevirtual 226, 3) := by decide +kernel
theorem dL_law_1807 : decode cL_law 1807 = .ok (.if_icmp .eq 77, 3) := by decide +kernel
theorem dL_law_1810 : decode cL_law 1810 = .ok (.iconst 0, 1) := by decide +kernel
theorem dL_law_1811 : decode cL_law 1811 = .ok (.ireturn, 1) := by decide +kernel
theorem dL_law_1812 : decode cL_law 1812 = .ok (.aload_n 1, 1) := by decide +kernel
theorem dL_law_1813 : decode cL_law 1813 = .ok (.aload_n 0, 1) := by decide +kernel
theorem dL_law_1814 : decode cL_law 1814 = .ok (.iload_n 3, 1) := by decide +kernel
theorem dL_law_1815 : decode cL_law 1815 = .ok (.iconst 1, 1) := by decide +kernel
theorem dL_law_1816 : decode cL_law 1816 = .ok (.iadd, 1) := by decide +kernel
theorem dL_law_1817 : decode cL_law 1817 = .ok (.iaload, 1) := by decide +kernel
theorem dL_law_1818 : decode cL_law 1818 = .ok (.invokevirtual 227, 3) := by decide +kernel
theorem dL_law_1821 : decode cL_law 1821 = .ok (.aload_n 2, 1) := by decide +kernel
theorem dL_law_1822 : decode cL_law 1822 = .ok (.aload_n 0, 1) := by decide +kernel
theorem dL_law_1823 : decode cL_law 1823 = .ok (.iload_n 3, 1) := by decide +kernel
theorem dL_law_1824 : decode cL_law 1824 = .ok (.iconst 1, 1) := by decide +kernel
theorem dL_law_1825 : decode cL_law 1825 = .ok (.iadd, 1) := by decide +kernel
theorem dL_law_1826 : decode cL_law 1826 = .ok (.iaload, 1) := by decide +kernel
theorem dL_law_1827 : decode cL_law 1827 = .ok (.invokevirtual 230, 3) := by decide +kernel
theorem dL_law_1830 : decode cL_law 1830 = .ok (.if_icmp .eq 54, 3) := by decide +kernel
theorem dL_law_1833 : decode cL_law 1833 = .ok (.iconst 0, 1) := by decide +kernel
theorem dL_law_1834 : decode cL_law 1834 = .ok (.ireturn, 1) := by decide +kernel
theorem dL_law_1835 : decode cL_law 1835 = .ok (.aload_n 1, 1) := by decide +kernel
theorem dL_law_1836 : decode cL_law 1836 = .ok (.invokevirtual 231, 3) := by decide +kernel
theorem dL_law_1839 : decode cL_law 1839 = .ok (.aload_n 2, 1) := by decide +kernel
theorem dL_law_1840 : decode cL_law 1840 = .ok (.invokevirtual 234, 3) := by decide +kernel
theorem dL_law_1843 : decode cL_law 1843 = .ok (.if_icmp .eq 41, 3) := by decide +kernel
theorem dL_law_1846 : decode cL_law 1846 = .ok (.iconst 0, 1) := by decide +kernel
theorem dL_law_1847 : decode cL_law 1847 = .ok (.ireturn, 1) := by decide +kernel
theorem dL_law_1848 : decode cL_law 1848 = .ok (.aload_n 1, 1) := by decide +kernel
theorem dL_law_1849 : decode cL_law 1849 = .ok (.invokevirtual 235, 3) := by decide +kernel
theorem dL_law_1852 : decode cL_law 1852 = .ok (.aload_n 2, 1) := by decide +kernel
theorem dL_law_1853 : decode cL_law 1853 = .ok (.invokevirtual 238, 3) := by decide +kernel
theorem dL_law_1856 : decode cL_law 1856 = .ok (.if_icmp .eq 28, 3) := by decide +kernel
theorem dL_law_1859 : decode cL_law 1859 = .ok (.iconst 0, 1) := by decide +kernel
theorem dL_law_1860 : decode cL_law 1860 = .ok (.ireturn, 1) := by decide +kernel
theorem dL_law_1861 : decode cL_law 1861 = .ok (.aload_n 1, 1) := by decide +kernel
theorem dL_law_1862 : decode cL_law 1862 = .ok (.aload_n 0, 1) := by decide +kernel
theorem dL_law_1863 : decode cL_law 1863 = .ok (.iload_n 3, 1) := by decide +kernel
theorem dL_law_1864 : decode cL_law 1864 = .ok (.iconst 1, 1) := by decide +kernel
theorem dL_law_1865 : decode cL_law 1865 = .ok (.iadd, 1) := by decide +kernel
theorem dL_law_1866 : decode cL_law 1866 = .ok (.iaload, 1) := by decide +kernel
theorem dL_law_1867 : decode cL_law 1867 = .ok (.invokevirtual 239, 3) := by decide +kernel
theorem dL_law_1870 : decode cL_law 1870 = .ok (.aload_n 2, 1) := by decide +kernel
theorem dL_law_1871 : decode cL_law 1871 = .ok (.aload_n 0, 1) := by decide +kernel
theorem dL_law_1872 : decode cL_law 1872 = .ok (.iload_n 3, 1) := by decide +kernel
theorem dL_law_1873 : decode cL_law 1873 = .ok (.iconst 1, 1) := by decide +kernel
theorem dL_law_1874 : decode cL_law 1874 = .ok (.iadd, 1) := by decide +kernel
theorem dL_law_1875 : decode cL_law 1875 = .ok (.iaload, 1) := by decide +kernel
theorem dL_law_1876 : decode cL_law 1876 = .ok (.invokevirtual 242, 3) := by decide +kernel
theorem dL_law_1879 : decode cL_law 1879 = .ok (.if_icmp .eq 5, 3) := by decide +kernel
theorem dL_law_1882 : decode cL_law 1882 = .ok (.iconst 0, 1) := by decide +kernel
theorem dL_law_1883 : decode cL_law 1883 = .ok (.ireturn, 1) := by decide +kernel
theorem dL_law_1884 : decode cL_law 1884 = .ok (.iinc 3 6, 3) := by decide +kernel
theorem dL_law_1887 : decode cL_law 1887 = .ok (.goto (-1869), 3) := by decide +kernel
theorem dL_law_1890 : decode cL_law 1890 = .ok (.iconst 1, 1) := by decide +kernel
theorem dL_law_1891 : decode cL_law 1891 = .ok (.ireturn, 1) := by decide +kernel
