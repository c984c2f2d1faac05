theorem dX7_nerves_32 : decode cX7_nerves 32 = .ok (.istore 5, 2) := by decide +kernel
theorem dX7_nerves_34 : decode cX7_nerves 34 = .ok (.iload 5, 2) := by decide +kernel
theorem dX7_nerves_36 : decode cX7_nerves 36 = .ok (.ifCond .eq 10, 3) := by decide +kernel
theorem dX7_nerves_39 : decode cX7_nerves 39 = .ok (.aload_n 0, 1) := by decide +kernel
theorem dX7_nerves_40 : decode cX7_nerves 40 = .ok (.iload 5, 2) := by decide +kernel
theorem dX7_nerves_42 : decode cX7_nerves 42 = .ok (.invokevirtual 103, 3) := by decide +kernel
theorem dX7_nerves_45 : decode cX7_nerves 45 = .ok (.ireturn, 1) := by decide +kernel
theorem dX7_nerves_46 : decode cX7_nerves 46 = .ok (.aload_n 0, 1) := by decide +kernel
theorem dX7_nerves_47 : decode cX7_nerves 47 = .ok (.getfield 69, 3) := by decide +kernel
theorem dX7_nerves_50 : decode cX7_nerves 50 = .ok (.invokevirtual 292, 3) := by decide +kernel
theorem dX7_nerves_53 : decode cX7_nerves 53 = .ok (.aload_n 0, 1) := by decide +kernel
theorem dX7_nerves_54 : decode cX7_nerves 54 = .ok (.getfield 32, 3) := by decide +kernel
theorem dX7_nerves_57 : decode cX7_nerves 57 = .ok (.aload_n 0, 1) := by decide +kernel
theorem dX7_nerves_58 : decode cX7_nerves 58 = .ok (.getfield 28, 3) := by decide +kernel
theorem dX7_nerves_61 : decode cX7_nerves 61 = .ok (.invokevirtual 197, 3) := by decide +kernel
theorem dX7_nerves_64 : decode cX7_nerves 64 = .ok (.iconst 0, 1) := by decide +kernel
theorem dX7_nerves_65 : decode cX7_nerves 65 = .ok (.istore 6, 2) := by decide +kernel
theorem dX7_nerves_67 : decode cX7_nerves 67 = .ok (.iload 6, 2) := by decide +kernel
theorem dX7_nerves_69 : decode cX7_nerves 69 = .ok (.bipush 40, 2) := by decide +kernel
theorem dX7_nerves_71 : decode cX7_nerves 71 = .ok (.if_icmp .gt 51, 3) := by decide +kernel
theorem dX7_nerves_74 : decode cX7_nerves 74 = .ok (.aload_n 0, 1) := by decide +kernel
theorem dX7_nerves_75 : decode cX7_nerves 75 = .ok (.getfield 32, 3) := by decide +kernel
theorem dX7_nerves_78 : decode cX7_nerves 78 = .ok (.iload_n 3, 1) := by decide +kernel
theorem dX7_nerves_79 : decode cX7_nerves 79 = .ok (.iload 6, 2) := by decide +kernel
theorem dX7_nerves_81 : decode cX7_nerves 81 = .ok (.invokevirtual 174, 3) := by decide +kernel
theorem dX7_nerves_84 : decode cX7_nerves 84 = .ok (.aload_n 0, 1) := by decide +kernel
theorem dX7_nerves_85 : decode cX7_nerves 85 = .ok (.getfield 16, 3) := by decide +kernel
theorem dX7_nerves_88 : decode cX7_nerves 88 = .ok (.aload_n 0, 1) := by decide +kernel
theorem dX7_nerves_89 : decode cX7_nerves 89 = .ok (.getfield 10, 3) := by decide +kernel
theorem dX7_nerves_92 : decode cX7_nerves 92 = .ok (.invokevirtual 193, 3) := by decide +kernel
theorem dX7_nerves_95 : decode cX7_nerves 95 = .ok (.aload_n 0, 1) := by decide +kernel
theorem dX7_nerves_96 : decode cX7_nerves 96 = .ok (.iload_n 2, 1) := by decide +kernel
theorem dX7_nerves_97 : decode cX7_nerves 97 = .ok (.aload_n 0, 1) := by decide +kernel
theorem dX7_nerves_98 : decode cX7_nerves 98 = .ok (.getfield 32, 3) := by decide +kernel
theorem dX7_nerves_101 : decode cX7_nerves 101 = .ok (.invokevirtual 294, 3) := by decide +kernel
theorem dX7_nerves_104 : decode cX7_nerves 104 = .ok (.ifCond .eq 12, 3) := by decide +kernel
theorem dX7_nerves_107 : decode cX7_nerves 107 = .ok (.aload_n 0, 1) := by decide +kernel
theorem dX7_nerves_108 : decode cX7_nerves 108 = .ok (.getfield 69, 3) := by decide +kernel
theorem dX7_nerves_111 : decode cX7_nerves 111 = .ok (.iload 6, 2) := by decide +kernel
theorem dX7_nerves_113 : decode cX7_nerves 113 = .ok (.invokevirtual 298, 3) := by decide +kernel
theorem dX7_nerves_116 : decode cX7_nerves 116 = .ok (.iinc 6 1, 3) := by decide +kernel
theorem dX7_nerves_119 : decode cX7_nerves 119 = .ok (.goto (-52), 3) := by decide +kernel
theorem dX7_nerves_122 : decode cX7_nerves 122 = .ok (.aload_n 0, 1) := by decide +kernel
theorem dX7_nerves_123 : decode cX7_nerves 123 = .ok (.getfield 69, 3) := by decide +kernel
theorem dX7_nerves_126 : decode cX7_nerves 126 = .ok (.iload 4, 2) := by decide +kernel
theorem dX7_nerves_128 : decode cX7_nerves 128 = .ok (.invokevirtual 289, 3) := by decide +kernel
theorem dX7_nerves_131 : decode cX7_nerves 131 = .ok (.ireturn, 1) := by decide +kernel
theorem dX7_send_0 : decode cX7_send 0 = .ok (.aload_n 0, 1) := by decide +kernel
theorem dX7_send_1 : decode cX7_send 1 = .ok (.iload_n 1, 1) := by decide +kernel
theorem dX7_send_2 : decode cX7_send 2 = .ok (.iload_n 2, 1) := by decide +kernel
theorem dX7_send_3 : decode cX7_send 3 = .ok (.iconst 1, 1) := by decide +kernel
theorem dX7_send_4 : decode cX7_send 4 = .ok (.invokevirtual 283, 3) := by decide +kernel
theorem dX7_send_7 : decode cX7_send 7 = .ok (.istore_n 3, 1) := by decide +kernel
theorem dX7_send_8 : decode cX7_send 8 = .ok (.iload_n 3, 1) := by decide +kernel
theorem dX7_send_9 : decode cX7_send 9 = .ok (.ifCond .eq 9, 3) := by decide +kernel
theorem dX7_send_12 : decode cX7_send 12 = .ok (.aload_n 0, 1) := by decide +kernel
theorem dX7_send_13 : decode cX7_send 13 = .ok (.iload_n 3, 1) := by decide +kernel
theorem dX7_send_14 : decode cX7_send 14 = .ok (.invokevirtual 103, 3) := by decide +kernel
theorem dX7_send_17 : decode cX7_send 17 = .ok (.ireturn, 1) := by decide +kernel
theorem dX7_send_18 : decode cX7_send 18 = .ok (.aload_n 0, 1) := by decide +kernel
theorem dX7_send_19 : decode cX7_send 19 = .ok (.iload_n 2, 1) := by decide +kernel
theorem dX7_send_20 : decode cX7_send 20 = .ok (.invokevirtual 286, 3) := by decide +kernel
theorem dX7_send_23 : decode cX7_send 23 = .ok (.aload_n 0, 1) := by decide +kernel
theorem dX7_send_24 : decode cX7_send 24 = .ok (.getfield 69, 3) := by decide +kernel
theorem dX7_send_27 : decode cX7_send 27 = .ok (.getfield 300, 3) := by decide +kernel
theorem dX7_send_30 : decode cX7_send 30 = .ok (.iconst 2, 1) := by decide +kernel
theorem dX7_send_31 : decode cX7_send 31 = .ok (.if_icmp .ge 5, 3) := by decide +kernel
theorem dX7_send_34 : decode cX7_send 34 = .ok (.iconst (-1), 1) := by decide +kernel
theorem dX7_send_35 : decode cX7_send 35 = .ok (.ireturn, 1) := by decide +kernel
theorem dX7_send_36 : decode cX7_send 36 = .ok (.iconst (-1), 1) := by decide +kernel
theorem dX7_send_37 : decode cX7_send 37 = .ok (.istore 4, 2) := by decide +kernel
theorem dX7_send_39 : decode cX7_send 39 = .ok (.ldc 232, 2) := by decide +kernel
theorem dX7_send_41 : decode cX7_send 41 = .ok (.istore 5, 2) := by decide +kernel
theorem dX7_send_43 : decode cX7_send 43 = .ok (.iconst 0, 1) := by decide +kernel
theorem dX7_send_44 : decode cX7_send 44 = .ok (.istore 6, 2) := by decide +kernel
theorem dX7_send_46 : decode cX7_send 46 = .ok (.iload 6, 2) := by decide +kernel
theorem dX7_send_48 : decode cX7_send 48 = .ok (.aload_n 0, 1) := by decide +kernel
theorem dX7_send_49 : decode cX7_send 49 = .ok (.getfield 28, 3) := by decide +kernel
theorem dX7_send_52 : decode cX7_send 52 = .ok (.getfield 303, 3) := by decide +kernel
theorem dX7_send_55 : decode cX7_send 55 = .ok (.if_icmp .ge 32, 3) := by decide +kernel
theorem dX7_send_58 : decode cX7_send 58 = .ok (.aload_n 0, 1) := by decide +kernel
theorem dX7_send_59 : decode cX7_send 59 = .ok (.iload 6, 2) := by decide +kernel
theorem dX7_send_61 : decode cX7_send 61 = .ok (.invokevirtual 304, 3) := by decide +kernel
theorem dX7_send_64 : decode cX7_send 64 = .ok (.istore 7, 2) := by decide +kernel
theorem dX7_send_66 : decode cX7_send 66 = .ok (.iload 7, 2) := by decide +kernel
theorem dX7_send_68 : decode cX7_send 68 = .ok (.iload 5, 2) := by decide +kernel
theorem dX7_send_70 : decode cX7_send 70 = .ok (.if_icmp .ge 11, 3) := by decide +kernel
theorem dX7_send_73 : decode cX7_send 73 = .ok (.iload 7, 2) := by decide +kernel
theorem dX7_send_75 : decode cX7_send 75 = .ok (.istore 5, 2) := by decide +kernel
theorem dX7_send_77 : decode cX7_send 77 = .ok (.iload 6, 2) := by decide +kernel
theorem dX7_send_79 : decode cX7_send 79 = .ok (.istore 4, 2) := by decide +kernel
theorem dX7_send_81 : decode cX7_send 81 = .ok (.iinc 6 1, 3) := by decide +kernel
theorem dX7_send_84 : decode cX7_send 84 = .ok (.goto (-38), 3) := by decide +kernel
theorem dX7_send_87 : decode cX7_send 87 = .ok (.iload 4, 2) := by decide +kernel
theorem dX7_send_89 : decode cX7_send 89 = .ok (.ireturn, 1) := by decide +kernel
theorem dX7_settles_0 : decode cX7_settles 0 = .ok (.aload_n 0, 1) := by decide +kernel
theorem dX7_settles_1 : decode cX7_settles 1 = .ok (.iload_n 1, 1) := by decide +kernel
theorem dX7_settles_2 : decode cX7_settles 2 = .ok (.i2l, 1) := by decide +kernel
theorem dX7_settles_3 : decode cX7_settles 3 = .ok (.invokevirtual 221, 3) := by decide +kernel
theorem dX7_settles_6 : decode cX7_settles 6 = .ok (.ifCond .ne 10, 3) := by decide +kernel
theorem dX7_settles_9 : decode cX7_settles 9 = .ok (.aload_n 0, 1) := by decide +kernel
theorem dX7_settles_10 : decode cX7_settles 10 = .ok (.bipush (-2), 2) := by decide +kernel
theorem dX7_settles_12 : decode cX7_settles 12 = .ok (.invokevirtual 103, 3) := by decide +kernel
theorem dX7_settles_15 : decode cX7_settles 15 = .ok (.ireturn, 1) := by decide +kernel
theorem dX7_settles_16 : decode cX7_settles 16 = .ok (.aload_n 0, 1) := by decide +kernel
theorem dX7_settles_17 : decode cX7_settles 17 = .ok (.getfield 16, 3) := by decide +kernel
theorem dX7_settles_20 : decode cX7_settles 20 = .ok (.aload_n 0, 1) := by decide +kernel
theorem dX7_settles_21 : decode cX7_settles 21 = .ok (.getfield 10, 3) := by decide +kernel
theorem dX7_settles_24 : decode cX7_settles 24 = .ok (.invokevirtual 193, 3) := by decide +kernel
theorem dX7_settles_27 : decode cX7_settles 27 = .ok (.iconst 1, 1) := by decide +kernel
theorem dX7_settles_28 : decode cX7_settles 28 = .ok (.istore_n 2, 1) := by decide +kernel
theorem dX7_settles_29 : decode cX7_settles 29 = .ok (.iload_n 2, 1) := by decide +kernel
theorem dX7_settles_30 : decode cX7_settles 30 = .ok (.sipush 200, 3) := by decide +kernel
theorem dX7_settles_33 : decode cX7_settles 33 = .ok (.if_icmp .gt 48, 3) := by decide +kernel
theorem dX7_settles_36 : decode cX7_settles 36 = .ok (.aload_n 0, 1) := by decide +kernel
theorem dX7_settles_37 : decode cX7_settles 37 = .ok (.getfield 19, 3) := by decide +kernel
theorem dX7_settles_40 : decode cX7_settles 40 = .ok (.aload_n 0, 1) := by decide +kernel
theorem dX7_settles_41 : decode cX7_settles 41 = .ok (.getfield 16, 3) := by decide +kernel
theorem dX7_settles_44 : decode cX7_settles 44 = .ok (.invokevirtual 193, 3) := by decide +kernel
theorem dX7_settles_47 : decode cX7_settles 47 = .ok (.aload_n 0, 1) := by decide +kernel
theorem dX7_settles_48 : decode cX7_settles 48 = .ok (.getfield 16, 3) := by decide +kernel
theorem dX7_settles_51 : decode cX7_settles 51 = .ok (.iload_n 1, 1) := by decide +kernel
theorem dX7_settles_52 : decode cX7_settles 52 = .ok (.aload_n 0, 1) := by decide +kernel
theorem dX7_settles_53 : decode cX7_settles 53 = .ok (.getfield 28, 3) := by decide +kernel
theorem dX7_settles_56 : decode cX7_settles 56 = .ok (.invokevirtual 307, 3) := by decide +kernel
theorem dX7_settles_59 : decode cX7_settles 59 = .ok (.aload_n 0, 1) := by decide +kernel
theorem dX7_settles_60 : decode cX7_settles 60 = .ok (.getfield 16, 3) := by decide +kernel
theorem dX7_settles_63 : decode cX7_settles 63 = .ok (.aload_n 0, 1) := by decide +kernel
theorem dX7_settles_64 : decode cX7_settles 64 = .ok (.getfield 19, 3) := by decide +kernel
theorem dX7_settles_67 : decode cX7_settles 67 = .ok (.invokevirtual 311, 3) := by decide +kernel
theorem dX7_settles_70 : decode cX7_settles 70 = .ok (.ifCond .eq 5, 3) := by decide +kernel
theorem dX7_settles_73 : decode cX7_settles 73 = .ok (.iload_n 2, 1) := by decide +kernel
theorem dX7_settles_74 : decode cX7_settles 74 = .ok (.ireturn, 1) := by decide +kernel
theorem dX7_settles_75 : decode cX7_settles 75 = .ok (.iinc 2 1, 3) := by decide +kernel
theorem dX7_settles_78 : decode cX7_settles 78 = .ok (.goto (-49), 3) := by decide +kernel
theorem dX7_settles_81 : decode cX7_settles 81 = .ok (.iconst (-1), 1) := by decide +kernel
theorem dX7_settles_82 : decode cX7_settles 82 = .ok (.ireturn, 1) := by decide +kernel
theorem dX7_over_0 : decode cX7_over 0 = .ok (.aload_n 0, 1) := by decide +kernel
theorem dX7_over_1 : decode cX7_over 1 = .ok (.iload_n 1, 1) := by decide +kernel
theorem dX7_over_2 : decode cX7_over 2 = .ok (.i2l, 1) := by decide +kernel
theorem dX7_over_3 : decode cX7_over 3 = .ok (.invokevirtual 221, 3) := by decide +kernel
theorem dX7_over_6 : decode cX7_over 6 = .ok (.ifCond .eq 12, 3) := by decide +kernel
theorem dX7_over_9 : decode cX7_over 9 = .ok (.iload_n 2, 1) := by decide +kernel
theorem dX7_over_10 : decode cX7_over 10 = .ok (.iconst 0, 1) := by decide +kernel
theorem dX7_over_11 : decode cX7_over 11 = .ok (.iconst 4, 1) := by decide +kernel
theorem dX7_over_12 : decode cX7_over 12 = .ok (.invokestatic 99, 3) := by decide +kernel
theorem dX7_over_15 : decode cX7_over 15 = .ok (.ifCond .ne 10, 3) := by decide +kernel
theorem dX7_over_18 : decode cX7_over 18 = .ok (.aload_n 0, 1) := by decide +kernel
theorem dX7_over_19 : decode cX7_over 19 = .ok (.bipush (-2), 2) := by decide +kernel
theorem dX7_over_21 : decode cX7_over 21 = .ok (.invokevirtual 103, 3) := by decide +kernel
theorem dX7_over_24 : decode cX7_over 24 = .ok (.ireturn, 1) := by decide +kernel
theorem dX7_over_25 : decode cX7_over 25 = .ok (.aload_n 0, 1) := by decide +kernel
theorem dX7_over_26 : decode cX7_over 26 = .ok (.iload_n 1, 1) := by decide +kernel
theorem dX7_over_27 : decode cX7_over 27 = .ok (.invokevirtual 315, 3) := by decide +kernel
theorem dX7_over_30 : decode cX7_over 30 = .ok (.iload_n 2, 1) := by decide +kernel
theorem dX7_over_31 : decode cX7_over 31 = .ok (.lookupswitch 41 #[(0, 25), (1, 33)], 25) := by decide +kernel
theorem dX7_over_56 : decode cX7_over 56 = .ok (.aload_n 0, 1) := by decide +kernel
theorem dX7_over_57 : decode cX7_over 57 = .ok (.getfield 55, 3) := by decide +kernel
theorem dX7_over_60 : decode cX7_over 60 = .ok (.getfield 318, 3) := by decide +kernel
theorem dX7_over_63 : decode cX7_over 63 = .ok (.ireturn, 1) := by decide +kernel
theorem dX7_over_64 : decode cX7_over 64 = .ok (.aload_n 0, 1) := by decide +kernel
theorem dX7_over_65 : decode cX7_over 65 = .ok (.getfield 55, 3) := by decide +kernel
theorem dX7_over_68 : decode cX7_over 68 = .ok (.getfield 321, 3) := by decide +kernel
theorem dX7_over_71 : decode cX7_over 71 = .ok (.ireturn, 1) := by decide +kernel
theorem dX7_over_72 : decode cX7_over 72 = .ok (.aload_n 0, 1) := by decide +kernel
theorem dX7_over_73 : decode cX7_over 73 = .ok (.getfield 55, 3) := by decide +kernel
theorem dX7_over_76 : decode cX7_over 76 = .ok (.getfield 256, 3) := by decide +kernel
theorem dX7_over_79 : decode cX7_over 79 = .ok (.iload_n 2, 1) := by decide +kernel
theorem dX7_over_80 : decode cX7_over 80 = .ok (.iconst 2, 1) := by decide +kernel
theorem dX7_over_81 : decode cX7_over 81 = .ok (.isub, 1) := by decide +kernel
theorem dX7_over_82 : decode cX7_over 82 = .ok (.invokevirtual 180, 3) := by decide +kernel
theorem dX7_over_85 : decode cX7_over 85 = .ok (.ireturn, 1) := by decide +kernel
theorem dX7_safest_0 : decode cX7_safest 0 = .ok (.iconst (-1), 1) := by decide +kernel
theorem dX7_safest_1 : decode cX7_safest 1 = .ok (.istore_n 1, 1) := by decide +kernel
theorem dX7_safest_2 : decode cX7_safest 2 = .ok (.iconst (-1), 1) := by decide +kernel
theorem dX7_safest_3 : decode cX7_safest 3 = .ok (.istore_n 2, 1) := by decide +kernel
theorem dX7_safest_4 : decode cX7_safest 4 = .ok (.iconst 0, 1) := by decide +kernel
theorem dX7_safest_5 : decode cX7_safest 5 = .ok (.istore_n 3, 1) := by decide +kernel
theorem dX7_safest_6 : decode cX7_safest 6 = .ok (.iload_n 3, 1) := by decide +kernel
theorem dX7_safest_7 : decode cX7_safest 7 = .ok (.aload_n 0, 1) := by decide +kernel
theorem dX7_safest_8 : decode cX7_safest 8 = .ok (.invokevirtual 233, 3) := by decide +kernel
theorem dX7_safest_11 : decode cX7_safest 11 = .ok (.if_icmp .ge 49, 3) := by decide +kernel
theorem dX7_safest_14 : decode cX7_safest 14 = .ok (.aload_n 0, 1) := by decide +kernel
theorem dX7_safest_15 : decode cX7_safest 15 = .ok (.aload_n 0, 1) := by decide +kernel
theorem dX7_safest_16 : decode cX7_safest 16 = .ok (.getfield 28, 3) := by decide +kernel
theorem dX7_safest_19 : decode cX7_safest 19 = .ok (.iload_n 3, 1) := by decide +kernel
theorem dX7_safest_20 : decode cX7_safest 20 = .ok (.invokevirtual 236, 3) := by decide +kernel
theorem dX7_safest_23 : decode cX7_safest 23 = .ok (.invokevirtual 315, 3) := by decide +kernel
theorem dX7_safest_26 : decode cX7_safest 26 = .ok (.aload_n 0, 1) := by decide +kernel
theorem dX7_safest_27 : decode cX7_safest 27 = .ok (.getfield 55, 3) := by decide +kernel
theorem dX7_safest_30 : decode cX7_safest 30 = .ok (.getfield 321, 3) := by decide +kernel
theorem dX7_safest_33 : decode cX7_safest 33 = .ok (.iload_n 2, 1) := by decide +kernel
theorem dX7_safest_34 : decode cX7_safest 34 = .ok (.if_icmp .le 20, 3) := by decide +kernel
theorem dX7_safest_37 : decode cX7_safest 37 = .ok (.aload_n 0, 1) := by decide +kernel
theorem dX7_safest_38 : decode cX7_safest 38 = .ok (.getfield 55, 3) := by decide +kernel
theorem dX7_safest_41 : decode cX7_safest 41 = .ok (.getfield 321, 3) := by decide +kernel
theorem dX7_safest_44 : decode cX7_safest 44 = .ok (.istore_n 2, 1) := by decide +kernel
theorem dX7_safest_45 : decode cX7_safest 45 = .ok (.aload_n 0, 1) := by decide +kernel
theorem dX7_safest_46 : decode cX7_safest 46 = .ok (.getfield 28, 3) := by decide +kernel
theorem dX7_safest_49 : decode cX7_safest 49 = .ok (.iload_n 3, 1) := by decide +kernel
theorem dX7_safest_50 : decode cX7_safest 50 = .ok (.invokevirtual 236, 3) := by decide +kernel
theorem dX7_safest_53 : decode cX7_safest 53 = .ok (.istore_n 1, 1) := by decide +kernel
theorem dX7_safest_54 : decode cX7_safest 54 = .ok (.iinc 3 1, 3) := by decide +kernel
theorem dX7_safest_57 : decode cX7_safest 57 = .ok (.goto (-51), 3) := by decide +kernel
theorem dX7_safest_60 : decode cX7_safest 60 = .ok (.iload_n 1, 1) := by decide +kernel
theorem dX7_safest_61 : decode cX7_safest 61 = .ok (.ireturn, 1) := by decide +kernel
theorem dX7_odds_0 : decode cX7_odds 0 = .ok (.iload_n 1, 1) := by decide +kernel
theorem dX7_odds_1 : decode cX7_odds 1 = .ok (.iconst 0, 1) := by decide +kernel
theorem dX7_odds_2 : decode cX7_odds 2 = .ok (.iconst 3, 1) := by decide +kernel
theorem dX7_odds_3 : decode cX7_odds 3 = .ok (.invokestatic 99, 3) := by decide +kernel
theorem dX7_odds_6 : decode cX7_odds 6 = .ok (.ifCond .eq 12, 3) := by decide +kernel
theorem dX7_odds_9 : decode cX7_odds 9 = .ok (.iload_n 2, 1) := by decide +kernel
theorem dX7_odds_10 : decode cX7_odds 10 = .ok (.iconst 0, 1) := by decide +kernel
theorem dX7_odds_11 : decode cX7_odds 11 = .ok (.iconst 1, 1) := by decide +kernel
theorem dX7_odds_12 : decode cX7_odds 12 = .ok (.invokestatic 99, 3) := by decide +kernel
theorem dX7_odds_15 : decode cX7_odds 15 = .ok (.ifCond .ne 10, 3) := by decide +kernel
theorem dX7_odds_18 : decode cX7_odds 18 = .ok (.aload_n 0, 1) := by decide +kernel
theorem dX7_odds_19 : decode cX7_odds 19 = .ok (.bipush (-2), 2) := by decide +kernel
theorem dX7_odds_21 : decode cX7_odds 21 = .ok (.invokevirtual 103, 3) := by decide +kernel
theorem dX7_odds_24 : decode cX7_odds 24 = .ok (.ireturn, 1) := by decide +kernel
theorem dX7_odds_25 : decode cX7_odds 25 = .ok (.aload_n 0, 1) := by decide +kernel
theorem dX7_odds_26 : decode cX7_odds 26 = .ok (.getfield 28, 3) := by decide +kernel
theorem dX7_odds_29 : decode cX7_odds 29 = .ok (.getfield 303, 3) := by decide +kernel
theorem dX7_odds_32 : decode cX7_odds 32 = .ok (.ifCond .gt 10, 3) := by decide +kernel
theorem dX7_odds_35 : decode cX7_odds 35 = .ok (.aload_n 0, 1) := by decide +kernel
theorem dX7_odds_36 : decode cX7_odds 36 = .ok (.bipush (-5), 2) := by decide +kernel
theorem dX7_odds_38 : decode cX7_odds 38 = .ok (.invokevirtual 103, 3) := by decide +kernel
theorem dX7_odds_41 : decode cX7_odds 41 = .ok (.ireturn, 1) := by decide +kernel
theorem dX7_odds_42 : decode cX7_odds 42 = .ok (.iconst 1, 1) := by decide +kernel
theorem dX7_odds_43 : decode cX7_odds 43 = .ok (.istore_n 3, 1) := by decide +kernel
theorem dX7_odds_44 : decode cX7_odds 44 = .ok (.iconst 0, 1) := by decide +kernel
theorem dX7_odds_45 : decode cX7_odds 45 = .ok (.istore 4, 2) := by decide +kernel
theorem dX7_odds_47 : decode cX7_odds 47 = .ok (.iload 4, 2) := by decide +kernel
theorem dX7_odds_49 : decode cX7_odds 49 = .ok (.iload_n 1, 1) := by decide +kernel
theorem dX7_odds_50 : decode cX7_odds 50 = .ok (.if_icmp .ge 19, 3) := by decide +kernel
theorem dX7_odds_53 : decode cX7_odds 53 = .ok (.iload_n 3, 1) := by decide +kernel
theorem dX7_odds_54 : decode cX7_odds 54 = .ok (.aload_n 0, 1) := by decide +kernel
theorem dX7_odds_55 : decode cX7_odds 55 = .ok (.getfield 28, 3) := by decide +kernel
theorem dX7_odds_58 : decode cX7_odds 58 = .ok (.getfield 303, 3) := by decide +kernel
theorem dX7_odds_61 : decode cX7_odds 61 = .ok (.imul, 1) := by decide +kernel
theorem dX7_odds_62 : decode cX7_odds 62 = .ok (.istore_n 3, 1) := by decide +kernel
theorem dX7_odds_63 : decode cX7_odds 63 = .ok (.iinc 4 1, 3) := by decide +kernel
theorem dX7_odds_66 : decode cX7_odds 66 = .ok (.goto (-19), 3) := by decide +kernel
theorem dX7_odds_69 : decode cX7_odds 69 = .ok (.iload_n 2, 1) := by decide +kernel
theorem dX7_odds_70 : decode cX7_odds 70 = .ok (.ifCond .ne 12, 3) := by decide +kernel
theorem dX7_odds_73 : decode cX7_odds 73 = .ok (.aload_n 0, 1) := by decide +kernel
theorem dX7_odds_74 : decode cX7_odds 74 = .ok (.iload_n 1, 1) := by decide +kernel
theorem dX7_odds_75 : decode cX7_odds 75 = .ok (.iload_n 3, 1) := by decide +kernel
theorem dX7_odds_76 : decode cX7_odds 76 = .ok (.invokevirtual 324, 3) := by decide +kernel
theorem dX7_odds_79 : decode cX7_odds 79 = .ok (.goto 9, 3) := by decide +kernel
theorem dX7_odds_82 : decode cX7_odds 82 = .ok (.aload_n 0, 1) := by decide +kernel
theorem dX7_odds_83 : decode cX7_odds 83 = .ok (.iload_n 1, 1) := by decide +kernel
theorem dX7_odds_84 : decode cX7_odds 84 = .ok (.iload_n 3, 1) := by decide +kernel
theorem dX7_odds_85 : decode cX7_odds 85 = .ok (.invokevirtual 327, 3) := by decide +kernel
theorem dX7_odds_88 : decode cX7_odds 88 = .ok (.ireturn, 1) := by decide +kernel
theorem dX7_flees_0 : decode cX7_flees 0 = .ok (.aload_n 0, 1) := by decide +kernel
theorem dX7_flees_1 : decode cX7_flees 1 = .ok (.getfield 28, 3) := by decide +kernel
theorem dX7_flees_4 : decode cX7_flees 4 = .ok (.iload_n 1, 1) := by decide +kernel
theorem dX7_flees_5 : decode cX7_flees 5 = .ok (.invokevirtual 146, 3) := by decide +kernel
theorem dX7_flees_8 : decode cX7_flees 8 = .ok (.ifCond .ne 10, 3) := by decide +kernel
theorem dX7_flees_11 : decode cX7_flees 11 = .ok (.aload_n 0, 1) := by decide +kernel
theorem dX7_flees_12 : decode cX7_flees 12 = .ok (.bipush (-2), 2) := by decide +kernel
theorem dX7_flees_14 : decode cX7_flees 14 = .ok (.invokevirtual 103, 3) := by decide +kernel
theorem dX7_flees_17 : decode cX7_flees 17 = .ok (.ireturn, 1) := by decide +kernel
theorem dX7_flees_18 : decode cX7_flees 18 = .ok (.aload_n 0, 1) := by decide +kernel
theorem dX7_flees_19 : decode cX7_flees 19 = .ok (.getfield 16, 3) := by decide +kernel
theorem dX7_flees_22 : decode cX7_flees 22 = .ok (.aload_n 0, 1) := by decide +kernel
theorem dX7_flees_23 : decode cX7_flees 23 = .ok (.getfield 10, 3) := by decide +kernel
theorem dX7_flees_26 : decode cX7_flees 26 = .ok (.invokevirtual 193, 3) := by decide +kernel
theorem dX7_flees_29 : decode cX7_flees 29 = .ok (.iconst 0, 1) := by decide +kernel
theorem dX7_flees_30 : decode cX7_flees 30 = .ok (.istore_n 2, 1) := by decide +kernel
theorem dX7_flees_31 : decode cX7_flees 31 = .ok (.iload_n 2, 1) := by decide +kernel
theorem dX7_flees_32 : decode cX7_flees 32 = .ok (.bipush 99, 2) := by decide +kernel
theorem dX7_flees_34 : decode cX7_flees 34 = .ok (.if_icmp .gt 34, 3) := by decide +kernel
theorem dX7_flees_37 : decode cX7_flees 37 = .ok (.aload_n 0, 1) := by decide +kernel
theorem dX7_flees_38 : decode cX7_flees 38 = .ok (.getfield 16, 3) := by decide +kernel
theorem dX7_flees_41 : decode cX7_flees 41 = .ok (.iload_n 2, 1) := by decide +kernel
theorem dX7_flees_42 : decode cX7_flees 42 = .ok (.putfield 330, 3) := by decide +kernel
theorem dX7_flees_45 : decode cX7_flees 45 = .ok (.aload_n 0, 1) := by decide +kernel
theorem dX7_flees_46 : decode cX7_flees 46 = .ok (.getfield 28, 3) := by decide +kernel
theorem dX7_flees_49 : decode cX7_flees 49 = .ok (.iload_n 1, 1) := by decide +kernel
theorem dX7_flees_50 : decode cX7_flees 50 = .ok (.aload_n 0, 1) := by decide +kernel
theorem dX7_flees_51 : decode cX7_flees 51 = .ok (.getfield 16, 3) := by decide +kernel
theorem dX7_flees_54 : decode cX7_flees 54 = .ok (.invokevirtual 213, 3) := by decide +kernel
theorem dX7_flees_57 : decode cX7_flees 57 = .ok (.ifCond .ne 5, 3) := by decide +kernel
theorem dX7_flees_60 : decode cX7_flees 60 = .ok (.iload_n 2, 1) := by decide +kernel
theorem dX7_flees_61 : decode cX7_flees 61 = .ok (.ireturn, 1) := by decide +kernel
theorem dX7_flees_62 : decode cX7_flees 62 = .ok (.iinc 2 1, 3) := by decide +kernel
theorem dX7_flees_65 : decode cX7_flees 65 = .ok (.goto (-34), 3) := by decide +kernel
theorem dX7_flees_68 : decode cX7_flees 68 = .ok (.iconst (-1), 1) := by decide +kernel
theorem dX7_flees_69 : decode cX7_flees 69 = .ok (.ireturn, 1) := by decide +kernel
theorem dX7_needs_0 : decode cX7_needs 0 = .ok (.aload_n 0, 1) := by decide +kernel
theorem dX7_needs_1 : decode cX7_needs 1 = .ok (.getfield 28, 3) := by decide +kernel
theorem dX7_needs_4 : decode cX7_needs 4 = .ok (.iload_n 1, 1) := by decide +kernel
theorem dX7_needs_5 : decode cX7_needs 5 = .ok (.invokevirtual 146, 3) := by decide +kernel
theorem dX7_needs_8 : decode cX7_needs 8 = .ok (.ifCond .ne 10, 3) := by decide +kernel
theorem dX7_needs_11 : decode cX7_needs 11 = .ok (.aload_n 0, 1) := by decide +kernel
theorem dX7_needs_12 : decode cX7_needs 12 = .ok (.bipush (-2), 2) := by decide +kernel
theorem dX7_needs_14 : decode cX7_needs 14 = .ok (.invokevirtual 103, 3) := by decide +kernel
theorem dX7_needs_17 : decode cX7_needs 17 = .ok (.ireturn, 1) := by decide +kernel
theorem dX7_needs_18 : decode cX7_needs 18 = .ok (.aload_n 0, 1) := by decide +kernel
theorem dX7_needs_19 : decode cX7_needs 19 = .ok (.getfield 32, 3) := by decide +kernel
theorem dX7_needs_22 : decode cX7_needs 22 = .ok (.aload_n 0, 1) := by decide +kernel
theorem dX7_needs_23 : decode cX7_needs 23 = .ok (.getfield 28, 3) := by decide +kernel
theorem dX7_needs_26 : decode cX7_needs 26 = .ok (.invokevirtual 197, 3) := by decide +kernel
theorem dX7_needs_29 : decode cX7_needs 29 = .ok (.iconst 0, 1) := by decide +kernel
theorem dX7_needs_30 : decode cX7_needs 30 = .ok (.istore_n 2, 1) := by decide +kernel
theorem dX7_needs_31 : decode cX7_needs 31 = .ok (.iload_n 2, 1) := by decide +kernel
theorem dX7_needs_32 : decode cX7_needs 32 = .ok (.bipush 40, 2) := by decide +kernel
theorem dX7_needs_34 : decode cX7_needs 34 = .ok (.if_icmp .gt 35, 3) := by decide +kernel
theorem dX7_needs_37 : decode cX7_needs 37 = .ok (.aload_n 0, 1) := by decide +kernel
theorem dX7_needs_38 : decode cX7_needs 38 = .ok (.getfield 32, 3) := by decide +kernel
theorem dX7_needs_41 : decode cX7_needs 41 = .ok (.iload_n 1, 1) := by decide +kernel
theorem dX7_needs_42 : decode cX7_needs 42 = .ok (.iload_n 2, 1) := by decide +kernel
theorem dX7_needs_43 : decode cX7_needs 43 = .ok (.invokevirtual 174, 3) := by decide +kernel
theorem dX7_needs_46 : decode cX7_needs 46 = .ok (.aload_n 0, 1) := by decide +kernel
theorem dX7_needs_47 : decode cX7_needs 47 = .ok (.getfield 32, 3) := by decide +kernel
theorem dX7_needs_50 : decode cX7_needs 50 = .ok (.iload_n 1, 1) := by decide +kernel
theorem dX7_needs_51 : decode cX7_needs 51 = .ok (.aload_n 0, 1) := by decide +kernel
theorem dX7_needs_52 : decode cX7_needs 52 = .ok (.getfield 10, 3) := by decide +kernel
theorem dX7_needs_55 : decode cX7_needs 55 = .ok (.invokevirtual 213, 3) := by decide +kernel
theorem dX7_needs_58 : decode cX7_needs 58 = .ok (.ifCond .eq 5, 3) := by decide +kernel
theorem dX7_needs_61 : decode cX7_needs 61 = .ok (.iload_n 2, 1) := by decide +kernel
theorem dX7_needs_62 : decode cX7_needs 62 = .ok (.ireturn, 1) := by decide +kernel
theorem dX7_needs_63 : decode cX7_needs 63 = .ok (.iinc 2 1, 3) := by decide +kernel
theorem dX7_needs_66 : decode cX7_needs 66 = .ok (.goto (-35), 3) := by decide +kernel
theorem dX7_needs_69 : decode cX7_needs 69 = .ok (.iconst (-1), 1) := by decide +kernel
theorem dX7_needs_70 : decode cX7_needs 70 = .ok (.ireturn, 1) := by decide +kernel
theorem dX7_until_0 : decode cX7_until 0 = .ok (.aload_n 0, 1) := by decide +kernel
theorem dX7_until_1 : decode cX7_until 1 = .ok (.iload_n 1, 1) := by decide +kernel
theorem dX7_until_2 : decode cX7_until 2 = .ok (.i2l, 1) := by decide +kernel
theorem dX7_until_3 : decode cX7_until 3 = .ok (.invokevirtual 221, 3) := by decide +kernel
theorem dX7_until_6 : decode cX7_until 6 = .ok (.ifCond .eq 13, 3) := by decide +kernel
theorem dX7_until_9 : decode cX7_until 9 = .ok (.iload_n 2, 1) := by decide +kernel
theorem dX7_until_10 : decode cX7_until 10 = .ok (.iconst 0, 1) := by decide +kernel
theorem dX7_until_11 : decode cX7_until 11 = .ok (.bipush 99, 2) := by decide +kernel
theorem dX7_until_13 : decode cX7_until 13 = .ok (.invokestatic 99, 3) := by decide +kernel
theorem dX7_until_16 : decode cX7_until 16 = .ok (.ifCond .ne 10, 3) := by decide +kernel
theorem dX7_until_19 : decode cX7_until 19 = .ok (.aload_n 0, 1) := by decide +kernel
theorem dX7_until_20 : decode cX7_until 20 = .ok (.bipush (-2), 2) := by decide +kernel
theorem dX7_until_22 : decode cX7_until 22 = .ok (.invokevirtual 103, 3) := by decide +kernel
theorem dX7_until_25 : decode cX7_until 25 = .ok (.ireturn, 1) := by decide +kernel
theorem dX7_until_26 : decode cX7_until 26 = .ok (.aload_n 0, 1) := by decide +kernel
theorem dX7_until_27 : decode cX7_until 27 = .ok (.getfield 16, 3) := by decide +kernel
theorem dX7_until_30 : decode cX7_until 30 = .ok (.aload_n 0, 1) := by decide +kernel
theorem dX7_until_31 : decode cX7_until 31 = .ok (.getfield 10, 3) := by decide +kernel
theorem dX7_until_34 : decode cX7_until 34 = .ok (.invokevirtual 193, 3) := by decide +kernel
theorem dX7_until_37 : decode cX7_until 37 = .ok (.iconst 0, 1) := by decide +kernel
theorem dX7_until_38 : decode cX7_until 38 = .ok (.istore_n 3, 1) := by decide +kernel
theorem dX7_until_39 : decode cX7_until 39 = .ok (.iload_n 3, 1) := by decide +kernel
theorem dX7_until_40 : decode cX7_until 40 = .ok (.sipush 200, 3) := by decide +kernel
theorem dX7_until_43 : decode cX7_until 43 = .ok (.if_icmp .gt 34, 3) := by decide +kernel
theorem dX7_until_46 : decode cX7_until 46 = .ok (.aload_n 0, 1) := by decide +kernel
theorem dX7_until_47 : decode cX7_until 47 = .ok (.getfield 16, 3) := by decide +kernel
theorem dX7_until_50 : decode cX7_until 50 = .ok (.getfield 330, 3) := by decide +kernel
theorem dX7_until_53 : decode cX7_until 53 = .ok (.iload_n 2, 1) := by decide +kernel
theorem dX7_until_54 : decode cX7_until 54 = .ok (.if_icmp .gt 5, 3) := by decide +kernel
theorem dX7_until_57 : decode cX7_until 57 = .ok (.iload_n 3, 1) := by decide +kernel
theorem dX7_until_58 : decode cX7_until 58 = .ok (.ireturn, 1) := by decide +kernel
theorem dX7_until_59 : decode cX7_until 59 = .ok (.aload_n 0, 1) := by decide +kernel
theorem dX7_until_60 : decode cX7_until 60 = .ok (.getfield 16, 3) := by decide +kernel
theorem dX7_until_63 : decode cX7_until 63 = .ok (.iload_n 1, 1) := by decide +kernel
theorem dX7_until_64 : decode cX7_until 64 = .ok (.aload_n 0, 1) := by decide +kernel
theorem dX7_until_65 : decode cX7_until 65 = .ok (.getfield 28, 3) := by decide +kernel
theorem dX7_until_68 : decode cX7_until 68 = .ok (.invokevirtual 307, 3) := by decide +kernel
theorem dX7_until_71 : decode cX7_until 71 = .ok (.iinc 3 1, 3) := by decide +kernel
theorem dX7_until_74 : decode cX7_until 74 = .ok (.goto (-35), 3) := by decide +kernel
theorem dX7_until_77 : decode cX7_until 77 = .ok (.iconst (-1), 1) := by decide +kernel
theorem dX7_until_78 : decode cX7_until 78 = .ok (.ireturn, 1) := by decide +kernel
theorem dX7_first_0 : decode cX7_first 0 = .ok (.aload_n 0, 1) := by decide +kernel
theorem dX7_first_1 : decode cX7_first 1 = .ok (.iload_n 1, 1) := by decide +kernel
theorem dX7_first_2 : decode cX7_first 2 = .ok (.i2l, 1) := by decide +kernel
theorem dX7_first_3 : decode cX7_first 3 = .ok (.invokevirtual 221, 3) := by decide +kernel
theorem dX7_first_6 : decode cX7_first 6 = .ok (.ifCond .eq 12, 3) := by decide +kernel
theorem dX7_first_9 : decode cX7_first 9 = .ok (.aload_n 0, 1) := by decide +kernel
theorem dX7_first_10 : decode cX7_first 10 = .ok (.iload_n 2, 1) := by decide +kernel
theorem dX7_first_11 : decode cX7_first 11 = .ok (.i2l, 1) := by decide +kernel
theorem dX7_first_12 : decode cX7_first 12 = .ok (.invokevirtual 221, 3) := by decide +kernel
theorem dX7_first_15 : decode cX7_first 15 = .ok (.ifCond .ne 10, 3) := by decide +kernel
theorem dX7_first_18 : decode cX7_first 18 = .ok (.aload_n 0, 1) := by decide +kernel
theorem dX7_first_19 : decode cX7_first 19 = .ok (.bipush (-2), 2) := by decide +kernel
theorem dX7_first_21 : decode cX7_first 21 = .ok (.invokevirtual 103, 3) := by decide +kernel
theorem dX7_first_24 : decode cX7_first 24 = .ok (.ireturn, 1) := by decide +kernel
theorem dX7_first_25 : decode cX7_first 25 = .ok (.aload_n 0, 1) := by decide +kernel
theorem dX7_first_26 : decode cX7_first 26 = .ok (.getfield 16, 3) := by decide +kernel
theorem dX7_first_29 : decode cX7_first 29 = .ok (.aload_n 0, 1) := by decide +kernel
theorem dX7_first_30 : decode cX7_first 30 = .ok (.getfield 10, 3) := by decide +kernel
theorem dX7_first_33 : decode cX7_first 33 = .ok (.invokevirtual 193, 3) := by decide +kernel
theorem dX7_first_36 : decode cX7_first 36 = .ok (.aload_n 0, 1) := by decide +kernel
theorem dX7_first_37 : decode cX7_first 37 = .ok (.getfield 16, 3) := by decide +kernel
theorem dX7_first_40 : decode cX7_first 40 = .ok (.iload_n 1, 1) := by decide +kernel
theorem dX7_first_41 : decode cX7_first 41 = .ok (.aload_n 0, 1) := by decide +kernel
theorem dX7_first_42 : decode cX7_first 42 = .ok (.getfield 28, 3) := by decide +kernel
theorem dX7_first_45 : decode cX7_first 45 = .ok (.invokevirtual 307, 3) := by decide +kernel
theorem dX7_first_48 : decode cX7_first 48 = .ok (.aload_n 0, 1) := by decide +kernel
theorem dX7_first_49 : decode cX7_first 49 = .ok (.getfield 16, 3) := by decide +kernel
theorem dX7_first_52 : decode cX7_first 52 = .ok (.iload_n 2, 1) := by decide +kernel
theorem dX7_first_53 : decode cX7_first 53 = .ok (.aload_n 0, 1) := by decide +kernel
theorem dX7_first_54 : decode cX7_first 54 = .ok (.getfield 28, 3) := by decide +kernel
theorem dX7_first_57 : decode cX7_first 57 = .ok (.invokevirtual 307, 3) := by decide +kernel
theorem dX7_first_60 : decode cX7_first 60 = .ok (.aload_n 0, 1) := by decide +kernel
theorem dX7_first_61 : decode cX7_first 61 = .ok (.getfield 19, 3) := by decide +kernel
theorem dX7_first_64 : decode cX7_first 64 = .ok (.aload_n 0, 1) := by decide +kernel
theorem dX7_first_65 : decode cX7_first 65 = .ok (.getfield 10, 3) := by decide +kernel
theorem dX7_first_68 : decode cX7_first 68 = .ok (.invokevirtual 193, 3) := by decide +kernel
theorem dX7_first_71 : decode cX7_first 71 = .ok (.aload_n 0, 1) := by decide +kernel
theorem dX7_first_72 : decode cX7_first 72 = .ok (.getfield 19, 3) := by decide +kernel
theorem dX7_first_75 : decode cX7_first 75 = .ok (.iload_n 2, 1) := by decide +kernel
theorem dX7_first_76 : decode cX7_first 76 = .ok (.aload_n 0, 1) := by decide +kernel
theorem dX7_first_77 : decode cX7_first 77 = .ok (.getfield 28, 3) := by decide +kernel
theorem dX7_first_80 : decode cX7_first 80 = .ok (.invokevirtual 307, 3) := by decide +kernel
theorem dX7_first_83 : decode cX7_first 83 = .ok (.aload_n 0, 1) := by decide +kernel
theorem dX7_first_84 : decode cX7_first 84 = .ok (.getfield 19, 3) := by decide +kernel
theorem dX7_first_87 : decode cX7_first 87 = .ok (.iload_n 1, 1) := by decide +kernel
theorem dX7_first_88 : decode cX7_first 88 = .ok (.aload_n 0, 1) := by decide +kernel
theorem dX7_first_89 : decode cX7_first 89 = .ok (.getfield 28, 3) := by decide +kernel
theorem dX7_first_92 : decode cX7_first 92 = .ok (.invokevirtual 307, 3) := by decide +kernel
theorem dX7_first_95 : decode cX7_first 95 = .ok (.aload_n 0, 1) := by decide +kernel
theorem dX7_first_96 : decode cX7_first 96 = .ok (.getfield 16, 3) := by decide +kernel
theorem dX7_first_99 : decode cX7_first 99 = .ok (.getfield 330, 3) := by decide +kernel
theorem dX7_first_102 : decode cX7_first 102 = .ok (.aload_n 0, 1) := by decide +kernel
theorem dX7_first_103 : decode cX7_first 103 = .ok (.getfield 19, 3) := by decide +kernel
theorem dX7_first_106 : decode cX7_first 106 = .ok (.getfield 330, 3) := by decide +kernel
theorem dX7_first_109 : decode cX7_first 109 = .ok (.if_icmp .ne 5, 3) := by decide +kernel
theorem dX7_first_112 : decode cX7_first 112 = .ok (.iconst 2, 1) := by decide +kernel
theorem dX7_first_113 : decode cX7_first 113 = .ok (.ireturn, 1) := by decide +kernel
theorem dX7_first_114 : decode cX7_first 114 = .ok (.aload_n 0, 1) := by decide +kernel
theorem dX7_first_115 : decode cX7_first 115 = .ok (.getfield 16, 3) := by decide +kernel
theorem dX7_first_118 : decode cX7_first 118 = .ok (.getfield 330, 3) := by decide +kernel
theorem dX7_first_121 : decode cX7_first 121 = .ok (.aload_n 0, 1) := by decide +kernel
theorem dX7_first_122 : decode cX7_first 122 = .ok (.getfield 19, 3) := by decide +kernel
theorem dX7_first_125 : decode cX7_first 125 = .ok (.getfield 330, 3) := by decide +kernel
theorem dX7_first_128 : decode cX7_first 128 = .ok (.if_icmp .ge 7, 3) := by decide +kernel
theorem dX7_first_131 : decode cX7_first 131 = .ok (.iconst 0, 1) := by decide +kernel
theorem dX7_first_132 : decode cX7_first 132 = .ok (.goto 4, 3) := by decide +kernel
theorem dX7_first_135 : decode cX7_first 135 = .ok (.iconst 1, 1) := by decide +kernel
theorem dX7_first_136 : decode cX7_first 136 = .ok (.ireturn, 1) := by decide +kernel
theorem dX7_meetings_0 : decode cX7_meetings 0 = .ok (.aload_n 0, 1) := by decide +kernel
theorem dX7_meetings_1 : decode cX7_meetings 1 = .ok (.getfield 16, 3) := by decide +kernel
theorem dX7_meetings_4 : decode cX7_meetings 4 = .ok (.aload_n 0, 1) := by decide +kernel
theorem dX7_meetings_5 : decode cX7_meetings 5 = .ok (.getfield 10, 3) := by decide +kernel
theorem dX7_meetings_8 : decode cX7_meetings 8 = .ok (.invokevirtual 193, 3) := by decide +kernel
theorem dX7_meetings_11 : decode cX7_meetings 11 = .ok (.iconst 0, 1) := by decide +kernel
theorem dX7_meetings_12 : decode cX7_meetings 12 = .ok (.istore_n 1, 1) := by decide +kernel
theorem dX7_meetings_13 : decode cX7_meetings 13 = .ok (.iload_n 1, 1) := by decide +kernel
theorem dX7_meetings_14 : decode cX7_meetings 14 = .ok (.sipush 200, 3) := by decide +kernel
theorem dX7_meetings_17 : decode cX7_meetings 17 = .ok (.if_icmp .gt 41, 3) := by decide +kernel
theorem dX7_meetings_20 : decode cX7_meetings 20 = .ok (.aload_n 0, 1) := by decide +kernel
theorem dX7_meetings_21 : decode cX7_meetings 21 = .ok (.getfield 16, 3) := by decide +kernel
theorem dX7_meetings_24 : decode cX7_meetings 24 = .ok (.getfield 330, 3) := by decide +kernel
theorem dX7_meetings_27 : decode cX7_meetings 27 = .ok (.aload_n 0, 1) := by decide +kernel
theorem dX7_meetings_28 : decode cX7_meetings 28 = .ok (.getfield 16, 3) := by decide +kernel
theorem dX7_meetings_31 : decode cX7_meetings 31 = .ok (.getfield 239, 3) := by decide +kernel
theorem dX7_meetings_34 : decode cX7_meetings 34 = .ok (.if_icmp .gt 5, 3) := by decide +kernel
theorem dX7_meetings_37 : decode cX7_meetings 37 = .ok (.iload_n 1, 1) := by decide +kernel
theorem dX7_meetings_38 : decode cX7_meetings 38 = .ok (.ireturn, 1) := by decide +kernel
theorem dX7_meetings_39 : decode cX7_meetings 39 = .ok (.aload_n 0, 1) := by decide +kernel
theorem dX7_meetings_40 : decode cX7_meetings 40 = .ok (.getfield 16, 3) := by decide +kernel
theorem dX7_meetings_43 : decode cX7_meetings 43 = .ok (.bipush 10, 2) := by decide +kernel
theorem dX7_meetings_45 : decode cX7_meetings 45 = .ok (.aload_n 0, 1) := by decide +kernel
theorem dX7_meetings_46 : decode cX7_meetings 46 = .ok (.getfield 28, 3) := by decide +kernel
theorem dX7_meetings_49 : decode cX7_meetings 49 = .ok (.invokevirtual 307, 3) := by decide +kernel
theorem dX7_meetings_52 : decode cX7_meetings 52 = .ok (.iinc 1 1, 3) := by decide +kernel
theorem dX7_meetings_55 : decode cX7_meetings 55 = .ok (.goto (-42), 3) := by decide +kernel
theorem dX7_meetings_58 : decode cX7_meetings 58 = .ok (.iconst (-1), 1) := by decide +kernel
theorem dX7_meetings_59 : decode cX7_meetings 59 = .ok (.ireturn, 1) := by decide +kernel
theorem dX7_byTurns_0 : decode cX7_byTurns 0 = .ok (.aload_n 0, 1) := by decide +kernel
theorem dX7_byTurns_1 : decode cX7_byTurns 1 = .ok (.getfield 28, 3) := by decide +kernel
theorem dX7_byTurns_4 : decode cX7_byTurns 4 = .ok (.iload_n 1, 1) := by decide +kernel
theorem dX7_byTurns_5 : decode cX7_byTurns 5 = .ok (.invokevirtual 146, 3) := by decide +kernel
theorem dX7_byTurns_8 : decode cX7_byTurns 8 = .ok (.ifCond .eq 13, 3) := by decide +kernel
theorem dX7_byTurns_11 : decode cX7_byTurns 11 = .ok (.iload_n 2, 1) := by decide +kernel
theorem dX7_byTurns_12 : decode cX7_byTurns 12 = .ok (.iconst 0, 1) := by decide +kernel
theorem dX7_byTurns_13 : decode cX7_byTurns 13 = .ok (.bipush 48, 2) := by decide +kernel
theorem dX7_byTurns_15 : decode cX7_byTurns 15 = .ok (.invokestatic 99, 3) := by decide +kernel
theorem dX7_byTurns_18 : decode cX7_byTurns 18 = .ok (.ifCond .ne 10, 3) := by decide +kernel
theorem dX7_byTurns_21 : decode cX7_byTurns 21 = .ok (.aload_n 0, 1) := by decide +kernel
theorem dX7_byTurns_22 : decode cX7_byTurns 22 = .ok (.bipush (-2), 2) := by decide +kernel
theorem dX7_byTurns_24 : decode cX7_byTurns 24 = .ok (.invokevirtual 103, 3) := by decide +kernel
theorem dX7_byTurns_27 : decode cX7_byTurns 27 = .ok (.ireturn, 1) := by decide +kernel
theorem dX7_byTurns_28 : decode cX7_byTurns 28 = .ok (.aload_n 0, 1) := by decide +kernel
theorem dX7_byTurns_29 : decode cX7_byTurns 29 = .ok (.iload_n 1, 1) := by decide +kernel
theorem dX7_byTurns_30 : decode cX7_byTurns 30 = .ok (.iload_n 2, 1) := by decide +kernel
theorem dX7_byTurns_31 : decode cX7_byTurns 31 = .ok (.invokevirtual 333, 3) := by decide +kernel
theorem dX7_byTurns_34 : decode cX7_byTurns 34 = .ok (.aload_n 0, 1) := by decide +kernel
theorem dX7_byTurns_35 : decode cX7_byTurns 35 = .ok (.getfield 55, 3) := by decide +kernel
theorem dX7_byTurns_38 : decode cX7_byTurns 38 = .ok (.getfield 256, 3) := by decide +kernel
theorem dX7_byTurns_41 : decode cX7_byTurns 41 = .ok (.getfield 330, 3) := by decide +kernel
theorem dX7_byTurns_44 : decode cX7_byTurns 44 = .ok (.ireturn, 1) := by decide +kernel
theorem dX7_harms_0 : decode cX7_harms 0 = .ok (.aload_n 0, 1) := by decide +kernel
theorem dX7_harms_1 : decode cX7_harms 1 = .ok (.getfield 28, 3) := by decide +kernel
theorem dX7_harms_4 : decode cX7_harms 4 = .ok (.iload_n 1, 1) := by decide +kernel
theorem dX7_harms_5 : decode cX7_harms 5 = .ok (.invokevirtual 146, 3) := by decide +kernel
theorem dX7_harms_8 : decode cX7_harms 8 = .ok (.ifCond .eq 13, 3) := by decide +kernel
theorem dX7_harms_11 : decode cX7_harms 11 = .ok (.iload_n 2, 1) := by decide +kernel
theorem dX7_harms_12 : decode cX7_harms 12 = .ok (.iconst 0, 1) := by decide +kernel
theorem dX7_harms_13 : decode cX7_harms 13 = .ok (.bipush 48, 2) := by decide +kernel
theorem dX7_harms_15 : decode cX7_harms 15 = .ok (.invokestatic 99, 3) := by decide +kernel
theorem dX7_harms_18 : decode cX7_harms 18 = .ok (.ifCond .ne 10, 3) := by decide +kernel
theorem dX7_harms_21 : decode cX7_harms 21 = .ok (.aload_n 0, 1) := by decide +kernel
theorem dX7_harms_22 : decode cX7_harms 22 = .ok (.bipush (-2), 2) := by decide +kernel
theorem dX7_harms_24 : decode cX7_harms 24 = .ok (.invokevirtual 103, 3) := by decide +kernel
theorem dX7_harms_27 : decode cX7_harms 27 = .ok (.ireturn, 1) := by decide +kernel
theorem dX7_harms_28 : decode cX7_harms 28 = .ok (.aload_n 0, 1) := by decide +kernel
theorem dX7_harms_29 : decode cX7_harms 29 = .ok (.iload_n 1, 1) := by decide +kernel
theorem dX7_harms_30 : decode cX7_harms 30 = .ok (.iload_n 2, 1) := by decide +kernel
theorem dX7_harms_31 : decode cX7_harms 31 = .ok (.invokevirtual 333, 3) := by decide +kernel
theorem dX7_harms_34 : decode cX7_harms 34 = .ok (.aload_n 0, 1) := by decide +kernel
theorem dX7_harms_35 : decode cX7_harms 35 = .ok (.getfield 55, 3) := by decide +kernel
theorem dX7_harms_38 : decode cX7_harms 38 = .ok (.getfield 250, 3) := by decide +kernel
theorem dX7_harms_41 : decode cX7_harms 41 = .ok (.ireturn, 1) := by decide +kernel
theorem dX7_starts_0 : decode cX7_starts 0 = .ok (.aload_n 0, 1) := by decide +kernel
theorem dX7_starts_1 : decode cX7_starts 1 = .ok (.getfield 28, 3) := by decide +kernel
theorem dX7_starts_4 : decode cX7_starts 4 = .ok (.getfield 303, 3) := by decide +kernel
theorem dX7_starts_7 : decode cX7_starts 7 = .ok (.ifCond .gt 10, 3) := by decide +kernel
theorem dX7_starts_10 : decode cX7_starts 10 = .ok (.aload_n 0, 1) := by decide +kernel
theorem dX7_starts_11 : decode cX7_starts 11 = .ok (.bipush (-5), 2) := by decide +kernel
theorem dX7_starts_13 : decode cX7_starts 13 = .ok (.invokevirtual 103, 3) := by decide +kernel
theorem dX7_starts_16 : decode cX7_starts 16 = .ok (.ireturn, 1) := by decide +kernel
theorem dX7_starts_17 : decode cX7_starts 17 = .ok (.iconst (-1), 1) := by decide +kernel
theorem dX7_starts_18 : decode cX7_starts 18 = .ok (.istore_n 1, 1) := by decide +kernel
theorem dX7_starts_19 : decode cX7_starts 19 = .ok (.ldc 232, 2) := by decide +kernel
theorem dX7_starts_21 : decode cX7_starts 21 = .ok (.istore_n 2, 1) := by decide +kernel
theorem dX7_starts_22 : decode cX7_starts 22 = .ok (.iconst 0, 1) := by decide +kernel
theorem dX7_starts_23 : decode cX7_starts 23 = .ok (.istore_n 3, 1) := by decide +kernel
theorem dX7_starts_24 : decode cX7_starts 24 = .ok (.iload_n 3, 1) := by decide +kernel
theorem dX7_starts_25 : decode cX7_starts 25 = .ok (.aload_n 0, 1) := by decide +kernel
theorem dX7_starts_26 : decode cX7_starts 26 = .ok (.getfield 28, 3) := by decide +kernel
theorem dX7_starts_29 : decode cX7_starts 29 = .ok (.getfield 303, 3) := by decide +kernel
theorem dX7_starts_32 : decode cX7_starts 32 = .ok (.if_icmp .ge 37, 3) := by decide +kernel
theorem dX7_starts_35 : decode cX7_starts 35 = .ok (.aload_n 0, 1) := by decide +kernel
theorem dX7_starts_36 : decode cX7_starts 36 = .ok (.iload_n 3, 1) := by decide +kernel
theorem dX7_starts_37 : decode cX7_starts 37 = .ok (.bipush 24, 2) := by decide +kernel
theorem dX7_starts_39 : decode cX7_starts 39 = .ok (.invokevirtual 333, 3) := by decide +kernel
theorem dX7_starts_42 : decode cX7_starts 42 = .ok (.aload_n 0, 1) := by decide +kernel
theorem dX7_starts_43 : decode cX7_starts 43 = .ok (.getfield 55, 3) := by decide +kernel
theorem dX7_starts_46 : decode cX7_starts 46 = .ok (.getfield 250, 3) := by decide +kernel
theorem dX7_starts_49 : decode cX7_starts 49 = .ok (.iload_n 2, 1) := by decide +kernel
theorem dX7_starts_50 : decode cX7_starts 50 = .ok (.if_icmp .ge 13, 3) := by decide +kernel
theorem dX7_starts_53 : decode cX7_starts 53 = .ok (.aload_n 0, 1) := by decide +kernel
theorem dX7_starts_54 : decode cX7_starts 54 = .ok (.getfield 55, 3) := by decide +kernel
theorem dX7_starts_57 : decode cX7_starts 57 = .ok (.getfield 250, 3) := by decide +kernel
theorem dX7_starts_60 : decode cX7_starts 60 = .ok (.istore_n 2, 1) := by decide +kernel
theorem dX7_starts_61 : decode cX7_starts 61 = .ok (.iload_n 3, 1) := by decide +kernel
theorem dX7_starts_62 : decode cX7_starts 62 = .ok (.istore_n 1, 1) := by decide +kernel
theorem dX7_starts_63 : decode cX7_starts 63 = .ok (.iinc 3 1, 3) := by decide +kernel
theorem dX7_starts_66 : decode cX7_starts 66 = .ok (.goto (-42), 3) := by decide +kernel
theorem dX7_starts_69 : decode cX7_starts 69 = .ok (.iload_n 1, 1) := by decide +kernel
theorem dX7_starts_70 : decode cX7_starts 70 = .ok (.ireturn, 1) := by decide +kernel
theorem dX7_of_0 : decode cX7_of 0 = .ok (.iload_n 1, 1) := by decide +kernel
theorem dX7_of_1 : decode cX7_of 1 = .ok (.iconst 0, 1) := by decide +kernel
theorem dX7_of_2 : decode cX7_of 2 = .ok (.iconst 2, 1) := by decide +kernel
theorem dX7_of_3 : decode cX7_of 3 = .ok (.invokestatic 99, 3) := by decide +kernel
theorem dX7_of_6 : decode cX7_of 6 = .ok (.ifCond .ne 10, 3) := by decide +kernel
theorem dX7_of_9 : decode cX7_of 9 = .ok (.aload_n 0, 1) := by decide +kernel
theorem dX7_of_10 : decode cX7_of 10 = .ok (.bipush (-2), 2) := by decide +kernel
theorem dX7_of_12 : decode cX7_of 12 = .ok (.invokevirtual 103, 3) := by decide +kernel
theorem dX7_of_15 : decode cX7_of 15 = .ok (.ireturn, 1) := by decide +kernel
theorem dX7_of_16 : decode cX7_of 16 = .ok (.aload_n 0, 1) := by decide +kernel
theorem dX7_of_17 : decode cX7_of 17 = .ok (.getfield 28, 3) := by decide +kernel
theorem dX7_of_20 : decode cX7_of 20 = .ok (.getfield 303, 3) := by decide +kernel
theorem dX7_of_23 : decode cX7_of 23 = .ok (.ifCond .gt 10, 3) := by decide +kernel
theorem dX7_of_26 : decode cX7_of 26 = .ok (.aload_n 0, 1) := by decide +kernel
theorem dX7_of_27 : decode cX7_of 27 = .ok (.bipush (-5), 2) := by decide +kernel
theorem dX7_of_29 : decode cX7_of 29 = .ok (.invokevirtual 103, 3) := by decide +kernel
theorem dX7_of_32 : decode cX7_of 32 = .ok (.ireturn, 1) := by decide +kernel
theorem dX7_of_33 : decode cX7_of 33 = .ok (.iconst 0, 1) := by decide +kernel
theorem dX7_of_34 : decode cX7_of 34 = .ok (.istore_n 2, 1) := by decide +kernel
theorem dX7_of_35 : decode cX7_of 35 = .ok (.iconst 1, 1) := by decide +kernel
theorem dX7_of_36 : decode cX7_of 36 = .ok (.istore_n 3, 1) := by decide +kernel
theorem dX7_of_37 : decode cX7_of 37 = .ok (.iload_n 3, 1) := by decide +kernel
theorem dX7_of_38 : decode cX7_of 38 = .ok (.aload_n 0, 1) := by decide +kernel
theorem dX7_of_39 : decode cX7_of 39 = .ok (.getfield 28, 3) := by decide +kernel
theorem dX7_of_42 : decode cX7_of 42 = .ok (.getfield 303, 3) := by decide +kernel
theorem dX7_of_45 : decode cX7_of 45 = .ok (.if_icmp .ge 21, 3) := by decide +kernel
theorem dX7_of_48 : decode cX7_of 48 = .ok (.aload_n 0, 1) := by decide +kernel
theorem dX7_of_49 : decode cX7_of 49 = .ok (.iload_n 3, 1) := by decide +kernel
theorem dX7_of_50 : decode cX7_of 50 = .ok (.iload_n 2, 1) := by decide +kernel
theorem dX7_of_51 : decode cX7_of 51 = .ok (.iload_n 1, 1) := by decide +kernel
theorem dX7_of_52 : decode cX7_of 52 = .ok (.invokevirtual 336, 3) := by decide +kernel
theorem dX7_of_55 : decode cX7_of 55 = .ok (.ifCond .eq 5, 3) := by decide +kernel
theorem dX7_of_58 : decode cX7_of 58 = .ok (.iload_n 3, 1) := by decide +kernel
theorem dX7_of_59 : decode cX7_of 59 = .ok (.istore_n 2, 1) := by decide +kernel
theorem dX7_of_60 : decode cX7_of 60 = .ok (.iinc 3 1, 3) := by decide +kernel
theorem dX7_of_63 : decode cX7_of 63 = .ok (.goto (-26), 3) := by decide +kernel
theorem dX7_of_66 : decode cX7_of 66 = .ok (.iload_n 2, 1) := by decide +kernel
theorem dX7_of_67 : decode cX7_of 67 = .ok (.ireturn, 1) := by decide +kernel
theorem dX7_way_0 : decode cX7_way 0 = .ok (.aload_n 0, 1) := by decide +kernel
theorem dX7_way_1 : decode cX7_way 1 = .ok (.iload_n 1, 1) := by decide +kernel
theorem dX7_way_2 : decode cX7_way 2 = .ok (.iload_n 2, 1) := by decide +kernel
theorem dX7_way_3 : decode cX7_way 3 = .ok (.iload_n 3, 1) := by decide +kernel
theorem dX7_way_4 : decode cX7_way 4 = .ok (.iconst 0, 1) := by decide +kernel
theorem dX7_way_5 : decode cX7_way 5 = .ok (.iconst 2, 1) := by decide +kernel
theorem dX7_way_6 : decode cX7_way 6 = .ok (.invokestatic 99, 3) := by decide +kernel
theorem dX7_way_9 : decode cX7_way 9 = .ok (.invokevirtual 242, 3) := by decide +kernel
theorem dX7_way_12 : decode cX7_way 12 = .ok (.istore 4, 2) := by decide +kernel
theorem dX7_way_14 : decode cX7_way 14 = .ok (.iload 4, 2) := by decide +kernel
theorem dX7_way_16 : decode cX7_way 16 = .ok (.ifCond .eq 10, 3) := by decide +kernel
theorem dX7_way_19 : decode cX7_way 19 = .ok (.aload_n 0, 1) := by decide +kernel
theorem dX7_way_20 : decode cX7_way 20 = .ok (.iload 4, 2) := by decide +kernel
theorem dX7_way_22 : decode cX7_way 22 = .ok (.invokevirtual 103, 3) := by decide +kernel
theorem dX7_way_25 : decode cX7_way 25 = .ok (.ireturn, 1) := by decide +kernel
theorem dX7_way_26 : decode cX7_way 26 = .ok (.aload_n 0, 1) := by decide +kernel
theorem dX7_way_27 : decode cX7_way 27 = .ok (.getfield 55, 3) := by decide +kernel
theorem dX7_way_30 : decode cX7_way 30 = .ok (.aload_n 0, 1) := by decide +kernel
theorem dX7_way_31 : decode cX7_way 31 = .ok (.getfield 73, 3) := by decide +kernel
theorem dX7_way_34 : decode cX7_way 34 = .ok (.iload_n 2, 1) := by decide +kernel
theorem dX7_way_35 : decode cX7_way 35 = .ok (.aload_n 0, 1) := by decide +kernel
theorem dX7_way_36 : decode cX7_way 36 = .ok (.getfield 10, 3) := by decide +kernel
theorem dX7_way_39 : decode cX7_way 39 = .ok (.aload_n 0, 1) := by decide +kernel
theorem dX7_way_40 : decode cX7_way 40 = .ok (.getfield 28, 3) := by decide +kernel
theorem dX7_way_43 : decode cX7_way 43 = .ok (.invokevirtual 246, 3) := by decide +kernel
theorem dX7_way_46 : decode cX7_way 46 = .ok (.iload_n 3, 1) := by decide +kernel
theorem dX7_way_47 : decode cX7_way 47 = .ok (.lookupswitch 41 #[(0, 25), (1, 33)], 25) := by decide +kernel
theorem dX7_way_72 : decode cX7_way 72 = .ok (.aload_n 0, 1) := by decide +kernel
theorem dX7_way_73 : decode cX7_way 73 = .ok (.getfield 55, 3) := by decide +kernel
theorem dX7_way_76 : decode cX7_way 76 = .ok (.getfield 339, 3) := by decide +kernel
theorem dX7_way_79 : decode cX7_way 79 = .ok (.ireturn, 1) := by decide +kernel
theorem dX7_way_80 : decode cX7_way 80 = .ok (.aload_n 0, 1) := by decide +kernel
theorem dX7_way_81 : decode cX7_way 81 = .ok (.getfield 55, 3) := by decide +kernel
theorem dX7_way_84 : decode cX7_way 84 = .ok (.getfield 342, 3) := by decide +kernel
theorem dX7_way_87 : decode cX7_way 87 = .ok (.ireturn, 1) := by decide +kernel
theorem dX7_way_88 : decode cX7_way 88 = .ok (.aload_n 0, 1) := by decide +kernel
theorem dX7_way_89 : decode cX7_way 89 = .ok (.getfield 55, 3) := by decide +kernel
theorem dX7_way_92 : decode cX7_way 92 = .ok (.getfield 345, 3) := by decide +kernel
theorem dX7_way_95 : decode cX7_way 95 = .ok (.ireturn, 1) := by decide +kernel
theorem dX7_matters_0 : decode cX7_matters 0 = .ok (.aload_n 0, 1) := by decide +kernel
theorem dX7_matters_1 : decode cX7_matters 1 = .ok (.iload_n 1, 1) := by decide +kernel
theorem dX7_matters_2 : decode cX7_matters 2 = .ok (.iload_n 2, 1) := by decide +kernel
theorem dX7_matters_3 : decode cX7_matters 3 = .ok (.iconst 1, 1) := by decide +kernel
theorem dX7_matters_4 : decode cX7_matters 4 = .ok (.invokevirtual 242, 3) := by decide +kernel
theorem dX7_matters_7 : decode cX7_matters 7 = .ok (.istore_n 3, 1) := by decide +kernel
theorem dX7_matters_8 : decode cX7_matters 8 = .ok (.iload_n 3, 1) := by decide +kernel
theorem dX7_matters_9 : decode cX7_matters 9 = .ok (.ifCond .eq 9, 3) := by decide +kernel
theorem dX7_matters_12 : decode cX7_matters 12 = .ok (.aload_n 0, 1) := by decide +kernel
theorem dX7_matters_13 : decode cX7_matters 13 = .ok (.iload_n 3, 1) := by decide +kernel
theorem dX7_matters_14 : decode cX7_matters 14 = .ok (.invokevirtual 103, 3) := by decide +kernel
theorem dX7_matters_17 : decode cX7_matters 17 = .ok (.ireturn, 1) := by decide +kernel
theorem dX7_matters_18 : decode cX7_matters 18 = .ok (.iload_n 2, 1) := by decide +kernel
theorem dX7_matters_19 : decode cX7_matters 19 = .ok (.ifCond .ne 10, 3) := by decide +kernel
theorem dX7_matters_22 : decode cX7_matters 22 = .ok (.aload_n 0, 1) := by decide +kernel
theorem dX7_matters_23 : decode cX7_matters 23 = .ok (.bipush (-5), 2) := by decide +kernel
theorem dX7_matters_25 : decode cX7_matters 25 = .ok (.invokevirtual 103, 3) := by decide +kernel
theorem dX7_matters_28 : decode cX7_matters 28 = .ok (.ireturn, 1) := by decide +kernel
theorem dX7_matters_29 : decode cX7_matters 29 = .ok (.iconst (-1), 1) := by decide +kernel
theorem dX7_matters_30 : decode cX7_matters 30 = .ok (.istore 4, 2) := by decide +kernel
theorem dX7_matters_32 : decode cX7_matters 32 = .ok (.iconst (-1), 1) := by decide +kernel
theorem dX7_matters_33 : decode cX7_matters 33 = .ok (.istore 5, 2) := by decide +kernel
theorem dX7_matters_35 : decode cX7_matters 35 = .ok (.iconst 0, 1) := by decide +kernel
theorem dX7_matters_36 : decode cX7_matters 36 = .ok (.istore 6, 2) := by decide +kernel
theorem dX7_matters_38 : decode cX7_matters 38 = .ok (.iload 6, 2) := by decide +kernel
theorem dX7_matters_40 : decode cX7_matters 40 = .ok (.iload_n 2, 1) := by decide +kernel
theorem dX7_matters_41 : decode cX7_matters 41 = .ok (.if_icmp .ge 34, 3) := by decide +kernel
theorem dX7_matters_44 : decode cX7_matters 44 = .ok (.aload_n 0, 1) := by decide +kernel
theorem dX7_matters_45 : decode cX7_matters 45 = .ok (.iload_n 2, 1) := by decide +kernel
theorem dX7_matters_46 : decode cX7_matters 46 = .ok (.iload 6, 2) := by decide +kernel
theorem dX7_matters_48 : decode cX7_matters 48 = .ok (.iconst (-1), 1) := by decide +kernel
theorem dX7_matters_49 : decode cX7_matters 49 = .ok (.invokevirtual 348, 3) := by decide +kernel
theorem dX7_matters_52 : decode cX7_matters 52 = .ok (.istore 7, 2) := by decide +kernel
theorem dX7_matters_54 : decode cX7_matters 54 = .ok (.iload 7, 2) := by decide +kernel
theorem dX7_matters_56 : decode cX7_matters 56 = .ok (.iload 5, 2) := by decide +kernel
theorem dX7_matters_58 : decode cX7_matters 58 = .ok (.if_icmp .le 11, 3) := by decide +kernel
theorem dX7_matters_61 : decode cX7_matters 61 = .ok (.iload 7, 2) := by decide +kernel
theorem dX7_matters_63 : decode cX7_matters 63 = .ok (.istore 5, 2) := by decide +kernel
theorem dX7_matters_65 : decode cX7_matters 65 = .ok (.iload 6, 2) := by decide +kernel
theorem dX7_matters_67 : decode cX7_matters 67 = .ok (.istore 4, 2) := by decide +kernel
theorem dX7_matters_69 : decode cX7_matters 69 = .ok (.iinc 6 1, 3) := by decide +kernel
theorem dX7_matters_72 : decode cX7_matters 72 = .ok (.goto (-34), 3) := by decide +kernel
theorem dX7_matters_75 : decode cX7_matters 75 = .ok (.iload 4, 2) := by decide +kernel
theorem dX7_matters_77 : decode cX7_matters 77 = .ok (.ireturn, 1) := by decide +kernel
theorem dX7_instead_0 : decode cX7_instead 0 = .ok (.aload_n 0, 1) := by decide +kernel
theorem dX7_instead_1 : decode cX7_instead 1 = .ok (.iload_n 1, 1) := by decide +kernel
theorem dX7_instead_2 : decode cX7_instead 2 = .ok (.iload_n 2, 1) := by decide +kernel
theorem dX7_instead_3 : decode cX7_instead 3 = .ok (.iload_n 3, 1) := by decide +kernel
theorem dX7_instead_4 : decode cX7_instead 4 = .ok (.ifCond .lt 12, 3) := by decide +kernel
theorem dX7_instead_7 : decode cX7_instead 7 = .ok (.iload_n 3, 1) := by decide +kernel
theorem dX7_instead_8 : decode cX7_instead 8 = .ok (.iload_n 2, 1) := by decide +kernel
theorem dX7_instead_9 : decode cX7_instead 9 = .ok (.if_icmp .ge 7, 3) := by decide +kernel
theorem dX7_instead_12 : decode cX7_instead 12 = .ok (.iconst 1, 1) := by decide +kernel
theorem dX7_instead_13 : decode cX7_instead 13 = .ok (.goto 4, 3) := by decide +kernel
theorem dX7_instead_16 : decode cX7_instead 16 = .ok (.iconst 0, 1) := by decide +kernel
theorem dX7_instead_17 : decode cX7_instead 17 = .ok (.invokevirtual 242, 3) := by decide +kernel
theorem dX7_instead_20 : decode cX7_instead 20 = .ok (.istore 4, 2) := by decide +kernel
theorem dX7_instead_22 : decode cX7_instead 22 = .ok (.iload 4, 2) := by decide +kernel
theorem dX7_instead_24 : decode cX7_instead 24 = .ok (.ifCond .eq 10, 3) := by decide +kernel
theorem dX7_instead_27 : decode cX7_instead 27 = .ok (.aload_n 0, 1) := by decide +kernel
theorem dX7_instead_28 : decode cX7_instead 28 = .ok (.iload 4, 2) := by decide +kernel
theorem dX7_instead_30 : decode cX7_instead 30 = .ok (.invokevirtual 103, 3) := by decide +kernel
theorem dX7_instead_33 : decode cX7_instead 33 = .ok (.ireturn, 1) := by decide +kernel
theorem dX7_instead_34 : decode cX7_instead 34 = .ok (.iconst (-1), 1) := by decide +kernel
theorem dX7_instead_35 : decode cX7_instead 35 = .ok (.istore 5, 2) := by decide +kernel
theorem dX7_instead_37 : decode cX7_instead 37 = .ok (.ldc 232, 2) := by decide +kernel
theorem dX7_instead_39 : decode cX7_instead 39 = .ok (.istore 6, 2) := by decide +kernel
theorem dX7_instead_41 : decode cX7_instead 41 = .ok (.iconst 0, 1) := by decide +kernel
theorem dX7_instead_42 : decode cX7_instead 42 = .ok (.istore 7, 2) := by decide +kernel
theorem dX7_instead_44 : decode cX7_instead 44 = .ok (.iload 7, 2) := by decide +kernel
theorem dX7_instead_46 : decode cX7_instead 46 = .ok (.aload_n 0, 1) := by decide +kernel
theorem dX7_instead_47 : decode cX7_instead 47 = .ok (.invokevirtual 233, 3) := by decide +kernel
theorem dX7_instead_50 : decode cX7_instead 50 = .ok (.if_icmp .ge 48, 3) := by decide +kernel
theorem dX7_instead_53 : decode cX7_instead 53 = .ok (.aload_n 0, 1) := by decide +kernel
theorem dX7_instead_54 : decode cX7_instead 54 = .ok (.iload_n 2, 1) := by decide +kernel
theorem dX7_instead_55 : decode cX7_instead 55 = .ok (.iload_n 3, 1) := by decide +kernel
theorem dX7_instead_56 : decode cX7_instead 56 = .ok (.aload_n 0, 1) := by decide +kernel
theorem dX7_instead_57 : decode cX7_instead 57 = .ok (.getfield 28, 3) := by decide +kernel
theorem dX7_instead_60 : decode cX7_instead 60 = .ok (.iload 7, 2) := by decide +kernel
theorem dX7_instead_62 : decode cX7_instead 62 = .ok (.invokevirtual 236, 3) := by decide +kernel
theorem dX7_instead_65 : decode cX7_instead 65 = .ok (.invokevirtual 348, 3) := by decide +kernel
theorem dX7_instead_68 : decode cX7_instead 68 = .ok (.istore 8, 2) := by decide +kernel
theorem dX7_instead_70 : decode cX7_instead 70 = .ok (.iload 8, 2) := by decide +kernel
theorem dX7_instead_72 : decode cX7_instead 72 = .ok (.iload 6, 2) := by decide +kernel
theorem dX7_instead_74 : decode cX7_instead 74 = .ok (.if_icmp .ge 18, 3) := by decide +kernel
theorem dX7_instead_77 : decode cX7_instead 77 = .ok (.iload 8, 2) := by decide +kernel
theorem dX7_instead_79 : decode cX7_instead 79 = .ok (.istore 6, 2) := by decide +kernel
theorem dX7_instead_81 : decode cX7_instead 81 = .ok (.aload_n 0, 1) := by decide +kernel
theorem dX7_instead_82 : decode cX7_instead 82 = .ok (.getfield 28, 3) := by decide +kernel
theorem dX7_instead_85 : decode cX7_instead 85 = .ok (.iload 7, 2) := by decide +kernel
theorem dX7_instead_87 : decode cX7_instead 87 = .ok (.invokevirtual 236, 3) := by decide +kernel
theorem dX7_instead_90 : decode cX7_instead 90 = .ok (.istore 5, 2) := by decide +kernel
theorem dX7_instead_92 : decode cX7_instead 92 = .ok (.iinc 7 1, 3) := by decide +kernel
theorem dX7_instead_95 : decode cX7_instead 95 = .ok (.goto (-51), 3) := by decide +kernel
theorem dX7_instead_98 : decode cX7_instead 98 = .ok (.iload 5, 2) := by decide +kernel
theorem dX7_instead_100 : decode cX7_instead 100 = .ok (.ireturn, 1) := by decide +kernel
theorem dX7_better_0 : decode cX7_better 0 = .ok (.aload_n 0, 1) := by decide +kernel
theorem dX7_better_1 : decode cX7_better 1 = .ok (.iload_n 1, 1) := by decide +kernel
theorem dX7_better_2 : decode cX7_better 2 = .ok (.i2l, 1) := by decide +kernel
theorem dX7_better_3 : decode cX7_better 3 = .ok (.invokevirtual 221, 3) := by decide +kernel
theorem dX7_better_6 : decode cX7_better 6 = .ok (.ifCond .eq 12, 3) := by decide +kernel
theorem dX7_better_9 : decode cX7_better 9 = .ok (.aload_n 0, 1) := by decide +kernel
theorem dX7_better_10 : decode cX7_better 10 = .ok (.iload_n 2, 1) := by decide +kernel
theorem dX7_better_11 : decode cX7_better 11 = .ok (.i2l, 1) := by decide +kernel
theorem dX7_better_12 : decode cX7_better 12 = .ok (.invokevirtual 221, 3) := by decide +kernel
theorem dX7_better_15 : decode cX7_better 15 = .ok (.ifCond .ne 10, 3) := by decide +kernel
theorem dX7_better_18 : decode cX7_better 18 = .ok (.aload_n 0, 1) := by decide +kernel
theorem dX7_better_19 : decode cX7_better 19 = .ok (.bipush (-2), 2) := by decide +kernel
theorem dX7_better_21 : decode cX7_better 21 = .ok (.invokevirtual 103, 3) := by decide +kernel
theorem dX7_better_24 : decode cX7_better 24 = .ok (.ireturn, 1) := by decide +kernel
theorem dX7_better_25 : decode cX7_better 25 = .ok (.iconst 0, 1) := by decide +kernel
theorem dX7_better_26 : decode cX7_better 26 = .ok (.istore_n 3, 1) := by decide +kernel
theorem dX7_better_27 : decode cX7_better 27 = .ok (.iconst 0, 1) := by decide +kernel
theorem dX7_better_28 : decode cX7_better 28 = .ok (.istore 4, 2) := by decide +kernel
theorem dX7_better_30 : decode cX7_better 30 = .ok (.iload 4, 2) := by decide +kernel
theorem dX7_better_32 : decode cX7_better 32 = .ok (.bipush 99, 2) := by decide +kernel
theorem dX7_better_34 : decode cX7_better 34 = .ok (.if_icmp .gt 29, 3) := by decide +kernel
theorem dX7_better_37 : decode cX7_better 37 = .ok (.aload_n 0, 1) := by decide +kernel
theorem dX7_better_38 : decode cX7_better 38 = .ok (.iload 4, 2) := by decide +kernel
theorem dX7_better_40 : decode cX7_better 40 = .ok (.iload_n 1, 1) := by decide +kernel
theorem dX7_better_41 : decode cX7_better 41 = .ok (.invokevirtual 351, 3) := by decide +kernel
theorem dX7_better_44 : decode cX7_better 44 = .ok (.aload_n 0, 1) := by decide +kernel
theorem dX7_better_45 : decode cX7_better 45 = .ok (.iload 4, 2) := by decide +kernel
theorem dX7_better_47 : decode cX7_better 47 = .ok (.iload_n 2, 1) := by decide +kernel
theorem dX7_better_48 : decode cX7_better 48 = .ok (.invokevirtual 351, 3) := by decide +kernel
theorem dX7_better_51 : decode cX7_better 51 = .ok (.if_icmp .ge 6, 3) := by decide +kernel
theorem dX7_better_54 : decode cX7_better 54 = .ok (.iinc 3 1, 3) := by decide +kernel
theorem dX7_better_57 : decode cX7_better 57 = .ok (.iinc 4 1, 3) := by decide +kernel
theorem dX7_better_60 : decode cX7_better 60 = .ok (.goto (-30), 3) := by decide +kernel
theorem dX7_better_63 : decode cX7_better 63 = .ok (.iload_n 3, 1) := by decide +kernel
theorem dX7_better_64 : decode cX7_better 64 = .ok (.ireturn, 1) := by decide +kernel
theorem dX7_still_0 : decode cX7_still 0 = .ok (.aload_n 0, 1) := by decide +kernel
theorem dX7_still_1 : decode cX7_still 1 = .ok (.iload_n 1, 1) := by decide +kernel
theorem dX7_still_2 : decode cX7_still 2 = .ok (.i2l, 1) := by decide +kernel
theorem dX7_still_3 : decode cX7_still 3 = .ok (.invokevirtual 221, 3) := by decide +kernel
theorem dX7_still_6 : decode cX7_still 6 = .ok (.ifCond .ne 10, 3) := by decide +kernel
theorem dX7_still_9 : decode cX7_still 9 = .ok (.aload_n 0, 1) := by decide +kernel
theorem dX7_still_10 : decode cX7_still 10 = .ok (.bipush (-2), 2) := by decide +kernel
theorem dX7_still_12 : decode cX7_still 12 = .ok (.invokevirtual 103, 3) := by decide +kernel
theorem dX7_still_15 : decode cX7_still 15 = .ok (.ireturn, 1) := by decide +kernel
theorem dX7_still_16 : decode cX7_still 16 = .ok (.iconst 0, 1) := by decide +kernel
theorem dX7_still_17 : decode cX7_still 17 = .ok (.istore_n 2, 1) := by decide +kernel
theorem dX7_still_18 : decode cX7_still 18 = .ok (.iload_n 2, 1) := by decide +kernel
theorem dX7_still_19 : decode cX7_still 19 = .ok (.bipush 99, 2) := by decide +kernel
theorem dX7_still_21 : decode cX7_still 21 = .ok (.if_icmp .gt 21, 3) := by decide +kernel
theorem dX7_still_24 : decode cX7_still 24 = .ok (.aload_n 0, 1) := by decide +kernel
theorem dX7_still_25 : decode cX7_still 25 = .ok (.iload_n 2, 1) := by decide +kernel
theorem dX7_still_26 : decode cX7_still 26 = .ok (.iload_n 1, 1) := by decide +kernel
theorem dX7_still_27 : decode cX7_still 27 = .ok (.invokevirtual 351, 3) := by decide +kernel
theorem dX7_still_30 : decode cX7_still 30 = .ok (.iload_n 2, 1) := by decide +kernel
theorem dX7_still_31 : decode cX7_still 31 = .ok (.if_icmp .ne 5, 3) := by decide +kernel
theorem dX7_still_34 : decode cX7_still 34 = .ok (.iload_n 2, 1) := by decide +kernel
theorem dX7_still_35 : decode cX7_still 35 = .ok (.ireturn, 1) := by decide +kernel
theorem dX7_still_36 : decode cX7_still 36 = .ok (.iinc 2 1, 3) := by decide +kernel
theorem dX7_still_39 : decode cX7_still 39 = .ok (.goto (-21), 3) := by decide +kernel
theorem dX7_still_42 : decode cX7_still 42 = .ok (.iconst (-1), 1) := by decide +kernel
theorem dX7_still_43 : decode cX7_still 43 = .ok (.ireturn, 1) := by decide +kernel
theorem dX7_calmFor_0 : decode cX7_calmFor 0 = .ok (.iload_n 1, 1) := by decide +kernel
theorem dX7_calmFor_1 : decode cX7_calmFor 1 = .ok (.iconst 0, 1) := by decide +kernel
theorem dX7_calmFor_2 : decode cX7_calmFor 2 = .ok (.bipush 99, 2) := by decide +kernel
theorem dX7_calmFor_4 : decode cX7_calmFor 4 = .ok (.invokestatic 99, 3) := by decide +kernel
theorem dX7_calmFor_7 : decode cX7_calmFor 7 = .ok (.ifCond .ne 10, 3) := by decide +kernel
theorem dX7_calmFor_10 : decode cX7_calmFor 10 = .ok (.aload_n 0, 1) := by decide +kernel
theorem dX7_calmFor_11 : decode cX7_calmFor 11 = .ok (.bipush (-2), 2) := by decide +kernel
theorem dX7_calmFor_13 : decode cX7_calmFor 13 = .ok (.invokevirtual 103, 3) := by decide +kernel
theorem dX7_calmFor_16 : decode cX7_calmFor 16 = .ok (.ireturn, 1) := by decide +kernel
theorem dX7_calmFor_17 : decode cX7_calmFor 17 = .ok (.iconst 0, 1) := by decide +kernel
theorem dX7_calmFor_18 : decode cX7_calmFor 18 = .ok (.istore_n 2, 1) := by decide +kernel
theorem dX7_calmFor_19 : decode cX7_calmFor 19 = .ok (.iload_n 2, 1) := by decide +kernel
theorem dX7_calmFor_20 : decode cX7_calmFor 20 = .ok (.bipush 99, 2) := by decide +kernel
theorem dX7_calmFor_22 : decode cX7_calmFor 22 = .ok (.if_icmp .gt 54, 3) := by decide +kernel
theorem dX7_calmFor_25 : decode cX7_calmFor 25 = .ok (.aload_n 0, 1) := by decide +kernel
theorem dX7_calmFor_26 : decode cX7_calmFor 26 = .ok (.getfield 16, 3) := by decide +kernel
theorem dX7_calmFor_29 : decode cX7_calmFor 29 = .ok (.aload_n 0, 1) := by decide +kernel
theorem dX7_calmFor_30 : decode cX7_calmFor 30 = .ok (.getfield 10, 3) := by decide +kernel
theorem dX7_calmFor_33 : decode cX7_calmFor 33 = .ok (.invokevirtual 193, 3) := by decide +kernel
theorem dX7_calmFor_36 : decode cX7_calmFor 36 = .ok (.aload_n 0, 1) := by decide +kernel
theorem dX7_calmFor_37 : decode cX7_calmFor 37 = .ok (.getfield 16, 3) := by decide +kernel
theorem dX7_calmFor_40 : decode cX7_calmFor 40 = .ok (.iload_n 2, 1) := by decide +kernel
theorem dX7_calmFor_41 : decode cX7_calmFor 41 = .ok (.putfield 239, 3) := by decide +kernel
theorem dX7_calmFor_44 : decode cX7_calmFor 44 = .ok (.aload_n 0, 1) := by decide +kernel
theorem dX7_calmFor_45 : decode cX7_calmFor 45 = .ok (.getfield 16, 3) := by decide +kernel
theorem dX7_calmFor_48 : decode cX7_calmFor 48 = .ok (.bipush 10, 2) := by decide +kernel
theorem dX7_calmFor_50 : decode cX7_calmFor 50 = .ok (.aload_n 0, 1) := by decide +kernel
theorem dX7_calmFor_51 : decode cX7_calmFor 51 = .ok (.getfield 28, 3) := by decide +kernel
theorem dX7_calmFor_54 : decode cX7_calmFor 54 = .ok (.invokevirtual 307, 3) := by decide +kernel
theorem dX7_calmFor_57 : decode cX7_calmFor 57 = .ok (.aload_n 0, 1) := by decide +kernel
theorem dX7_calmFor_58 : decode cX7_calmFor 58 = .ok (.getfield 16, 3) := by decide +kernel
theorem dX7_calmFor_61 : decode cX7_calmFor 61 = .ok (.getfield 330, 3) := by decide +kernel
theorem dX7_calmFor_64 : decode cX7_calmFor 64 = .ok (.iload_n 1, 1) := by decide +kernel
theorem dX7_calmFor_65 : decode cX7_calmFor 65 = .ok (.if_icmp .gt 5, 3) := by decide +kernel
theorem dX7_calmFor_68 : decode cX7_calmFor 68 = .ok (.iload_n 2, 1) := by decide +kernel
theorem dX7_calmFor_69 : decode cX7_calmFor 69 = .ok (.ireturn, 1) := by decide +kernel
theorem dX7_calmFor_70 : decode cX7_calmFor 70 = .ok (.iinc 2 1, 3) := by decide +kernel
theorem dX7_calmFor_73 : decode cX7_calmFor 73 = .ok (.goto (-54), 3) := by decide +kernel
theorem dX7_calmFor_76 : decode cX7_calmFor 76 = .ok (.iconst (-1), 1) := by decide +kernel
theorem dX7_calmFor_77 : decode cX7_calmFor 77 = .ok (.ireturn, 1) := by decide +kernel
theorem dX7_grown_0 : decode cX7_grown 0 = .ok (.aload_n 0, 1) := by decide +kernel
theorem dX7_grown_1 : decode cX7_grown 1 = .ok (.iload_n 1, 1) := by decide +kernel
theorem dX7_grown_2 : decode cX7_grown 2 = .ok (.i2l, 1) := by decide +kernel
theorem dX7_grown_3 : decode cX7_grown 3 = .ok (.invokevirtual 221, 3) := by decide +kernel
theorem dX7_grown_6 : decode cX7_grown 6 = .ok (.ifCond .ne 10, 3) := by decide +kernel
theorem dX7_grown_9 : decode cX7_grown 9 = .ok (.aload_n 0, 1) := by decide +kernel
theorem dX7_grown_10 : decode cX7_grown 10 = .ok (.bipush (-2), 2) := by decide +kernel
theorem dX7_grown_12 : decode cX7_grown 12 = .ok (.invokevirtual 103, 3) := by decide +kernel
theorem dX7_grown_15 : decode cX7_grown 15 = .ok (.ireturn, 1) := by decide +kernel
theorem dX7_grown_16 : decode cX7_grown 16 = .ok (.aload_n 0, 1) := by decide +kernel
theorem dX7_grown_17 : decode cX7_grown 17 = .ok (.getfield 16, 3) := by decide +kernel
theorem dX7_grown_20 : decode cX7_grown 20 = .ok (.aload_n 0, 1) := by decide +kernel
theorem dX7_grown_21 : decode cX7_grown 21 = .ok (.getfield 10, 3) := by decide +kernel
theorem dX7_grown_24 : decode cX7_grown 24 = .ok (.invokevirtual 193, 3) := by decide +kernel
theorem dX7_grown_27 : decode cX7_grown 27 = .ok (.iconst 0, 1) := by decide +kernel
theorem dX7_grown_28 : decode cX7_grown 28 = .ok (.istore_n 2, 1) := by decide +kernel
theorem dX7_grown_29 : decode cX7_grown 29 = .ok (.iload_n 2, 1) := by decide +kernel
theorem dX7_grown_30 : decode cX7_grown 30 = .ok (.sipush 200, 3) := by decide +kernel
theorem dX7_grown_33 : decode cX7_grown 33 = .ok (.if_icmp .gt 35, 3) := by decide +kernel
theorem dX7_grown_36 : decode cX7_grown 36 = .ok (.aload_n 0, 1) := by decide +kernel
theorem dX7_grown_37 : decode cX7_grown 37 = .ok (.getfield 16, 3) := by decide +kernel
theorem dX7_grown_40 : decode cX7_grown 40 = .ok (.getfield 354, 3) := by decide +kernel
theorem dX7_grown_43 : decode cX7_grown 43 = .ok (.bipush 9, 2) := by decide +kernel
theorem dX7_grown_45 : decode cX7_grown 45 = .ok (.if_icmp .ne 5, 3) := by decide +kernel
theorem dX7_grown_48 : decode cX7_grown 48 = .ok (.iload_n 2, 1) := by decide +kernel
theorem dX7_grown_49 : decode cX7_grown 49 = .ok (.ireturn, 1) := by decide +kernel
theorem dX7_grown_50 : decode cX7_grown 50 = .ok (.aload_n 0, 1) := by decide +kernel
theorem dX7_grown_51 : decode cX7_grown 51 = .ok (.getfield 16, 3) := by decide +kernel
theorem dX7_grown_54 : decode cX7_grown 54 = .ok (.iload_n 1, 1) := by decide +kernel
theorem dX7_grown_55 : decode cX7_grown 55 = .ok (.aload_n 0, 1) := by decide +kernel
theorem dX7_grown_56 : decode cX7_grown 56 = .ok (.getfield 28, 3) := by decide +kernel
theorem dX7_grown_59 : decode cX7_grown 59 = .ok (.invokevirtual 307, 3) := by decide +kernel
theorem dX7_grown_62 : decode cX7_grown 62 = .ok (.iinc 2 1, 3) := by decide +kernel
theorem dX7_grown_65 : decode cX7_grown 65 = .ok (.goto (-36), 3) := by decide +kernel
theorem dX7_grown_68 : decode cX7_grown 68 = .ok (.iconst (-1), 1) := by decide +kernel
theorem dX7_grown_69 : decode cX7_grown 69 = .ok (.ireturn, 1) := by decide +kernel
theorem dX7_brave_0 : decode cX7_brave 0 = .ok (.iload_n 1, 1) := by decide +kernel
theorem dX7_brave_1 : decode cX7_brave 1 = .ok (.iconst 0, 1) := by decide +kernel
theorem dX7_brave_2 : decode cX7_brave 2 = .ok (.bipush 99, 2) := by decide +kernel
theorem dX7_brave_4 : decode cX7_brave 4 = .ok (.invokestatic 99, 3) := by decide +kernel
theorem dX7_brave_7 : decode cX7_brave 7 = .ok (.ifCond .ne 10, 3) := by decide +kernel
theorem dX7_brave_10 : decode cX7_brave 10 = .ok (.aload_n 0, 1) := by decide +kernel
theorem dX7_brave_11 : decode cX7_brave 11 = .ok (.bipush (-2), 2) := by decide +kernel
theorem dX7_brave_13 : decode cX7_brave 13 = .ok (.invokevirtual 103, 3) := by decide +kernel
theorem dX7_brave_16 : decode cX7_brave 16 = .ok (.ireturn, 1) := by decide +kernel
theorem dX7_brave_17 : decode cX7_brave 17 = .ok (.aload_n 0, 1) := by decide +kernel
theorem dX7_brave_18 : decode cX7_brave 18 = .ok (.getfield 16, 3) := by decide +kernel
theorem dX7_brave_21 : decode cX7_brave 21 = .ok (.aload_n 0, 1) := by decide +kernel
theorem dX7_brave_22 : decode cX7_brave 22 = .ok (.getfield 10, 3) := by decide +kernel
theorem dX7_brave_25 : decode cX7_brave 25 = .ok (.invokevirtual 193, 3) := by decide +kernel
theorem dX7_brave_28 : decode cX7_brave 28 = .ok (.aload_n 0, 1) := by decide +kernel
theorem dX7_brave_29 : decode cX7_brave 29 = .ok (.getfield 16, 3) := by decide +kernel
theorem dX7_brave_32 : decode cX7_brave 32 = .ok (.iload_n 1, 1) := by decide +kernel
theorem dX7_brave_33 : decode cX7_brave 33 = .ok (.putfield 330, 3) := by decide +kernel
theorem dX7_brave_36 : decode cX7_brave 36 = .ok (.aload_n 0, 1) := by decide +kernel
theorem dX7_brave_37 : decode cX7_brave 37 = .ok (.getfield 28, 3) := by decide +kernel
theorem dX7_brave_40 : decode cX7_brave 40 = .ok (.aload_n 0, 1) := by decide +kernel
theorem dX7_brave_41 : decode cX7_brave 41 = .ok (.getfield 16, 3) := by decide +kernel
theorem dX7_brave_44 : decode cX7_brave 44 = .ok (.invokevirtual 217, 3) := by decide +kernel
theorem dX7_brave_47 : decode cX7_brave 47 = .ok (.ireturn, 1) := by decide +kernel
theorem dX7_ofKind_0 : decode cX7_ofKind 0 = .ok (.iload_n 1, 1) := by decide +kernel
theorem dX7_ofKind_1 : decode cX7_ofKind 1 = .ok (.iconst 0, 1) := by decide +kernel
theorem dX7_ofKind_2 : decode cX7_ofKind 2 = .ok (.iconst 5, 1) := by decide +kernel
theorem dX7_ofKind_3 : decode cX7_ofKind 3 = .ok (.invokestatic 99, 3) := by decide +kernel
theorem dX7_ofKind_6 : decode cX7_ofKind 6 = .ok (.ifCond .ne 10, 3) := by decide +kernel
theorem dX7_ofKind_9 : decode cX7_ofKind 9 = .ok (.aload_n 0, 1) := by decide +kernel
theorem dX7_ofKind_10 : decode cX7_ofKind 10 = .ok (.bipush (-2), 2) := by decide +kernel
theorem dX7_ofKind_12 : decode cX7_ofKind 12 = .ok (.invokevirtual 103, 3) := by decide +kernel
theorem dX7_ofKind_15 : decode cX7_ofKind 15 = .ok (.ireturn, 1) := by decide +kernel
theorem dX7_ofKind_16 : decode cX7_ofKind 16 = .ok (.iconst 0, 1) := by decide +kernel
theorem dX7_ofKind_17 : decode cX7_ofKind 17 = .ok (.istore_n 2, 1) := by decide +kernel
theorem dX7_ofKind_18 : decode cX7_ofKind 18 = .ok (.iconst 0, 1) := by decide +kernel
theorem dX7_ofKind_19 : decode cX7_ofKind 19 = .ok (.istore_n 3, 1) := by decide +kernel
theorem dX7_ofKind_20 : decode cX7_ofKind 20 = .ok (.iload_n 3, 1) := by decide +kernel
theorem dX7_ofKind_21 : decode cX7_ofKind 21 = .ok (.aload_n 0, 1) := by decide +kernel
theorem dX7_ofKind_22 : decode cX7_ofKind 22 = .ok (.getfield 28, 3) := by decide +kernel
theorem dX7_ofKind_25 : decode cX7_ofKind 25 = .ok (.getfield 303, 3) := by decide +kernel
theorem dX7_ofKind_28 : decode cX7_ofKind 28 = .ok (.if_icmp .ge 24, 3) := by decide +kernel
theorem dX7_ofKind_31 : decode cX7_ofKind 31 = .ok (.aload_n 0, 1) := by decide +kernel
theorem dX7_ofKind_32 : decode cX7_ofKind 32 = .ok (.getfield 28, 3) := by decide +kernel
theorem dX7_ofKind_35 : decode cX7_ofKind 35 = .ok (.iload_n 3, 1) := by decide +kernel
theorem dX7_ofKind_36 : decode cX7_ofKind 36 = .ok (.invokevirtual 153, 3) := by decide +kernel
theorem dX7_ofKind_39 : decode cX7_ofKind 39 = .ok (.iload_n 1, 1) := by decide +kernel
theorem dX7_ofKind_40 : decode cX7_ofKind 40 = .ok (.if_icmp .ne 6, 3) := by decide +kernel
theorem dX7_ofKind_43 : decode cX7_ofKind 43 = .ok (.iinc 2 1, 3) := by decide +kernel
theorem dX7_ofKind_46 : decode cX7_ofKind 46 = .ok (.iinc 3 1, 3) := by decide +kernel
theorem dX7_ofKind_49 : decode cX7_ofKind 49 = .ok (.goto (-29), 3) := by decide +kernel
theorem dX7_ofKind_52 : decode cX7_ofKind 52 = .ok (.iload_n 2, 1) := by decide +kernel
theorem dX7_ofKind_53 : decode cX7_ofKind 53 = .ok (.ireturn, 1) := by decide +kernel
theorem dX7_order_0 : decode cX7_order 0 = .ok (.aload_n 0, 1) := by decide +kernel
theorem dX7_order_1 : decode cX7_order 1 = .ok (.iload_n 1, 1) := by decide +kernel
theorem dX7_order_2 : decode cX7_order 2 = .ok (.i2l, 1) := by decide +kernel
theorem dX7_order_3 : decode cX7_order 3 = .ok (.invokevirtual 221, 3) := by decide +kernel
theorem dX7_order_6 : decode cX7_order 6 = .ok (.ifCond .ne 10, 3) := by decide +kernel
theorem dX7_order_9 : decode cX7_order 9 = .ok (.aload_n 0, 1) := by decide +kernel
theorem dX7_order_10 : decode cX7_order 10 = .ok (.bipush (-2), 2) := by decide +kernel
theorem dX7_order_12 : decode cX7_order 12 = .ok (.invokevirtual 103, 3) := by decide +kernel
theorem dX7_order_15 : decode cX7_order 15 = .ok (.ireturn, 1) := by decide +kernel
theorem dX7_order_16 : decode cX7_order 16 = .ok (.aload_n 0, 1) := by decide +kernel
theorem dX7_order_17 : decode cX7_order 17 = .ok (.iload_n 1, 1) := by decide +kernel
theorem dX7_order_18 : decode cX7_order 18 = .ok (.invokevirtual 357, 3) := by decide +kernel
theorem dX7_order_21 : decode cX7_order 21 = .ok (.pop, 1) := by decide +kernel
theorem dX7_order_22 : decode cX7_order 22 = .ok (.aload_n 0, 1) := by decide +kernel
theorem dX7_order_23 : decode cX7_order 23 = .ok (.getfield 10, 3) := by decide +kernel
theorem dX7_order_26 : decode cX7_order 26 = .ok (.getfield 330, 3) := by decide +kernel
theorem dX7_order_29 : decode cX7_order 29 = .ok (.ireturn, 1) := by decide +kernel
theorem dX7_done_0 : decode cX7_done 0 = .ok (.aload_n 0, 1) := by decide +kernel
theorem dX7_done_1 : decode cX7_done 1 = .ok (.iload_n 1, 1) := by decide +kernel
theorem dX7_done_2 : decode cX7_done 2 = .ok (.iload_n 2, 1) := by decide +kernel
theorem dX7_done_3 : decode cX7_done 3 = .ok (.iconst 1, 1) := by decide +kernel
theorem dX7_done_4 : decode cX7_done 4 = .ok (.invokevirtual 242, 3) := by decide +kernel
theorem dX7_done_7 : decode cX7_done 7 = .ok (.istore_n 3, 1) := by decide +kernel
theorem dX7_done_8 : decode cX7_done 8 = .ok (.iload_n 3, 1) := by decide +kernel
theorem dX7_done_9 : decode cX7_done 9 = .ok (.ifCond .eq 9, 3) := by decide +kernel
theorem dX7_done_12 : decode cX7_done 12 = .ok (.aload_n 0, 1) := by decide +kernel
theorem dX7_done_13 : decode cX7_done 13 = .ok (.iload_n 3, 1) := by decide +kernel
theorem dX7_done_14 : decode cX7_done 14 = .ok (.invokevirtual 103, 3) := by decide +kernel
theorem dX7_done_17 : decode cX7_done 17 = .ok (.ireturn, 1) := by decide +kernel
theorem dX7_done_18 : decode cX7_done 18 = .ok (.iconst 0, 1) := by decide +kernel
theorem dX7_done_19 : decode cX7_done 19 = .ok (.istore 4, 2) := by decide +kernel
theorem dX7_done_21 : decode cX7_done 21 = .ok (.iconst 0, 1) := by decide +kernel
theorem dX7_done_22 : decode cX7_done 22 = .ok (.istore 5, 2) := by decide +kernel
theorem dX7_done_24 : decode cX7_done 24 = .ok (.iload 5, 2) := by decide +kernel
theorem dX7_done_26 : decode cX7_done 26 = .ok (.iload_n 2, 1) := by decide +kernel
theorem dX7_done_27 : decode cX7_done 27 = .ok (.if_icmp .ge 35, 3) := by decide +kernel
theorem dX7_done_30 : decode cX7_done 30 = .ok (.iload 5, 2) := by decide +kernel
theorem dX7_done_32 : decode cX7_done 32 = .ok (.aload_n 0, 1) := by decide +kernel
theorem dX7_done_33 : decode cX7_done 33 = .ok (.getfield 73, 3) := by decide +kernel
theorem dX7_done_36 : decode cX7_done 36 = .ok (.arraylength, 1) := by decide +kernel
theorem dX7_done_37 : decode cX7_done 37 = .ok (.if_icmp .ge 25, 3) := by decide +kernel
theorem dX7_done_40 : decode cX7_done 40 = .ok (.iload 4, 2) := by decide +kernel
theorem dX7_done_42 : decode cX7_done 42 = .ok (.aload_n 0, 1) := by decide +kernel
theorem dX7_done_43 : decode cX7_done 43 = .ok (.aload_n 0, 1) := by decide +kernel
theorem dX7_done_44 : decode cX7_done 44 = .ok (.getfield 73, 3) := by decide +kernel
theorem dX7_done_47 : decode cX7_done 47 = .ok (.iload 5, 2) := by decide +kernel
theorem dX7_done_49 : decode cX7_done 49 = .ok (.iaload, 1) := by decide +kernel
theorem dX7_done_50 : decode cX7_done 50 = .ok (.invokevirtual 357, 3) := by decide +kernel
theorem dX7_done_53 : decode cX7_done 53 = .ok (.iadd, 1) := by decide +kernel
theorem dX7_done_54 : decode cX7_done 54 = .ok (.istore 4, 2) := by decide +kernel
theorem dX7_done_56 : decode cX7_done 56 = .ok (.iinc 5 1, 3) := by decide +kernel
theorem dX7_done_59 : decode cX7_done 59 = .ok (.goto (-35), 3) := by decide +kernel
theorem dX7_done_62 : decode cX7_done 62 = .ok (.iload 4, 2) := by decide +kernel
theorem dX7_done_64 : decode cX7_done 64 = .ok (.ireturn, 1) := by decide +kernel
theorem dX7_drawn_0 : decode cX7_drawn 0 = .ok (.iload_n 1, 1) := by decide +kernel
theorem dX7_drawn_1 : decode cX7_drawn 1 = .ok (.iconst 1, 1) := by decide +kernel
theorem dX7_drawn_2 : decode cX7_drawn 2 = .ok (.bipush 60, 2) := by decide +kernel
theorem dX7_drawn_4 : decode cX7_drawn 4 = .ok (.invokestatic 99, 3) := by decide +kernel
theorem dX7_drawn_7 : decode cX7_drawn 7 = .ok (.ifCond .ne 10, 3) := by decide +kernel
theorem dX7_drawn_10 : decode cX7_drawn 10 = .ok (.aload_n 0, 1) := by decide +kernel
theorem dX7_drawn_11 : decode cX7_drawn 11 = .ok (.bipush (-2), 2) := by decide +kernel
theorem dX7_drawn_13 : decode cX7_drawn 13 = .ok (.invokevirtual 103, 3) := by decide +kernel
theorem dX7_drawn_16 : decode cX7_drawn 16 = .ok (.ireturn, 1) := by decide +kernel
theorem dX7_drawn_17 : decode cX7_drawn 17 = .ok (.iconst 0, 1) := by decide +kernel
theorem dX7_drawn_18 : decode cX7_drawn 18 = .ok (.istore_n 2, 1) := by decide +kernel
theorem dX7_drawn_19 : decode cX7_drawn 19 = .ok (.iconst 0, 1) := by decide +kernel
theorem dX7_drawn_20 : decode cX7_drawn 20 = .ok (.istore_n 3, 1) := by decide +kernel
theorem dX7_drawn_21 : decode cX7_drawn 21 = .ok (.iload_n 3, 1) := by decide +kernel
theorem dX7_drawn_22 : decode cX7_drawn 22 = .ok (.iload_n 1, 1) := by decide +kernel
theorem dX7_drawn_23 : decode cX7_drawn 23 = .ok (.if_icmp .ge 20, 3) := by decide +kernel
theorem dX7_drawn_26 : decode cX7_drawn 26 = .ok (.iload_n 2, 1) := by decide +kernel
theorem dX7_drawn_27 : decode cX7_drawn 27 = .ok (.aload_n 0, 1) := by decide +kernel
theorem dX7_drawn_28 : decode cX7_drawn 28 = .ok (.aload_n 0, 1) := by decide +kernel
theorem dX7_drawn_29 : decode cX7_drawn 29 = .ok (.invokevirtual 360, 3) := by decide +kernel
theorem dX7_drawn_32 : decode cX7_drawn 32 = .ok (.invokevirtual 357, 3) := by decide +kernel
theorem dX7_drawn_35 : decode cX7_drawn 35 = .ok (.iadd, 1) := by decide +kernel
theorem dX7_drawn_36 : decode cX7_drawn 36 = .ok (.istore_n 2, 1) := by decide +kernel
theorem dX7_drawn_37 : decode cX7_drawn 37 = .ok (.iinc 3 1, 3) := by decide +kernel
theorem dX7_drawn_40 : decode cX7_drawn 40 = .ok (.goto (-19), 3) := by decide +kernel
theorem dX7_drawn_43 : decode cX7_drawn 43 = .ok (.iload_n 2, 1) := by decide +kernel
theorem dX7_drawn_44 : decode cX7_drawn 44 = .ok (.ireturn, 1) := by decide +kernel
theorem dX7_seed_0 : decode cX7_seed 0 = .ok (.aload_n 0, 1) := by decide +kernel
theorem dX7_seed_1 : decode cX7_seed 1 = .ok (.getfield 84, 3) := by decide +kernel
theorem dX7_seed_4 : decode cX7_seed 4 = .ok (.istore_n 2, 1) := by decide +kernel
theorem dX7_seed_5 : decode cX7_seed 5 = .ok (.aload_n 0, 1) := by decide +kernel
theorem dX7_seed_6 : decode cX7_seed 6 = .ok (.iload_n 1, 1) := by decide +kernel
theorem dX7_seed_7 : decode cX7_seed 7 = .ok (.putfield 84, 3) := by decide +kernel
theorem dX7_seed_10 : decode cX7_seed 10 = .ok (.iload_n 2, 1) := by decide +kernel
theorem dX7_seed_11 : decode cX7_seed 11 = .ok (.ireturn, 1) := by decide +kernel
theorem dX7_image_0 : decode cX7_image 0 = .ok (.aload_n 0, 1) := by decide +kernel
theorem dX7_image_1 : decode cX7_image 1 = .ok (.getfield 22, 3) := by decide +kernel
theorem dX7_image_4 : decode cX7_image 4 = .ok (.aload_n 0, 1) := by decide +kernel
theorem dX7_image_5 : decode cX7_image 5 = .ok (.getfield 10, 3) := by decide +kernel
theorem dX7_image_8 : decode cX7_image 8 = .ok (.invokevirtual 193, 3) := by decide +kernel
theorem dX7_image_11 : decode cX7_image 11 = .ok (.aload_n 0, 1) := by decide +kernel
theorem dX7_image_12 : decode cX7_image 12 = .ok (.getfield 35, 3) := by decide +kernel
theorem dX7_image_15 : decode cX7_image 15 = .ok (.aload_n 0, 1) := by decide +kernel
theorem dX7_image_16 : decode cX7_image 16 = .ok (.getfield 28, 3) := by decide +kernel
theorem dX7_image_19 : decode cX7_image 19 = .ok (.invokevirtual 197, 3) := by decide +kernel
theorem dX7_image_22 : decode cX7_image 22 = .ok (.aload_n 0, 1) := by decide +kernel
theorem dX7_image_23 : decode cX7_image 23 = .ok (.aload_n 0, 1) := by decide +kernel
theorem dX7_image_24 : decode cX7_image 24 = .ok (.getfield 84, 3) := by decide +kernel
theorem dX7_image_27 : decode cX7_image 27 = .ok (.putfield 88, 3) := by decide +kernel
theorem dX7_image_30 : decode cX7_image 30 = .ok (.aload_n 0, 1) := by decide +kernel
theorem dX7_image_31 : decode cX7_image 31 = .ok (.iconst 1, 1) := by decide +kernel
theorem dX7_image_32 : decode cX7_image 32 = .ok (.putfield 91, 3) := by decide +kernel
theorem dX7_image_35 : decode cX7_image 35 = .ok (.iconst 1, 1) := by decide +kernel
theorem dX7_image_36 : decode cX7_image 36 = .ok (.ireturn, 1) := by decide +kernel
theorem dX7_back_0 : decode cX7_back 0 = .ok (.aload_n 0, 1) := by decide +kernel
theorem dX7_back_1 : decode cX7_back 1 = .ok (.getfield 91, 3) := by decide +kernel
theorem dX7_back_4 : decode cX7_back 4 = .ok (.ifCond .ne 10, 3) := by decide +kernel
theorem dX7_back_7 : decode cX7_back 7 = .ok (.aload_n 0, 1) := by decide +kernel
theorem dX7_back_8 : decode cX7_back 8 = .ok (.bipush (-5), 2) := by decide +kernel
theorem dX7_back_10 : decode cX7_back 10 = .ok (.invokevirtual 103, 3) := by decide +kernel
theorem dX7_back_13 : decode cX7_back 13 = .ok (.ireturn, 1) := by decide +kernel
theorem dX7_back_14 : decode cX7_back 14 = .ok (.aload_n 0, 1) := by decide +kernel
theorem dX7_back_15 : decode cX7_back 15 = .ok (.getfield 10, 3) := by decide +kernel
theorem dX7_back_18 : decode cX7_back 18 = .ok (.aload_n 0, 1) := by decide +kernel
theorem dX7_back_19 : decode cX7_back 19 = .ok (.getfield 22, 3) := by decide +kernel
theorem dX7_back_22 : decode cX7_back 22 = .ok (.invokevirtual 193, 3) := by decide +kernel
theorem dX7_back_25 : decode cX7_back 25 = .ok (.aload_n 0, 1) := by decide +kernel
theorem dX7_back_26 : decode cX7_back 26 = .ok (.getfield 28, 3) := by decide +kernel
theorem dX7_back_29 : decode cX7_back 29 = .ok (.aload_n 0, 1) := by decide +kernel
theorem dX7_back_30 : decode cX7_back 30 = .ok (.getfield 35, 3) := by decide +kernel
theorem dX7_back_33 : decode cX7_back 33 = .ok (.invokevirtual 197, 3) := by decide +kernel
theorem dX7_back_36 : decode cX7_back 36 = .ok (.aload_n 0, 1) := by decide +kernel
theorem dX7_back_37 : decode cX7_back 37 = .ok (.aload_n 0, 1) := by decide +kernel
theorem dX7_back_38 : decode cX7_back 38 = .ok (.getfield 88, 3) := by decide +kernel
theorem dX7_back_41 : decode cX7_back 41 = .ok (.putfield 84, 3) := by decide +kernel
theorem dX7_back_44 : decode cX7_back 44 = .ok (.aload_n 0, 1) := by decide +kernel
theorem dX7_back_45 : decode cX7_back 45 = .ok (.getfield 41, 3) := by decide +kernel
theorem dX7_back_48 : decode cX7_back 48 = .ok (.aload_n 0, 1) := by decide +kernel
theorem dX7_back_49 : decode cX7_back 49 = .ok (.getfield 28, 3) := by decide +kernel
theorem dX7_back_52 : decode cX7_back 52 = .ok (.getfield 303, 3) := by decide +kernel
theorem dX7_back_55 : decode cX7_back 55 = .ok (.invokevirtual 363, 3) := by decide +kernel
theorem dX7_back_58 : decode cX7_back 58 = .ok (.iconst 1, 1) := by decide +kernel
theorem dX7_back_59 : decode cX7_back 59 = .ok (.ireturn, 1) := by decide +kernel
theorem dX7_status_0 : decode cX7_status 0 = .ok (.iload_n 1, 1) := by decide +kernel
theorem dX7_status_1 : decode cX7_status 1 = .ok (.tableswitch 132 0 9 #[55, 63, 71, 79, 87, 95, 103, 111, 119, 124], 55) := by decide +kernel
theorem dX7_status_56 : decode cX7_status 56 = .ok (.aload_n 0, 1) := by decide +kernel
theorem dX7_status_57 : decode cX7_status 57 = .ok (.getfield 28, 3) := by decide +kernel
theorem dX7_status_60 : decode cX7_status 60 = .ok (.getfield 303, 3) := by decide +kernel
theorem dX7_status_63 : decode cX7_status 63 = .ok (.ireturn, 1) := by decide +kernel
theorem dX7_status_64 : decode cX7_status 64 = .ok (.aload_n 0, 1) := by decide +kernel
theorem dX7_status_65 : decode cX7_status 65 = .ok (.getfield 10, 3) := by decide +kernel
theorem dX7_status_68 : decode cX7_status 68 = .ok (.getfield 330, 3) := by decide +kernel
theorem dX7_status_71 : decode cX7_status 71 = .ok (.ireturn, 1) := by decide +kernel
theorem dX7_status_72 : decode cX7_status 72 = .ok (.aload_n 0, 1) := by decide +kernel
theorem dX7_status_73 : decode cX7_status 73 = .ok (.getfield 10, 3) := by decide +kernel
theorem dX7_status_76 : decode cX7_status 76 = .ok (.getfield 239, 3) := by decide +kernel
theorem dX7_status_79 : decode cX7_status 79 = .ok (.ireturn, 1) := by decide +kernel
theorem dX7_status_80 : decode cX7_status 80 = .ok (.aload_n 0, 1) := by decide +kernel
theorem dX7_status_81 : decode cX7_status 81 = .ok (.getfield 10, 3) := by decide +kernel
theorem dX7_status_84 : decode cX7_status 84 = .ok (.getfield 354, 3) := by decide +kernel
theorem dX7_status_87 : decode cX7_status 87 = .ok (.ireturn, 1) := by decide +kernel
theorem dX7_status_88 : decode cX7_status 88 = .ok (.aload_n 0, 1) := by decide +kernel
theorem dX7_status_89 : decode cX7_status 89 = .ok (.getfield 10, 3) := by decide +kernel
theorem dX7_status_92 : decode cX7_status 92 = .ok (.getfield 366, 3) := by decide +kernel
theorem dX7_status_95 : decode cX7_status 95 = .ok (.ireturn, 1) := by decide +kernel
theorem dX7_status_96 : decode cX7_status 96 = .ok (.aload_n 0, 1) := by decide +kernel
theorem dX7_status_97 : decode cX7_status 97 = .ok (.getfield 10, 3) := by decide +kernel
theorem dX7_status_100 : decode cX7_status 100 = .ok (.getfield 369, 3) := by decide +kernel
theorem dX7_status_103 : decode cX7_status 103 = .ok (.ireturn, 1) := by decide +kernel
theorem dX7_status_104 : decode cX7_status 104 = .ok (.aload_n 0, 1) := by decide +kernel
theorem dX7_status_105 : decode cX7_status 105 = .ok (.getfield 28, 3) := by decide +kernel
theorem dX7_status_108 : decode cX7_status 108 = .ok (.invokevirtual 372, 3) := by decide +kernel
theorem dX7_status_111 : decode cX7_status 111 = .ok (.ireturn, 1) := by decide +kernel
theorem dX7_status_112 : decode cX7_status 112 = .ok (.aload_n 0, 1) := by decide +kernel
theorem dX7_status_113 : decode cX7_status 113 = .ok (.getfield 48, 3) := by decide +kernel
theorem dX7_status_116 : decode cX7_status 116 = .ok (.getfield 375, 3) := by decide +kernel
theorem dX7_status_119 : decode cX7_status 119 = .ok (.ireturn, 1) := by decide +kernel
theorem dX7_status_120 : decode cX7_status 120 = .ok (.aload_n 0, 1) := by decide +kernel
theorem dX7_status_121 : decode cX7_status 121 = .ok (.getfield 84, 3) := by decide +kernel
theorem dX7_status_124 : decode cX7_status 124 = .ok (.ireturn, 1) := by decide +kernel
theorem dX7_status_125 : decode cX7_status 125 = .ok (.aload_n 0, 1) := by decide +kernel
theorem dX7_status_126 : decode cX7_status 126 = .ok (.getfield 41, 3) := by decide +kernel
theorem dX7_status_129 : decode cX7_status 129 = .ok (.invokevirtual 378, 3) := by decide +kernel
theorem dX7_status_132 : decode cX7_status 132 = .ok (.ireturn, 1) := by decide +kernel
theorem dX7_status_133 : decode cX7_status 133 = .ok (.aload_n 0, 1) := by decide +kernel
theorem dX7_status_134 : decode cX7_status 134 = .ok (.iload_n 1, 1) := by decide +kernel
theorem dX7_status_135 : decode cX7_status 135 = .ok (.bipush 12, 2) := by decide +kernel
theorem dX7_status_137 : decode cX7_status 137 = .ok (.isub, 1) := by decide +kernel
theorem dX7_status_138 : decode cX7_status 138 = .ok (.invokevirtual 381, 3) := by decide +kernel
theorem dX7_status_141 : decode cX7_status 141 = .ok (.ireturn, 1) := by decide +kernel
theorem dX7_refused_0 : decode cX7_refused 0 = .ok (.bipush (-2), 2) := by decide +kernel
theorem dX7_refused_2 : decode cX7_refused 2 = .ok (.iload_n 1, 1) := by decide +kernel
theorem dX7_refused_3 : decode cX7_refused 3 = .ok (.isub, 1) := by decide +kernel
theorem dX7_refused_4 : decode cX7_refused 4 = .ok (.istore_n 2, 1) := by decide +kernel
theorem dX7_refused_5 : decode cX7_refused 5 = .ok (.iload_n 2, 1) := by decide +kernel
theorem dX7_refused_6 : decode cX7_refused 6 = .ok (.ifCond .lt 22, 3) := by decide +kernel
theorem dX7_refused_9 : decode cX7_refused 9 = .ok (.iload_n 2, 1) := by decide +kernel
theorem dX7_refused_10 : decode cX7_refused 10 = .ok (.aload_n 0, 1) := by decide +kernel
theorem dX7_refused_11 : decode cX7_refused 11 = .ok (.getfield 81, 3) := by decide +kernel
theorem dX7_refused_14 : decode cX7_refused 14 = .ok (.arraylength, 1) := by decide +kernel
theorem dX7_refused_15 : decode cX7_refused 15 = .ok (.if_icmp .ge 13, 3) := by decide +kernel
theorem dX7_refused_18 : decode cX7_refused 18 = .ok (.aload_n 0, 1) := by decide +kernel
theorem dX7_refused_19 : decode cX7_refused 19 = .ok (.getfield 81, 3) := by decide +kernel
theorem dX7_refused_22 : decode cX7_refused 22 = .ok (.iload_n 2, 1) := by decide +kernel
theorem dX7_refused_23 : decode cX7_refused 23 = .ok (.dup2, 1) := by decide +kernel
theorem dX7_refused_24 : decode cX7_refused 24 = .ok (.iaload, 1) := by decide +kernel
theorem dX7_refused_25 : decode cX7_refused 25 = .ok (.iconst 1, 1) := by decide +kernel
theorem dX7_refused_26 : decode cX7_refused 26 = .ok (.iadd, 1) := by decide +kernel
theorem dX7_refused_27 : decode cX7_refused 27 = .ok (.iastore, 1) := by decide +kernel
theorem dX7_refused_28 : decode cX7_refused 28 = .ok (.iload_n 1, 1) := by decide +kernel
theorem dX7_refused_29 : decode cX7_refused 29 = .ok (.ireturn, 1) := by decide +kernel
theorem dX7_refusalsTold_0 : decode cX7_refusalsTold 0 = .ok (.iload_n 1, 1) := by decide +kernel
theorem dX7_refusalsTold_1 : decode cX7_refusalsTold 1 = .ok (.ifCond .lt 21, 3) := by decide +kernel
theorem dX7_refusalsTold_4 : decode cX7_refusalsTold 4 = .ok (.iload_n 1, 1) := by decide +kernel
theorem dX7_refusalsTold_5 : decode cX7_refusalsTold 5 = .ok (.aload_n 0, 1) := by decide +kernel
theorem dX7_refusalsTold_6 : decode cX7_refusalsTold 6 = .ok (.getfield 81, 3) := by decide +kernel
theorem dX7_refusalsTold_9 : decode cX7_refusalsTold 9 = .ok (.arraylength, 1) := by decide +kernel
theorem dX7_refusalsTold_10 : decode cX7_refusalsTold 10 = .ok (.if_icmp .ge 12, 3) := by decide +kernel
theorem dX7_refusalsTold_13 : decode cX7_refusalsTold 13 = .ok (.aload_n 0, 1) := by decide +kernel
theorem dX7_refusalsTold_14 : decode cX7_refusalsTold 14 = .ok (.getfield 81, 3) := by decide +kernel
theorem dX7_refusalsTold_17 : decode cX7_refusalsTold 17 = .ok (.iload_n 1, 1) := by decide +kernel
theorem dX7_refusalsTold_18 : decode cX7_refusalsTold 18 = .ok (.iaload, 1) := by decide +kernel
theorem dX7_refusalsTold_19 : decode cX7_refusalsTold 19 = .ok (.goto 4, 3) := by decide +kernel
theorem dX7_refusalsTold_22 : decode cX7_refusalsTold 22 = .ok (.iconst (-1), 1) := by decide +kernel
theorem dX7_refusalsTold_23 : decode cX7_refusalsTold 23 = .ok (.ireturn, 1) := by decide +kernel
theorem dX7_rowFault_0 : decode cX7_rowFault 0 = .ok (.iload_n 1, 1) := by decide +kernel
theorem dX7_rowFault_1 : decode cX7_rowFault 1 = .ok (.invokestatic 95, 3) := by decide +kernel
theorem dX7_rowFault_4 : decode cX7_rowFault 4 = .ok (.ifCond .eq 7, 3) := by decide +kernel
theorem dX7_rowFault_7 : decode cX7_rowFault 7 = .ok (.iload_n 2, 1) := by decide +kernel
theorem dX7_rowFault_8 : decode cX7_rowFault 8 = .ok (.ifCond .ne 6, 3) := by decide +kernel
theorem dX7_rowFault_11 : decode cX7_rowFault 11 = .ok (.bipush (-2), 2) := by decide +kernel
theorem dX7_rowFault_13 : decode cX7_rowFault 13 = .ok (.ireturn, 1) := by decide +kernel
theorem dX7_rowFault_14 : decode cX7_rowFault 14 = .ok (.aload_n 0, 1) := by decide +kernel
theorem dX7_rowFault_15 : decode cX7_rowFault 15 = .ok (.getfield 41, 3) := by decide +kernel
theorem dX7_rowFault_18 : decode cX7_rowFault 18 = .ok (.iload_n 1, 1) := by decide +kernel
theorem dX7_rowFault_19 : decode cX7_rowFault 19 = .ok (.invokevirtual 123, 3) := by decide +kernel
theorem dX7_rowFault_22 : decode cX7_rowFault 22 = .ok (.ifCond .eq 6, 3) := by decide +kernel
theorem dX7_rowFault_25 : decode cX7_rowFault 25 = .ok (.bipush (-3), 2) := by decide +kernel
theorem dX7_rowFault_27 : decode cX7_rowFault 27 = .ok (.ireturn, 1) := by decide +kernel
theorem dX7_rowFault_28 : decode cX7_rowFault 28 = .ok (.aload_n 0, 1) := by decide +kernel
theorem dX7_rowFault_29 : decode cX7_rowFault 29 = .ok (.getfield 41, 3) := by decide +kernel
theorem dX7_rowFault_32 : decode cX7_rowFault 32 = .ok (.iload_n 1, 1) := by decide +kernel
theorem dX7_rowFault_33 : decode cX7_rowFault 33 = .ok (.invokevirtual 129, 3) := by decide +kernel
theorem dX7_rowFault_36 : decode cX7_rowFault 36 = .ok (.ifCond .eq 7, 3) := by decide +kernel
theorem dX7_rowFault_39 : decode cX7_rowFault 39 = .ok (.iconst 0, 1) := by decide +kernel
theorem dX7_rowFault_40 : decode cX7_rowFault 40 = .ok (.goto 5, 3) := by decide +kernel
theorem dX7_rowFault_43 : decode cX7_rowFault 43 = .ok (.bipush (-4), 2) := by decide +kernel
theorem dX7_rowFault_45 : decode cX7_rowFault 45 = .ok (.ireturn, 1) := by decide +kernel
theorem dX7_elementsFault_0 : decode cX7_elementsFault 0 = .ok (.aload_n 0, 1) := by decide +kernel
theorem dX7_elementsFault_1 : decode cX7_elementsFault 1 = .ok (.iload_n 1, 1) := by decide +kernel
theorem dX7_elementsFault_2 : decode cX7_elementsFault 2 = .ok (.iload 5, 2) := by decide +kernel
theorem dX7_elementsFault_4 : decode cX7_elementsFault 4 = .ok (.ifCond .eq 16, 3) := by decide +kernel
theorem dX7_elementsFault_7 : decode cX7_elementsFault 7 = .ok (.iload_n 2, 1) := by decide +kernel
theorem dX7_elementsFault_8 : decode cX7_elementsFault 8 = .ok (.iconst 0, 1) := by decide +kernel
theorem dX7_elementsFault_9 : decode cX7_elementsFault 9 = .ok (.iload_n 3, 1) := by decide +kernel
theorem dX7_elementsFault_10 : decode cX7_elementsFault 10 = .ok (.invokestatic 99, 3) := by decide +kernel
theorem dX7_elementsFault_13 : decode cX7_elementsFault 13 = .ok (.ifCond .eq 7, 3) := by decide +kernel
theorem dX7_elementsFault_16 : decode cX7_elementsFault 16 = .ok (.iconst 1, 1) := by decide +kernel
theorem dX7_elementsFault_17 : decode cX7_elementsFault 17 = .ok (.goto 4, 3) := by decide +kernel
theorem dX7_elementsFault_20 : decode cX7_elementsFault 20 = .ok (.iconst 0, 1) := by decide +kernel
theorem dX7_elementsFault_21 : decode cX7_elementsFault 21 = .ok (.invokevirtual 111, 3) := by decide +kernel
theorem dX7_elementsFault_24 : decode cX7_elementsFault 24 = .ok (.istore 6, 2) := by decide +kernel
theorem dX7_elementsFault_26 : decode cX7_elementsFault 26 = .ok (.iload 6, 2) := by decide +kernel
theorem dX7_elementsFault_28 : decode cX7_elementsFault 28 = .ok (.ifCond .eq 6, 3) := by decide +kernel
theorem dX7_elementsFault_31 : decode cX7_elementsFault 31 = .ok (.iload 6, 2) := by decide +kernel
theorem dX7_elementsFault_33 : decode cX7_elementsFault 33 = .ok (.ireturn, 1) := by decide +kernel
theorem dX7_elementsFault_34 : decode cX7_elementsFault 34 = .ok (.aload_n 0, 1) := by decide +kernel
theorem dX7_elementsFault_35 : decode cX7_elementsFault 35 = .ok (.getfield 41, 3) := by decide +kernel
theorem dX7_elementsFault_38 : decode cX7_elementsFault 38 = .ok (.iload_n 1, 1) := by decide +kernel
theorem dX7_elementsFault_39 : decode cX7_elementsFault 39 = .ok (.iconst 0, 1) := by decide +kernel
theorem dX7_elementsFault_40 : decode cX7_elementsFault 40 = .ok (.iload_n 2, 1) := by decide +kernel
theorem dX7_elementsFault_41 : decode cX7_elementsFault 41 = .ok (.iload 4, 2) := by decide +kernel
theorem dX7_elementsFault_43 : decode cX7_elementsFault 43 = .ok (.imul, 1) := by decide +kernel
theorem dX7_elementsFault_44 : decode cX7_elementsFault 44 = .ok (.invokevirtual 132, 3) := by decide +kernel
theorem dX7_elementsFault_47 : decode cX7_elementsFault 47 = .ok (.ifCond .eq 7, 3) := by decide +kernel
theorem dX7_elementsFault_50 : decode cX7_elementsFault 50 = .ok (.iconst 0, 1) := by decide +kernel
theorem dX7_elementsFault_51 : decode cX7_elementsFault 51 = .ok (.goto 5, 3) := by decide +kernel
theorem dX7_elementsFault_54 : decode cX7_elementsFault 54 = .ok (.bipush (-2), 2) := by decide +kernel
theorem dX7_elementsFault_56 : decode cX7_elementsFault 56 = .ok (.ireturn, 1) := by decide +kernel
theorem dX7_isWithin_0 : decode cX7_isWithin 0 = .ok (.iload_n 0, 1) := by decide +kernel
theorem dX7_isWithin_1 : decode cX7_isWithin 1 = .ok (.iload_n 1, 1) := by decide +kernel
theorem dX7_isWithin_2 : decode cX7_isWithin 2 = .ok (.if_icmp .lt 12, 3) := by decide +kernel
theorem dX7_isWithin_5 : decode cX7_isWithin 5 = .ok (.iload_n 0, 1) := by decide +kernel
theorem dX7_isWithin_6 : decode cX7_isWithin 6 = .ok (.iload_n 2, 1) := by decide +kernel
theorem dX7_isWithin_7 : decode cX7_isWithin 7 = .ok (.if_icmp .gt 7, 3) := by decide +kernel
theorem dX7_isWithin_10 : decode cX7_isWithin 10 = .ok (.iconst 1, 1) := by decide +kernel
theorem dX7_isWithin_11 : decode cX7_isWithin 11 = .ok (.goto 4, 3) := by decide +kernel
theorem dX7_isWithin_14 : decode cX7_isWithin 14 = .ok (.iconst 0, 1) := by decide +kernel
theorem dX7_isWithin_15 : decode cX7_isWithin 15 = .ok (.ireturn, 1) := by decide +kernel
theorem dX7_isShelf_0 : decode cX7_isShelf 0 = .ok (.iload_n 0, 1) := by decide +kernel
theorem dX7_isShelf_1 : decode cX7_isShelf 1 = .ok (.iconst 0, 1) := by decide +kernel
theorem dX7_isShelf_2 : decode cX7_isShelf 2 = .ok (.bipush 7, 2) := by decide +kernel
theorem dX7_isShelf_4 : decode cX7_isShelf 4 = .ok (.invokestatic 99, 3) := by decide +kernel
theorem dX7_isShelf_7 : decode cX7_isShelf 7 = .ok (.ireturn, 1) := by decide +kernel
theorem dX7_mayBe_0 : decode cX7_mayBe 0 = .ok (.iload_n 0, 1) := by decide +kernel
theorem dX7_mayBe_1 : decode cX7_mayBe 1 = .ok (.iconst 0, 1) := by decide +kernel
theorem dX7_mayBe_2 : decode cX7_mayBe 2 = .ok (.iconst 4, 1) := by decide +kernel
theorem dX7_mayBe_3 : decode cX7_mayBe 3 = .ok (.invokestatic 99, 3) := by decide +kernel
theorem dX7_mayBe_6 : decode cX7_mayBe 6 = .ok (.ifCond .eq 24, 3) := by decide +kernel
theorem dX7_mayBe_9 : decode cX7_mayBe 9 = .ok (.iload_n 1, 1) := by decide +kernel
theorem dX7_mayBe_10 : decode cX7_mayBe 10 = .ok (.getstatic 384, 3) := by decide +kernel
theorem dX7_mayBe_13 : decode cX7_mayBe 13 = .ok (.iload_n 0, 1) := by decide +kernel
theorem dX7_mayBe_14 : decode cX7_mayBe 14 = .ok (.iaload, 1) := by decide +kernel
theorem dX7_mayBe_15 : decode cX7_mayBe 15 = .ok (.getstatic 387, 3) := by decide +kernel
theorem dX7_mayBe_18 : decode cX7_mayBe 18 = .ok (.iload_n 0, 1) := by decide +kernel
theorem dX7_mayBe_19 : decode cX7_mayBe 19 = .ok (.iaload, 1) := by decide +kernel
theorem dX7_mayBe_20 : decode cX7_mayBe 20 = .ok (.invokestatic 99, 3) := by decide +kernel
theorem dX7_mayBe_23 : decode cX7_mayBe 23 = .ok (.ifCond .eq 7, 3) := by decide +kernel
theorem dX7_mayBe_26 : decode cX7_mayBe 26 = .ok (.iconst 1, 1) := by decide +kernel
theorem dX7_mayBe_27 : decode cX7_mayBe 27 = .ok (.goto 4, 3) := by decide +kernel
theorem dX7_mayBe_30 : decode cX7_mayBe 30 = .ok (.iconst 0, 1) := by decide +kernel
theorem dX7_mayBe_31 : decode cX7_mayBe 31 = .ok (.ireturn, 1) := by decide +kernel
theorem dX7_isUnder_0 : decode cX7_isUnder 0 = .ok (.iload_n 0, 1) := by decide +kernel
theorem dX7_isUnder_1 : decode cX7_isUnder 1 = .ok (.istore_n 2, 1) := by decide +kernel
theorem dX7_isUnder_2 : decode cX7_isUnder 2 = .ok (.iconst 0, 1) := by decide +kernel
theorem dX7_isUnder_3 : decode cX7_isUnder 3 = .ok (.istore_n 3, 1) := by decide +kernel
theorem dX7_isUnder_4 : decode cX7_isUnder 4 = .ok (.iload_n 3, 1) := by decide +kernel
theorem dX7_isUnder_5 : decode cX7_isUnder 5 = .ok (.bipush 6, 2) := by decide +kernel
theorem dX7_isUnder_7 : decode cX7_isUnder 7 = .ok (.if_icmp .ge 38, 3) := by decide +kernel
theorem dX7_isUnder_10 : decode cX7_isUnder 10 = .ok (.iload_n 2, 1) := by decide +kernel
theorem dX7_isUnder_11 : decode cX7_isUnder 11 = .ok (.iload_n 1, 1) := by decide +kernel
theorem dX7_isUnder_12 : decode cX7_isUnder 12 = .ok (.if_icmp .ne 5, 3) := by decide +kernel
theorem dX7_isUnder_15 : decode cX7_isUnder 15 = .ok (.iconst 1, 1) := by decide +kernel
theorem dX7_isUnder_16 : decode cX7_isUnder 16 = .ok (.ireturn, 1) := by decide +kernel
theorem dX7_isUnder_17 : decode cX7_isUnder 17 = .ok (.iload_n 2, 1) := by decide +kernel
theorem dX7_isUnder_18 : decode cX7_isUnder 18 = .ok (.ifCond .lt 19, 3) := by decide +kernel
theorem dX7_isUnder_21 : decode cX7_isUnder 21 = .ok (.iload_n 2, 1) := by decide +kernel
theorem dX7_isUnder_22 : decode cX7_isUnder 22 = .ok (.getstatic 390, 3) := by decide +kernel
theorem dX7_isUnder_25 : decode cX7_isUnder 25 = .ok (.arraylength, 1) := by decide +kernel
theorem dX7_isUnder_26 : decode cX7_isUnder 26 = .ok (.if_icmp .ge 11, 3) := by decide +kernel
theorem dX7_isUnder_29 : decode cX7_isUnder 29 = .ok (.getstatic 390, 3) := by decide +kernel
theorem dX7_isUnder_32 : decode cX7_isUnder 32 = .ok (.iload_n 2, 1) := by decide +kernel
theorem dX7_isUnder_33 : decode cX7_isUnder 33 = .ok (.iaload, 1) := by decide +kernel
theorem dX7_isUnder_34 : decode cX7_isUnder 34 = .ok (.goto 4, 3) := by decide +kernel
theorem dX7_isUnder_37 : decode cX7_isUnder 37 = .ok (.iconst (-1), 1) := by decide +kernel
theorem dX7_isUnder_38 : decode cX7_isUnder 38 = .ok (.istore_n 2, 1) := by decide +kernel
theorem dX7_isUnder_39 : decode cX7_isUnder 39 = .ok (.iinc 3 1, 3) := by decide +kernel
theorem dX7_isUnder_42 : decode cX7_isUnder 42 = .ok (.goto (-38), 3) := by decide +kernel
theorem dX7_isUnder_45 : decode cX7_isUnder 45 = .ok (.iconst 0, 1) := by decide +kernel
theorem dX7_isUnder_46 : decode cX7_isUnder 46 = .ok (.ireturn, 1) := by decide +kernel
theorem dX7_isOrder_0 : decode cX7_isOrder 0 = .ok (.lload_n 1, 1) := by decide +kernel
theorem dX7_isOrder_1 : decode cX7_isOrder 1 = .ok (.ldc2_w 393, 3) := by decide +kernel
theorem dX7_isOrder_4 : decode cX7_isOrder 4 = .ok (.lcmp, 1) := by decide +kernel
theorem dX7_isOrder_5 : decode cX7_isOrder 5 = .ok (.ifCond .eq 19, 3) := by decide +kernel
theorem dX7_isOrder_8 : decode cX7_isOrder 8 = .ok (.lload_n 1, 1) := by decide +kernel
theorem dX7_isOrder_9 : decode cX7_isOrder 9 = .ok (.ldc2_w 395, 3) := by decide +kernel
theorem dX7_isOrder_12 : decode cX7_isOrder 12 = .ok (.lcmp, 1) := by decide +kernel
theorem dX7_isOrder_13 : decode cX7_isOrder 13 = .ok (.ifCond .eq 11, 3) := by decide +kernel
theorem dX7_isOrder_16 : decode cX7_isOrder 16 = .ok (.aload_n 0, 1) := by decide +kernel
theorem dX7_isOrder_17 : decode cX7_isOrder 17 = .ok (.lload_n 1, 1) := by decide +kernel
theorem dX7_isOrder_18 : decode cX7_isOrder 18 = .ok (.invokevirtual 397, 3) := by decide +kernel
theorem dX7_isOrder_21 : decode cX7_isOrder 21 = .ok (.ifCond .eq 7, 3) := by decide +kernel
theorem dX7_isOrder_24 : decode cX7_isOrder 24 = .ok (.iconst 1, 1) := by decide +kernel
theorem dX7_isOrder_25 : decode cX7_isOrder 25 = .ok (.goto 4, 3) := by decide +kernel
theorem dX7_isOrder_28 : decode cX7_isOrder 28 = .ok (.iconst 0, 1) := by decide +kernel
theorem dX7_isOrder_29 : decode cX7_isOrder 29 = .ok (.ireturn, 1) := by decide +kernel
theorem dX7_isKeeper_0 : decode cX7_isKeeper 0 = .ok (.lload_n 1, 1) := by decide +kernel
theorem dX7_isKeeper_1 : decode cX7_isKeeper 1 = .ok (.lconst 0, 1) := by decide +kernel
theorem dX7_isKeeper_2 : decode cX7_isKeeper 2 = .ok (.lcmp, 1) := by decide +kernel
theorem dX7_isKeeper_3 : decode cX7_isKeeper 3 = .ok (.ifCond .lt 20, 3) := by decide +kernel
theorem dX7_isKeeper_6 : decode cX7_isKeeper 6 = .ok (.lload_n 1, 1) := by decide +kernel
theorem dX7_isKeeper_7 : decode cX7_isKeeper 7 = .ok (.aload_n 0, 1) := by decide +kernel
theorem dX7_isKeeper_8 : decode cX7_isKeeper 8 = .ok (.getfield 28, 3) := by decide +kernel
theorem dX7_isKeeper_11 : decode cX7_isKeeper 11 = .ok (.getfield 303, 3) := by decide +kernel
theorem dX7_isKeeper_14 : decode cX7_isKeeper 14 = .ok (.i2l, 1) := by decide +kernel
theorem dX7_isKeeper_15 : decode cX7_isKeeper 15 = .ok (.lcmp, 1) := by decide +kernel
theorem dX7_isKeeper_16 : decode cX7_isKeeper 16 = .ok (.ifCond .ge 7, 3) := by decide +kernel
theorem dX7_isKeeper_19 : decode cX7_isKeeper 19 = .ok (.iconst 1, 1) := by decide +kernel
theorem dX7_isKeeper_20 : decode cX7_isKeeper 20 = .ok (.goto 4, 3) := by decide +kernel
theorem dX7_isKeeper_23 : decode cX7_isKeeper 23 = .ok (.iconst 0, 1) := by decide +kernel
theorem dX7_isKeeper_24 : decode cX7_isKeeper 24 = .ok (.ireturn, 1) := by decide +kernel
theorem dX7_orderCount_0 : decode cX7_orderCount 0 = .ok (.aload_n 0, 1) := by decide +kernel
theorem dX7_orderCount_1 : decode cX7_orderCount 1 = .ok (.getfield 28, 3) := by decide +kernel
theorem dX7_orderCount_4 : decode cX7_orderCount 4 = .ok (.getfield 303, 3) := by decide +kernel
theorem dX7_orderCount_7 : decode cX7_orderCount 7 = .ok (.iconst 2, 1) := by decide +kernel
theorem dX7_orderCount_8 : decode cX7_orderCount 8 = .ok (.iadd, 1) := by decide +kernel
theorem dX7_orderCount_9 : decode cX7_orderCount 9 = .ok (.ireturn, 1) := by decide +kernel
theorem dX7_wrongPlace_0 : decode cX7_wrongPlace 0 = .ok (.iconst 0, 1) := by decide +kernel
theorem dX7_wrongPlace_1 : decode cX7_wrongPlace 1 = .ok (.istore_n 3, 1) := by decide +kernel
theorem dX7_wrongPlace_2 : decode cX7_wrongPlace 2 = .ok (.iload_n 3, 1) := by decide +kernel
theorem dX7_wrongPlace_3 : decode cX7_wrongPlace 3 = .ok (.iload_n 2, 1) := by decide +kernel
theorem dX7_wrongPlace_4 : decode cX7_wrongPlace 4 = .ok (.if_icmp .ge 27, 3) := by decide +kernel
theorem dX7_wrongPlace_7 : decode cX7_wrongPlace 7 = .ok (.aload_n 0, 1) := by decide +kernel
theorem dX7_wrongPlace_8 : decode cX7_wrongPlace 8 = .ok (.aload_n 0, 1) := by decide +kernel
theorem dX7_wrongPlace_9 : decode cX7_wrongPlace 9 = .ok (.getfield 41, 3) := by decide +kernel
theorem dX7_wrongPlace_12 : decode cX7_wrongPlace 12 = .ok (.iload_n 1, 1) := by decide +kernel
theorem dX7_wrongPlace_13 : decode cX7_wrongPlace 13 = .ok (.iload_n 3, 1) := by decide +kernel
theorem dX7_wrongPlace_14 : decode cX7_wrongPlace 14 = .ok (.invokevirtual 139, 3) := by decide +kernel
theorem dX7_wrongPlace_17 : decode cX7_wrongPlace 17 = .ok (.invokevirtual 221, 3) := by decide +kernel
theorem dX7_wrongPlace_20 : decode cX7_wrongPlace 20 = .ok (.ifCond .ne 5, 3) := by decide +kernel
theorem dX7_wrongPlace_23 : decode cX7_wrongPlace 23 = .ok (.iload_n 3, 1) := by decide +kernel
theorem dX7_wrongPlace_24 : decode cX7_wrongPlace 24 = .ok (.ireturn, 1) := by decide +kernel
theorem dX7_wrongPlace_25 : decode cX7_wrongPlace 25 = .ok (.iinc 3 1, 3) := by decide +kernel
theorem dX7_wrongPlace_28 : decode cX7_wrongPlace 28 = .ok (.goto (-26), 3) := by decide +kernel
theorem dX7_wrongPlace_31 : decode cX7_wrongPlace 31 = .ok (.iconst (-1), 1) := by decide +kernel
theorem dX7_wrongPlace_32 : decode cX7_wrongPlace 32 = .ok (.ireturn, 1) := by decide +kernel
theorem dX7_takeRoster_0 : decode cX7_takeRoster 0 = .ok (.aload_n 0, 1) := by decide +kernel
theorem dX7_takeRoster_1 : decode cX7_takeRoster 1 = .ok (.iload_n 1, 1) := by decide +kernel
theorem dX7_takeRoster_2 : decode cX7_takeRoster 2 = .ok (.iload_n 2, 1) := by decide +kernel
theorem dX7_takeRoster_3 : decode cX7_takeRoster 3 = .ok (.bipush 40, 2) := by decide +kernel
theorem dX7_takeRoster_5 : decode cX7_takeRoster 5 = .ok (.iconst 1, 1) := by decide +kernel
theorem dX7_takeRoster_6 : decode cX7_takeRoster 6 = .ok (.iload_n 3, 1) := by decide +kernel
theorem dX7_takeRoster_7 : decode cX7_takeRoster 7 = .ok (.invokevirtual 262, 3) := by decide +kernel
theorem dX7_takeRoster_10 : decode cX7_takeRoster 10 = .ok (.istore 4, 2) := by decide +kernel
theorem dX7_takeRoster_12 : decode cX7_takeRoster 12 = .ok (.iload 4, 2) := by decide +kernel
theorem dX7_takeRoster_14 : decode cX7_takeRoster 14 = .ok (.ifCond .eq 6, 3) := by decide +kernel
theorem dX7_takeRoster_17 : decode cX7_takeRoster 17 = .ok (.iload 4, 2) := by decide +kernel
theorem dX7_takeRoster_19 : decode cX7_takeRoster 19 = .ok (.ireturn, 1) := by decide +kernel
theorem dX7_takeRoster_20 : decode cX7_takeRoster 20 = .ok (.aload_n 0, 1) := by decide +kernel
theorem dX7_takeRoster_21 : decode cX7_takeRoster 21 = .ok (.iload_n 1, 1) := by decide +kernel
theorem dX7_takeRoster_22 : decode cX7_takeRoster 22 = .ok (.iload_n 2, 1) := by decide +kernel
theorem dX7_takeRoster_23 : decode cX7_takeRoster 23 = .ok (.invokevirtual 266, 3) := by decide +kernel
theorem dX7_takeRoster_26 : decode cX7_takeRoster 26 = .ok (.iconst (-1), 1) := by decide +kernel
theorem dX7_takeRoster_27 : decode cX7_takeRoster 27 = .ok (.if_icmp .eq 6, 3) := by decide +kernel
theorem dX7_takeRoster_30 : decode cX7_takeRoster 30 = .ok (.bipush (-5), 2) := by decide +kernel
theorem dX7_takeRoster_32 : decode cX7_takeRoster 32 = .ok (.ireturn, 1) := by decide +kernel
theorem dX7_takeRoster_33 : decode cX7_takeRoster 33 = .ok (.aload_n 0, 1) := by decide +kernel
theorem dX7_takeRoster_34 : decode cX7_takeRoster 34 = .ok (.iload_n 1, 1) := by decide +kernel
theorem dX7_takeRoster_35 : decode cX7_takeRoster 35 = .ok (.iload_n 2, 1) := by decide +kernel
theorem dX7_takeRoster_36 : decode cX7_takeRoster 36 = .ok (.invokevirtual 400, 3) := by decide +kernel
theorem dX7_takeRoster_39 : decode cX7_takeRoster 39 = .ok (.iconst 0, 1) := by decide +kernel
theorem dX7_takeRoster_40 : decode cX7_takeRoster 40 = .ok (.ireturn, 1) := by decide +kernel
theorem dX7_takeTwos_0 : decode cX7_takeTwos 0 = .ok (.aload_n 0, 1) := by decide +kernel
theorem dX7_takeTwos_1 : decode cX7_takeTwos 1 = .ok (.iload_n 1, 1) := by decide +kernel
theorem dX7_takeTwos_2 : decode cX7_takeTwos 2 = .ok (.iload_n 2, 1) := by decide +kernel
theorem dX7_takeTwos_3 : decode cX7_takeTwos 3 = .ok (.bipush 20, 2) := by decide +kernel
theorem dX7_takeTwos_5 : decode cX7_takeTwos 5 = .ok (.iconst 2, 1) := by decide +kernel
theorem dX7_takeTwos_6 : decode cX7_takeTwos 6 = .ok (.iload_n 3, 1) := by decide +kernel
theorem dX7_takeTwos_7 : decode cX7_takeTwos 7 = .ok (.invokevirtual 262, 3) := by decide +kernel
theorem dX7_takeTwos_10 : decode cX7_takeTwos 10 = .ok (.istore 4, 2) := by decide +kernel
theorem dX7_takeTwos_12 : decode cX7_takeTwos 12 = .ok (.iload 4, 2) := by decide +kernel
theorem dX7_takeTwos_14 : decode cX7_takeTwos 14 = .ok (.ifCond .eq 6, 3) := by decide +kernel
theorem dX7_takeTwos_17 : decode cX7_takeTwos 17 = .ok (.iload 4, 2) := by decide +kernel
theorem dX7_takeTwos_19 : decode cX7_takeTwos 19 = .ok (.ireturn, 1) := by decide +kernel
theorem dX7_takeTwos_20 : decode cX7_takeTwos 20 = .ok (.iconst 0, 1) := by decide +kernel
theorem dX7_takeTwos_21 : decode cX7_takeTwos 21 = .ok (.istore 5, 2) := by decide +kernel
theorem dX7_takeTwos_23 : decode cX7_takeTwos 23 = .ok (.iload 5, 2) := by decide +kernel
theorem dX7_takeTwos_25 : decode cX7_takeTwos 25 = .ok (.iload_n 2, 1) := by decide +kernel
theorem dX7_takeTwos_26 : decode cX7_takeTwos 26 = .ok (.if_icmp .ge 61, 3) := by decide +kernel
theorem dX7_takeTwos_29 : decode cX7_takeTwos 29 = .ok (.aload_n 0, 1) := by decide +kernel
theorem dX7_takeTwos_30 : decode cX7_takeTwos 30 = .ok (.getfield 41, 3) := by decide +kernel
theorem dX7_takeTwos_33 : decode cX7_takeTwos 33 = .ok (.iload_n 1, 1) := by decide +kernel
theorem dX7_takeTwos_34 : decode cX7_takeTwos 34 = .ok (.iconst 2, 1) := by decide +kernel
theorem dX7_takeTwos_35 : decode cX7_takeTwos 35 = .ok (.iload 5, 2) := by decide +kernel
theorem dX7_takeTwos_37 : decode cX7_takeTwos 37 = .ok (.imul, 1) := by decide +kernel
theorem dX7_takeTwos_38 : decode cX7_takeTwos 38 = .ok (.iconst 1, 1) := by decide +kernel
theorem dX7_takeTwos_39 : decode cX7_takeTwos 39 = .ok (.iadd, 1) := by decide +kernel
theorem dX7_takeTwos_40 : decode cX7_takeTwos 40 = .ok (.invokevirtual 139, 3) := by decide +kernel
theorem dX7_takeTwos_43 : decode cX7_takeTwos 43 = .ok (.lstore 6, 2) := by decide +kernel
theorem dX7_takeTwos_45 : decode cX7_takeTwos 45 = .ok (.aload_n 0, 1) := by decide +kernel
theorem dX7_takeTwos_46 : decode cX7_takeTwos 46 = .ok (.aload_n 0, 1) := by decide +kernel
theorem dX7_takeTwos_47 : decode cX7_takeTwos 47 = .ok (.getfield 41, 3) := by decide +kernel
theorem dX7_takeTwos_50 : decode cX7_takeTwos 50 = .ok (.iload_n 1, 1) := by decide +kernel
theorem dX7_takeTwos_51 : decode cX7_takeTwos 51 = .ok (.iconst 2, 1) := by decide +kernel
theorem dX7_takeTwos_52 : decode cX7_takeTwos 52 = .ok (.iload 5, 2) := by decide +kernel
theorem dX7_takeTwos_54 : decode cX7_takeTwos 54 = .ok (.imul, 1) := by decide +kernel
theorem dX7_takeTwos_55 : decode cX7_takeTwos 55 = .ok (.invokevirtual 139, 3) := by decide +kernel
theorem dX7_takeTwos_58 : decode cX7_takeTwos 58 = .ok (.invokevirtual 397, 3) := by decide +kernel
theorem dX7_takeTwos_61 : decode cX7_takeTwos 61 = .ok (.ifCond .eq 17, 3) := by decide +kernel
theorem dX7_takeTwos_64 : decode cX7_takeTwos 64 = .ok (.lload 6, 2) := by decide +kernel
theorem dX7_takeTwos_66 : decode cX7_takeTwos 66 = .ok (.lconst 0, 1) := by decide +kernel
theorem dX7_takeTwos_67 : decode cX7_takeTwos 67 = .ok (.lcmp, 1) := by decide +kernel
theorem dX7_takeTwos_68 : decode cX7_takeTwos 68 = .ok (.ifCond .lt 10, 3) := by decide +kernel
theorem dX7_takeTwos_71 : decode cX7_takeTwos 71 = .ok (.lload 6, 2) := by decide +kernel
theorem dX7_takeTwos_73 : decode cX7_takeTwos 73 = .ok (.lconst 1, 1) := by decide +kernel
theorem dX7_takeTwos_74 : decode cX7_takeTwos 74 = .ok (.lcmp, 1) := by decide +kernel
theorem dX7_takeTwos_75 : decode cX7_takeTwos 75 = .ok (.ifCond .le 6, 3) := by decide +kernel
theorem dX7_takeTwos_78 : decode cX7_takeTwos 78 = .ok (.bipush (-5), 2) := by decide +kernel
theorem dX7_takeTwos_80 : decode cX7_takeTwos 80 = .ok (.ireturn, 1) := by decide +kernel
theorem dX7_takeTwos_81 : decode cX7_takeTwos 81 = .ok (.iinc 5 1, 3) := by decide +kernel
theorem dX7_takeTwos_84 : decode cX7_takeTwos 84 = .ok (.goto (-61), 3) := by decide +kernel
theorem dX7_takeTwos_87 : decode cX7_takeTwos 87 = .ok (.aload_n 0, 1) := by decide +kernel
theorem dX7_takeTwos_88 : decode cX7_takeTwos 88 = .ok (.iload_n 1, 1) := by decide +kernel
theorem dX7_takeTwos_89 : decode cX7_takeTwos 89 = .ok (.iconst 2, 1) := by decide +kernel
theorem dX7_takeTwos_90 : decode cX7_takeTwos 90 = .ok (.iload_n 2, 1) := by decide +kernel
theorem dX7_takeTwos_91 : decode cX7_takeTwos 91 = .ok (.imul, 1) := by decide +kernel
theorem dX7_takeTwos_92 : decode cX7_takeTwos 92 = .ok (.invokevirtual 400, 3) := by decide +kernel
theorem dX7_takeTwos_95 : decode cX7_takeTwos 95 = .ok (.iconst 0, 1) := by decide +kernel
theorem dX7_takeTwos_96 : decode cX7_takeTwos 96 = .ok (.ireturn, 1) := by decide +kernel
theorem dX7_takePlan_0 : decode cX7_takePlan 0 = .ok (.iconst 0, 1) := by decide +kernel
theorem dX7_takePlan_1 : decode cX7_takePlan 1 = .ok (.istore_n 3, 1) := by decide +kernel
theorem dX7_takePlan_2 : decode cX7_takePlan 2 = .ok (.iload_n 3, 1) := by decide +kernel
theorem dX7_takePlan_3 : decode cX7_takePlan 3 = .ok (.iload_n 2, 1) := by decide +kernel
theorem dX7_takePlan_4 : decode cX7_takePlan 4 = .ok (.if_icmp .ge 34, 3) := by decide +kernel
theorem dX7_takePlan_7 : decode cX7_takePlan 7 = .ok (.iload_n 3, 1) := by decide +kernel
theorem dX7_takePlan_8 : decode cX7_takePlan 8 = .ok (.aload_n 0, 1) := by decide +kernel
theorem dX7_takePlan_9 : decode cX7_takePlan 9 = .ok (.getfield 73, 3) := by decide +kernel
theorem dX7_takePlan_12 : decode cX7_takePlan 12 = .ok (.arraylength, 1) := by decide +kernel
theorem dX7_takePlan_13 : decode cX7_takePlan 13 = .ok (.if_icmp .ge 25, 3) := by decide +kernel
theorem dX7_takePlan_16 : decode cX7_takePlan 16 = .ok (.aload_n 0, 1) := by decide +kernel
theorem dX7_takePlan_17 : decode cX7_takePlan 17 = .ok (.getfield 73, 3) := by decide +kernel
theorem dX7_takePlan_20 : decode cX7_takePlan 20 = .ok (.iload_n 3, 1) := by decide +kernel
theorem dX7_takePlan_21 : decode cX7_takePlan 21 = .ok (.aload_n 0, 1) := by decide +kernel
theorem dX7_takePlan_22 : decode cX7_takePlan 22 = .ok (.getfield 41, 3) := by decide +kernel
theorem dX7_takePlan_25 : decode cX7_takePlan 25 = .ok (.iload_n 1, 1) := by decide +kernel
theorem dX7_takePlan_26 : decode cX7_takePlan 26 = .ok (.iload_n 3, 1) := by decide +kernel
theorem dX7_takePlan_27 : decode cX7_takePlan 27 = .ok (.invokevirtual 139, 3) := by decide +kernel
theorem dX7_takePlan_30 : decode cX7_takePlan 30 = .ok (.l2i, 1) := by decide +kernel
theorem dX7_takePlan_31 : decode cX7_takePlan 31 = .ok (.iastore, 1) := by decide +kernel
theorem dX7_takePlan_32 : decode cX7_takePlan 32 = .ok (.iinc 3 1, 3) := by decide +kernel
theorem dX7_takePlan_35 : decode cX7_takePlan 35 = .ok (.goto (-33), 3) := by decide +kernel
theorem dX7_takePlan_38 : decode cX7_takePlan 38 = .ok (.return_, 1) := by decide +kernel
theorem dX7_walkOver_0 : decode cX7_walkOver 0 = .ok (.iconst 0, 1) := by decide +kernel
theorem dX7_walkOver_1 : decode cX7_walkOver 1 = .ok (.istore_n 2, 1) := by decide +kernel
theorem dX7_walkOver_2 : decode cX7_walkOver 2 = .ok (.iload_n 2, 1) := by decide +kernel
theorem dX7_walkOver_3 : decode cX7_walkOver 3 = .ok (.aload_n 0, 1) := by decide +kernel
theorem dX7_walkOver_4 : decode cX7_walkOver 4 = .ok (.getfield 73, 3) := by decide +kernel
theorem dX7_walkOver_7 : decode cX7_walkOver 7 = .ok (.arraylength, 1) := by decide +kernel
theorem dX7_walkOver_8 : decode cX7_walkOver 8 = .ok (.if_icmp .ge 16, 3) := by decide +kernel
theorem dX7_walkOver_11 : decode cX7_walkOver 11 = .ok (.aload_n 0, 1) := by decide +kernel
theorem dX7_walkOver_12 : decode cX7_walkOver 12 = .ok (.getfield 73, 3) := by decide +kernel
theorem dX7_walkOver_15 : decode cX7_walkOver 15 = .ok (.iload_n 2, 1) := by decide +kernel
theorem dX7_walkOver_16 : decode cX7_walkOver 16 = .ok (.iload_n 1, 1) := by decide +kernel
theorem dX7_walkOver_17 : decode cX7_walkOver 17 = .ok (.iastore, 1) := by decide +kernel
theorem dX7_walkOver_18 : decode cX7_walkOver 18 = .ok (.iinc 2 1, 3) := by decide +kernel
theorem dX7_walkOver_21 : decode cX7_walkOver 21 = .ok (.goto (-19), 3) := by decide +kernel
theorem dX7_walkOver_24 : decode cX7_walkOver 24 = .ok (.aload_n 0, 1) := by decide +kernel
theorem dX7_walkOver_25 : decode cX7_walkOver 25 = .ok (.getfield 55, 3) := by decide +kernel
theorem dX7_walkOver_28 : decode cX7_walkOver 28 = .ok (.aload_n 0, 1) := by decide +kernel
theorem dX7_walkOver_29 : decode cX7_walkOver 29 = .ok (.getfield 73, 3) := by decide +kernel
theorem dX7_walkOver_32 : decode cX7_walkOver 32 = .ok (.bipush 48, 2) := by decide +kernel
theorem dX7_walkOver_34 : decode cX7_walkOver 34 = .ok (.aload_n 0, 1) := by decide +kernel
theorem dX7_walkOver_35 : decode cX7_walkOver 35 = .ok (.getfield 10, 3) := by decide +kernel
theorem dX7_walkOver_38 : decode cX7_walkOver 38 = .ok (.aload_n 0, 1) := by decide +kernel
theorem dX7_walkOver_39 : decode cX7_walkOver 39 = .ok (.getfield 28, 3) := by decide +kernel
theorem dX7_walkOver_42 : decode cX7_walkOver 42 = .ok (.invokevirtual 246, 3) := by decide +kernel
theorem dX7_walkOver_45 : decode cX7_walkOver 45 = .ok (.return_, 1) := by decide +kernel
theorem dX7_walkTurns_0 : decode cX7_walkTurns 0 = .ok (.iload_n 1, 1) := by decide +kernel
theorem dX7_walkTurns_1 : decode cX7_walkTurns 1 = .ok (.istore_n 3, 1) := by decide +kernel
theorem dX7_walkTurns_2 : decode cX7_walkTurns 2 = .ok (.iconst 0, 1) := by decide +kernel
theorem dX7_walkTurns_3 : decode cX7_walkTurns 3 = .ok (.istore 4, 2) := by decide +kernel
theorem dX7_walkTurns_5 : decode cX7_walkTurns 5 = .ok (.iload 4, 2) := by decide +kernel
theorem dX7_walkTurns_7 : decode cX7_walkTurns 7 = .ok (.iload_n 2, 1) := by decide +kernel
theorem dX7_walkTurns_8 : decode cX7_walkTurns 8 = .ok (.if_icmp .ge 48, 3) := by decide +kernel
theorem dX7_walkTurns_11 : decode cX7_walkTurns 11 = .ok (.iload 4, 2) := by decide +kernel
theorem dX7_walkTurns_13 : decode cX7_walkTurns 13 = .ok (.aload_n 0, 1) := by decide +kernel
theorem dX7_walkTurns_14 : decode cX7_walkTurns 14 = .ok (.getfield 73, 3) := by decide +kernel
theorem dX7_walkTurns_17 : decode cX7_walkTurns 17 = .ok (.arraylength, 1) := by decide +kernel
theorem dX7_walkTurns_18 : decode cX7_walkTurns 18 = .ok (.if_icmp .ge 38, 3) := by decide +kernel
theorem dX7_walkTurns_21 : decode cX7_walkTurns 21 = .ok (.aload_n 0, 1) := by decide +kernel
theorem dX7_walkTurns_22 : decode cX7_walkTurns 22 = .ok (.getfield 73, 3) := by decide +kernel
theorem dX7_walkTurns_25 : decode cX7_walkTurns 25 = .ok (.iload 4, 2) := by decide +kernel
theorem dX7_walkTurns_27 : decode cX7_walkTurns 27 = .ok (.iload_n 3, 1) := by decide +kernel
theorem dX7_walkTurns_28 : decode cX7_walkTurns 28 = .ok (.iastore, 1) := by decide +kernel
theorem dX7_walkTurns_29 : decode cX7_walkTurns 29 = .ok (.iload_n 3, 1) := by decide +kernel
theorem dX7_walkTurns_30 : decode cX7_walkTurns 30 = .ok (.iconst 1, 1) := by decide +kernel
theorem dX7_walkTurns_31 : decode cX7_walkTurns 31 = .ok (.iadd, 1) := by decide +kernel
theorem dX7_walkTurns_32 : decode cX7_walkTurns 32 = .ok (.aload_n 0, 1) := by decide +kernel
theorem dX7_walkTurns_33 : decode cX7_walkTurns 33 = .ok (.getfield 28, 3) := by decide +kernel
theorem dX7_walkTurns_36 : decode cX7_walkTurns 36 = .ok (.getfield 303, 3) := by decide +kernel
theorem dX7_walkTurns_39 : decode cX7_walkTurns 39 = .ok (.if_icmp .ge 9, 3) := by decide +kernel
theorem dX7_walkTurns_42 : decode cX7_walkTurns 42 = .ok (.iload_n 3, 1) := by decide +kernel
theorem dX7_walkTurns_43 : decode cX7_walkTurns 43 = .ok (.iconst 1, 1) := by decide +kernel
theorem dX7_walkTurns_44 : decode cX7_walkTurns 44 = .ok (.iadd, 1) := by decide +kernel
theorem dX7_walkTurns_45 : decode cX7_walkTurns 45 = .ok (.goto 4, 3) := by decide +kernel
theorem dX7_walkTurns_48 : decode cX7_walkTurns 48 = .ok (.iconst 0, 1) := by decide +kernel
theorem dX7_walkTurns_49 : decode cX7_walkTurns 49 = .ok (.istore_n 3, 1) := by decide +kernel
theorem dX7_walkTurns_50 : decode cX7_walkTurns 50 = .ok (.iinc 4 1, 3) := by decide +kernel
theorem dX7_walkTurns_53 : decode cX7_walkTurns 53 = .ok (.goto (-48), 3) := by decide +kernel
theorem dX7_walkTurns_56 : decode cX7_walkTurns 56 = .ok (.aload_n 0, 1) := by decide +kernel
theorem dX7_walkTurns_57 : decode cX7_walkTurns 57 = .ok (.getfield 55, 3) := by decide +kernel
theorem dX7_walkTurns_60 : decode cX7_walkTurns 60 = .ok (.aload_n 0, 1) := by decide +kernel
theorem dX7_walkTurns_61 : decode cX7_walkTurns 61 = .ok (.getfield 73, 3) := by decide +kernel
theorem dX7_walkTurns_64 : decode cX7_walkTurns 64 = .ok (.iload_n 2, 1) := by decide +kernel
theorem dX7_walkTurns_65 : decode cX7_walkTurns 65 = .ok (.aload_n 0, 1) := by decide +kernel
theorem dX7_walkTurns_66 : decode cX7_walkTurns 66 = .ok (.getfield 10, 3) := by decide +kernel
theorem dX7_walkTurns_69 : decode cX7_walkTurns 69 = .ok (.aload_n 0, 1) := by decide +kernel
theorem dX7_walkTurns_70 : decode cX7_walkTurns 70 = .ok (.getfield 28, 3) := by decide +kernel
theorem dX7_walkTurns_73 : decode cX7_walkTurns 73 = .ok (.invokevirtual 246, 3) := by decide +kernel
theorem dX7_walkTurns_76 : decode cX7_walkTurns 76 = .ok (.return_, 1) := by decide +kernel
theorem dX7_rageWith_0 : decode cX7_rageWith 0 = .ok (.iload_n 2, 1) := by decide +kernel
theorem dX7_rageWith_1 : decode cX7_rageWith 1 = .ok (.ifCond .lt 12, 3) := by decide +kernel
theorem dX7_rageWith_4 : decode cX7_rageWith 4 = .ok (.iload_n 2, 1) := by decide +kernel
theorem dX7_rageWith_5 : decode cX7_rageWith 5 = .ok (.aload_n 0, 1) := by decide +kernel
theorem dX7_rageWith_6 : decode cX7_rageWith 6 = .ok (.getfield 73, 3) := by decide +kernel
theorem dX7_rageWith_9 : decode cX7_rageWith 9 = .ok (.arraylength, 1) := by decide +kernel
theorem dX7_rageWith_10 : decode cX7_rageWith 10 = .ok (.if_icmp .lt 11, 3) := by decide +kernel
theorem dX7_rageWith_13 : decode cX7_rageWith 13 = .ok (.aload_n 0, 1) := by decide +kernel
theorem dX7_rageWith_14 : decode cX7_rageWith 14 = .ok (.getfield 10, 3) := by decide +kernel
theorem dX7_rageWith_17 : decode cX7_rageWith 17 = .ok (.getfield 330, 3) := by decide +kernel
theorem dX7_rageWith_20 : decode cX7_rageWith 20 = .ok (.ireturn, 1) := by decide +kernel
theorem dX7_rageWith_21 : decode cX7_rageWith 21 = .ok (.aload_n 0, 1) := by decide +kernel
theorem dX7_rageWith_22 : decode cX7_rageWith 22 = .ok (.getfield 73, 3) := by decide +kernel
theorem dX7_rageWith_25 : decode cX7_rageWith 25 = .ok (.iload_n 2, 1) := by decide +kernel
theorem dX7_rageWith_26 : decode cX7_rageWith 26 = .ok (.iaload, 1) := by decide +kernel
theorem dX7_rageWith_27 : decode cX7_rageWith 27 = .ok (.istore 4, 2) := by decide +kernel
theorem dX7_rageWith_29 : decode cX7_rageWith 29 = .ok (.aload_n 0, 1) := by decide +kernel
theorem dX7_rageWith_30 : decode cX7_rageWith 30 = .ok (.getfield 73, 3) := by decide +kernel
theorem dX7_rageWith_33 : decode cX7_rageWith 33 = .ok (.iload_n 2, 1) := by decide +kernel
theorem dX7_rageWith_34 : decode cX7_rageWith 34 = .ok (.iload_n 3, 1) := by decide +kernel
theorem dX7_rageWith_35 : decode cX7_rageWith 35 = .ok (.iastore, 1) := by decide +kernel
theorem dX7_rageWith_36 : decode cX7_rageWith 36 = .ok (.aload_n 0, 1) := by decide +kernel
theorem dX7_rageWith_37 : decode cX7_rageWith 37 = .ok (.getfield 55, 3) := by decide +kernel
theorem dX7_rageWith_40 : decode cX7_rageWith 40 = .ok (.aload_n 0, 1) := by decide +kernel
theorem dX7_rageWith_41 : decode cX7_rageWith 41 = .ok (.getfield 73, 3) := by decide +kernel
theorem dX7_rageWith_44 : decode cX7_rageWith 44 = .ok (.iload_n 1, 1) := by decide +kernel
theorem dX7_rageWith_45 : decode cX7_rageWith 45 = .ok (.aload_n 0, 1) := by decide +kernel
theorem dX7_rageWith_46 : decode cX7_rageWith 46 = .ok (.getfield 10, 3) := by decide +kernel
theorem dX7_rageWith_49 : decode cX7_rageWith 49 = .ok (.aload_n 0, 1) := by decide +kernel
theorem dX7_rageWith_50 : decode cX7_rageWith 50 = .ok (.getfield 28, 3) := by decide +kernel
theorem dX7_rageWith_53 : decode cX7_rageWith 53 = .ok (.invokevirtual 246, 3) := by decide +kernel
theorem dX7_rageWith_56 : decode cX7_rageWith 56 = .ok (.aload_n 0, 1) := by decide +kernel
theorem dX7_rageWith_57 : decode cX7_rageWith 57 = .ok (.getfield 73, 3) := by decide +kernel
theorem dX7_rageWith_60 : decode cX7_rageWith 60 = .ok (.iload_n 2, 1) := by decide +kernel
theorem dX7_rageWith_61 : decode cX7_rageWith 61 = .ok (.iload 4, 2) := by decide +kernel
theorem dX7_rageWith_63 : decode cX7_rageWith 63 = .ok (.iastore, 1) := by decide +kernel
theorem dX7_rageWith_64 : decode cX7_rageWith 64 = .ok (.aload_n 0, 1) := by decide +kernel
theorem dX7_rageWith_65 : decode cX7_rageWith 65 = .ok (.getfield 55, 3) := by decide +kernel
theorem dX7_rageWith_68 : decode cX7_rageWith 68 = .ok (.getfield 256, 3) := by decide +kernel
theorem dX7_rageWith_71 : decode cX7_rageWith 71 = .ok (.getfield 330, 3) := by decide +kernel
theorem dX7_rageWith_74 : decode cX7_rageWith 74 = .ok (.ireturn, 1) := by decide +kernel
theorem dX7_tryHour_0 : decode cX7_tryHour 0 = .ok (.aload_n 0, 1) := by decide +kernel
theorem dX7_tryHour_1 : decode cX7_tryHour 1 = .ok (.getfield 16, 3) := by decide +kernel
theorem dX7_tryHour_4 : decode cX7_tryHour 4 = .ok (.aload_n 0, 1) := by decide +kernel
theorem dX7_tryHour_5 : decode cX7_tryHour 5 = .ok (.getfield 10, 3) := by decide +kernel
theorem dX7_tryHour_8 : decode cX7_tryHour 8 = .ok (.invokevirtual 193, 3) := by decide +kernel
theorem dX7_tryHour_11 : decode cX7_tryHour 11 = .ok (.aload_n 0, 1) := by decide +kernel
theorem dX7_tryHour_12 : decode cX7_tryHour 12 = .ok (.getfield 16, 3) := by decide +kernel
theorem dX7_tryHour_15 : decode cX7_tryHour 15 = .ok (.iload_n 1, 1) := by decide +kernel
theorem dX7_tryHour_16 : decode cX7_tryHour 16 = .ok (.aload_n 0, 1) := by decide +kernel
theorem dX7_tryHour_17 : decode cX7_tryHour 17 = .ok (.getfield 28, 3) := by decide +kernel
theorem dX7_tryHour_20 : decode cX7_tryHour 20 = .ok (.invokevirtual 307, 3) := by decide +kernel
theorem dX7_tryHour_23 : decode cX7_tryHour 23 = .ok (.return_, 1) := by decide +kernel
theorem dX7_rageAfter_0 : decode cX7_rageAfter 0 = .ok (.aload_n 0, 1) := by decide +kernel
theorem dX7_rageAfter_1 : decode cX7_rageAfter 1 = .ok (.getfield 16, 3) := by decide +kernel
theorem dX7_rageAfter_4 : decode cX7_rageAfter 4 = .ok (.aload_n 0, 1) := by decide +kernel
theorem dX7_rageAfter_5 : decode cX7_rageAfter 5 = .ok (.getfield 10, 3) := by decide +kernel
theorem dX7_rageAfter_8 : decode cX7_rageAfter 8 = .ok (.invokevirtual 193, 3) := by decide +kernel
theorem dX7_rageAfter_11 : decode cX7_rageAfter 11 = .ok (.aload_n 0, 1) := by decide +kernel
theorem dX7_rageAfter_12 : decode cX7_rageAfter 12 = .ok (.getfield 16, 3) := by decide +kernel
theorem dX7_rageAfter_15 : decode cX7_rageAfter 15 = .ok (.iload_n 1, 1) := by decide +kernel
theorem dX7_rageAfter_16 : decode cX7_rageAfter 16 = .ok (.putfield 330, 3) := by decide +kernel
theorem dX7_rageAfter_19 : decode cX7_rageAfter 19 = .ok (.aload_n 0, 1) := by decide +kernel
theorem dX7_rageAfter_20 : decode cX7_rageAfter 20 = .ok (.getfield 16, 3) := by decide +kernel
theorem dX7_rageAfter_23 : decode cX7_rageAfter 23 = .ok (.iload_n 2, 1) := by decide +kernel
theorem dX7_rageAfter_24 : decode cX7_rageAfter 24 = .ok (.aload_n 0, 1) := by decide +kernel
theorem dX7_rageAfter_25 : decode cX7_rageAfter 25 = .ok (.getfield 28, 3) := by decide +kernel
theorem dX7_rageAfter_28 : decode cX7_rageAfter 28 = .ok (.invokevirtual 307, 3) := by decide +kernel
theorem dX7_rageAfter_31 : decode cX7_rageAfter 31 = .ok (.aload_n 0, 1) := by decide +kernel
theorem dX7_rageAfter_32 : decode cX7_rageAfter 32 = .ok (.getfield 16, 3) := by decide +kernel
theorem dX7_rageAfter_35 : decode cX7_rageAfter 35 = .ok (.getfield 330, 3) := by decide +kernel
theorem dX7_rageAfter_38 : decode cX7_rageAfter 38 = .ok (.ireturn, 1) := by decide +kernel
theorem dX7_tallyRages_0 : decode cX7_tallyRages 0 = .ok (.aload_n 0, 1) := by decide +kernel
theorem dX7_tallyRages_1 : decode cX7_tallyRages 1 = .ok (.getfield 69, 3) := by decide +kernel
theorem dX7_tallyRages_4 : decode cX7_tallyRages 4 = .ok (.invokevirtual 292, 3) := by decide +kernel
theorem dX7_tallyRages_7 : decode cX7_tallyRages 7 = .ok (.iconst 0, 1) := by decide +kernel
theorem dX7_tallyRages_8 : decode cX7_tallyRages 8 = .ok (.istore_n 2, 1) := by decide +kernel
theorem dX7_tallyRages_9 : decode cX7_tallyRages 9 = .ok (.iload_n 2, 1) := by decide +kernel
theorem dX7_tallyRages_10 : decode cX7_tallyRages 10 = .ok (.aload_n 0, 1) := by decide +kernel
theorem dX7_tallyRages_11 : decode cX7_tallyRages 11 = .ok (.getfield 77, 3) := by decide +kernel
theorem dX7_tallyRages_14 : decode cX7_tallyRages 14 = .ok (.arraylength, 1) := by decide +kernel
theorem dX7_tallyRages_15 : decode cX7_tallyRages 15 = .ok (.if_icmp .ge 60, 3) := by decide +kernel
theorem dX7_tallyRages_18 : decode cX7_tallyRages 18 = .ok (.aload_n 0, 1) := by decide +kernel
theorem dX7_tallyRages_19 : decode cX7_tallyRages 19 = .ok (.getfield 16, 3) := by decide +kernel
theorem dX7_tallyRages_22 : decode cX7_tallyRages 22 = .ok (.aload_n 0, 1) := by decide +kernel
theorem dX7_tallyRages_23 : decode cX7_tallyRages 23 = .ok (.getfield 10, 3) := by decide +kernel
theorem dX7_tallyRages_26 : decode cX7_tallyRages 26 = .ok (.invokevirtual 193, 3) := by decide +kernel
theorem dX7_tallyRages_29 : decode cX7_tallyRages 29 = .ok (.aload_n 0, 1) := by decide +kernel
theorem dX7_tallyRages_30 : decode cX7_tallyRages 30 = .ok (.getfield 16, 3) := by decide +kernel
theorem dX7_tallyRages_33 : decode cX7_tallyRages 33 = .ok (.iload_n 2, 1) := by decide +kernel
theorem dX7_tallyRages_34 : decode cX7_tallyRages 34 = .ok (.putfield 330, 3) := by decide +kernel
theorem dX7_tallyRages_37 : decode cX7_tallyRages 37 = .ok (.aload_n 0, 1) := by decide +kernel
theorem dX7_tallyRages_38 : decode cX7_tallyRages 38 = .ok (.getfield 77, 3) := by decide +kernel
theorem dX7_tallyRages_41 : decode cX7_tallyRages 41 = .ok (.iload_n 2, 1) := by decide +kernel
theorem dX7_tallyRages_42 : decode cX7_tallyRages 42 = .ok (.aload_n 0, 1) := by decide +kernel
theorem dX7_tallyRages_43 : decode cX7_tallyRages 43 = .ok (.iload_n 1, 1) := by decide +kernel
theorem dX7_tallyRages_44 : decode cX7_tallyRages 44 = .ok (.aload_n 0, 1) := by decide +kernel
theorem dX7_tallyRages_45 : decode cX7_tallyRages 45 = .ok (.getfield 28, 3) := by decide +kernel
theorem dX7_tallyRages_48 : decode cX7_tallyRages 48 = .ok (.invokevirtual 294, 3) := by decide +kernel
theorem dX7_tallyRages_51 : decode cX7_tallyRages 51 = .ok (.bastore, 1) := by decide +kernel
theorem dX7_tallyRages_52 : decode cX7_tallyRages 52 = .ok (.aload_n 0, 1) := by decide +kernel
theorem dX7_tallyRages_53 : decode cX7_tallyRages 53 = .ok (.getfield 77, 3) := by decide +kernel
theorem dX7_tallyRages_56 : decode cX7_tallyRages 56 = .ok (.iload_n 2, 1) := by decide +kernel
theorem dX7_tallyRages_57 : decode cX7_tallyRages 57 = .ok (.baload, 1) := by decide +kernel
theorem dX7_tallyRages_58 : decode cX7_tallyRages 58 = .ok (.ifCond .eq 11, 3) := by decide +kernel
theorem dX7_tallyRages_61 : decode cX7_tallyRages 61 = .ok (.aload_n 0, 1) := by decide +kernel
theorem dX7_tallyRages_62 : decode cX7_tallyRages 62 = .ok (.getfield 69, 3) := by decide +kernel
theorem dX7_tallyRages_65 : decode cX7_tallyRages 65 = .ok (.iload_n 2, 1) := by decide +kernel
theorem dX7_tallyRages_66 : decode cX7_tallyRages 66 = .ok (.invokevirtual 298, 3) := by decide +kernel
theorem dX7_tallyRages_69 : decode cX7_tallyRages 69 = .ok (.iinc 2 1, 3) := by decide +kernel
theorem dX7_tallyRages_72 : decode cX7_tallyRages 72 = .ok (.goto (-63), 3) := by decide +kernel
theorem dX7_tallyRages_75 : decode cX7_tallyRages 75 = .ok (.return_, 1) := by decide +kernel
theorem dX7_fitsTwos_0 : decode cX7_fitsTwos 0 = .ok (.iconst 0, 1) := by decide +kernel
theorem dX7_fitsTwos_1 : decode cX7_fitsTwos 1 = .ok (.istore_n 3, 1) := by decide +kernel
theorem dX7_fitsTwos_2 : decode cX7_fitsTwos 2 = .ok (.iload_n 3, 1) := by decide +kernel
theorem dX7_fitsTwos_3 : decode cX7_fitsTwos 3 = .ok (.iload_n 1, 1) := by decide +kernel
theorem dX7_fitsTwos_4 : decode cX7_fitsTwos 4 = .ok (.if_icmp .ge 82, 3) := by decide +kernel
theorem dX7_fitsTwos_7 : decode cX7_fitsTwos 7 = .ok (.iconst 2, 1) := by decide +kernel
theorem dX7_fitsTwos_8 : decode cX7_fitsTwos 8 = .ok (.iload_n 3, 1) := by decide +kernel
theorem dX7_fitsTwos_9 : decode cX7_fitsTwos 9 = .ok (.imul, 1) := by decide +kernel
theorem dX7_fitsTwos_10 : decode cX7_fitsTwos 10 = .ok (.iconst 1, 1) := by decide +kernel
theorem dX7_fitsTwos_11 : decode cX7_fitsTwos 11 = .ok (.iadd, 1) := by decide +kernel
theorem dX7_fitsTwos_12 : decode cX7_fitsTwos 12 = .ok (.aload_n 0, 1) := by decide +kernel
theorem dX7_fitsTwos_13 : decode cX7_fitsTwos 13 = .ok (.getfield 73, 3) := by decide +kernel
theorem dX7_fitsTwos_16 : decode cX7_fitsTwos 16 = .ok (.arraylength, 1) := by decide +kernel
theorem dX7_fitsTwos_17 : decode cX7_fitsTwos 17 = .ok (.if_icmp .ge 69, 3) := by decide +kernel
theorem dX7_fitsTwos_20 : decode cX7_fitsTwos 20 = .ok (.aload_n 0, 1) := by decide +kernel
theorem dX7_fitsTwos_21 : decode cX7_fitsTwos 21 = .ok (.getfield 16, 3) := by decide +kernel
theorem dX7_fitsTwos_24 : decode cX7_fitsTwos 24 = .ok (.aload_n 0, 1) := by decide +kernel
theorem dX7_fitsTwos_25 : decode cX7_fitsTwos 25 = .ok (.getfield 73, 3) := by decide +kernel
theorem dX7_fitsTwos_28 : decode cX7_fitsTwos 28 = .ok (.iconst 2, 1) := by decide +kernel
theorem dX7_fitsTwos_29 : decode cX7_fitsTwos 29 = .ok (.iload_n 3, 1) := by decide +kernel
theorem dX7_fitsTwos_30 : decode cX7_fitsTwos 30 = .ok (.imul, 1) := by decide +kernel
theorem dX7_fitsTwos_31 : decode cX7_fitsTwos 31 = .ok (.iaload, 1) := by decide +kernel
theorem dX7_fitsTwos_32 : decode cX7_fitsTwos 32 = .ok (.aload_n 2, 1) := by decide +kernel
theorem dX7_fitsTwos_33 : decode cX7_fitsTwos 33 = .ok (.invokevirtual 307, 3) := by decide +kernel
theorem dX7_fitsTwos_36 : decode cX7_fitsTwos 36 = .ok (.aload_n 0, 1) := by decide +kernel
theorem dX7_fitsTwos_37 : decode cX7_fitsTwos 37 = .ok (.getfield 16, 3) := by decide +kernel
theorem dX7_fitsTwos_40 : decode cX7_fitsTwos 40 = .ok (.getfield 403, 3) := by decide +kernel
theorem dX7_fitsTwos_43 : decode cX7_fitsTwos 43 = .ok (.iconst (-1), 1) := by decide +kernel
theorem dX7_fitsTwos_44 : decode cX7_fitsTwos 44 = .ok (.if_icmp .ne 7, 3) := by decide +kernel
theorem dX7_fitsTwos_47 : decode cX7_fitsTwos 47 = .ok (.iconst 1, 1) := by decide +kernel
theorem dX7_fitsTwos_48 : decode cX7_fitsTwos 48 = .ok (.goto 4, 3) := by decide +kernel
theorem dX7_fitsTwos_51 : decode cX7_fitsTwos 51 = .ok (.iconst 0, 1) := by decide +kernel
theorem dX7_fitsTwos_52 : decode cX7_fitsTwos 52 = .ok (.istore 4, 2) := by decide +kernel
theorem dX7_fitsTwos_54 : decode cX7_fitsTwos 54 = .ok (.iload 4, 2) := by decide +kernel
theorem dX7_fitsTwos_56 : decode cX7_fitsTwos 56 = .ok (.aload_n 0, 1) := by decide +kernel
theorem dX7_fitsTwos_57 : decode cX7_fitsTwos 57 = .ok (.getfield 73, 3) := by decide +kernel
theorem dX7_fitsTwos_60 : decode cX7_fitsTwos 60 = .ok (.iconst 2, 1) := by decide +kernel
theorem dX7_fitsTwos_61 : decode cX7_fitsTwos 61 = .ok (.iload_n 3, 1) := by decide +kernel
theorem dX7_fitsTwos_62 : decode cX7_fitsTwos 62 = .ok (.imul, 1) := by decide +kernel
theorem dX7_fitsTwos_63 : decode cX7_fitsTwos 63 = .ok (.iconst 1, 1) := by decide +kernel
theorem dX7_fitsTwos_64 : decode cX7_fitsTwos 64 = .ok (.iadd, 1) := by decide +kernel
theorem dX7_fitsTwos_65 : decode cX7_fitsTwos 65 = .ok (.iaload, 1) := by decide +kernel
theorem dX7_fitsTwos_66 : decode cX7_fitsTwos 66 = .ok (.iconst 1, 1) := by decide +kernel
theorem dX7_fitsTwos_67 : decode cX7_fitsTwos 67 = .ok (.if_icmp .ne 7, 3) := by decide +kernel
theorem dX7_fitsTwos_70 : decode cX7_fitsTwos 70 = .ok (.iconst 1, 1) := by decide +kernel
theorem dX7_fitsTwos_71 : decode cX7_fitsTwos 71 = .ok (.goto 4, 3) := by decide +kernel
theorem dX7_fitsTwos_74 : decode cX7_fitsTwos 74 = .ok (.iconst 0, 1) := by decide +kernel
theorem dX7_fitsTwos_75 : decode cX7_fitsTwos 75 = .ok (.if_icmp .eq 5, 3) := by decide +kernel
theorem dX7_fitsTwos_78 : decode cX7_fitsTwos 78 = .ok (.iconst 0, 1) := by decide +kernel
theorem dX7_fitsTwos_79 : decode cX7_fitsTwos 79 = .ok (.ireturn, 1) := by decide +kernel
theorem dX7_fitsTwos_80 : decode cX7_fitsTwos 80 = .ok (.iinc 3 1, 3) := by decide +kernel
theorem dX7_fitsTwos_83 : decode cX7_fitsTwos 83 = .ok (.goto (-81), 3) := by decide +kernel
theorem dX7_fitsTwos_86 : decode cX7_fitsTwos 86 = .ok (.iconst 1, 1) := by decide +kernel
theorem dX7_fitsTwos_87 : decode cX7_fitsTwos 87 = .ok (.ireturn, 1) := by decide +kernel
theorem dX7_mostLeftBy_0 : decode cX7_mostLeftBy 0 = .ok (.iconst 0, 1) := by decide +kernel
theorem dX7_mostLeftBy_1 : decode cX7_mostLeftBy 1 = .ok (.istore_n 2, 1) := by decide +kernel
theorem dX7_mostLeftBy_2 : decode cX7_mostLeftBy 2 = .ok (.aload_n 0, 1) := by decide +kernel
theorem dX7_mostLeftBy_3 : decode cX7_mostLeftBy 3 = .ok (.getfield 16, 3) := by decide +kernel
theorem dX7_mostLeftBy_6 : decode cX7_mostLeftBy 6 = .ok (.aload_n 0, 1) := by decide +kernel
theorem dX7_mostLeftBy_7 : decode cX7_mostLeftBy 7 = .ok (.getfield 10, 3) := by decide +kernel
theorem dX7_mostLeftBy_10 : decode cX7_mostLeftBy 10 = .ok (.invokevirtual 193, 3) := by decide +kernel
theorem dX7_mostLeftBy_13 : decode cX7_mostLeftBy 13 = .ok (.iconst 0, 1) := by decide +kernel
theorem dX7_mostLeftBy_14 : decode cX7_mostLeftBy 14 = .ok (.istore_n 3, 1) := by decide +kernel
theorem dX7_mostLeftBy_15 : decode cX7_mostLeftBy 15 = .ok (.iload_n 3, 1) := by decide +kernel
theorem dX7_mostLeftBy_16 : decode cX7_mostLeftBy 16 = .ok (.aload_n 0, 1) := by decide +kernel
theorem dX7_mostLeftBy_17 : decode cX7_mostLeftBy 17 = .ok (.getfield 77, 3) := by decide +kernel
theorem dX7_mostLeftBy_20 : decode cX7_mostLeftBy 20 = .ok (.arraylength, 1) := by decide +kernel
theorem dX7_mostLeftBy_21 : decode cX7_mostLeftBy 21 = .ok (.if_icmp .ge 44, 3) := by decide +kernel
theorem dX7_mostLeftBy_24 : decode cX7_mostLeftBy 24 = .ok (.aload_n 0, 1) := by decide +kernel
theorem dX7_mostLeftBy_25 : decode cX7_mostLeftBy 25 = .ok (.getfield 16, 3) := by decide +kernel
theorem dX7_mostLeftBy_28 : decode cX7_mostLeftBy 28 = .ok (.iload_n 3, 1) := by decide +kernel
theorem dX7_mostLeftBy_29 : decode cX7_mostLeftBy 29 = .ok (.putfield 330, 3) := by decide +kernel
theorem dX7_mostLeftBy_32 : decode cX7_mostLeftBy 32 = .ok (.aload_n 0, 1) := by decide +kernel
theorem dX7_mostLeftBy_33 : decode cX7_mostLeftBy 33 = .ok (.getfield 77, 3) := by decide +kernel
theorem dX7_mostLeftBy_36 : decode cX7_mostLeftBy 36 = .ok (.iload_n 3, 1) := by decide +kernel
theorem dX7_mostLeftBy_37 : decode cX7_mostLeftBy 37 = .ok (.baload, 1) := by decide +kernel
theorem dX7_mostLeftBy_38 : decode cX7_mostLeftBy 38 = .ok (.ifCond .eq 21, 3) := by decide +kernel
theorem dX7_mostLeftBy_41 : decode cX7_mostLeftBy 41 = .ok (.aload_n 0, 1) := by decide +kernel
theorem dX7_mostLeftBy_42 : decode cX7_mostLeftBy 42 = .ok (.getfield 28, 3) := by decide +kernel
theorem dX7_mostLeftBy_45 : decode cX7_mostLeftBy 45 = .ok (.iload_n 1, 1) := by decide +kernel
theorem dX7_mostLeftBy_46 : decode cX7_mostLeftBy 46 = .ok (.aload_n 0, 1) := by decide +kernel
theorem dX7_mostLeftBy_47 : decode cX7_mostLeftBy 47 = .ok (.getfield 16, 3) := by decide +kernel
theorem dX7_mostLeftBy_50 : decode cX7_mostLeftBy 50 = .ok (.invokevirtual 213, 3) := by decide +kernel
theorem dX7_mostLeftBy_53 : decode cX7_mostLeftBy 53 = .ok (.ifCond .eq 6, 3) := by decide +kernel
theorem dX7_mostLeftBy_56 : decode cX7_mostLeftBy 56 = .ok (.iinc 2 1, 3) := by decide +kernel
theorem dX7_mostLeftBy_59 : decode cX7_mostLeftBy 59 = .ok (.iinc 3 1, 3) := by decide +kernel
theorem dX7_mostLeftBy_62 : decode cX7_mostLeftBy 62 = .ok (.goto (-47), 3) := by decide +kernel
theorem dX7_mostLeftBy_65 : decode cX7_mostLeftBy 65 = .ok (.iload_n 2, 1) := by decide +kernel
theorem dX7_mostLeftBy_66 : decode cX7_mostLeftBy 66 = .ok (.aload_n 0, 1) := by decide +kernel
theorem dX7_mostLeftBy_67 : decode cX7_mostLeftBy 67 = .ok (.getfield 69, 3) := by decide +kernel
theorem dX7_mostLeftBy_70 : decode cX7_mostLeftBy 70 = .ok (.getfield 300, 3) := by decide +kernel
theorem dX7_mostLeftBy_73 : decode cX7_mostLeftBy 73 = .ok (.iload_n 2, 1) := by decide +kernel
theorem dX7_mostLeftBy_74 : decode cX7_mostLeftBy 74 = .ok (.isub, 1) := by decide +kernel
theorem dX7_mostLeftBy_75 : decode cX7_mostLeftBy 75 = .ok (.invokestatic 406, 3) := by decide +kernel
theorem dX7_mostLeftBy_78 : decode cX7_mostLeftBy 78 = .ok (.ireturn, 1) := by decide +kernel
theorem dX7_harmOdds_0 : decode cX7_harmOdds 0 = .ok (.iconst 0, 1) := by decide +kernel
theorem dX7_harmOdds_1 : decode cX7_harmOdds 1 = .ok (.istore_n 3, 1) := by decide +kernel
theorem dX7_harmOdds_2 : decode cX7_harmOdds 2 = .ok (.iconst 0, 1) := by decide +kernel
theorem dX7_harmOdds_3 : decode cX7_harmOdds 3 = .ok (.istore 4, 2) := by decide +kernel
theorem dX7_harmOdds_5 : decode cX7_harmOdds 5 = .ok (.iload 4, 2) := by decide +kernel
theorem dX7_harmOdds_7 : decode cX7_harmOdds 7 = .ok (.iload_n 2, 1) := by decide +kernel
theorem dX7_harmOdds_8 : decode cX7_harmOdds 8 = .ok (.if_icmp .ge 29, 3) := by decide +kernel
theorem dX7_harmOdds_11 : decode cX7_harmOdds 11 = .ok (.aload_n 0, 1) := by decide +kernel
theorem dX7_harmOdds_12 : decode cX7_harmOdds 12 = .ok (.iload 4, 2) := by decide +kernel
theorem dX7_harmOdds_14 : decode cX7_harmOdds 14 = .ok (.iload_n 1, 1) := by decide +kernel
theorem dX7_harmOdds_15 : decode cX7_harmOdds 15 = .ok (.invokevirtual 411, 3) := by decide +kernel
theorem dX7_harmOdds_18 : decode cX7_harmOdds 18 = .ok (.aload_n 0, 1) := by decide +kernel
theorem dX7_harmOdds_19 : decode cX7_harmOdds 19 = .ok (.getfield 55, 3) := by decide +kernel
theorem dX7_harmOdds_22 : decode cX7_harmOdds 22 = .ok (.getfield 250, 3) := by decide +kernel
theorem dX7_harmOdds_25 : decode cX7_harmOdds 25 = .ok (.ifCond .le 6, 3) := by decide +kernel
theorem dX7_harmOdds_28 : decode cX7_harmOdds 28 = .ok (.iinc 3 1, 3) := by decide +kernel
theorem dX7_harmOdds_31 : decode cX7_harmOdds 31 = .ok (.iinc 4 1, 3) := by decide +kernel
theorem dX7_harmOdds_34 : decode cX7_harmOdds 34 = .ok (.goto (-29), 3) := by decide +kernel
theorem dX7_harmOdds_37 : decode cX7_harmOdds 37 = .ok (.iload_n 2, 1) := by decide +kernel
theorem dX7_harmOdds_38 : decode cX7_harmOdds 38 = .ok (.ifCond .le 12, 3) := by decide +kernel
theorem dX7_harmOdds_41 : decode cX7_harmOdds 41 = .ok (.ldc 232, 2) := by decide +kernel
theorem dX7_harmOdds_43 : decode cX7_harmOdds 43 = .ok (.iload_n 3, 1) := by decide +kernel
theorem dX7_harmOdds_44 : decode cX7_harmOdds 44 = .ok (.imul, 1) := by decide +kernel
theorem dX7_harmOdds_45 : decode cX7_harmOdds 45 = .ok (.iload_n 2, 1) := by decide +kernel
theorem dX7_harmOdds_46 : decode cX7_harmOdds 46 = .ok (.idiv, 1) := by decide +kernel
theorem dX7_harmOdds_47 : decode cX7_harmOdds 47 = .ok (.goto 4, 3) := by decide +kernel
theorem dX7_harmOdds_50 : decode cX7_harmOdds 50 = .ok (.iconst 0, 1) := by decide +kernel
theorem dX7_harmOdds_51 : decode cX7_harmOdds 51 = .ok (.ireturn, 1) := by decide +kernel
theorem dX7_meanRage_0 : decode cX7_meanRage 0 = .ok (.iconst 0, 1) := by decide +kernel
theorem dX7_meanRage_1 : decode cX7_meanRage 1 = .ok (.istore_n 3, 1) := by decide +kernel
theorem dX7_meanRage_2 : decode cX7_meanRage 2 = .ok (.iconst 0, 1) := by decide +kernel
theorem dX7_meanRage_3 : decode cX7_meanRage 3 = .ok (.istore 4, 2) := by decide +kernel
theorem dX7_meanRage_5 : decode cX7_meanRage 5 = .ok (.iload 4, 2) := by decide +kernel
theorem dX7_meanRage_7 : decode cX7_meanRage 7 = .ok (.iload_n 2, 1) := by decide +kernel
theorem dX7_meanRage_8 : decode cX7_meanRage 8 = .ok (.if_icmp .ge 29, 3) := by decide +kernel
theorem dX7_meanRage_11 : decode cX7_meanRage 11 = .ok (.aload_n 0, 1) := by decide +kernel
theorem dX7_meanRage_12 : decode cX7_meanRage 12 = .ok (.iload 4, 2) := by decide +kernel
theorem dX7_meanRage_14 : decode cX7_meanRage 14 = .ok (.iload_n 1, 1) := by decide +kernel
theorem dX7_meanRage_15 : decode cX7_meanRage 15 = .ok (.invokevirtual 411, 3) := by decide +kernel
theorem dX7_meanRage_18 : decode cX7_meanRage 18 = .ok (.iload_n 3, 1) := by decide +kernel
theorem dX7_meanRage_19 : decode cX7_meanRage 19 = .ok (.aload_n 0, 1) := by decide +kernel
theorem dX7_meanRage_20 : decode cX7_meanRage 20 = .ok (.getfield 55, 3) := by decide +kernel
theorem dX7_meanRage_23 : decode cX7_meanRage 23 = .ok (.getfield 256, 3) := by decide +kernel
theorem dX7_meanRage_26 : decode cX7_meanRage 26 = .ok (.getfield 330, 3) := by decide +kernel
theorem dX7_meanRage_29 : decode cX7_meanRage 29 = .ok (.iadd, 1) := by decide +kernel
theorem dX7_meanRage_30 : decode cX7_meanRage 30 = .ok (.istore_n 3, 1) := by decide +kernel
theorem dX7_meanRage_31 : decode cX7_meanRage 31 = .ok (.iinc 4 1, 3) := by decide +kernel
theorem dX7_meanRage_34 : decode cX7_meanRage 34 = .ok (.goto (-29), 3) := by decide +kernel
theorem dX7_meanRage_37 : decode cX7_meanRage 37 = .ok (.iload_n 2, 1) := by decide +kernel
theorem dX7_meanRage_38 : decode cX7_meanRage 38 = .ok (.ifCond .le 13, 3) := by decide +kernel
theorem dX7_meanRage_41 : decode cX7_meanRage 41 = .ok (.sipush 1000, 3) := by decide +kernel
theorem dX7_meanRage_44 : decode cX7_meanRage 44 = .ok (.iload_n 3, 1) := by decide +kernel
theorem dX7_meanRage_45 : decode cX7_meanRage 45 = .ok (.imul, 1) := by decide +kernel
theorem dX7_meanRage_46 : decode cX7_meanRage 46 = .ok (.iload_n 2, 1) := by decide +kernel
theorem dX7_meanRage_47 : decode cX7_meanRage 47 = .ok (.idiv, 1) := by decide +kernel
theorem dX7_meanRage_48 : decode cX7_meanRage 48 = .ok (.goto 4, 3) := by decide +kernel
theorem dX7_meanRage_51 : decode cX7_meanRage 51 = .ok (.iconst 0, 1) := by decide +kernel
theorem dX7_meanRage_52 : decode cX7_meanRage 52 = .ok (.ireturn, 1) := by decide +kernel
theorem dX7_walkCode_0 : decode cX7_walkCode 0 = .ok (.iload_n 1, 1) := by decide +kernel
theorem dX7_walkCode_1 : decode cX7_walkCode 1 = .ok (.istore_n 3, 1) := by decide +kernel
theorem dX7_walkCode_2 : decode cX7_walkCode 2 = .ok (.iconst 0, 1) := by decide +kernel
theorem dX7_walkCode_3 : decode cX7_walkCode 3 = .ok (.istore 4, 2) := by decide +kernel
theorem dX7_walkCode_5 : decode cX7_walkCode 5 = .ok (.iload 4, 2) := by decide +kernel
theorem dX7_walkCode_7 : decode cX7_walkCode 7 = .ok (.iload_n 2, 1) := by decide +kernel
theorem dX7_walkCode_8 : decode cX7_walkCode 8 = .ok (.if_icmp .ge 55, 3) := by decide +kernel
theorem dX7_walkCode_11 : decode cX7_walkCode 11 = .ok (.iload 4, 2) := by decide +kernel
theorem dX7_walkCode_13 : decode cX7_walkCode 13 = .ok (.aload_n 0, 1) := by decide +kernel
theorem dX7_walkCode_14 : decode cX7_walkCode 14 = .ok (.getfield 73, 3) := by decide +kernel
theorem dX7_walkCode_17 : decode cX7_walkCode 17 = .ok (.arraylength, 1) := by decide +kernel
theorem dX7_walkCode_18 : decode cX7_walkCode 18 = .ok (.if_icmp .ge 45, 3) := by decide +kernel
theorem dX7_walkCode_21 : decode cX7_walkCode 21 = .ok (.aload_n 0, 1) := by decide +kernel
theorem dX7_walkCode_22 : decode cX7_walkCode 22 = .ok (.getfield 28, 3) := by decide +kernel
theorem dX7_walkCode_25 : decode cX7_walkCode 25 = .ok (.getfield 303, 3) := by decide +kernel
theorem dX7_walkCode_28 : decode cX7_walkCode 28 = .ok (.ifCond .le 35, 3) := by decide +kernel
theorem dX7_walkCode_31 : decode cX7_walkCode 31 = .ok (.aload_n 0, 1) := by decide +kernel
theorem dX7_walkCode_32 : decode cX7_walkCode 32 = .ok (.getfield 73, 3) := by decide +kernel
theorem dX7_walkCode_35 : decode cX7_walkCode 35 = .ok (.iload 4, 2) := by decide +kernel
theorem dX7_walkCode_37 : decode cX7_walkCode 37 = .ok (.iload_n 3, 1) := by decide +kernel
theorem dX7_walkCode_38 : decode cX7_walkCode 38 = .ok (.aload_n 0, 1) := by decide +kernel
theorem dX7_walkCode_39 : decode cX7_walkCode 39 = .ok (.getfield 28, 3) := by decide +kernel
theorem dX7_walkCode_42 : decode cX7_walkCode 42 = .ok (.getfield 303, 3) := by decide +kernel
theorem dX7_walkCode_45 : decode cX7_walkCode 45 = .ok (.irem, 1) := by decide +kernel
theorem dX7_walkCode_46 : decode cX7_walkCode 46 = .ok (.iastore, 1) := by decide +kernel
theorem dX7_walkCode_47 : decode cX7_walkCode 47 = .ok (.iload_n 3, 1) := by decide +kernel
theorem dX7_walkCode_48 : decode cX7_walkCode 48 = .ok (.aload_n 0, 1) := by decide +kernel
theorem dX7_walkCode_49 : decode cX7_walkCode 49 = .ok (.getfield 28, 3) := by decide +kernel
theorem dX7_walkCode_52 : decode cX7_walkCode 52 = .ok (.getfield 303, 3) := by decide +kernel
theorem dX7_walkCode_55 : decode cX7_walkCode 55 = .ok (.idiv, 1) := by decide +kernel
theorem dX7_walkCode_56 : decode cX7_walkCode 56 = .ok (.istore_n 3, 1) := by decide +kernel
theorem dX7_walkCode_57 : decode cX7_walkCode 57 = .ok (.iinc 4 1, 3) := by decide +kernel
theorem dX7_walkCode_60 : decode cX7_walkCode 60 = .ok (.goto (-55), 3) := by decide +kernel
theorem dX7_walkCode_63 : decode cX7_walkCode 63 = .ok (.aload_n 0, 1) := by decide +kernel
theorem dX7_walkCode_64 : decode cX7_walkCode 64 = .ok (.getfield 55, 3) := by decide +kernel
theorem dX7_walkCode_67 : decode cX7_walkCode 67 = .ok (.aload_n 0, 1) := by decide +kernel
theorem dX7_walkCode_68 : decode cX7_walkCode 68 = .ok (.getfield 73, 3) := by decide +kernel
theorem dX7_walkCode_71 : decode cX7_walkCode 71 = .ok (.iload_n 2, 1) := by decide +kernel
theorem dX7_walkCode_72 : decode cX7_walkCode 72 = .ok (.aload_n 0, 1) := by decide +kernel
theorem dX7_walkCode_73 : decode cX7_walkCode 73 = .ok (.getfield 10, 3) := by decide +kernel
theorem dX7_walkCode_76 : decode cX7_walkCode 76 = .ok (.aload_n 0, 1) := by decide +kernel
theorem dX7_walkCode_77 : decode cX7_walkCode 77 = .ok (.getfield 28, 3) := by decide +kernel
theorem dX7_walkCode_80 : decode cX7_walkCode 80 = .ok (.invokevirtual 246, 3) := by decide +kernel
theorem dX7_walkCode_83 : decode cX7_walkCode 83 = .ok (.return_, 1) := by decide +kernel
theorem dX7_standsOut_0 : decode cX7_standsOut 0 = .ok (.iload_n 3, 1) := by decide +kernel
theorem dX7_standsOut_1 : decode cX7_standsOut 1 = .ok (.lookupswitch 77 #[(0, 27), (1, 52)], 27) := by decide +kernel
theorem dX7_standsOut_28 : decode cX7_standsOut 28 = .ok (.aload_n 0, 1) := by decide +kernel
theorem dX7_standsOut_29 : decode cX7_standsOut 29 = .ok (.getfield 28, 3) := by decide +kernel
theorem dX7_standsOut_32 : decode cX7_standsOut 32 = .ok (.iload_n 1, 1) := by decide +kernel
theorem dX7_standsOut_33 : decode cX7_standsOut 33 = .ok (.invokevirtual 159, 3) := by decide +kernel
theorem dX7_standsOut_36 : decode cX7_standsOut 36 = .ok (.aload_n 0, 1) := by decide +kernel
theorem dX7_standsOut_37 : decode cX7_standsOut 37 = .ok (.getfield 28, 3) := by decide +kernel
theorem dX7_standsOut_40 : decode cX7_standsOut 40 = .ok (.iload_n 2, 1) := by decide +kernel
theorem dX7_standsOut_41 : decode cX7_standsOut 41 = .ok (.invokevirtual 159, 3) := by decide +kernel
theorem dX7_standsOut_44 : decode cX7_standsOut 44 = .ok (.if_icmp .le 7, 3) := by decide +kernel
theorem dX7_standsOut_47 : decode cX7_standsOut 47 = .ok (.iconst 1, 1) := by decide +kernel
theorem dX7_standsOut_48 : decode cX7_standsOut 48 = .ok (.goto 4, 3) := by decide +kernel
theorem dX7_standsOut_51 : decode cX7_standsOut 51 = .ok (.iconst 0, 1) := by decide +kernel
theorem dX7_standsOut_52 : decode cX7_standsOut 52 = .ok (.ireturn, 1) := by decide +kernel
theorem dX7_standsOut_53 : decode cX7_standsOut 53 = .ok (.aload_n 0, 1) := by decide +kernel
theorem dX7_standsOut_54 : decode cX7_standsOut 54 = .ok (.getfield 28, 3) := by decide +kernel
theorem dX7_standsOut_57 : decode cX7_standsOut 57 = .ok (.iload_n 1, 1) := by decide +kernel
theorem dX7_standsOut_58 : decode cX7_standsOut 58 = .ok (.invokevirtual 159, 3) := by decide +kernel
theorem dX7_standsOut_61 : decode cX7_standsOut 61 = .ok (.aload_n 0, 1) := by decide +kernel
theorem dX7_standsOut_62 : decode cX7_standsOut 62 = .ok (.getfield 28, 3) := by decide +kernel
theorem dX7_standsOut_65 : decode cX7_standsOut 65 = .ok (.iload_n 2, 1) := by decide +kernel
theorem dX7_standsOut_66 : decode cX7_standsOut 66 = .ok (.invokevirtual 159, 3) := by decide +kernel
theorem dX7_standsOut_69 : decode cX7_standsOut 69 = .ok (.if_icmp .ge 7, 3) := by decide +kernel
theorem dX7_standsOut_72 : decode cX7_standsOut 72 = .ok (.iconst 1, 1) := by decide +kernel
theorem dX7_standsOut_73 : decode cX7_standsOut 73 = .ok (.goto 4, 3) := by decide +kernel
theorem dX7_standsOut_76 : decode cX7_standsOut 76 = .ok (.iconst 0, 1) := by decide +kernel
theorem dX7_standsOut_77 : decode cX7_standsOut 77 = .ok (.ireturn, 1) := by decide +kernel
theorem dX7_standsOut_78 : decode cX7_standsOut 78 = .ok (.aload_n 0, 1) := by decide +kernel
theorem dX7_standsOut_79 : decode cX7_standsOut 79 = .ok (.getfield 28, 3) := by decide +kernel
theorem dX7_standsOut_82 : decode cX7_standsOut 82 = .ok (.iload_n 1, 1) := by decide +kernel
theorem dX7_standsOut_83 : decode cX7_standsOut 83 = .ok (.invokevirtual 207, 3) := by decide +kernel
theorem dX7_standsOut_86 : decode cX7_standsOut 86 = .ok (.aload_n 0, 1) := by decide +kernel
theorem dX7_standsOut_87 : decode cX7_standsOut 87 = .ok (.getfield 28, 3) := by decide +kernel
theorem dX7_standsOut_90 : decode cX7_standsOut 90 = .ok (.iload_n 2, 1) := by decide +kernel
theorem dX7_standsOut_91 : decode cX7_standsOut 91 = .ok (.invokevirtual 207, 3) := by decide +kernel
theorem dX7_standsOut_94 : decode cX7_standsOut 94 = .ok (.if_icmp .le 7, 3) := by decide +kernel
theorem dX7_standsOut_97 : decode cX7_standsOut 97 = .ok (.iconst 1, 1) := by decide +kernel
theorem dX7_standsOut_98 : decode cX7_standsOut 98 = .ok (.goto 4, 3) := by decide +kernel
theorem dX7_standsOut_101 : decode cX7_standsOut 101 = .ok (.iconst 0, 1) := by decide +kernel
theorem dX7_standsOut_102 : decode cX7_standsOut 102 = .ok (.ireturn, 1) := by decide +kernel
theorem dX7_carryOut_0 : decode cX7_carryOut 0 = .ok (.aload_n 0, 1) := by decide +kernel
theorem dX7_carryOut_1 : decode cX7_carryOut 1 = .ok (.getfield 10, 3) := by decide +kernel
theorem dX7_carryOut_4 : decode cX7_carryOut 4 = .ok (.iload_n 1, 1) := by decide +kernel
theorem dX7_carryOut_5 : decode cX7_carryOut 5 = .ok (.aload_n 0, 1) := by decide +kernel
theorem dX7_carryOut_6 : decode cX7_carryOut 6 = .ok (.getfield 28, 3) := by decide +kernel
theorem dX7_carryOut_9 : decode cX7_carryOut 9 = .ok (.invokevirtual 307, 3) := by decide +kernel
theorem dX7_carryOut_12 : decode cX7_carryOut 12 = .ok (.aload_n 0, 1) := by decide +kernel
theorem dX7_carryOut_13 : decode cX7_carryOut 13 = .ok (.getfield 28, 3) := by decide +kernel
theorem dX7_carryOut_16 : decode cX7_carryOut 16 = .ok (.aload_n 0, 1) := by decide +kernel
theorem dX7_carryOut_17 : decode cX7_carryOut 17 = .ok (.getfield 10, 3) := by decide +kernel
theorem dX7_carryOut_20 : decode cX7_carryOut 20 = .ok (.getfield 403, 3) := by decide +kernel
theorem dX7_carryOut_23 : decode cX7_carryOut 23 = .ok (.invokevirtual 414, 3) := by decide +kernel
theorem dX7_carryOut_26 : decode cX7_carryOut 26 = .ok (.aload_n 0, 1) := by decide +kernel
theorem dX7_carryOut_27 : decode cX7_carryOut 27 = .ok (.getfield 10, 3) := by decide +kernel
theorem dX7_carryOut_30 : decode cX7_carryOut 30 = .ok (.getfield 229, 3) := by decide +kernel
theorem dX7_carryOut_33 : decode cX7_carryOut 33 = .ok (.ifCond .eq 7, 3) := by decide +kernel
theorem dX7_carryOut_36 : decode cX7_carryOut 36 = .ok (.iconst 1, 1) := by decide +kernel
theorem dX7_carryOut_37 : decode cX7_carryOut 37 = .ok (.goto 4, 3) := by decide +kernel
theorem dX7_carryOut_40 : decode cX7_carryOut 40 = .ok (.iconst 0, 1) := by decide +kernel
theorem dX7_carryOut_41 : decode cX7_carryOut 41 = .ok (.ireturn, 1) := by decide +kernel
theorem dX7_drawnOrder_0 : decode cX7_drawnOrder 0 = .ok (.aload_n 0, 1) := by decide +kernel
theorem dX7_drawnOrder_1 : decode cX7_drawnOrder 1 = .ok (.invokevirtual 233, 3) := by decide +kernel
theorem dX7_drawnOrder_4 : decode cX7_drawnOrder 4 = .ok (.istore_n 1, 1) := by decide +kernel
theorem dX7_drawnOrder_5 : decode cX7_drawnOrder 5 = .ok (.aload_n 0, 1) := by decide +kernel
theorem dX7_drawnOrder_6 : decode cX7_drawnOrder 6 = .ok (.aload_n 0, 1) := by decide +kernel
theorem dX7_drawnOrder_7 : decode cX7_drawnOrder 7 = .ok (.getfield 84, 3) := by decide +kernel
theorem dX7_drawnOrder_10 : decode cX7_drawnOrder 10 = .ok (.ldc_w 417, 3) := by decide +kernel
theorem dX7_drawnOrder_13 : decode cX7_drawnOrder 13 = .ok (.imul, 1) := by decide +kernel
theorem dX7_drawnOrder_14 : decode cX7_drawnOrder 14 = .ok (.sipush 12345, 3) := by decide +kernel
theorem dX7_drawnOrder_17 : decode cX7_drawnOrder 17 = .ok (.iadd, 1) := by decide +kernel
theorem dX7_drawnOrder_18 : decode cX7_drawnOrder 18 = .ok (.putfield 84, 3) := by decide +kernel
theorem dX7_drawnOrder_21 : decode cX7_drawnOrder 21 = .ok (.iload_n 1, 1) := by decide +kernel
theorem dX7_drawnOrder_22 : decode cX7_drawnOrder 22 = .ok (.ifCond .le 15, 3) := by decide +kernel
theorem dX7_drawnOrder_25 : decode cX7_drawnOrder 25 = .ok (.aload_n 0, 1) := by decide +kernel
theorem dX7_drawnOrder_26 : decode cX7_drawnOrder 26 = .ok (.getfield 84, 3) := by decide +kernel
theorem dX7_drawnOrder_29 : decode cX7_drawnOrder 29 = .ok (.bipush 16, 2) := by decide +kernel
theorem dX7_drawnOrder_31 : decode cX7_drawnOrder 31 = .ok (.iushr, 1) := by decide +kernel
theorem dX7_drawnOrder_32 : decode cX7_drawnOrder 32 = .ok (.iload_n 1, 1) := by decide +kernel
theorem dX7_drawnOrder_33 : decode cX7_drawnOrder 33 = .ok (.irem, 1) := by decide +kernel
theorem dX7_drawnOrder_34 : decode cX7_drawnOrder 34 = .ok (.goto 4, 3) := by decide +kernel
theorem dX7_drawnOrder_37 : decode cX7_drawnOrder 37 = .ok (.iconst 0, 1) := by decide +kernel
theorem dX7_drawnOrder_38 : decode cX7_drawnOrder 38 = .ok (.istore_n 2, 1) := by decide +kernel
theorem dX7_drawnOrder_39 : decode cX7_drawnOrder 39 = .ok (.iload_n 2, 1) := by decide +kernel
theorem dX7_drawnOrder_40 : decode cX7_drawnOrder 40 = .ok (.aload_n 0, 1) := by decide +kernel
theorem dX7_drawnOrder_41 : decode cX7_drawnOrder 41 = .ok (.getfield 28, 3) := by decide +kernel
theorem dX7_drawnOrder_44 : decode cX7_drawnOrder 44 = .ok (.getfield 303, 3) := by decide +kernel
theorem dX7_drawnOrder_47 : decode cX7_drawnOrder 47 = .ok (.if_icmp .ge 5, 3) := by decide +kernel
theorem dX7_drawnOrder_50 : decode cX7_drawnOrder 50 = .ok (.iload_n 2, 1) := by decide +kernel
theorem dX7_drawnOrder_51 : decode cX7_drawnOrder 51 = .ok (.ireturn, 1) := by decide +kernel
theorem dX7_drawnOrder_52 : decode cX7_drawnOrder 52 = .ok (.iload_n 2, 1) := by decide +kernel
theorem dX7_drawnOrder_53 : decode cX7_drawnOrder 53 = .ok (.aload_n 0, 1) := by decide +kernel
theorem dX7_drawnOrder_54 : decode cX7_drawnOrder 54 = .ok (.getfield 28, 3) := by decide +kernel
theorem dX7_drawnOrder_57 : decode cX7_drawnOrder 57 = .ok (.getfield 303, 3) := by decide +kernel
theorem dX7_drawnOrder_60 : decode cX7_drawnOrder 60 = .ok (.if_icmp .ne 7, 3) := by decide +kernel
theorem dX7_drawnOrder_63 : decode cX7_drawnOrder 63 = .ok (.iconst (-1), 1) := by decide +kernel
theorem dX7_drawnOrder_64 : decode cX7_drawnOrder 64 = .ok (.goto 5, 3) := by decide +kernel
theorem dX7_drawnOrder_67 : decode cX7_drawnOrder 67 = .ok (.bipush 10, 2) := by decide +kernel
theorem dX7_drawnOrder_69 : decode cX7_drawnOrder 69 = .ok (.ireturn, 1) := by decide +kernel
theorem dX8_init_0 : decode cX8_init 0 = .ok (.aload_n 0, 1) := by decide +kernel
theorem dX8_init_1 : decode cX8_init 1 = .ok (.invokespecial 1, 3) := by decide +kernel
theorem dX8_init_4 : decode cX8_init 4 = .ok (.aload_n 0, 1) := by decide +kernel
theorem dX8_init_5 : decode cX8_init 5 = .ok (.bipush 7, 2) := by decide +kernel
theorem dX8_init_7 : decode cX8_init 7 = .ok (.newarray .int, 2) := by decide +kernel
theorem dX8_init_9 : decode cX8_init 9 = .ok (.putfield 7, 3) := by decide +kernel
theorem dX8_init_12 : decode cX8_init 12 = .ok (.aload_n 0, 1) := by decide +kernel
theorem dX8_init_13 : decode cX8_init 13 = .ok (.invokestatic 13, 3) := by decide +kernel
theorem dX8_init_16 : decode cX8_init 16 = .ok (.putfield 17, 3) := by decide +kernel
theorem dX8_init_19 : decode cX8_init 19 = .ok (.aload_n 0, 1) := by decide +kernel
theorem dX8_init_20 : decode cX8_init 20 = .ok (.bipush 39, 2) := by decide +kernel
theorem dX8_init_22 : decode cX8_init 22 = .ok (.newarray .int, 2) := by decide +kernel
theorem dX8_init_24 : decode cX8_init 24 = .ok (.putfield 20, 3) := by decide +kernel
theorem dX8_init_27 : decode cX8_init 27 = .ok (.aload_n 0, 1) := by decide +kernel
theorem dX8_init_28 : decode cX8_init 28 = .ok (.sipush 273, 3) := by decide +kernel
theorem dX8_init_31 : decode cX8_init 31 = .ok (.newarray .int, 2) := by decide +kernel
theorem dX8_init_33 : decode cX8_init 33 = .ok (.putfield 23, 3) := by decide +kernel
theorem dX8_init_36 : decode cX8_init 36 = .ok (.aload_n 0, 1) := by decide +kernel
theorem dX8_init_37 : decode cX8_init 37 = .ok (.sipush 250, 3) := by decide +kernel
theorem dX8_init_40 : decode cX8_init 40 = .ok (.newarray .int, 2) := by decide +kernel
theorem dX8_init_42 : decode cX8_init 42 = .ok (.putfield 26, 3) := by decide +kernel
theorem dX8_init_45 : decode cX8_init 45 = .ok (.aload_n 0, 1) := by decide +kernel
theorem dX8_init_46 : decode cX8_init 46 = .ok (.bipush 42, 2) := by decide +kernel
theorem dX8_init_48 : decode cX8_init 48 = .ok (.newarray .char, 2) := by decide +kernel
theorem dX8_init_50 : decode cX8_init 50 = .ok (.dup, 1) := by decide +kernel
theorem dX8_init_51 : decode cX8_init 51 = .ok (.iconst 0, 1) := by decide +kernel
theorem dX8_init_52 : decode cX8_init 52 = .ok (.bipush 107, 2) := by decide +kernel
theorem dX8_init_54 : decode cX8_init 54 = .ok (.castore, 1) := by decide +kernel
theorem dX8_init_55 : decode cX8_init 55 = .ok (.dup, 1) := by decide +kernel
theorem dX8_init_56 : decode cX8_init 56 = .ok (.iconst 1, 1) := by decide +kernel
theorem dX8_init_57 : decode cX8_init 57 = .ok (.bipush 101, 2) := by decide +kernel
theorem dX8_init_59 : decode cX8_init 59 = .ok (.castore, 1) := by decide +kernel
theorem dX8_init_60 : decode cX8_init 60 = .ok (.dup, 1) := by decide +kernel
theorem dX8_init_61 : decode cX8_init 61 = .ok (.iconst 2, 1) := by decide +kernel
theorem dX8_init_62 : decode cX8_init 62 = .ok (.bipush 101, 2) := by decide +kernel
theorem dX8_init_64 : decode cX8_init 64 = .ok (.castore, 1) := by decide +kernel
theorem dX8_init_65 : decode cX8_init 65 = .ok (.dup, 1) := by decide +kernel
theorem dX8_init_66 : decode cX8_init 66 = .ok (.iconst 3, 1) := by decide +kernel
theorem dX8_init_67 : decode cX8_init 67 = .ok (.bipush 112, 2) := by decide +kernel
theorem dX8_init_69 : decode cX8_init 69 = .ok (.castore, 1) := by decide +kernel
theorem dX8_init_70 : decode cX8_init 70 = .ok (.dup, 1) := by decide +kernel
theorem dX8_init_71 : decode cX8_init 71 = .ok (.iconst 4, 1) := by decide +kernel
theorem dX8_init_72 : decode cX8_init 72 = .ok (.bipush 101, 2) := by decide +kernel
theorem dX8_init_74 : decode cX8_init 74 = .ok (.castore, 1) := by decide +kernel
theorem dX8_init_75 : decode cX8_init 75 = .ok (.dup, 1) := by decide +kernel
theorem dX8_init_76 : decode cX8_init 76 = .ok (.iconst 5, 1) := by decide +kernel
theorem dX8_init_77 : decode cX8_init 77 = .ok (.bipush 114, 2) := by decide +kernel
theorem dX8_init_79 : decode cX8_init 79 = .ok (.castore, 1) := by decide +kernel
theorem dX8_init_80 : decode cX8_init 80 = .ok (.dup, 1) := by decide +kernel
theorem dX8_init_81 : decode cX8_init 81 = .ok (.bipush 6, 2) := by decide +kernel
theorem dX8_init_83 : decode cX8_init 83 = .ok (.bipush 110, 2) := by decide +kernel
theorem dX8_init_85 : decode cX8_init 85 = .ok (.castore, 1) := by decide +kernel
theorem dX8_init_86 : decode cX8_init 86 = .ok (.dup, 1) := by decide +kernel
theorem dX8_init_87 : decode cX8_init 87 = .ok (.bipush 7, 2) := by decide +kernel
theorem dX8_init_89 : decode cX8_init 89 = .ok (.bipush 101, 2) := by decide +kernel
theorem dX8_init_91 : decode cX8_init 91 = .ok (.castore, 1) := by decide +kernel
theorem dX8_init_92 : decode cX8_init 92 = .ok (.dup, 1) := by decide +kernel
theorem dX8_init_93 : decode cX8_init 93 = .ok (.bipush 8, 2) := by decide +kernel
theorem dX8_init_95 : decode cX8_init 95 = .ok (.bipush 114, 2) := by decide +kernel
theorem dX8_init_97 : decode cX8_init 97 = .ok (.castore, 1) := by decide +kernel
theorem dX8_init_98 : decode cX8_init 98 = .ok (.dup, 1) := by decide +kernel
theorem dX8_init_99 : decode cX8_init 99 = .ok (.bipush 9, 2) := by decide +kernel
theorem dX8_init_101 : decode cX8_init 101 = .ok (.bipush 118, 2) := by decide +kernel
theorem dX8_init_103 : decode cX8_init 103 = .ok (.castore, 1) := by decide +kernel
theorem dX8_init_104 : decode cX8_init 104 = .ok (.dup, 1) := by decide +kernel
theorem dX8_init_105 : decode cX8_init 105 = .ok (.bipush 10, 2) := by decide +kernel
theorem dX8_init_107 : decode cX8_init 107 = .ok (.bipush 101, 2) := by decide +kernel
theorem dX8_init_109 : decode cX8_init 109 = .ok (.castore, 1) := by decide +kernel
theorem dX8_init_110 : decode cX8_init 110 = .ok (.dup, 1) := by decide +kernel
theorem dX8_init_111 : decode cX8_init 111 = .ok (.bipush 11, 2) := by decide +kernel
theorem dX8_init_113 : decode cX8_init 113 = .ok (.iconst 0, 1) := by decide +kernel
theorem dX8_init_114 : decode cX8_init 114 = .ok (.castore, 1) := by decide +kernel
theorem dX8_init_115 : decode cX8_init 115 = .ok (.dup, 1) := by decide +kernel
theorem dX8_init_116 : decode cX8_init 116 = .ok (.bipush 12, 2) := by decide +kernel
theorem dX8_init_118 : decode cX8_init 118 = .ok (.bipush 114, 2) := by decide +kernel
theorem dX8_init_120 : decode cX8_init 120 = .ok (.castore, 1) := by decide +kernel
theorem dX8_init_121 : decode cX8_init 121 = .ok (.dup, 1) := by decide +kernel
theorem dX8_init_122 : decode cX8_init 122 = .ok (.bipush 13, 2) := by decide +kernel
theorem dX8_init_124 : decode cX8_init 124 = .ok (.bipush 97, 2) := by decide +kernel
theorem dX8_init_126 : decode cX8_init 126 = .ok (.castore, 1) := by decide +kernel
theorem dX8_init_127 : decode cX8_init 127 = .ok (.dup, 1) := by decide +kernel
theorem dX8_init_128 : decode cX8_init 128 = .ok (.bipush 14, 2) := by decide +kernel
theorem dX8_init_130 : decode cX8_init 130 = .ok (.bipush 103, 2) := by decide +kernel
theorem dX8_init_132 : decode cX8_init 132 = .ok (.castore, 1) := by decide +kernel
theorem dX8_init_133 : decode cX8_init 133 = .ok (.dup, 1) := by decide +kernel
theorem dX8_init_134 : decode cX8_init 134 = .ok (.bipush 15, 2) := by decide +kernel
theorem dX8_init_136 : decode cX8_init 136 = .ok (.bipush 101, 2) := by decide +kernel
theorem dX8_init_138 : decode cX8_init 138 = .ok (.castore, 1) := by decide +kernel
theorem dX8_init_139 : decode cX8_init 139 = .ok (.dup, 1) := by decide +kernel
theorem dX8_init_140 : decode cX8_init 140 = .ok (.bipush 16, 2) := by decide +kernel
theorem dX8_init_142 : decode cX8_init 142 = .ok (.iconst 0, 1) := by decide +kernel
theorem dX8_init_143 : decode cX8_init 143 = .ok (.castore, 1) := by decide +kernel
theorem dX8_init_144 : decode cX8_init 144 = .ok (.dup, 1) := by decide +kernel
theorem dX8_init_145 : decode cX8_init 145 = .ok (.bipush 17, 2) := by decide +kernel
theorem dX8_init_147 : decode cX8_init 147 = .ok (.iconst 0, 1) := by decide +kernel
theorem dX8_init_148 : decode cX8_init 148 = .ok (.castore, 1) := by decide +kernel
theorem dX8_init_149 : decode cX8_init 149 = .ok (.dup, 1) := by decide +kernel
theorem dX8_init_150 : decode cX8_init 150 = .ok (.bipush 18, 2) := by decide +kernel
theorem dX8_init_152 : decode cX8_init 152 = .ok (.bipush 99, 2) := by decide +kernel
theorem dX8_init_154 : decode cX8_init 154 = .ok (.castore, 1) := by decide +kernel
theorem dX8_init_155 : decode cX8_init 155 = .ok (.dup, 1) := by decide +kernel
theorem dX8_init_156 : decode cX8_init 156 = .ok (.bipush 19, 2) := by decide +kernel
theorem dX8_init_158 : decode cX8_init 158 = .ok (.bipush 97, 2) := by decide +kernel
theorem dX8_init_160 : decode cX8_init 160 = .ok (.castore, 1) := by decide +kernel
theorem dX8_init_161 : decode cX8_init 161 = .ok (.dup, 1) := by decide +kernel
theorem dX8_init_162 : decode cX8_init 162 = .ok (.bipush 20, 2) := by decide +kernel
theorem dX8_init_164 : decode cX8_init 164 = .ok (.bipush 108, 2) := by decide +kernel
theorem dX8_init_166 : decode cX8_init 166 = .ok (.castore, 1) := by decide +kernel
theorem dX8_init_167 : decode cX8_init 167 = .ok (.dup, 1) := by decide +kernel
theorem dX8_init_168 : decode cX8_init 168 = .ok (.bipush 21, 2) := by decide +kernel
theorem dX8_init_170 : decode cX8_init 170 = .ok (.bipush 109, 2) := by decide +kernel
theorem dX8_init_172 : decode cX8_init 172 = .ok (.castore, 1) := by decide +kernel
theorem dX8_init_173 : decode cX8_init 173 = .ok (.dup, 1) := by decide +kernel
theorem dX8_init_174 : decode cX8_init 174 = .ok (.bipush 22, 2) := by decide +kernel
theorem dX8_init_176 : decode cX8_init 176 = .ok (.iconst 0, 1) := by decide +kernel
theorem dX8_init_177 : decode cX8_init 177 = .ok (.castore, 1) := by decide +kernel
theorem dX8_init_178 : decode cX8_init 178 = .ok (.dup, 1) := by decide +kernel
theorem dX8_init_179 : decode cX8_init 179 = .ok (.bipush 23, 2) := by decide +kernel
theorem dX8_init_181 : decode cX8_init 181 = .ok (.iconst 0, 1) := by decide +kernel
theorem dX8_init_182 : decode cX8_init 182 = .ok (.castore, 1) := by decide +kernel
theorem dX8_init_183 : decode cX8_init 183 = .ok (.dup, 1) := by decide +kernel
theorem dX8_init_184 : decode cX8_init 184 = .ok (.bipush 24, 2) := by decide +kernel
theorem dX8_init_186 : decode cX8_init 186 = .ok (.bipush 103, 2) := by decide +kernel
theorem dX8_init_188 : decode cX8_init 188 = .ok (.castore, 1) := by decide +kernel
theorem dX8_init_189 : decode cX8_init 189 = .ok (.dup, 1) := by decide +kernel
theorem dX8_init_190 : decode cX8_init 190 = .ok (.bipush 25, 2) := by decide +kernel
theorem dX8_init_192 : decode cX8_init 192 = .ok (.bipush 114, 2) := by decide +kernel
theorem dX8_init_194 : decode cX8_init 194 = .ok (.castore, 1) := by decide +kernel
theorem dX8_init_195 : decode cX8_init 195 = .ok (.dup, 1) := by decide +kernel
theorem dX8_init_196 : decode cX8_init 196 = .ok (.bipush 26, 2) := by decide +kernel
theorem dX8_init_198 : decode cX8_init 198 = .ok (.bipush 111, 2) := by decide +kernel
theorem dX8_init_200 : decode cX8_init 200 = .ok (.castore, 1) := by decide +kernel
theorem dX8_init_201 : decode cX8_init 201 = .ok (.dup, 1) := by decide +kernel
theorem dX8_init_202 : decode cX8_init 202 = .ok (.bipush 27, 2) := by decide +kernel
theorem dX8_init_204 : decode cX8_init 204 = .ok (.bipush 119, 2) := by decide +kernel
theorem dX8_init_206 : decode cX8_init 206 = .ok (.castore, 1) := by decide +kernel
theorem dX8_init_207 : decode cX8_init 207 = .ok (.dup, 1) := by decide +kernel
theorem dX8_init_208 : decode cX8_init 208 = .ok (.bipush 28, 2) := by decide +kernel
theorem dX8_init_210 : decode cX8_init 210 = .ok (.bipush 110, 2) := by decide +kernel
theorem dX8_init_212 : decode cX8_init 212 = .ok (.castore, 1) := by decide +kernel
theorem dX8_init_213 : decode cX8_init 213 = .ok (.dup, 1) := by decide +kernel
theorem dX8_init_214 : decode cX8_init 214 = .ok (.bipush 29, 2) := by decide +kernel
theorem dX8_init_216 : decode cX8_init 216 = .ok (.iconst 0, 1) := by decide +kernel
theorem dX8_init_217 : decode cX8_init 217 = .ok (.castore, 1) := by decide +kernel
theorem dX8_init_218 : decode cX8_init 218 = .ok (.dup, 1) := by decide +kernel
theorem dX8_init_219 : decode cX8_init 219 = .ok (.bipush 30, 2) := by decide +kernel
theorem dX8_init_221 : decode cX8_init 221 = .ok (.bipush 98, 2) := by decide +kernel
theorem dX8_init_223 : decode cX8_init 223 = .ok (.castore, 1) := by decide +kernel
theorem dX8_init_224 : decode cX8_init 224 = .ok (.dup, 1) := by decide +kernel
theorem dX8_init_225 : decode cX8_init 225 = .ok (.bipush 31, 2) := by decide +kernel
theorem dX8_init_227 : decode cX8_init 227 = .ok (.bipush 97, 2) := by decide +kernel
theorem dX8_init_229 : decode cX8_init 229 = .ok (.castore, 1) := by decide +kernel
theorem dX8_init_230 : decode cX8_init 230 = .ok (.dup, 1) := by decide +kernel
theorem dX8_init_231 : decode cX8_init 231 = .ok (.bipush 32, 2) := by decide +kernel
theorem dX8_init_233 : decode cX8_init 233 = .ok (.bipush 114, 2) := by decide +kernel
theorem dX8_init_235 : decode cX8_init 235 = .ok (.castore, 1) := by decide +kernel
theorem dX8_init_236 : decode cX8_init 236 = .ok (.dup, 1) := by decide +kernel
theorem dX8_init_237 : decode cX8_init 237 = .ok (.bipush 33, 2) := by decide +kernel
theorem dX8_init_239 : decode cX8_init 239 = .ok (.iconst 0, 1) := by decide +kernel
theorem dX8_init_240 : decode cX8_init 240 = .ok (.castore, 1) := by decide +kernel
theorem dX8_init_241 : decode cX8_init 241 = .ok (.dup, 1) := by decide +kernel
theorem dX8_init_242 : decode cX8_init 242 = .ok (.bipush 34, 2) := by decide +kernel
theorem dX8_init_244 : decode cX8_init 244 = .ok (.iconst 0, 1) := by decide +kernel
theorem dX8_init_245 : decode cX8_init 245 = .ok (.castore, 1) := by decide +kernel
theorem dX8_init_246 : decode cX8_init 246 = .ok (.dup, 1) := by decide +kernel
theorem dX8_init_247 : decode cX8_init 247 = .ok (.bipush 35, 2) := by decide +kernel
theorem dX8_init_249 : decode cX8_init 249 = .ok (.iconst 0, 1) := by decide +kernel
theorem dX8_init_250 : decode cX8_init 250 = .ok (.castore, 1) := by decide +kernel
theorem dX8_init_251 : decode cX8_init 251 = .ok (.dup, 1) := by decide +kernel
theorem dX8_init_252 : decode cX8_init 252 = .ok (.bipush 36, 2) := by decide +kernel
theorem dX8_init_254 : decode cX8_init 254 = .ok (.bipush 104, 2) := by decide +kernel
theorem dX8_init_256 : decode cX8_init 256 = .ok (.castore, 1) := by decide +kernel
theorem dX8_init_257 : decode cX8_init 257 = .ok (.dup, 1) := by decide +kernel
theorem dX8_init_258 : decode cX8_init 258 = .ok (.bipush 37, 2) := by decide +kernel
theorem dX8_init_260 : decode cX8_init 260 = .ok (.bipush 111, 2) := by decide +kernel
theorem dX8_init_262 : decode cX8_init 262 = .ok (.castore, 1) := by decide +kernel
theorem dX8_init_263 : decode cX8_init 263 = .ok (.dup, 1) := by decide +kernel
theorem dX8_init_264 : decode cX8_init 264 = .ok (.bipush 38, 2) := by decide +kernel
theorem dX8_init_266 : decode cX8_init 266 = .ok (.bipush 117, 2) := by decide +kernel
theorem dX8_init_268 : decode cX8_init 268 = .ok (.castore, 1) := by decide +kernel
theorem dX8_init_269 : decode cX8_init 269 = .ok (.dup, 1) := by decide +kernel
theorem dX8_init_270 : decode cX8_init 270 = .ok (.bipush 39, 2) := by decide +kernel
theorem dX8_init_272 : decode cX8_init 272 = .ok (.bipush 114, 2) := by decide +kernel
theorem dX8_init_274 : decode cX8_init 274 = .ok (.castore, 1) := by decide +kernel
theorem dX8_init_275 : decode cX8_init 275 = .ok (.dup, 1) := by decide +kernel
theorem dX8_init_276 : decode cX8_init 276 = .ok (.bipush 40, 2) := by decide +kernel
theorem dX8_init_278 : decode cX8_init 278 = .ok (.iconst 0, 1) := by decide +kernel
theorem dX8_init_279 : decode cX8_init 279 = .ok (.castore, 1) := by decide +kernel
theorem dX8_init_280 : decode cX8_init 280 = .ok (.dup, 1) := by decide +kernel
theorem dX8_init_281 : decode cX8_init 281 = .ok (.bipush 41, 2) := by decide +kernel
theorem dX8_init_283 : decode cX8_init 283 = .ok (.iconst 0, 1) := by decide +kernel
theorem dX8_init_284 : decode cX8_init 284 = .ok (.castore, 1) := by decide +kernel
theorem dX8_init_285 : decode cX8_init 285 = .ok (.putfield 29, 3) := by decide +kernel
theorem dX8_init_288 : decode cX8_init 288 = .ok (.aload_n 0, 1) := by decide +kernel
theorem dX8_init_289 : decode cX8_init 289 = .ok (.bipush 8, 2) := by decide +kernel
theorem dX8_init_291 : decode cX8_init 291 = .ok (.newarray .int, 2) := by decide +kernel
theorem dX8_init_293 : decode cX8_init 293 = .ok (.dup, 1) := by decide +kernel
theorem dX8_init_294 : decode cX8_init 294 = .ok (.iconst 0, 1) := by decide +kernel
theorem dX8_init_295 : decode cX8_init 295 = .ok (.iconst (-1), 1) := by decide +kernel
theorem dX8_init_296 : decode cX8_init 296 = .ok (.iastore, 1) := by decide +kernel
theorem dX8_init_297 : decode cX8_init 297 = .ok (.dup, 1) := by decide +kernel
theorem dX8_init_298 : decode cX8_init 298 = .ok (.iconst 1, 1) := by decide +kernel
theorem dX8_init_299 : decode cX8_init 299 = .ok (.iconst (-1), 1) := by decide +kernel
theorem dX8_init_300 : decode cX8_init 300 = .ok (.iastore, 1) := by decide +kernel
theorem dX8_init_301 : decode cX8_init 301 = .ok (.dup, 1) := by decide +kernel
theorem dX8_init_302 : decode cX8_init 302 = .ok (.iconst 2, 1) := by decide +kernel
theorem dX8_init_303 : decode cX8_init 303 = .ok (.iconst (-1), 1) := by decide +kernel
theorem dX8_init_304 : decode cX8_init 304 = .ok (.iastore, 1) := by decide +kernel
theorem dX8_init_305 : decode cX8_init 305 = .ok (.dup, 1) := by decide +kernel
theorem dX8_init_306 : decode cX8_init 306 = .ok (.iconst 3, 1) := by decide +kernel
theorem dX8_init_307 : decode cX8_init 307 = .ok (.iconst (-1), 1) := by decide +kernel
theorem dX8_init_308 : decode cX8_init 308 = .ok (.iastore, 1) := by decide +kernel
theorem dX8_init_309 : decode cX8_init 309 = .ok (.dup, 1) := by decide +kernel
theorem dX8_init_310 : decode cX8_init 310 = .ok (.iconst 4, 1) := by decide +kernel
theorem dX8_init_311 : decode cX8_init 311 = .ok (.iconst (-1), 1) := by decide +kernel
theorem dX8_init_312 : decode cX8_init 312 = .ok (.iastore, 1) := by decide +kernel
theorem dX8_init_313 : decode cX8_init 313 = .ok (.dup, 1) := by decide +kernel
theorem dX8_init_314 : decode cX8_init 314 = .ok (.iconst 5, 1) := by decide +kernel
theorem dX8_init_315 : decode cX8_init 315 = .ok (.iconst (-1), 1) := by decide +kernel
theorem dX8_init_316 : decode cX8_init 316 = .ok (.iastore, 1) := by decide +kernel
theorem dX8_init_317 : decode cX8_init 317 = .ok (.dup, 1) := by decide +kernel
theorem dX8_init_318 : decode cX8_init 318 = .ok (.bipush 6, 2) := by decide +kernel
theorem dX8_init_320 : decode cX8_init 320 = .ok (.iconst (-1), 1) := by decide +kernel
theorem dX8_init_321 : decode cX8_init 321 = .ok (.iastore, 1) := by decide +kernel
theorem dX8_init_322 : decode cX8_init 322 = .ok (.dup, 1) := by decide +kernel
theorem dX8_init_323 : decode cX8_init 323 = .ok (.bipush 7, 2) := by decide +kernel
theorem dX8_init_325 : decode cX8_init 325 = .ok (.iconst (-1), 1) := by decide +kernel
theorem dX8_init_326 : decode cX8_init 326 = .ok (.iastore, 1) := by decide +kernel
theorem dX8_init_327 : decode cX8_init 327 = .ok (.putfield 33, 3) := by decide +kernel
theorem dX8_init_330 : decode cX8_init 330 = .ok (.aload_n 0, 1) := by decide +kernel
theorem dX8_init_331 : decode cX8_init 331 = .ok (.bipush 8, 2) := by decide +kernel
theorem dX8_init_333 : decode cX8_init 333 = .ok (.newarray .int, 2) := by decide +kernel
theorem dX8_init_335 : decode cX8_init 335 = .ok (.putfield 36, 3) := by decide +kernel
theorem dX8_init_338 : decode cX8_init 338 = .ok (.aload_n 0, 1) := by decide +kernel
theorem dX8_init_339 : decode cX8_init 339 = .ok (.sipush 320, 3) := by decide +kernel
theorem dX8_init_342 : decode cX8_init 342 = .ok (.newarray .long, 2) := by decide +kernel
theorem dX8_init_344 : decode cX8_init 344 = .ok (.putfield 39, 3) := by decide +kernel
theorem dX8_init_347 : decode cX8_init 347 = .ok (.aload_n 0, 1) := by decide +kernel
theorem dX8_init_348 : decode cX8_init 348 = .ok (.bipush 40, 2) := by decide +kernel
theorem dX8_init_350 : decode cX8_init 350 = .ok (.newarray .long, 2) := by decide +kernel
theorem dX8_init_352 : decode cX8_init 352 = .ok (.putfield 43, 3) := by decide +kernel
theorem dX8_init_355 : decode cX8_init 355 = .ok (.aload_n 0, 1) := by decide +kernel
theorem dX8_init_356 : decode cX8_init 356 = .ok (.bipush 6, 2) := by decide +kernel
theorem dX8_init_358 : decode cX8_init 358 = .ok (.newarray .int, 2) := by decide +kernel
theorem dX8_init_360 : decode cX8_init 360 = .ok (.dup, 1) := by decide +kernel
theorem dX8_init_361 : decode cX8_init 361 = .ok (.iconst 0, 1) := by decide +kernel
theorem dX8_init_362 : decode cX8_init 362 = .ok (.iconst (-1), 1) := by decide +kernel
theorem dX8_init_363 : decode cX8_init 363 = .ok (.iastore, 1) := by decide +kernel
theorem dX8_init_364 : decode cX8_init 364 = .ok (.dup, 1) := by decide +kernel
theorem dX8_init_365 : decode cX8_init 365 = .ok (.iconst 1, 1) := by decide +kernel
theorem dX8_init_366 : decode cX8_init 366 = .ok (.iconst 0, 1) := by decide +kernel
theorem dX8_init_367 : decode cX8_init 367 = .ok (.iastore, 1) := by decide +kernel
theorem dX8_init_368 : decode cX8_init 368 = .ok (.dup, 1) := by decide +kernel
theorem dX8_init_369 : decode cX8_init 369 = .ok (.iconst 2, 1) := by decide +kernel
theorem dX8_init_370 : decode cX8_init 370 = .ok (.iconst 0, 1) := by decide +kernel
theorem dX8_init_371 : decode cX8_init 371 = .ok (.iastore, 1) := by decide +kernel
theorem dX8_init_372 : decode cX8_init 372 = .ok (.dup, 1) := by decide +kernel
theorem dX8_init_373 : decode cX8_init 373 = .ok (.iconst 3, 1) := by decide +kernel
theorem dX8_init_374 : decode cX8_init 374 = .ok (.iconst 1, 1) := by decide +kernel
theorem dX8_init_375 : decode cX8_init 375 = .ok (.iastore, 1) := by decide +kernel
theorem dX8_init_376 : decode cX8_init 376 = .ok (.dup, 1) := by decide +kernel
theorem dX8_init_377 : decode cX8_init 377 = .ok (.iconst 4, 1) := by decide +kernel
theorem dX8_init_378 : decode cX8_init 378 = .ok (.iconst 2, 1) := by decide +kernel
theorem dX8_init_379 : decode cX8_init 379 = .ok (.iastore, 1) := by decide +kernel
theorem dX8_init_380 : decode cX8_init 380 = .ok (.dup, 1) := by decide +kernel
theorem dX8_init_381 : decode cX8_init 381 = .ok (.iconst 5, 1) := by decide +kernel
theorem dX8_init_382 : decode cX8_init 382 = .ok (.iconst 0, 1) := by decide +kernel
theorem dX8_init_383 : decode cX8_init 383 = .ok (.iastore, 1) := by decide +kernel
theorem dX8_init_384 : decode cX8_init 384 = .ok (.putfield 46, 3) := by decide +kernel
theorem dX8_init_387 : decode cX8_init 387 = .ok (.aload_n 0, 1) := by decide +kernel
theorem dX8_init_388 : decode cX8_init 388 = .ok (.bipush 40, 2) := by decide +kernel
theorem dX8_init_390 : decode cX8_init 390 = .ok (.newarray .int, 2) := by decide +kernel
theorem dX8_init_392 : decode cX8_init 392 = .ok (.putfield 49, 3) := by decide +kernel
theorem dX8_init_395 : decode cX8_init 395 = .ok (.aload_n 0, 1) := by decide +kernel
theorem dX8_init_396 : decode cX8_init 396 = .ok (.iconst 4, 1) := by decide +kernel
theorem dX8_init_397 : decode cX8_init 397 = .ok (.newarray .int, 2) := by decide +kernel
theorem dX8_init_399 : decode cX8_init 399 = .ok (.putfield 52, 3) := by decide +kernel
theorem dX8_init_402 : decode cX8_init 402 = .ok (.aload_n 0, 1) := by decide +kernel
theorem dX8_init_403 : decode cX8_init 403 = .ok (.bipush 100, 2) := by decide +kernel
theorem dX8_init_405 : decode cX8_init 405 = .ok (.newarray .boolean, 2) := by decide +kernel
theorem dX8_init_407 : decode cX8_init 407 = .ok (.putfield 55, 3) := by decide +kernel
theorem dX8_init_410 : decode cX8_init 410 = .ok (.return_, 1) := by decide +kernel
theorem dX8_isIn_0 : decode cX8_isIn 0 = .ok (.lload_n 0, 1) := by decide +kernel
theorem dX8_isIn_1 : decode cX8_isIn 1 = .ok (.lload_n 2, 1) := by decide +kernel
theorem dX8_isIn_2 : decode cX8_isIn 2 = .ok (.lcmp, 1) := by decide +kernel
theorem dX8_isIn_3 : decode cX8_isIn 3 = .ok (.ifCond .lt 14, 3) := by decide +kernel
theorem dX8_isIn_6 : decode cX8_isIn 6 = .ok (.lload_n 0, 1) := by decide +kernel
theorem dX8_isIn_7 : decode cX8_isIn 7 = .ok (.lload 4, 2) := by decide +kernel
theorem dX8_isIn_9 : decode cX8_isIn 9 = .ok (.lcmp, 1) := by decide +kernel
theorem dX8_isIn_10 : decode cX8_isIn 10 = .ok (.ifCond .gt 7, 3) := by decide +kernel
theorem dX8_isIn_13 : decode cX8_isIn 13 = .ok (.iconst 1, 1) := by decide +kernel
theorem dX8_isIn_14 : decode cX8_isIn 14 = .ok (.goto 4, 3) := by decide +kernel
theorem dX8_isIn_17 : decode cX8_isIn 17 = .ok (.iconst 0, 1) := by decide +kernel
theorem dX8_isIn_18 : decode cX8_isIn 18 = .ok (.ireturn, 1) := by decide +kernel
theorem dX8_bound_0 : decode cX8_bound 0 = .ok (.iconst 0, 1) := by decide +kernel
theorem dX8_bound_1 : decode cX8_bound 1 = .ok (.iload_n 1, 1) := by decide +kernel
theorem dX8_bound_2 : decode cX8_bound 2 = .ok (.iload_n 0, 1) := by decide +kernel
theorem dX8_bound_3 : decode cX8_bound 3 = .ok (.invokestatic 59, 3) := by decide +kernel
theorem dX8_bound_6 : decode cX8_bound 6 = .ok (.invokestatic 65, 3) := by decide +kernel
theorem dX8_bound_9 : decode cX8_bound 9 = .ok (.ireturn, 1) := by decide +kernel
theorem dX8_refuse_0 : decode cX8_refuse 0 = .ok (.aload_n 0, 1) := by decide +kernel
theorem dX8_refuse_1 : decode cX8_refuse 1 = .ok (.getfield 7, 3) := by decide +kernel
theorem dX8_refuse_4 : decode cX8_refuse 4 = .ok (.iload_n 1, 1) := by decide +kernel
theorem dX8_refuse_5 : decode cX8_refuse 5 = .ok (.ineg, 1) := by decide +kernel
theorem dX8_refuse_6 : decode cX8_refuse 6 = .ok (.dup2, 1) := by decide +kernel
theorem dX8_refuse_7 : decode cX8_refuse 7 = .ok (.iaload, 1) := by decide +kernel
theorem dX8_refuse_8 : decode cX8_refuse 8 = .ok (.iconst 1, 1) := by decide +kernel
theorem dX8_refuse_9 : decode cX8_refuse 9 = .ok (.iadd, 1) := by decide +kernel
theorem dX8_refuse_10 : decode cX8_refuse 10 = .ok (.iastore, 1) := by decide +kernel
theorem dX8_refuse_11 : decode cX8_refuse 11 = .ok (.iload_n 1, 1) := by decide +kernel
theorem dX8_refuse_12 : decode cX8_refuse 12 = .ok (.ireturn, 1) := by decide +kernel
theorem dX8_fresh_0 : decode cX8_fresh 0 = .ok (.bipush 39, 2) := by decide +kernel
theorem dX8_fresh_2 : decode cX8_fresh 2 = .ok (.newarray .int, 2) := by decide +kernel
theorem dX8_fresh_4 : decode cX8_fresh 4 = .ok (.astore_n 0, 1) := by decide +kernel
theorem dX8_fresh_5 : decode cX8_fresh 5 = .ok (.aload_n 0, 1) := by decide +kernel
theorem dX8_fresh_6 : decode cX8_fresh 6 = .ok (.bipush 33, 2) := by decide +kernel
theorem dX8_fresh_8 : decode cX8_fresh 8 = .ok (.bipush 20, 2) := by decide +kernel
theorem dX8_fresh_10 : decode cX8_fresh 10 = .ok (.iastore, 1) := by decide +kernel
theorem dX8_fresh_11 : decode cX8_fresh 11 = .ok (.aload_n 0, 1) := by decide +kernel
theorem dX8_fresh_12 : decode cX8_fresh 12 = .ok (.bipush 34, 2) := by decide +kernel
theorem dX8_fresh_14 : decode cX8_fresh 14 = .ok (.bipush 60, 2) := by decide +kernel
theorem dX8_fresh_16 : decode cX8_fresh 16 = .ok (.iastore, 1) := by decide +kernel
theorem dX8_fresh_17 : decode cX8_fresh 17 = .ok (.aload_n 0, 1) := by decide +kernel
theorem dX8_fresh_18 : decode cX8_fresh 18 = .ok (.bipush 35, 2) := by decide +kernel
theorem dX8_fresh_20 : decode cX8_fresh 20 = .ok (.iconst 1, 1) := by decide +kernel
theorem dX8_fresh_21 : decode cX8_fresh 21 = .ok (.iastore, 1) := by decide +kernel
theorem dX8_fresh_22 : decode cX8_fresh 22 = .ok (.aload_n 0, 1) := by decide +kernel
theorem dX8_fresh_23 : decode cX8_fresh 23 = .ok (.bipush 36, 2) := by decide +kernel
theorem dX8_fresh_25 : decode cX8_fresh 25 = .ok (.bipush 50, 2) := by decide +kernel
theorem dX8_fresh_27 : decode cX8_fresh 27 = .ok (.iastore, 1) := by decide +kernel
theorem dX8_fresh_28 : decode cX8_fresh 28 = .ok (.aload_n 0, 1) := by decide +kernel
theorem dX8_fresh_29 : decode cX8_fresh 29 = .ok (.bipush 38, 2) := by decide +kernel
theorem dX8_fresh_31 : decode cX8_fresh 31 = .ok (.iconst 1, 1) := by decide +kernel
theorem dX8_fresh_32 : decode cX8_fresh 32 = .ok (.iastore, 1) := by decide +kernel
theorem dX8_fresh_33 : decode cX8_fresh 33 = .ok (.aload_n 0, 1) := by decide +kernel
theorem dX8_fresh_34 : decode cX8_fresh 34 = .ok (.areturn, 1) := by decide +kernel
theorem dX8_keep_0 : decode cX8_keep 0 = .ok (.iconst 0, 1) := by decide +kernel
theorem dX8_keep_1 : decode cX8_keep 1 = .ok (.istore_n 2, 1) := by decide +kernel
theorem dX8_keep_2 : decode cX8_keep 2 = .ok (.iload_n 2, 1) := by decide +kernel
theorem dX8_keep_3 : decode cX8_keep 3 = .ok (.bipush 39, 2) := by decide +kernel
theorem dX8_keep_5 : decode cX8_keep 5 = .ok (.if_icmp .ge 26, 3) := by decide +kernel
theorem dX8_keep_8 : decode cX8_keep 8 = .ok (.aload_n 0, 1) := by decide +kernel
theorem dX8_keep_9 : decode cX8_keep 9 = .ok (.getfield 23, 3) := by decide +kernel
theorem dX8_keep_12 : decode cX8_keep 12 = .ok (.bipush 39, 2) := by decide +kernel
theorem dX8_keep_14 : decode cX8_keep 14 = .ok (.iload_n 1, 1) := by decide +kernel
theorem dX8_keep_15 : decode cX8_keep 15 = .ok (.imul, 1) := by decide +kernel
theorem dX8_keep_16 : decode cX8_keep 16 = .ok (.iload_n 2, 1) := by decide +kernel
theorem dX8_keep_17 : decode cX8_keep 17 = .ok (.iadd, 1) := by decide +kernel
theorem dX8_keep_18 : decode cX8_keep 18 = .ok (.aload_n 0, 1) := by decide +kernel
theorem dX8_keep_19 : decode cX8_keep 19 = .ok (.getfield 17, 3) := by decide +kernel
theorem dX8_keep_22 : decode cX8_keep 22 = .ok (.iload_n 2, 1) := by decide +kernel
theorem dX8_keep_23 : decode cX8_keep 23 = .ok (.iaload, 1) := by decide +kernel
theorem dX8_keep_24 : decode cX8_keep 24 = .ok (.iastore, 1) := by decide +kernel
theorem dX8_keep_25 : decode cX8_keep 25 = .ok (.iinc 2 1, 3) := by decide +kernel
theorem dX8_keep_28 : decode cX8_keep 28 = .ok (.goto (-26), 3) := by decide +kernel
theorem dX8_keep_31 : decode cX8_keep 31 = .ok (.return_, 1) := by decide +kernel
theorem dX8_lay_0 : decode cX8_lay 0 = .ok (.iconst 0, 1) := by decide +kernel
theorem dX8_lay_1 : decode cX8_lay 1 = .ok (.istore_n 2, 1) := by decide +kernel
theorem dX8_lay_2 : decode cX8_lay 2 = .ok (.iload_n 2, 1) := by decide +kernel
theorem dX8_lay_3 : decode cX8_lay 3 = .ok (.bipush 39, 2) := by decide +kernel
theorem dX8_lay_5 : decode cX8_lay 5 = .ok (.if_icmp .ge 26, 3) := by decide +kernel
theorem dX8_lay_8 : decode cX8_lay 8 = .ok (.aload_n 0, 1) := by decide +kernel
theorem dX8_lay_9 : decode cX8_lay 9 = .ok (.getfield 17, 3) := by decide +kernel
theorem dX8_lay_12 : decode cX8_lay 12 = .ok (.iload_n 2, 1) := by decide +kernel
theorem dX8_lay_13 : decode cX8_lay 13 = .ok (.aload_n 0, 1) := by decide +kernel
theorem dX8_lay_14 : decode cX8_lay 14 = .ok (.getfield 23, 3) := by decide +kernel
theorem dX8_lay_17 : decode cX8_lay 17 = .ok (.bipush 39, 2) := by decide +kernel
theorem dX8_lay_19 : decode cX8_lay 19 = .ok (.iload_n 1, 1) := by decide +kernel
theorem dX8_lay_20 : decode cX8_lay 20 = .ok (.imul, 1) := by decide +kernel
theorem dX8_lay_21 : decode cX8_lay 21 = .ok (.iload_n 2, 1) := by decide +kernel
theorem dX8_lay_22 : decode cX8_lay 22 = .ok (.iadd, 1) := by decide +kernel
theorem dX8_lay_23 : decode cX8_lay 23 = .ok (.iaload, 1) := by decide +kernel
theorem dX8_lay_24 : decode cX8_lay 24 = .ok (.iastore, 1) := by decide +kernel
theorem dX8_lay_25 : decode cX8_lay 25 = .ok (.iinc 2 1, 3) := by decide +kernel
theorem dX8_lay_28 : decode cX8_lay 28 = .ok (.goto (-26), 3) := by decide +kernel
theorem dX8_lay_31 : decode cX8_lay 31 = .ok (.return_, 1) := by decide +kernel
theorem dX8_many_0 : decode cX8_many 0 = .ok (.aload_n 0, 1) := by decide +kernel
theorem dX8_many_1 : decode cX8_many 1 = .ok (.getfield 17, 3) := by decide +kernel
theorem dX8_many_4 : decode cX8_many 4 = .ok (.bipush 32, 2) := by decide +kernel
theorem dX8_many_6 : decode cX8_many 6 = .ok (.iaload, 1) := by decide +kernel
theorem dX8_many_7 : decode cX8_many 7 = .ok (.ireturn, 1) := by decide +kernel
theorem dX8_isKeeper_0 : decode cX8_isKeeper 0 = .ok (.lload_n 1, 1) := by decide +kernel
theorem dX8_isKeeper_1 : decode cX8_isKeeper 1 = .ok (.lconst 0, 1) := by decide +kernel
theorem dX8_isKeeper_2 : decode cX8_isKeeper 2 = .ok (.aload_n 0, 1) := by decide +kernel
theorem dX8_isKeeper_3 : decode cX8_isKeeper 3 = .ok (.getfield 17, 3) := by decide +kernel
theorem dX8_isKeeper_6 : decode cX8_isKeeper 6 = .ok (.bipush 32, 2) := by decide +kernel
theorem dX8_isKeeper_8 : decode cX8_isKeeper 8 = .ok (.iaload, 1) := by decide +kernel
theorem dX8_isKeeper_9 : decode cX8_isKeeper 9 = .ok (.iconst 1, 1) := by decide +kernel
theorem dX8_isKeeper_10 : decode cX8_isKeeper 10 = .ok (.isub, 1) := by decide +kernel
theorem dX8_isKeeper_11 : decode cX8_isKeeper 11 = .ok (.i2l, 1) := by decide +kernel
theorem dX8_isKeeper_12 : decode cX8_isKeeper 12 = .ok (.invokestatic 68, 3) := by decide +kernel
theorem dX8_isKeeper_15 : decode cX8_isKeeper 15 = .ok (.ireturn, 1) := by decide +kernel
theorem dX8_isOrder_0 : decode cX8_isOrder 0 = .ok (.lload_n 1, 1) := by decide +kernel
theorem dX8_isOrder_1 : decode cX8_isOrder 1 = .ok (.ldc2_w 72, 3) := by decide +kernel
theorem dX8_isOrder_4 : decode cX8_isOrder 4 = .ok (.lcmp, 1) := by decide +kernel
theorem dX8_isOrder_5 : decode cX8_isOrder 5 = .ok (.ifCond .eq 19, 3) := by decide +kernel
theorem dX8_isOrder_8 : decode cX8_isOrder 8 = .ok (.lload_n 1, 1) := by decide +kernel
theorem dX8_isOrder_9 : decode cX8_isOrder 9 = .ok (.ldc2_w 74, 3) := by decide +kernel
theorem dX8_isOrder_12 : decode cX8_isOrder 12 = .ok (.lcmp, 1) := by decide +kernel
theorem dX8_isOrder_13 : decode cX8_isOrder 13 = .ok (.ifCond .eq 11, 3) := by decide +kernel
theorem dX8_isOrder_16 : decode cX8_isOrder 16 = .ok (.aload_n 0, 1) := by decide +kernel
theorem dX8_isOrder_17 : decode cX8_isOrder 17 = .ok (.lload_n 1, 1) := by decide +kernel
theorem dX8_isOrder_18 : decode cX8_isOrder 18 = .ok (.invokevirtual 76, 3) := by decide +kernel
theorem dX8_isOrder_21 : decode cX8_isOrder 21 = .ok (.ifCond .eq 7, 3) := by decide +kernel
theorem dX8_isOrder_24 : decode cX8_isOrder 24 = .ok (.iconst 1, 1) := by decide +kernel
theorem dX8_isOrder_25 : decode cX8_isOrder 25 = .ok (.goto 4, 3) := by decide +kernel
theorem dX8_isOrder_28 : decode cX8_isOrder 28 = .ok (.iconst 0, 1) := by decide +kernel
theorem dX8_isOrder_29 : decode cX8_isOrder 29 = .ok (.ireturn, 1) := by decide +kernel
theorem dX8_orderAt_0 : decode cX8_orderAt 0 = .ok (.iload_n 1, 1) := by decide +kernel
theorem dX8_orderAt_1 : decode cX8_orderAt 1 = .ok (.aload_n 0, 1) := by decide +kernel
theorem dX8_orderAt_2 : decode cX8_orderAt 2 = .ok (.invokevirtual 80, 3) := by decide +kernel
theorem dX8_orderAt_5 : decode cX8_orderAt 5 = .ok (.iconst 1, 1) := by decide +kernel
theorem dX8_orderAt_6 : decode cX8_orderAt 6 = .ok (.iadd, 1) := by decide +kernel
theorem dX8_orderAt_7 : decode cX8_orderAt 7 = .ok (.if_icmp .ne 8, 3) := by decide +kernel
theorem dX8_orderAt_10 : decode cX8_orderAt 10 = .ok (.bipush 10, 2) := by decide +kernel
theorem dX8_orderAt_12 : decode cX8_orderAt 12 = .ok (.goto 6, 3) := by decide +kernel
theorem dX8_orderAt_15 : decode cX8_orderAt 15 = .ok (.iload_n 1, 1) := by decide +kernel
theorem dX8_orderAt_16 : decode cX8_orderAt 16 = .ok (.iconst 1, 1) := by decide +kernel
theorem dX8_orderAt_17 : decode cX8_orderAt 17 = .ok (.isub, 1) := by decide +kernel
theorem dX8_orderAt_18 : decode cX8_orderAt 18 = .ok (.ireturn, 1) := by decide +kernel
theorem dX8_kind_0 : decode cX8_kind 0 = .ok (.aload_n 0, 1) := by decide +kernel
theorem dX8_kind_1 : decode cX8_kind 1 = .ok (.getfield 17, 3) := by decide +kernel
theorem dX8_kind_4 : decode cX8_kind 4 = .ok (.iconst 4, 1) := by decide +kernel
theorem dX8_kind_5 : decode cX8_kind 5 = .ok (.iload_n 1, 1) := by decide +kernel
theorem dX8_kind_6 : decode cX8_kind 6 = .ok (.imul, 1) := by decide +kernel
theorem dX8_kind_7 : decode cX8_kind 7 = .ok (.iaload, 1) := by decide +kernel
theorem dX8_kind_8 : decode cX8_kind 8 = .ok (.ireturn, 1) := by decide +kernel
theorem dX8_a_0 : decode cX8_a 0 = .ok (.aload_n 0, 1) := by decide +kernel
theorem dX8_a_1 : decode cX8_a 1 = .ok (.getfield 17, 3) := by decide +kernel
theorem dX8_a_4 : decode cX8_a 4 = .ok (.iconst 4, 1) := by decide +kernel
theorem dX8_a_5 : decode cX8_a 5 = .ok (.iload_n 1, 1) := by decide +kernel
theorem dX8_a_6 : decode cX8_a 6 = .ok (.imul, 1) := by decide +kernel
theorem dX8_a_7 : decode cX8_a 7 = .ok (.iconst 1, 1) := by decide +kernel
theorem dX8_a_8 : decode cX8_a 8 = .ok (.iadd, 1) := by decide +kernel
theorem dX8_a_9 : decode cX8_a 9 = .ok (.iaload, 1) := by decide +kernel
theorem dX8_a_10 : decode cX8_a 10 = .ok (.ireturn, 1) := by decide +kernel
theorem dX8_nerveOf_0 : decode cX8_nerveOf 0 = .ok (.aload_n 0, 1) := by decide +kernel
theorem dX8_nerveOf_1 : decode cX8_nerveOf 1 = .ok (.getfield 17, 3) := by decide +kernel
theorem dX8_nerveOf_4 : decode cX8_nerveOf 4 = .ok (.iconst 4, 1) := by decide +kernel
theorem dX8_nerveOf_5 : decode cX8_nerveOf 5 = .ok (.iload_n 1, 1) := by decide +kernel
theorem dX8_nerveOf_6 : decode cX8_nerveOf 6 = .ok (.imul, 1) := by decide +kernel
theorem dX8_nerveOf_7 : decode cX8_nerveOf 7 = .ok (.iconst 2, 1) := by decide +kernel
theorem dX8_nerveOf_8 : decode cX8_nerveOf 8 = .ok (.iadd, 1) := by decide +kernel
theorem dX8_nerveOf_9 : decode cX8_nerveOf 9 = .ok (.iaload, 1) := by decide +kernel
theorem dX8_nerveOf_10 : decode cX8_nerveOf 10 = .ok (.ireturn, 1) := by decide +kernel
theorem dX8_add_0 : decode cX8_add 0 = .ok (.aload_n 0, 1) := by decide +kernel
theorem dX8_add_1 : decode cX8_add 1 = .ok (.getfield 17, 3) := by decide +kernel
theorem dX8_add_4 : decode cX8_add 4 = .ok (.bipush 32, 2) := by decide +kernel
theorem dX8_add_6 : decode cX8_add 6 = .ok (.iaload, 1) := by decide +kernel
theorem dX8_add_7 : decode cX8_add 7 = .ok (.istore 4, 2) := by decide +kernel
theorem dX8_add_9 : decode cX8_add 9 = .ok (.aload_n 0, 1) := by decide +kernel
theorem dX8_add_10 : decode cX8_add 10 = .ok (.getfield 17, 3) := by decide +kernel
theorem dX8_add_13 : decode cX8_add 13 = .ok (.iconst 4, 1) := by decide +kernel
theorem dX8_add_14 : decode cX8_add 14 = .ok (.iload 4, 2) := by decide +kernel
theorem dX8_add_16 : decode cX8_add 16 = .ok (.imul, 1) := by decide +kernel
theorem dX8_add_17 : decode cX8_add 17 = .ok (.iload_n 1, 1) := by decide +kernel
theorem dX8_add_18 : decode cX8_add 18 = .ok (.iastore, 1) := by decide +kernel
theorem dX8_add_19 : decode cX8_add 19 = .ok (.aload_n 0, 1) := by decide +kernel
theorem dX8_add_20 : decode cX8_add 20 = .ok (.getfield 17, 3) := by decide +kernel
theorem dX8_add_23 : decode cX8_add 23 = .ok (.iconst 4, 1) := by decide +kernel
theorem dX8_add_24 : decode cX8_add 24 = .ok (.iload 4, 2) := by decide +kernel
theorem dX8_add_26 : decode cX8_add 26 = .ok (.imul, 1) := by decide +kernel
theorem dX8_add_27 : decode cX8_add 27 = .ok (.iconst 1, 1) := by decide +kernel
theorem dX8_add_28 : decode cX8_add 28 = .ok (.iadd, 1) := by decide +kernel
theorem dX8_add_29 : decode cX8_add 29 = .ok (.iload_n 2, 1) := by decide +kernel
theorem dX8_add_30 : decode cX8_add 30 = .ok (.iastore, 1) := by decide +kernel
theorem dX8_add_31 : decode cX8_add 31 = .ok (.aload_n 0, 1) := by decide +kernel
theorem dX8_add_32 : decode cX8_add 32 = .ok (.getfield 17, 3) := by decide +kernel
theorem dX8_add_35 : decode cX8_add 35 = .ok (.iconst 4, 1) := by decide +kernel
theorem dX8_add_36 : decode cX8_add 36 = .ok (.iload 4, 2) := by decide +kernel
theorem dX8_add_38 : decode cX8_add 38 = .ok (.imul, 1) := by decide +kernel
theorem dX8_add_39 : decode cX8_add 39 = .ok (.iconst 2, 1) := by decide +kernel
theorem dX8_add_40 : decode cX8_add 40 = .ok (.iadd, 1) := by decide +kernel
theorem dX8_add_41 : decode cX8_add 41 = .ok (.iload_n 3, 1) := by decide +kernel
theorem dX8_add_42 : decode cX8_add 42 = .ok (.iastore, 1) := by decide +kernel
theorem dX8_add_43 : decode cX8_add 43 = .ok (.aload_n 0, 1) := by decide +kernel
theorem dX8_add_44 : decode cX8_add 44 = .ok (.getfield 17, 3) := by decide +kernel
theorem dX8_add_47 : decode cX8_add 47 = .ok (.iconst 4, 1) := by decide +kernel
theorem dX8_add_48 : decode cX8_add 48 = .ok (.iload 4, 2) := by decide +kernel
theorem dX8_add_50 : decode cX8_add 50 = .ok (.imul, 1) := by decide +kernel
theorem dX8_add_51 : decode cX8_add 51 = .ok (.iconst 3, 1) := by decide +kernel
theorem dX8_add_52 : decode cX8_add 52 = .ok (.iadd, 1) := by decide +kernel
theorem dX8_add_53 : decode cX8_add 53 = .ok (.iconst 0, 1) := by decide +kernel
theorem dX8_add_54 : decode cX8_add 54 = .ok (.iastore, 1) := by decide +kernel
theorem dX8_add_55 : decode cX8_add 55 = .ok (.aload_n 0, 1) := by decide +kernel
theorem dX8_add_56 : decode cX8_add 56 = .ok (.getfield 17, 3) := by decide +kernel
theorem dX8_add_59 : decode cX8_add 59 = .ok (.bipush 32, 2) := by decide +kernel
theorem dX8_add_61 : decode cX8_add 61 = .ok (.dup2, 1) := by decide +kernel
theorem dX8_add_62 : decode cX8_add 62 = .ok (.iaload, 1) := by decide +kernel
theorem dX8_add_63 : decode cX8_add 63 = .ok (.iconst 1, 1) := by decide +kernel
theorem dX8_add_64 : decode cX8_add 64 = .ok (.iadd, 1) := by decide +kernel
theorem dX8_add_65 : decode cX8_add 65 = .ok (.iastore, 1) := by decide +kernel
theorem dX8_add_66 : decode cX8_add 66 = .ok (.iload 4, 2) := by decide +kernel
theorem dX8_add_68 : decode cX8_add 68 = .ok (.ireturn, 1) := by decide +kernel
theorem dX8_keeper_0 : decode cX8_keeper 0 = .ok (.iload_n 1, 1) := by decide +kernel
theorem dX8_keeper_1 : decode cX8_keeper 1 = .ok (.i2l, 1) := by decide +kernel
theorem dX8_keeper_2 : decode cX8_keeper 2 = .ok (.lconst 0, 1) := by decide +kernel
theorem dX8_keeper_3 : decode cX8_keeper 3 = .ok (.ldc2_w 84, 3) := by decide +kernel
theorem dX8_keeper_6 : decode cX8_keeper 6 = .ok (.invokestatic 68, 3) := by decide +kernel
theorem dX8_keeper_9 : decode cX8_keeper 9 = .ok (.ifCond .eq 27, 3) := by decide +kernel
theorem dX8_keeper_12 : decode cX8_keeper 12 = .ok (.iload_n 2, 1) := by decide +kernel
theorem dX8_keeper_13 : decode cX8_keeper 13 = .ok (.i2l, 1) := by decide +kernel
theorem dX8_keeper_14 : decode cX8_keeper 14 = .ok (.lconst 0, 1) := by decide +kernel
theorem dX8_keeper_15 : decode cX8_keeper 15 = .ok (.ldc2_w 86, 3) := by decide +kernel
theorem dX8_keeper_18 : decode cX8_keeper 18 = .ok (.invokestatic 68, 3) := by decide +kernel
theorem dX8_keeper_21 : decode cX8_keeper 21 = .ok (.ifCond .eq 15, 3) := by decide +kernel
theorem dX8_keeper_24 : decode cX8_keeper 24 = .ok (.iload_n 3, 1) := by decide +kernel
theorem dX8_keeper_25 : decode cX8_keeper 25 = .ok (.i2l, 1) := by decide +kernel
theorem dX8_keeper_26 : decode cX8_keeper 26 = .ok (.lconst 0, 1) := by decide +kernel
theorem dX8_keeper_27 : decode cX8_keeper 27 = .ok (.ldc2_w 88, 3) := by decide +kernel
theorem dX8_keeper_30 : decode cX8_keeper 30 = .ok (.invokestatic 68, 3) := by decide +kernel
theorem dX8_keeper_33 : decode cX8_keeper 33 = .ok (.ifCond .ne 10, 3) := by decide +kernel
theorem dX8_keeper_36 : decode cX8_keeper 36 = .ok (.aload_n 0, 1) := by decide +kernel
theorem dX8_keeper_37 : decode cX8_keeper 37 = .ok (.bipush (-2), 2) := by decide +kernel
theorem dX8_keeper_39 : decode cX8_keeper 39 = .ok (.invokevirtual 90, 3) := by decide +kernel
theorem dX8_keeper_42 : decode cX8_keeper 42 = .ok (.ireturn, 1) := by decide +kernel
theorem dX8_keeper_43 : decode cX8_keeper 43 = .ok (.aload_n 0, 1) := by decide +kernel
theorem dX8_keeper_44 : decode cX8_keeper 44 = .ok (.invokevirtual 80, 3) := by decide +kernel
theorem dX8_keeper_47 : decode cX8_keeper 47 = .ok (.bipush 8, 2) := by decide +kernel
theorem dX8_keeper_49 : decode cX8_keeper 49 = .ok (.if_icmp .ne 12, 3) := by decide +kernel
theorem dX8_keeper_52 : decode cX8_keeper 52 = .ok (.aload_n 0, 1) := by decide +kernel
theorem dX8_keeper_53 : decode cX8_keeper 53 = .ok (.bipush (-6), 2) := by decide +kernel
theorem dX8_keeper_55 : decode cX8_keeper 55 = .ok (.invokevirtual 90, 3) := by decide +kernel
theorem dX8_keeper_58 : decode cX8_keeper 58 = .ok (.goto 10, 3) := by decide +kernel
theorem dX8_keeper_61 : decode cX8_keeper 61 = .ok (.aload_n 0, 1) := by decide +kernel
theorem dX8_keeper_62 : decode cX8_keeper 62 = .ok (.iload_n 1, 1) := by decide +kernel
theorem dX8_keeper_63 : decode cX8_keeper 63 = .ok (.iload_n 2, 1) := by decide +kernel
theorem dX8_keeper_64 : decode cX8_keeper 64 = .ok (.iload_n 3, 1) := by decide +kernel
theorem dX8_keeper_65 : decode cX8_keeper 65 = .ok (.invokevirtual 94, 3) := by decide +kernel
theorem dX8_keeper_68 : decode cX8_keeper 68 = .ok (.ireturn, 1) := by decide +kernel
theorem dX8_nerve_0 : decode cX8_nerve 0 = .ok (.aload_n 0, 1) := by decide +kernel
theorem dX8_nerve_1 : decode cX8_nerve 1 = .ok (.iload_n 1, 1) := by decide +kernel
theorem dX8_nerve_2 : decode cX8_nerve 2 = .ok (.i2l, 1) := by decide +kernel
theorem dX8_nerve_3 : decode cX8_nerve 3 = .ok (.invokevirtual 76, 3) := by decide +kernel
theorem dX8_nerve_6 : decode cX8_nerve 6 = .ok (.ifCond .eq 15, 3) := by decide +kernel
theorem dX8_nerve_9 : decode cX8_nerve 9 = .ok (.iload_n 2, 1) := by decide +kernel
theorem dX8_nerve_10 : decode cX8_nerve 10 = .ok (.i2l, 1) := by decide +kernel
theorem dX8_nerve_11 : decode cX8_nerve 11 = .ok (.lconst 0, 1) := by decide +kernel
theorem dX8_nerve_12 : decode cX8_nerve 12 = .ok (.ldc2_w 88, 3) := by decide +kernel
theorem dX8_nerve_15 : decode cX8_nerve 15 = .ok (.invokestatic 68, 3) := by decide +kernel
theorem dX8_nerve_18 : decode cX8_nerve 18 = .ok (.ifCond .ne 10, 3) := by decide +kernel
theorem dX8_nerve_21 : decode cX8_nerve 21 = .ok (.aload_n 0, 1) := by decide +kernel
theorem dX8_nerve_22 : decode cX8_nerve 22 = .ok (.bipush (-2), 2) := by decide +kernel
theorem dX8_nerve_24 : decode cX8_nerve 24 = .ok (.invokevirtual 90, 3) := by decide +kernel
theorem dX8_nerve_27 : decode cX8_nerve 27 = .ok (.ireturn, 1) := by decide +kernel
theorem dX8_nerve_28 : decode cX8_nerve 28 = .ok (.aload_n 0, 1) := by decide +kernel
theorem dX8_nerve_29 : decode cX8_nerve 29 = .ok (.iload_n 1, 1) := by decide +kernel
theorem dX8_nerve_30 : decode cX8_nerve 30 = .ok (.invokevirtual 98, 3) := by decide +kernel
theorem dX8_nerve_33 : decode cX8_nerve 33 = .ok (.istore_n 3, 1) := by decide +kernel
theorem dX8_nerve_34 : decode cX8_nerve 34 = .ok (.aload_n 0, 1) := by decide +kernel
theorem dX8_nerve_35 : decode cX8_nerve 35 = .ok (.getfield 17, 3) := by decide +kernel
theorem dX8_nerve_38 : decode cX8_nerve 38 = .ok (.iconst 4, 1) := by decide +kernel
theorem dX8_nerve_39 : decode cX8_nerve 39 = .ok (.iload_n 1, 1) := by decide +kernel
theorem dX8_nerve_40 : decode cX8_nerve 40 = .ok (.imul, 1) := by decide +kernel
theorem dX8_nerve_41 : decode cX8_nerve 41 = .ok (.iconst 2, 1) := by decide +kernel
theorem dX8_nerve_42 : decode cX8_nerve 42 = .ok (.iadd, 1) := by decide +kernel
theorem dX8_nerve_43 : decode cX8_nerve 43 = .ok (.iload_n 2, 1) := by decide +kernel
theorem dX8_nerve_44 : decode cX8_nerve 44 = .ok (.iastore, 1) := by decide +kernel
theorem dX8_nerve_45 : decode cX8_nerve 45 = .ok (.iload_n 3, 1) := by decide +kernel
theorem dX8_nerve_46 : decode cX8_nerve 46 = .ok (.ireturn, 1) := by decide +kernel
theorem dX8_tell_0 : decode cX8_tell 0 = .ok (.iload_n 1, 1) := by decide +kernel
theorem dX8_tell_1 : decode cX8_tell 1 = .ok (.i2l, 1) := by decide +kernel
theorem dX8_tell_2 : decode cX8_tell 2 = .ok (.lconst 0, 1) := by decide +kernel
theorem dX8_tell_3 : decode cX8_tell 3 = .ok (.ldc2_w 101, 3) := by decide +kernel
theorem dX8_tell_6 : decode cX8_tell 6 = .ok (.invokestatic 68, 3) := by decide +kernel
theorem dX8_tell_9 : decode cX8_tell 9 = .ok (.ifCond .eq 51, 3) := by decide +kernel
theorem dX8_tell_12 : decode cX8_tell 12 = .ok (.iload_n 2, 1) := by decide +kernel
theorem dX8_tell_13 : decode cX8_tell 13 = .ok (.i2l, 1) := by decide +kernel
theorem dX8_tell_14 : decode cX8_tell 14 = .ok (.iload_n 1, 1) := by decide +kernel
theorem dX8_tell_15 : decode cX8_tell 15 = .ok (.iconst 2, 1) := by decide +kernel
theorem dX8_tell_16 : decode cX8_tell 16 = .ok (.if_icmp .eq 8, 3) := by decide +kernel
theorem dX8_tell_19 : decode cX8_tell 19 = .ok (.iload_n 1, 1) := by decide +kernel
theorem dX8_tell_20 : decode cX8_tell 20 = .ok (.iconst 3, 1) := by decide +kernel
theorem dX8_tell_21 : decode cX8_tell 21 = .ok (.if_icmp .ne 7, 3) := by decide +kernel
theorem dX8_tell_24 : decode cX8_tell 24 = .ok (.lconst 1, 1) := by decide +kernel
theorem dX8_tell_25 : decode cX8_tell 25 = .ok (.goto 4, 3) := by decide +kernel
theorem dX8_tell_28 : decode cX8_tell 28 = .ok (.lconst 0, 1) := by decide +kernel
theorem dX8_tell_29 : decode cX8_tell 29 = .ok (.iload_n 1, 1) := by decide +kernel
theorem dX8_tell_30 : decode cX8_tell 30 = .ok (.iconst 2, 1) := by decide +kernel
theorem dX8_tell_31 : decode cX8_tell 31 = .ok (.if_icmp .ne 9, 3) := by decide +kernel
theorem dX8_tell_34 : decode cX8_tell 34 = .ok (.ldc2_w 86, 3) := by decide +kernel
theorem dX8_tell_37 : decode cX8_tell 37 = .ok (.goto 17, 3) := by decide +kernel
theorem dX8_tell_40 : decode cX8_tell 40 = .ok (.iload_n 1, 1) := by decide +kernel
theorem dX8_tell_41 : decode cX8_tell 41 = .ok (.iconst 4, 1) := by decide +kernel
theorem dX8_tell_42 : decode cX8_tell 42 = .ok (.if_icmp .ne 9, 3) := by decide +kernel
theorem dX8_tell_45 : decode cX8_tell 45 = .ok (.ldc2_w 103, 3) := by decide +kernel
theorem dX8_tell_48 : decode cX8_tell 48 = .ok (.goto 6, 3) := by decide +kernel
theorem dX8_tell_51 : decode cX8_tell 51 = .ok (.ldc2_w 105, 3) := by decide +kernel
theorem dX8_tell_54 : decode cX8_tell 54 = .ok (.invokestatic 68, 3) := by decide +kernel
theorem dX8_tell_57 : decode cX8_tell 57 = .ok (.ifCond .ne 10, 3) := by decide +kernel
theorem dX8_tell_60 : decode cX8_tell 60 = .ok (.aload_n 0, 1) := by decide +kernel
theorem dX8_tell_61 : decode cX8_tell 61 = .ok (.bipush (-2), 2) := by decide +kernel
theorem dX8_tell_63 : decode cX8_tell 63 = .ok (.invokevirtual 90, 3) := by decide +kernel
theorem dX8_tell_66 : decode cX8_tell 66 = .ok (.ireturn, 1) := by decide +kernel
theorem dX8_tell_67 : decode cX8_tell 67 = .ok (.aload_n 0, 1) := by decide +kernel
theorem dX8_tell_68 : decode cX8_tell 68 = .ok (.getfield 17, 3) := by decide +kernel
theorem dX8_tell_71 : decode cX8_tell 71 = .ok (.bipush 33, 2) := by decide +kernel
theorem dX8_tell_73 : decode cX8_tell 73 = .ok (.iload_n 1, 1) := by decide +kernel
theorem dX8_tell_74 : decode cX8_tell 74 = .ok (.iadd, 1) := by decide +kernel
theorem dX8_tell_75 : decode cX8_tell 75 = .ok (.iaload, 1) := by decide +kernel
theorem dX8_tell_76 : decode cX8_tell 76 = .ok (.istore_n 3, 1) := by decide +kernel
theorem dX8_tell_77 : decode cX8_tell 77 = .ok (.aload_n 0, 1) := by decide +kernel
theorem dX8_tell_78 : decode cX8_tell 78 = .ok (.getfield 17, 3) := by decide +kernel
theorem dX8_tell_81 : decode cX8_tell 81 = .ok (.bipush 33, 2) := by decide +kernel
theorem dX8_tell_83 : decode cX8_tell 83 = .ok (.iload_n 1, 1) := by decide +kernel
theorem dX8_tell_84 : decode cX8_tell 84 = .ok (.iadd, 1) := by decide +kernel
theorem dX8_tell_85 : decode cX8_tell 85 = .ok (.iload_n 2, 1) := by decide +kernel
theorem dX8_tell_86 : decode cX8_tell 86 = .ok (.iastore, 1) := by decide +kernel
theorem dX8_tell_87 : decode cX8_tell 87 = .ok (.iload_n 3, 1) := by decide +kernel
theorem dX8_tell_88 : decode cX8_tell 88 = .ok (.ireturn, 1) := by decide +kernel
theorem dX8_feed_0 : decode cX8_feed 0 = .ok (.iload_n 1, 1) := by decide +kernel
theorem dX8_feed_1 : decode cX8_feed 1 = .ok (.i2l, 1) := by decide +kernel
theorem dX8_feed_2 : decode cX8_feed 2 = .ok (.lconst 0, 1) := by decide +kernel
theorem dX8_feed_3 : decode cX8_feed 3 = .ok (.ldc2_w 107, 3) := by decide +kernel
theorem dX8_feed_6 : decode cX8_feed 6 = .ok (.invokestatic 68, 3) := by decide +kernel
theorem dX8_feed_9 : decode cX8_feed 9 = .ok (.ifCond .ne 10, 3) := by decide +kernel
theorem dX8_feed_12 : decode cX8_feed 12 = .ok (.aload_n 0, 1) := by decide +kernel
theorem dX8_feed_13 : decode cX8_feed 13 = .ok (.bipush (-2), 2) := by decide +kernel
theorem dX8_feed_15 : decode cX8_feed 15 = .ok (.invokevirtual 90, 3) := by decide +kernel
theorem dX8_feed_18 : decode cX8_feed 18 = .ok (.ireturn, 1) := by decide +kernel
theorem dX8_feed_19 : decode cX8_feed 19 = .ok (.aload_n 0, 1) := by decide +kernel
theorem dX8_feed_20 : decode cX8_feed 20 = .ok (.getfield 109, 3) := by decide +kernel
theorem dX8_feed_23 : decode cX8_feed 23 = .ok (.sipush 250, 3) := by decide +kernel
theorem dX8_feed_26 : decode cX8_feed 26 = .ok (.if_icmp .ne 10, 3) := by decide +kernel
theorem dX8_feed_29 : decode cX8_feed 29 = .ok (.aload_n 0, 1) := by decide +kernel
theorem dX8_feed_30 : decode cX8_feed 30 = .ok (.bipush (-6), 2) := by decide +kernel
theorem dX8_feed_32 : decode cX8_feed 32 = .ok (.invokevirtual 90, 3) := by decide +kernel
theorem dX8_feed_35 : decode cX8_feed 35 = .ok (.ireturn, 1) := by decide +kernel
theorem dX8_feed_36 : decode cX8_feed 36 = .ok (.aload_n 0, 1) := by decide +kernel
theorem dX8_feed_37 : decode cX8_feed 37 = .ok (.getfield 26, 3) := by decide +kernel
theorem dX8_feed_40 : decode cX8_feed 40 = .ok (.aload_n 0, 1) := by decide +kernel
theorem dX8_feed_41 : decode cX8_feed 41 = .ok (.getfield 109, 3) := by decide +kernel
theorem dX8_feed_44 : decode cX8_feed 44 = .ok (.iload_n 1, 1) := by decide +kernel
theorem dX8_feed_45 : decode cX8_feed 45 = .ok (.iastore, 1) := by decide +kernel
theorem dX8_feed_46 : decode cX8_feed 46 = .ok (.aload_n 0, 1) := by decide +kernel
theorem dX8_feed_47 : decode cX8_feed 47 = .ok (.dup, 1) := by decide +kernel
theorem dX8_feed_48 : decode cX8_feed 48 = .ok (.getfield 109, 3) := by decide +kernel
theorem dX8_feed_51 : decode cX8_feed 51 = .ok (.iconst 1, 1) := by decide +kernel
theorem dX8_feed_52 : decode cX8_feed 52 = .ok (.iadd, 1) := by decide +kernel
theorem dX8_feed_53 : decode cX8_feed 53 = .ok (.putfield 109, 3) := by decide +kernel
theorem dX8_feed_56 : decode cX8_feed 56 = .ok (.aload_n 0, 1) := by decide +kernel
theorem dX8_feed_57 : decode cX8_feed 57 = .ok (.getfield 109, 3) := by decide +kernel
theorem dX8_feed_60 : decode cX8_feed 60 = .ok (.ireturn, 1) := by decide +kernel
theorem dX8_wipe_0 : decode cX8_wipe 0 = .ok (.aload_n 0, 1) := by decide +kernel
theorem dX8_wipe_1 : decode cX8_wipe 1 = .ok (.getfield 109, 3) := by decide +kernel
theorem dX8_wipe_4 : decode cX8_wipe 4 = .ok (.istore_n 1, 1) := by decide +kernel
theorem dX8_wipe_5 : decode cX8_wipe 5 = .ok (.aload_n 0, 1) := by decide +kernel
theorem dX8_wipe_6 : decode cX8_wipe 6 = .ok (.iconst 0, 1) := by decide +kernel
theorem dX8_wipe_7 : decode cX8_wipe 7 = .ok (.putfield 109, 3) := by decide +kernel
theorem dX8_wipe_10 : decode cX8_wipe 10 = .ok (.iload_n 1, 1) := by decide +kernel
theorem dX8_wipe_11 : decode cX8_wipe 11 = .ok (.ireturn, 1) := by decide +kernel
theorem dX8_sortAt_0 : decode cX8_sortAt 0 = .ok (.iload_n 1, 1) := by decide +kernel
theorem dX8_sortAt_1 : decode cX8_sortAt 1 = .ok (.aload_n 0, 1) := by decide +kernel
theorem dX8_sortAt_2 : decode cX8_sortAt 2 = .ok (.getfield 109, 3) := by decide +kernel
theorem dX8_sortAt_5 : decode cX8_sortAt 5 = .ok (.if_icmp .lt 7, 3) := by decide +kernel
theorem dX8_sortAt_8 : decode cX8_sortAt 8 = .ok (.iconst 0, 1) := by decide +kernel
theorem dX8_sortAt_9 : decode cX8_sortAt 9 = .ok (.goto 65, 3) := by decide +kernel
theorem dX8_sortAt_12 : decode cX8_sortAt 12 = .ok (.aload_n 0, 1) := by decide +kernel
theorem dX8_sortAt_13 : decode cX8_sortAt 13 = .ok (.getfield 26, 3) := by decide +kernel
theorem dX8_sortAt_16 : decode cX8_sortAt 16 = .ok (.iload_n 1, 1) := by decide +kernel
theorem dX8_sortAt_17 : decode cX8_sortAt 17 = .ok (.iaload, 1) := by decide +kernel
theorem dX8_sortAt_18 : decode cX8_sortAt 18 = .ok (.i2l, 1) := by decide +kernel
theorem dX8_sortAt_19 : decode cX8_sortAt 19 = .ok (.ldc2_w 113, 3) := by decide +kernel
theorem dX8_sortAt_22 : decode cX8_sortAt 22 = .ok (.ldc2_w 115, 3) := by decide +kernel
theorem dX8_sortAt_25 : decode cX8_sortAt 25 = .ok (.invokestatic 68, 3) := by decide +kernel
theorem dX8_sortAt_28 : decode cX8_sortAt 28 = .ok (.ifCond .eq 7, 3) := by decide +kernel
theorem dX8_sortAt_31 : decode cX8_sortAt 31 = .ok (.iconst 1, 1) := by decide +kernel
theorem dX8_sortAt_32 : decode cX8_sortAt 32 = .ok (.goto 42, 3) := by decide +kernel
theorem dX8_sortAt_35 : decode cX8_sortAt 35 = .ok (.aload_n 0, 1) := by decide +kernel
theorem dX8_sortAt_36 : decode cX8_sortAt 36 = .ok (.getfield 26, 3) := by decide +kernel
theorem dX8_sortAt_39 : decode cX8_sortAt 39 = .ok (.iload_n 1, 1) := by decide +kernel
theorem dX8_sortAt_40 : decode cX8_sortAt 40 = .ok (.iaload, 1) := by decide +kernel
theorem dX8_sortAt_41 : decode cX8_sortAt 41 = .ok (.i2l, 1) := by decide +kernel
theorem dX8_sortAt_42 : decode cX8_sortAt 42 = .ok (.ldc2_w 117, 3) := by decide +kernel
theorem dX8_sortAt_45 : decode cX8_sortAt 45 = .ok (.ldc2_w 119, 3) := by decide +kernel
theorem dX8_sortAt_48 : decode cX8_sortAt 48 = .ok (.invokestatic 68, 3) := by decide +kernel
theorem dX8_sortAt_51 : decode cX8_sortAt 51 = .ok (.ifCond .eq 7, 3) := by decide +kernel
theorem dX8_sortAt_54 : decode cX8_sortAt 54 = .ok (.iconst 2, 1) := by decide +kernel
theorem dX8_sortAt_55 : decode cX8_sortAt 55 = .ok (.goto 19, 3) := by decide +kernel
theorem dX8_sortAt_58 : decode cX8_sortAt 58 = .ok (.aload_n 0, 1) := by decide +kernel
theorem dX8_sortAt_59 : decode cX8_sortAt 59 = .ok (.getfield 26, 3) := by decide +kernel
theorem dX8_sortAt_62 : decode cX8_sortAt 62 = .ok (.iload_n 1, 1) := by decide +kernel
theorem dX8_sortAt_63 : decode cX8_sortAt 63 = .ok (.iaload, 1) := by decide +kernel
theorem dX8_sortAt_64 : decode cX8_sortAt 64 = .ok (.bipush 59, 2) := by decide +kernel
theorem dX8_sortAt_66 : decode cX8_sortAt 66 = .ok (.if_icmp .ne 7, 3) := by decide +kernel
theorem dX8_sortAt_69 : decode cX8_sortAt 69 = .ok (.iconst 3, 1) := by decide +kernel
theorem dX8_sortAt_70 : decode cX8_sortAt 70 = .ok (.goto 4, 3) := by decide +kernel
theorem dX8_sortAt_73 : decode cX8_sortAt 73 = .ok (.iconst 4, 1) := by decide +kernel
theorem dX8_sortAt_74 : decode cX8_sortAt 74 = .ok (.ireturn, 1) := by decide +kernel
theorem dX8_next_0 : decode cX8_next 0 = .ok (.aload_n 0, 1) := by decide +kernel
theorem dX8_next_1 : decode cX8_next 1 = .ok (.getfield 121, 3) := by decide +kernel
theorem dX8_next_4 : decode cX8_next 4 = .ok (.aload_n 0, 1) := by decide +kernel
theorem dX8_next_5 : decode cX8_next 5 = .ok (.getfield 109, 3) := by decide +kernel
theorem dX8_next_8 : decode cX8_next 8 = .ok (.if_icmp .ge 30, 3) := by decide +kernel
theorem dX8_next_11 : decode cX8_next 11 = .ok (.aload_n 0, 1) := by decide +kernel
theorem dX8_next_12 : decode cX8_next 12 = .ok (.getfield 26, 3) := by decide +kernel
theorem dX8_next_15 : decode cX8_next 15 = .ok (.aload_n 0, 1) := by decide +kernel
theorem dX8_next_16 : decode cX8_next 16 = .ok (.getfield 121, 3) := by decide +kernel
theorem dX8_next_19 : decode cX8_next 19 = .ok (.iaload, 1) := by decide +kernel
theorem dX8_next_20 : decode cX8_next 20 = .ok (.bipush 32, 2) := by decide +kernel
theorem dX8_next_22 : decode cX8_next 22 = .ok (.if_icmp .ne 16, 3) := by decide +kernel
theorem dX8_next_25 : decode cX8_next 25 = .ok (.aload_n 0, 1) := by decide +kernel
theorem dX8_next_26 : decode cX8_next 26 = .ok (.dup, 1) := by decide +kernel
theorem dX8_next_27 : decode cX8_next 27 = .ok (.getfield 121, 3) := by decide +kernel
theorem dX8_next_30 : decode cX8_next 30 = .ok (.iconst 1, 1) := by decide +kernel
theorem dX8_next_31 : decode cX8_next 31 = .ok (.iadd, 1) := by decide +kernel
theorem dX8_next_32 : decode cX8_next 32 = .ok (.putfield 121, 3) := by decide +kernel
theorem dX8_next_35 : decode cX8_next 35 = .ok (.goto (-35), 3) := by decide +kernel
theorem dX8_next_38 : decode cX8_next 38 = .ok (.aload_n 0, 1) := by decide +kernel
theorem dX8_next_39 : decode cX8_next 39 = .ok (.aload_n 0, 1) := by decide +kernel
theorem dX8_next_40 : decode cX8_next 40 = .ok (.getfield 121, 3) := by decide +kernel
theorem dX8_next_43 : decode cX8_next 43 = .ok (.putfield 124, 3) := by decide +kernel
theorem dX8_next_46 : decode cX8_next 46 = .ok (.aload_n 0, 1) := by decide +kernel
theorem dX8_next_47 : decode cX8_next 47 = .ok (.aload_n 0, 1) := by decide +kernel
theorem dX8_next_48 : decode cX8_next 48 = .ok (.aload_n 0, 1) := by decide +kernel
theorem dX8_next_49 : decode cX8_next 49 = .ok (.getfield 121, 3) := by decide +kernel
