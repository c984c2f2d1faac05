theorem dX8_next_52 : decode cX8_next 52 = .ok (.invokevirtual 127, 3) := by decide +kernel
theorem dX8_next_55 : decode cX8_next 55 = .ok (.putfield 130, 3) := by decide +kernel
theorem dX8_next_58 : decode cX8_next 58 = .ok (.aload_n 0, 1) := by decide +kernel
theorem dX8_next_59 : decode cX8_next 59 = .ok (.getfield 130, 3) := by decide +kernel
theorem dX8_next_62 : decode cX8_next 62 = .ok (.ifCond .le 49, 3) := by decide +kernel
theorem dX8_next_65 : decode cX8_next 65 = .ok (.aload_n 0, 1) := by decide +kernel
theorem dX8_next_66 : decode cX8_next 66 = .ok (.dup, 1) := by decide +kernel
theorem dX8_next_67 : decode cX8_next 67 = .ok (.getfield 121, 3) := by decide +kernel
theorem dX8_next_70 : decode cX8_next 70 = .ok (.iconst 1, 1) := by decide +kernel
theorem dX8_next_71 : decode cX8_next 71 = .ok (.iadd, 1) := by decide +kernel
theorem dX8_next_72 : decode cX8_next 72 = .ok (.putfield 121, 3) := by decide +kernel
theorem dX8_next_75 : decode cX8_next 75 = .ok (.aload_n 0, 1) := by decide +kernel
theorem dX8_next_76 : decode cX8_next 76 = .ok (.getfield 130, 3) := by decide +kernel
theorem dX8_next_79 : decode cX8_next 79 = .ok (.iconst 3, 1) := by decide +kernel
theorem dX8_next_80 : decode cX8_next 80 = .ok (.if_icmp .ge 31, 3) := by decide +kernel
theorem dX8_next_83 : decode cX8_next 83 = .ok (.aload_n 0, 1) := by decide +kernel
theorem dX8_next_84 : decode cX8_next 84 = .ok (.aload_n 0, 1) := by decide +kernel
theorem dX8_next_85 : decode cX8_next 85 = .ok (.getfield 121, 3) := by decide +kernel
theorem dX8_next_88 : decode cX8_next 88 = .ok (.invokevirtual 127, 3) := by decide +kernel
theorem dX8_next_91 : decode cX8_next 91 = .ok (.aload_n 0, 1) := by decide +kernel
theorem dX8_next_92 : decode cX8_next 92 = .ok (.getfield 130, 3) := by decide +kernel
theorem dX8_next_95 : decode cX8_next 95 = .ok (.if_icmp .ne 16, 3) := by decide +kernel
theorem dX8_next_98 : decode cX8_next 98 = .ok (.aload_n 0, 1) := by decide +kernel
theorem dX8_next_99 : decode cX8_next 99 = .ok (.dup, 1) := by decide +kernel
theorem dX8_next_100 : decode cX8_next 100 = .ok (.getfield 121, 3) := by decide +kernel
theorem dX8_next_103 : decode cX8_next 103 = .ok (.iconst 1, 1) := by decide +kernel
theorem dX8_next_104 : decode cX8_next 104 = .ok (.iadd, 1) := by decide +kernel
theorem dX8_next_105 : decode cX8_next 105 = .ok (.putfield 121, 3) := by decide +kernel
theorem dX8_next_108 : decode cX8_next 108 = .ok (.goto (-33), 3) := by decide +kernel
theorem dX8_next_111 : decode cX8_next 111 = .ok (.return_, 1) := by decide +kernel
theorem dX8_word_0 : decode cX8_word 0 = .ok (.iconst (-1), 1) := by decide +kernel
theorem dX8_word_1 : decode cX8_word 1 = .ok (.istore_n 1, 1) := by decide +kernel
theorem dX8_word_2 : decode cX8_word 2 = .ok (.iconst 0, 1) := by decide +kernel
theorem dX8_word_3 : decode cX8_word 3 = .ok (.istore_n 2, 1) := by decide +kernel
theorem dX8_word_4 : decode cX8_word 4 = .ok (.iload_n 2, 1) := by decide +kernel
theorem dX8_word_5 : decode cX8_word 5 = .ok (.bipush 7, 2) := by decide +kernel
theorem dX8_word_7 : decode cX8_word 7 = .ok (.if_icmp .ge 118, 3) := by decide +kernel
theorem dX8_word_10 : decode cX8_word 10 = .ok (.aload_n 0, 1) := by decide +kernel
theorem dX8_word_11 : decode cX8_word 11 = .ok (.getfield 130, 3) := by decide +kernel
theorem dX8_word_14 : decode cX8_word 14 = .ok (.iconst 1, 1) := by decide +kernel
theorem dX8_word_15 : decode cX8_word 15 = .ok (.if_icmp .ne 21, 3) := by decide +kernel
theorem dX8_word_18 : decode cX8_word 18 = .ok (.aload_n 0, 1) := by decide +kernel
theorem dX8_word_19 : decode cX8_word 19 = .ok (.getfield 121, 3) := by decide +kernel
theorem dX8_word_22 : decode cX8_word 22 = .ok (.aload_n 0, 1) := by decide +kernel
theorem dX8_word_23 : decode cX8_word 23 = .ok (.getfield 124, 3) := by decide +kernel
theorem dX8_word_26 : decode cX8_word 26 = .ok (.isub, 1) := by decide +kernel
theorem dX8_word_27 : decode cX8_word 27 = .ok (.bipush 6, 2) := by decide +kernel
theorem dX8_word_29 : decode cX8_word 29 = .ok (.if_icmp .gt 7, 3) := by decide +kernel
theorem dX8_word_32 : decode cX8_word 32 = .ok (.iconst 1, 1) := by decide +kernel
theorem dX8_word_33 : decode cX8_word 33 = .ok (.goto 4, 3) := by decide +kernel
theorem dX8_word_36 : decode cX8_word 36 = .ok (.iconst 0, 1) := by decide +kernel
theorem dX8_word_37 : decode cX8_word 37 = .ok (.istore_n 3, 1) := by decide +kernel
theorem dX8_word_38 : decode cX8_word 38 = .ok (.iconst 0, 1) := by decide +kernel
theorem dX8_word_39 : decode cX8_word 39 = .ok (.istore 4, 2) := by decide +kernel
theorem dX8_word_41 : decode cX8_word 41 = .ok (.iload 4, 2) := by decide +kernel
theorem dX8_word_43 : decode cX8_word 43 = .ok (.bipush 6, 2) := by decide +kernel
theorem dX8_word_45 : decode cX8_word 45 = .ok (.if_icmp .ge 64, 3) := by decide +kernel
theorem dX8_word_48 : decode cX8_word 48 = .ok (.iload_n 3, 1) := by decide +kernel
theorem dX8_word_49 : decode cX8_word 49 = .ok (.ifCond .eq 60, 3) := by decide +kernel
theorem dX8_word_52 : decode cX8_word 52 = .ok (.aload_n 0, 1) := by decide +kernel
theorem dX8_word_53 : decode cX8_word 53 = .ok (.getfield 124, 3) := by decide +kernel
theorem dX8_word_56 : decode cX8_word 56 = .ok (.iload 4, 2) := by decide +kernel
theorem dX8_word_58 : decode cX8_word 58 = .ok (.iadd, 1) := by decide +kernel
theorem dX8_word_59 : decode cX8_word 59 = .ok (.aload_n 0, 1) := by decide +kernel
theorem dX8_word_60 : decode cX8_word 60 = .ok (.getfield 121, 3) := by decide +kernel
theorem dX8_word_63 : decode cX8_word 63 = .ok (.if_icmp .ge 18, 3) := by decide +kernel
theorem dX8_word_66 : decode cX8_word 66 = .ok (.aload_n 0, 1) := by decide +kernel
theorem dX8_word_67 : decode cX8_word 67 = .ok (.getfield 26, 3) := by decide +kernel
theorem dX8_word_70 : decode cX8_word 70 = .ok (.aload_n 0, 1) := by decide +kernel
theorem dX8_word_71 : decode cX8_word 71 = .ok (.getfield 124, 3) := by decide +kernel
theorem dX8_word_74 : decode cX8_word 74 = .ok (.iload 4, 2) := by decide +kernel
theorem dX8_word_76 : decode cX8_word 76 = .ok (.iadd, 1) := by decide +kernel
theorem dX8_word_77 : decode cX8_word 77 = .ok (.iaload, 1) := by decide +kernel
theorem dX8_word_78 : decode cX8_word 78 = .ok (.goto 4, 3) := by decide +kernel
theorem dX8_word_81 : decode cX8_word 81 = .ok (.iconst 0, 1) := by decide +kernel
theorem dX8_word_82 : decode cX8_word 82 = .ok (.aload_n 0, 1) := by decide +kernel
theorem dX8_word_83 : decode cX8_word 83 = .ok (.getfield 29, 3) := by decide +kernel
theorem dX8_word_86 : decode cX8_word 86 = .ok (.bipush 6, 2) := by decide +kernel
theorem dX8_word_88 : decode cX8_word 88 = .ok (.iload_n 2, 1) := by decide +kernel
theorem dX8_word_89 : decode cX8_word 89 = .ok (.imul, 1) := by decide +kernel
theorem dX8_word_90 : decode cX8_word 90 = .ok (.iload 4, 2) := by decide +kernel
theorem dX8_word_92 : decode cX8_word 92 = .ok (.iadd, 1) := by decide +kernel
theorem dX8_word_93 : decode cX8_word 93 = .ok (.caload, 1) := by decide +kernel
theorem dX8_word_94 : decode cX8_word 94 = .ok (.if_icmp .ne 7, 3) := by decide +kernel
theorem dX8_word_97 : decode cX8_word 97 = .ok (.iconst 1, 1) := by decide +kernel
theorem dX8_word_98 : decode cX8_word 98 = .ok (.goto 4, 3) := by decide +kernel
theorem dX8_word_101 : decode cX8_word 101 = .ok (.iconst 0, 1) := by decide +kernel
theorem dX8_word_102 : decode cX8_word 102 = .ok (.istore_n 3, 1) := by decide +kernel
theorem dX8_word_103 : decode cX8_word 103 = .ok (.iinc 4 1, 3) := by decide +kernel
theorem dX8_word_106 : decode cX8_word 106 = .ok (.goto (-65), 3) := by decide +kernel
theorem dX8_word_109 : decode cX8_word 109 = .ok (.iload_n 3, 1) := by decide +kernel
theorem dX8_word_110 : decode cX8_word 110 = .ok (.ifCond .eq 7, 3) := by decide +kernel
theorem dX8_word_113 : decode cX8_word 113 = .ok (.iload_n 2, 1) := by decide +kernel
theorem dX8_word_114 : decode cX8_word 114 = .ok (.goto 4, 3) := by decide +kernel
theorem dX8_word_117 : decode cX8_word 117 = .ok (.iload_n 1, 1) := by decide +kernel
theorem dX8_word_118 : decode cX8_word 118 = .ok (.istore_n 1, 1) := by decide +kernel
theorem dX8_word_119 : decode cX8_word 119 = .ok (.iinc 2 1, 3) := by decide +kernel
theorem dX8_word_122 : decode cX8_word 122 = .ok (.goto (-118), 3) := by decide +kernel
theorem dX8_word_125 : decode cX8_word 125 = .ok (.iload_n 1, 1) := by decide +kernel
theorem dX8_word_126 : decode cX8_word 126 = .ok (.ireturn, 1) := by decide +kernel
theorem dX8_number_0 : decode cX8_number 0 = .ok (.aload_n 0, 1) := by decide +kernel
theorem dX8_number_1 : decode cX8_number 1 = .ok (.invokevirtual 133, 3) := by decide +kernel
theorem dX8_number_4 : decode cX8_number 4 = .ok (.aload_n 0, 1) := by decide +kernel
theorem dX8_number_5 : decode cX8_number 5 = .ok (.getfield 130, 3) := by decide +kernel
theorem dX8_number_8 : decode cX8_number 8 = .ok (.iconst 2, 1) := by decide +kernel
theorem dX8_number_9 : decode cX8_number 9 = .ok (.if_icmp .ne 16, 3) := by decide +kernel
theorem dX8_number_12 : decode cX8_number 12 = .ok (.aload_n 0, 1) := by decide +kernel
theorem dX8_number_13 : decode cX8_number 13 = .ok (.getfield 121, 3) := by decide +kernel
theorem dX8_number_16 : decode cX8_number 16 = .ok (.aload_n 0, 1) := by decide +kernel
theorem dX8_number_17 : decode cX8_number 17 = .ok (.getfield 124, 3) := by decide +kernel
theorem dX8_number_20 : decode cX8_number 20 = .ok (.isub, 1) := by decide +kernel
theorem dX8_number_21 : decode cX8_number 21 = .ok (.iconst 3, 1) := by decide +kernel
theorem dX8_number_22 : decode cX8_number 22 = .ok (.if_icmp .le 5, 3) := by decide +kernel
theorem dX8_number_25 : decode cX8_number 25 = .ok (.iconst (-1), 1) := by decide +kernel
theorem dX8_number_26 : decode cX8_number 26 = .ok (.ireturn, 1) := by decide +kernel
theorem dX8_number_27 : decode cX8_number 27 = .ok (.iconst 0, 1) := by decide +kernel
theorem dX8_number_28 : decode cX8_number 28 = .ok (.istore_n 3, 1) := by decide +kernel
theorem dX8_number_29 : decode cX8_number 29 = .ok (.aload_n 0, 1) := by decide +kernel
theorem dX8_number_30 : decode cX8_number 30 = .ok (.getfield 124, 3) := by decide +kernel
theorem dX8_number_33 : decode cX8_number 33 = .ok (.istore 4, 2) := by decide +kernel
theorem dX8_number_35 : decode cX8_number 35 = .ok (.iload 4, 2) := by decide +kernel
theorem dX8_number_37 : decode cX8_number 37 = .ok (.aload_n 0, 1) := by decide +kernel
theorem dX8_number_38 : decode cX8_number 38 = .ok (.getfield 121, 3) := by decide +kernel
theorem dX8_number_41 : decode cX8_number 41 = .ok (.if_icmp .ge 25, 3) := by decide +kernel
theorem dX8_number_44 : decode cX8_number 44 = .ok (.bipush 10, 2) := by decide +kernel
theorem dX8_number_46 : decode cX8_number 46 = .ok (.iload_n 3, 1) := by decide +kernel
theorem dX8_number_47 : decode cX8_number 47 = .ok (.imul, 1) := by decide +kernel
theorem dX8_number_48 : decode cX8_number 48 = .ok (.aload_n 0, 1) := by decide +kernel
theorem dX8_number_49 : decode cX8_number 49 = .ok (.getfield 26, 3) := by decide +kernel
theorem dX8_number_52 : decode cX8_number 52 = .ok (.iload 4, 2) := by decide +kernel
theorem dX8_number_54 : decode cX8_number 54 = .ok (.iaload, 1) := by decide +kernel
theorem dX8_number_55 : decode cX8_number 55 = .ok (.iadd, 1) := by decide +kernel
theorem dX8_number_56 : decode cX8_number 56 = .ok (.bipush 48, 2) := by decide +kernel
theorem dX8_number_58 : decode cX8_number 58 = .ok (.isub, 1) := by decide +kernel
theorem dX8_number_59 : decode cX8_number 59 = .ok (.istore_n 3, 1) := by decide +kernel
theorem dX8_number_60 : decode cX8_number 60 = .ok (.iinc 4 1, 3) := by decide +kernel
theorem dX8_number_63 : decode cX8_number 63 = .ok (.goto (-28), 3) := by decide +kernel
theorem dX8_number_66 : decode cX8_number 66 = .ok (.iload_n 3, 1) := by decide +kernel
theorem dX8_number_67 : decode cX8_number 67 = .ok (.i2l, 1) := by decide +kernel
theorem dX8_number_68 : decode cX8_number 68 = .ok (.iload_n 1, 1) := by decide +kernel
theorem dX8_number_69 : decode cX8_number 69 = .ok (.i2l, 1) := by decide +kernel
theorem dX8_number_70 : decode cX8_number 70 = .ok (.iload_n 2, 1) := by decide +kernel
theorem dX8_number_71 : decode cX8_number 71 = .ok (.i2l, 1) := by decide +kernel
theorem dX8_number_72 : decode cX8_number 72 = .ok (.invokestatic 68, 3) := by decide +kernel
theorem dX8_number_75 : decode cX8_number 75 = .ok (.ifCond .eq 7, 3) := by decide +kernel
theorem dX8_number_78 : decode cX8_number 78 = .ok (.iload_n 3, 1) := by decide +kernel
theorem dX8_number_79 : decode cX8_number 79 = .ok (.goto 4, 3) := by decide +kernel
theorem dX8_number_82 : decode cX8_number 82 = .ok (.iconst (-1), 1) := by decide +kernel
theorem dX8_number_83 : decode cX8_number 83 = .ok (.ireturn, 1) := by decide +kernel
theorem dX8_isStatement_0 : decode cX8_isStatement 0 = .ok (.aload_n 0, 1) := by decide +kernel
theorem dX8_isStatement_1 : decode cX8_isStatement 1 = .ok (.invokevirtual 133, 3) := by decide +kernel
theorem dX8_isStatement_4 : decode cX8_isStatement 4 = .ok (.aload_n 0, 1) := by decide +kernel
theorem dX8_isStatement_5 : decode cX8_isStatement 5 = .ok (.invokevirtual 136, 3) := by decide +kernel
theorem dX8_isStatement_8 : decode cX8_isStatement 8 = .ok (.istore_n 1, 1) := by decide +kernel
theorem dX8_isStatement_9 : decode cX8_isStatement 9 = .ok (.iload_n 1, 1) := by decide +kernel
theorem dX8_isStatement_10 : decode cX8_isStatement 10 = .ok (.iconst (-1), 1) := by decide +kernel
theorem dX8_isStatement_11 : decode cX8_isStatement 11 = .ok (.if_icmp .eq 16, 3) := by decide +kernel
theorem dX8_isStatement_14 : decode cX8_isStatement 14 = .ok (.iload_n 1, 1) := by decide +kernel
theorem dX8_isStatement_15 : decode cX8_isStatement 15 = .ok (.ifCond .ne 14, 3) := by decide +kernel
theorem dX8_isStatement_18 : decode cX8_isStatement 18 = .ok (.aload_n 0, 1) := by decide +kernel
theorem dX8_isStatement_19 : decode cX8_isStatement 19 = .ok (.invokevirtual 80, 3) := by decide +kernel
theorem dX8_isStatement_22 : decode cX8_isStatement 22 = .ok (.bipush 8, 2) := by decide +kernel
theorem dX8_isStatement_24 : decode cX8_isStatement 24 = .ok (.if_icmp .ne 5, 3) := by decide +kernel
theorem dX8_isStatement_27 : decode cX8_isStatement 27 = .ok (.iconst 0, 1) := by decide +kernel
theorem dX8_isStatement_28 : decode cX8_isStatement 28 = .ok (.ireturn, 1) := by decide +kernel
theorem dX8_isStatement_29 : decode cX8_isStatement 29 = .ok (.iload_n 1, 1) := by decide +kernel
theorem dX8_isStatement_30 : decode cX8_isStatement 30 = .ok (.ifCond .ne 72, 3) := by decide +kernel
theorem dX8_isStatement_33 : decode cX8_isStatement 33 = .ok (.aload_n 0, 1) := by decide +kernel
theorem dX8_isStatement_34 : decode cX8_isStatement 34 = .ok (.iconst 0, 1) := by decide +kernel
theorem dX8_isStatement_35 : decode cX8_isStatement 35 = .ok (.iconst 5, 1) := by decide +kernel
theorem dX8_isStatement_36 : decode cX8_isStatement 36 = .ok (.invokevirtual 139, 3) := by decide +kernel
theorem dX8_isStatement_39 : decode cX8_isStatement 39 = .ok (.istore_n 2, 1) := by decide +kernel
theorem dX8_isStatement_40 : decode cX8_isStatement 40 = .ok (.iload_n 2, 1) := by decide +kernel
theorem dX8_isStatement_41 : decode cX8_isStatement 41 = .ok (.iconst (-1), 1) := by decide +kernel
theorem dX8_isStatement_42 : decode cX8_isStatement 42 = .ok (.if_icmp .ne 7, 3) := by decide +kernel
theorem dX8_isStatement_45 : decode cX8_isStatement 45 = .ok (.iconst (-1), 1) := by decide +kernel
theorem dX8_isStatement_46 : decode cX8_isStatement 46 = .ok (.goto 10, 3) := by decide +kernel
theorem dX8_isStatement_49 : decode cX8_isStatement 49 = .ok (.aload_n 0, 1) := by decide +kernel
theorem dX8_isStatement_50 : decode cX8_isStatement 50 = .ok (.iconst 0, 1) := by decide +kernel
theorem dX8_isStatement_51 : decode cX8_isStatement 51 = .ok (.bipush 9, 2) := by decide +kernel
theorem dX8_isStatement_53 : decode cX8_isStatement 53 = .ok (.invokevirtual 139, 3) := by decide +kernel
theorem dX8_isStatement_56 : decode cX8_isStatement 56 = .ok (.istore_n 3, 1) := by decide +kernel
theorem dX8_isStatement_57 : decode cX8_isStatement 57 = .ok (.iload_n 3, 1) := by decide +kernel
theorem dX8_isStatement_58 : decode cX8_isStatement 58 = .ok (.iconst (-1), 1) := by decide +kernel
theorem dX8_isStatement_59 : decode cX8_isStatement 59 = .ok (.if_icmp .ne 7, 3) := by decide +kernel
theorem dX8_isStatement_62 : decode cX8_isStatement 62 = .ok (.iconst (-1), 1) := by decide +kernel
theorem dX8_isStatement_63 : decode cX8_isStatement 63 = .ok (.goto 10, 3) := by decide +kernel
theorem dX8_isStatement_66 : decode cX8_isStatement 66 = .ok (.aload_n 0, 1) := by decide +kernel
theorem dX8_isStatement_67 : decode cX8_isStatement 67 = .ok (.iconst 0, 1) := by decide +kernel
theorem dX8_isStatement_68 : decode cX8_isStatement 68 = .ok (.bipush 40, 2) := by decide +kernel
theorem dX8_isStatement_70 : decode cX8_isStatement 70 = .ok (.invokevirtual 139, 3) := by decide +kernel
theorem dX8_isStatement_73 : decode cX8_isStatement 73 = .ok (.istore 4, 2) := by decide +kernel
theorem dX8_isStatement_75 : decode cX8_isStatement 75 = .ok (.iload 4, 2) := by decide +kernel
theorem dX8_isStatement_77 : decode cX8_isStatement 77 = .ok (.iconst (-1), 1) := by decide +kernel
theorem dX8_isStatement_78 : decode cX8_isStatement 78 = .ok (.if_icmp .eq 12, 3) := by decide +kernel
theorem dX8_isStatement_81 : decode cX8_isStatement 81 = .ok (.aload_n 0, 1) := by decide +kernel
theorem dX8_isStatement_82 : decode cX8_isStatement 82 = .ok (.iload_n 2, 1) := by decide +kernel
theorem dX8_isStatement_83 : decode cX8_isStatement 83 = .ok (.iload_n 3, 1) := by decide +kernel
theorem dX8_isStatement_84 : decode cX8_isStatement 84 = .ok (.iload 4, 2) := by decide +kernel
theorem dX8_isStatement_86 : decode cX8_isStatement 86 = .ok (.invokevirtual 94, 3) := by decide +kernel
theorem dX8_isStatement_89 : decode cX8_isStatement 89 = .ok (.pop, 1) := by decide +kernel
theorem dX8_isStatement_90 : decode cX8_isStatement 90 = .ok (.iload 4, 2) := by decide +kernel
theorem dX8_isStatement_92 : decode cX8_isStatement 92 = .ok (.iconst (-1), 1) := by decide +kernel
theorem dX8_isStatement_93 : decode cX8_isStatement 93 = .ok (.if_icmp .eq 7, 3) := by decide +kernel
theorem dX8_isStatement_96 : decode cX8_isStatement 96 = .ok (.iconst 1, 1) := by decide +kernel
theorem dX8_isStatement_97 : decode cX8_isStatement 97 = .ok (.goto 4, 3) := by decide +kernel
theorem dX8_isStatement_100 : decode cX8_isStatement 100 = .ok (.iconst 0, 1) := by decide +kernel
theorem dX8_isStatement_101 : decode cX8_isStatement 101 = .ok (.ireturn, 1) := by decide +kernel
theorem dX8_isStatement_102 : decode cX8_isStatement 102 = .ok (.iload_n 1, 1) := by decide +kernel
theorem dX8_isStatement_103 : decode cX8_isStatement 103 = .ok (.iconst 1, 1) := by decide +kernel
theorem dX8_isStatement_104 : decode cX8_isStatement 104 = .ok (.if_icmp .ne 59, 3) := by decide +kernel
theorem dX8_isStatement_107 : decode cX8_isStatement 107 = .ok (.aload_n 0, 1) := by decide +kernel
theorem dX8_isStatement_108 : decode cX8_isStatement 108 = .ok (.iconst 0, 1) := by decide +kernel
theorem dX8_isStatement_109 : decode cX8_isStatement 109 = .ok (.aload_n 0, 1) := by decide +kernel
theorem dX8_isStatement_110 : decode cX8_isStatement 110 = .ok (.invokevirtual 80, 3) := by decide +kernel
theorem dX8_isStatement_113 : decode cX8_isStatement 113 = .ok (.iconst 1, 1) := by decide +kernel
theorem dX8_isStatement_114 : decode cX8_isStatement 114 = .ok (.isub, 1) := by decide +kernel
theorem dX8_isStatement_115 : decode cX8_isStatement 115 = .ok (.invokevirtual 139, 3) := by decide +kernel
theorem dX8_isStatement_118 : decode cX8_isStatement 118 = .ok (.istore_n 2, 1) := by decide +kernel
theorem dX8_isStatement_119 : decode cX8_isStatement 119 = .ok (.iload_n 2, 1) := by decide +kernel
theorem dX8_isStatement_120 : decode cX8_isStatement 120 = .ok (.iconst (-1), 1) := by decide +kernel
theorem dX8_isStatement_121 : decode cX8_isStatement 121 = .ok (.if_icmp .ne 7, 3) := by decide +kernel
theorem dX8_isStatement_124 : decode cX8_isStatement 124 = .ok (.iconst (-1), 1) := by decide +kernel
theorem dX8_isStatement_125 : decode cX8_isStatement 125 = .ok (.goto 10, 3) := by decide +kernel
theorem dX8_isStatement_128 : decode cX8_isStatement 128 = .ok (.aload_n 0, 1) := by decide +kernel
theorem dX8_isStatement_129 : decode cX8_isStatement 129 = .ok (.iconst 0, 1) := by decide +kernel
theorem dX8_isStatement_130 : decode cX8_isStatement 130 = .ok (.bipush 40, 2) := by decide +kernel
theorem dX8_isStatement_132 : decode cX8_isStatement 132 = .ok (.invokevirtual 139, 3) := by decide +kernel
theorem dX8_isStatement_135 : decode cX8_isStatement 135 = .ok (.istore_n 3, 1) := by decide +kernel
theorem dX8_isStatement_136 : decode cX8_isStatement 136 = .ok (.iload_n 3, 1) := by decide +kernel
theorem dX8_isStatement_137 : decode cX8_isStatement 137 = .ok (.iconst (-1), 1) := by decide +kernel
theorem dX8_isStatement_138 : decode cX8_isStatement 138 = .ok (.if_icmp .eq 14, 3) := by decide +kernel
theorem dX8_isStatement_141 : decode cX8_isStatement 141 = .ok (.aload_n 0, 1) := by decide +kernel
theorem dX8_isStatement_142 : decode cX8_isStatement 142 = .ok (.getfield 17, 3) := by decide +kernel
theorem dX8_isStatement_145 : decode cX8_isStatement 145 = .ok (.iconst 4, 1) := by decide +kernel
theorem dX8_isStatement_146 : decode cX8_isStatement 146 = .ok (.iload_n 2, 1) := by decide +kernel
theorem dX8_isStatement_147 : decode cX8_isStatement 147 = .ok (.imul, 1) := by decide +kernel
theorem dX8_isStatement_148 : decode cX8_isStatement 148 = .ok (.iconst 2, 1) := by decide +kernel
theorem dX8_isStatement_149 : decode cX8_isStatement 149 = .ok (.iadd, 1) := by decide +kernel
theorem dX8_isStatement_150 : decode cX8_isStatement 150 = .ok (.iload_n 3, 1) := by decide +kernel
theorem dX8_isStatement_151 : decode cX8_isStatement 151 = .ok (.iastore, 1) := by decide +kernel
theorem dX8_isStatement_152 : decode cX8_isStatement 152 = .ok (.iload_n 3, 1) := by decide +kernel
theorem dX8_isStatement_153 : decode cX8_isStatement 153 = .ok (.iconst (-1), 1) := by decide +kernel
theorem dX8_isStatement_154 : decode cX8_isStatement 154 = .ok (.if_icmp .eq 7, 3) := by decide +kernel
theorem dX8_isStatement_157 : decode cX8_isStatement 157 = .ok (.iconst 1, 1) := by decide +kernel
theorem dX8_isStatement_158 : decode cX8_isStatement 158 = .ok (.goto 4, 3) := by decide +kernel
theorem dX8_isStatement_161 : decode cX8_isStatement 161 = .ok (.iconst 0, 1) := by decide +kernel
theorem dX8_isStatement_162 : decode cX8_isStatement 162 = .ok (.ireturn, 1) := by decide +kernel
theorem dX8_isStatement_163 : decode cX8_isStatement 163 = .ok (.aload_n 0, 1) := by decide +kernel
theorem dX8_isStatement_164 : decode cX8_isStatement 164 = .ok (.iload_n 1, 1) := by decide +kernel
theorem dX8_isStatement_165 : decode cX8_isStatement 165 = .ok (.iconst 4, 1) := by decide +kernel
theorem dX8_isStatement_166 : decode cX8_isStatement 166 = .ok (.if_icmp .eq 8, 3) := by decide +kernel
theorem dX8_isStatement_169 : decode cX8_isStatement 169 = .ok (.iload_n 1, 1) := by decide +kernel
theorem dX8_isStatement_170 : decode cX8_isStatement 170 = .ok (.iconst 5, 1) := by decide +kernel
theorem dX8_isStatement_171 : decode cX8_isStatement 171 = .ok (.if_icmp .ne 7, 3) := by decide +kernel
theorem dX8_isStatement_174 : decode cX8_isStatement 174 = .ok (.iconst 1, 1) := by decide +kernel
theorem dX8_isStatement_175 : decode cX8_isStatement 175 = .ok (.goto 4, 3) := by decide +kernel
theorem dX8_isStatement_178 : decode cX8_isStatement 178 = .ok (.iconst 0, 1) := by decide +kernel
theorem dX8_isStatement_179 : decode cX8_isStatement 179 = .ok (.iload_n 1, 1) := by decide +kernel
theorem dX8_isStatement_180 : decode cX8_isStatement 180 = .ok (.iconst 4, 1) := by decide +kernel
theorem dX8_isStatement_181 : decode cX8_isStatement 181 = .ok (.if_icmp .ne 8, 3) := by decide +kernel
theorem dX8_isStatement_184 : decode cX8_isStatement 184 = .ok (.bipush 9, 2) := by decide +kernel
theorem dX8_isStatement_186 : decode cX8_isStatement 186 = .ok (.goto 17, 3) := by decide +kernel
theorem dX8_isStatement_189 : decode cX8_isStatement 189 = .ok (.iload_n 1, 1) := by decide +kernel
theorem dX8_isStatement_190 : decode cX8_isStatement 190 = .ok (.bipush 6, 2) := by decide +kernel
theorem dX8_isStatement_192 : decode cX8_isStatement 192 = .ok (.if_icmp .ne 9, 3) := by decide +kernel
theorem dX8_isStatement_195 : decode cX8_isStatement 195 = .ok (.sipush 999, 3) := by decide +kernel
theorem dX8_isStatement_198 : decode cX8_isStatement 198 = .ok (.goto 5, 3) := by decide +kernel
theorem dX8_isStatement_201 : decode cX8_isStatement 201 = .ok (.bipush 99, 2) := by decide +kernel
theorem dX8_isStatement_203 : decode cX8_isStatement 203 = .ok (.invokevirtual 139, 3) := by decide +kernel
theorem dX8_isStatement_206 : decode cX8_isStatement 206 = .ok (.istore_n 2, 1) := by decide +kernel
theorem dX8_isStatement_207 : decode cX8_isStatement 207 = .ok (.iload_n 2, 1) := by decide +kernel
theorem dX8_isStatement_208 : decode cX8_isStatement 208 = .ok (.iconst (-1), 1) := by decide +kernel
theorem dX8_isStatement_209 : decode cX8_isStatement 209 = .ok (.if_icmp .eq 15, 3) := by decide +kernel
theorem dX8_isStatement_212 : decode cX8_isStatement 212 = .ok (.aload_n 0, 1) := by decide +kernel
theorem dX8_isStatement_213 : decode cX8_isStatement 213 = .ok (.getfield 17, 3) := by decide +kernel
theorem dX8_isStatement_216 : decode cX8_isStatement 216 = .ok (.bipush 33, 2) := by decide +kernel
theorem dX8_isStatement_218 : decode cX8_isStatement 218 = .ok (.iload_n 1, 1) := by decide +kernel
theorem dX8_isStatement_219 : decode cX8_isStatement 219 = .ok (.iadd, 1) := by decide +kernel
theorem dX8_isStatement_220 : decode cX8_isStatement 220 = .ok (.iconst 2, 1) := by decide +kernel
theorem dX8_isStatement_221 : decode cX8_isStatement 221 = .ok (.isub, 1) := by decide +kernel
theorem dX8_isStatement_222 : decode cX8_isStatement 222 = .ok (.iload_n 2, 1) := by decide +kernel
theorem dX8_isStatement_223 : decode cX8_isStatement 223 = .ok (.iastore, 1) := by decide +kernel
theorem dX8_isStatement_224 : decode cX8_isStatement 224 = .ok (.iload_n 2, 1) := by decide +kernel
theorem dX8_isStatement_225 : decode cX8_isStatement 225 = .ok (.iconst (-1), 1) := by decide +kernel
theorem dX8_isStatement_226 : decode cX8_isStatement 226 = .ok (.if_icmp .eq 7, 3) := by decide +kernel
theorem dX8_isStatement_229 : decode cX8_isStatement 229 = .ok (.iconst 1, 1) := by decide +kernel
theorem dX8_isStatement_230 : decode cX8_isStatement 230 = .ok (.goto 4, 3) := by decide +kernel
theorem dX8_isStatement_233 : decode cX8_isStatement 233 = .ok (.iconst 0, 1) := by decide +kernel
theorem dX8_isStatement_234 : decode cX8_isStatement 234 = .ok (.ireturn, 1) := by decide +kernel
theorem dX8_house_0 : decode cX8_house 0 = .ok (.aload_n 0, 1) := by decide +kernel
theorem dX8_house_1 : decode cX8_house 1 = .ok (.iconst 0, 1) := by decide +kernel
theorem dX8_house_2 : decode cX8_house 2 = .ok (.invokevirtual 142, 3) := by decide +kernel
theorem dX8_house_5 : decode cX8_house 5 = .ok (.aload_n 0, 1) := by decide +kernel
theorem dX8_house_6 : decode cX8_house 6 = .ok (.iconst 0, 1) := by decide +kernel
theorem dX8_house_7 : decode cX8_house 7 = .ok (.putfield 121, 3) := by decide +kernel
theorem dX8_house_10 : decode cX8_house 10 = .ok (.iconst 0, 1) := by decide +kernel
theorem dX8_house_11 : decode cX8_house 11 = .ok (.istore_n 1, 1) := by decide +kernel
theorem dX8_house_12 : decode cX8_house 12 = .ok (.aload_n 0, 1) := by decide +kernel
theorem dX8_house_13 : decode cX8_house 13 = .ok (.invokevirtual 146, 3) := by decide +kernel
theorem dX8_house_16 : decode cX8_house 16 = .ok (.istore_n 2, 1) := by decide +kernel
theorem dX8_house_17 : decode cX8_house 17 = .ok (.iload_n 2, 1) := by decide +kernel
theorem dX8_house_18 : decode cX8_house 18 = .ok (.ifCond .eq 48, 3) := by decide +kernel
theorem dX8_house_21 : decode cX8_house 21 = .ok (.iinc 1 1, 3) := by decide +kernel
theorem dX8_house_24 : decode cX8_house 24 = .ok (.aload_n 0, 1) := by decide +kernel
theorem dX8_house_25 : decode cX8_house 25 = .ok (.invokevirtual 133, 3) := by decide +kernel
theorem dX8_house_28 : decode cX8_house 28 = .ok (.aload_n 0, 1) := by decide +kernel
theorem dX8_house_29 : decode cX8_house 29 = .ok (.getfield 130, 3) := by decide +kernel
theorem dX8_house_32 : decode cX8_house 32 = .ok (.ifCond .ne 10, 3) := by decide +kernel
theorem dX8_house_35 : decode cX8_house 35 = .ok (.aload_n 0, 1) := by decide +kernel
theorem dX8_house_36 : decode cX8_house 36 = .ok (.iconst 0, 1) := by decide +kernel
theorem dX8_house_37 : decode cX8_house 37 = .ok (.putfield 109, 3) := by decide +kernel
theorem dX8_house_40 : decode cX8_house 40 = .ok (.iload_n 1, 1) := by decide +kernel
theorem dX8_house_41 : decode cX8_house 41 = .ok (.ireturn, 1) := by decide +kernel
theorem dX8_house_42 : decode cX8_house 42 = .ok (.aload_n 0, 1) := by decide +kernel
theorem dX8_house_43 : decode cX8_house 43 = .ok (.getfield 130, 3) := by decide +kernel
theorem dX8_house_46 : decode cX8_house 46 = .ok (.iconst 3, 1) := by decide +kernel
theorem dX8_house_47 : decode cX8_house 47 = .ok (.if_icmp .ne 14, 3) := by decide +kernel
theorem dX8_house_50 : decode cX8_house 50 = .ok (.aload_n 0, 1) := by decide +kernel
theorem dX8_house_51 : decode cX8_house 51 = .ok (.invokevirtual 146, 3) := by decide +kernel
theorem dX8_house_54 : decode cX8_house 54 = .ok (.ifCond .eq 7, 3) := by decide +kernel
theorem dX8_house_57 : decode cX8_house 57 = .ok (.iconst 1, 1) := by decide +kernel
theorem dX8_house_58 : decode cX8_house 58 = .ok (.goto 4, 3) := by decide +kernel
theorem dX8_house_61 : decode cX8_house 61 = .ok (.iconst 0, 1) := by decide +kernel
theorem dX8_house_62 : decode cX8_house 62 = .ok (.istore_n 2, 1) := by decide +kernel
theorem dX8_house_63 : decode cX8_house 63 = .ok (.goto (-46), 3) := by decide +kernel
theorem dX8_house_66 : decode cX8_house 66 = .ok (.aload_n 0, 1) := by decide +kernel
theorem dX8_house_67 : decode cX8_house 67 = .ok (.iconst 0, 1) := by decide +kernel
theorem dX8_house_68 : decode cX8_house 68 = .ok (.invokevirtual 150, 3) := by decide +kernel
theorem dX8_house_71 : decode cX8_house 71 = .ok (.aload_n 0, 1) := by decide +kernel
theorem dX8_house_72 : decode cX8_house 72 = .ok (.iconst 0, 1) := by decide +kernel
theorem dX8_house_73 : decode cX8_house 73 = .ok (.putfield 109, 3) := by decide +kernel
theorem dX8_house_76 : decode cX8_house 76 = .ok (.aload_n 0, 1) := by decide +kernel
theorem dX8_house_77 : decode cX8_house 77 = .ok (.bipush (-2), 2) := by decide +kernel
theorem dX8_house_79 : decode cX8_house 79 = .ok (.invokevirtual 90, 3) := by decide +kernel
theorem dX8_house_82 : decode cX8_house 82 = .ok (.pop, 1) := by decide +kernel
theorem dX8_house_83 : decode cX8_house 83 = .ok (.bipush (-20), 2) := by decide +kernel
theorem dX8_house_85 : decode cX8_house 85 = .ok (.aload_n 0, 1) := by decide +kernel
theorem dX8_house_86 : decode cX8_house 86 = .ok (.getfield 124, 3) := by decide +kernel
theorem dX8_house_89 : decode cX8_house 89 = .ok (.isub, 1) := by decide +kernel
theorem dX8_house_90 : decode cX8_house 90 = .ok (.ireturn, 1) := by decide +kernel
theorem dX8_fright_0 : decode cX8_fright 0 = .ok (.aload_n 0, 1) := by decide +kernel
theorem dX8_fright_1 : decode cX8_fright 1 = .ok (.getfield 17, 3) := by decide +kernel
theorem dX8_fright_4 : decode cX8_fright 4 = .ok (.bipush 33, 2) := by decide +kernel
theorem dX8_fright_6 : decode cX8_fright 6 = .ok (.iaload, 1) := by decide +kernel
theorem dX8_fright_7 : decode cX8_fright 7 = .ok (.iconst 3, 1) := by decide +kernel
theorem dX8_fright_8 : decode cX8_fright 8 = .ok (.idiv, 1) := by decide +kernel
theorem dX8_fright_9 : decode cX8_fright 9 = .ok (.aload_n 0, 1) := by decide +kernel
theorem dX8_fright_10 : decode cX8_fright 10 = .ok (.getfield 17, 3) := by decide +kernel
theorem dX8_fright_13 : decode cX8_fright 13 = .ok (.bipush 35, 2) := by decide +kernel
theorem dX8_fright_15 : decode cX8_fright 15 = .ok (.iaload, 1) := by decide +kernel
theorem dX8_fright_16 : decode cX8_fright 16 = .ok (.iadd, 1) := by decide +kernel
theorem dX8_fright_17 : decode cX8_fright 17 = .ok (.ireturn, 1) := by decide +kernel
theorem dX8_isStaying_0 : decode cX8_isStaying 0 = .ok (.aload_n 0, 1) := by decide +kernel
theorem dX8_isStaying_1 : decode cX8_isStaying 1 = .ok (.iload_n 1, 1) := by decide +kernel
theorem dX8_isStaying_2 : decode cX8_isStaying 2 = .ok (.invokevirtual 98, 3) := by decide +kernel
theorem dX8_isStaying_5 : decode cX8_isStaying 5 = .ok (.istore_n 2, 1) := by decide +kernel
theorem dX8_isStaying_6 : decode cX8_isStaying 6 = .ok (.aload_n 0, 1) := by decide +kernel
theorem dX8_isStaying_7 : decode cX8_isStaying 7 = .ok (.iload_n 1, 1) := by decide +kernel
theorem dX8_isStaying_8 : decode cX8_isStaying 8 = .ok (.invokevirtual 153, 3) := by decide +kernel
theorem dX8_isStaying_11 : decode cX8_isStaying 11 = .ok (.tableswitch 102 1 5 #[33, 102, 53, 55, 71], 33) := by decide +kernel
theorem dX8_isStaying_44 : decode cX8_isStaying 44 = .ok (.iload_n 2, 1) := by decide +kernel
theorem dX8_isStaying_45 : decode cX8_isStaying 45 = .ok (.aload_n 0, 1) := by decide +kernel
theorem dX8_isStaying_46 : decode cX8_isStaying 46 = .ok (.iload_n 1, 1) := by decide +kernel
theorem dX8_isStaying_47 : decode cX8_isStaying 47 = .ok (.invokevirtual 156, 3) := by decide +kernel
theorem dX8_isStaying_50 : decode cX8_isStaying 50 = .ok (.iadd, 1) := by decide +kernel
theorem dX8_isStaying_51 : decode cX8_isStaying 51 = .ok (.aload_n 0, 1) := by decide +kernel
theorem dX8_isStaying_52 : decode cX8_isStaying 52 = .ok (.invokevirtual 159, 3) := by decide +kernel
theorem dX8_isStaying_55 : decode cX8_isStaying 55 = .ok (.if_icmp .lt 7, 3) := by decide +kernel
theorem dX8_isStaying_58 : decode cX8_isStaying 58 = .ok (.iconst 1, 1) := by decide +kernel
theorem dX8_isStaying_59 : decode cX8_isStaying 59 = .ok (.goto 4, 3) := by decide +kernel
theorem dX8_isStaying_62 : decode cX8_isStaying 62 = .ok (.iconst 0, 1) := by decide +kernel
theorem dX8_isStaying_63 : decode cX8_isStaying 63 = .ok (.ireturn, 1) := by decide +kernel
theorem dX8_isStaying_64 : decode cX8_isStaying 64 = .ok (.iconst 1, 1) := by decide +kernel
theorem dX8_isStaying_65 : decode cX8_isStaying 65 = .ok (.ireturn, 1) := by decide +kernel
theorem dX8_isStaying_66 : decode cX8_isStaying 66 = .ok (.iconst 2, 1) := by decide +kernel
theorem dX8_isStaying_67 : decode cX8_isStaying 67 = .ok (.iload_n 2, 1) := by decide +kernel
theorem dX8_isStaying_68 : decode cX8_isStaying 68 = .ok (.imul, 1) := by decide +kernel
theorem dX8_isStaying_69 : decode cX8_isStaying 69 = .ok (.aload_n 0, 1) := by decide +kernel
theorem dX8_isStaying_70 : decode cX8_isStaying 70 = .ok (.invokevirtual 159, 3) := by decide +kernel
theorem dX8_isStaying_73 : decode cX8_isStaying 73 = .ok (.if_icmp .lt 7, 3) := by decide +kernel
theorem dX8_isStaying_76 : decode cX8_isStaying 76 = .ok (.iconst 1, 1) := by decide +kernel
theorem dX8_isStaying_77 : decode cX8_isStaying 77 = .ok (.goto 4, 3) := by decide +kernel
theorem dX8_isStaying_80 : decode cX8_isStaying 80 = .ok (.iconst 0, 1) := by decide +kernel
theorem dX8_isStaying_81 : decode cX8_isStaying 81 = .ok (.ireturn, 1) := by decide +kernel
theorem dX8_isStaying_82 : decode cX8_isStaying 82 = .ok (.iload_n 2, 1) := by decide +kernel
theorem dX8_isStaying_83 : decode cX8_isStaying 83 = .ok (.aload_n 0, 1) := by decide +kernel
theorem dX8_isStaying_84 : decode cX8_isStaying 84 = .ok (.invokevirtual 159, 3) := by decide +kernel
theorem dX8_isStaying_87 : decode cX8_isStaying 87 = .ok (.if_icmp .lt 24, 3) := by decide +kernel
theorem dX8_isStaying_90 : decode cX8_isStaying 90 = .ok (.aload_n 0, 1) := by decide +kernel
theorem dX8_isStaying_91 : decode cX8_isStaying 91 = .ok (.getfield 17, 3) := by decide +kernel
theorem dX8_isStaying_94 : decode cX8_isStaying 94 = .ok (.bipush 33, 2) := by decide +kernel
theorem dX8_isStaying_96 : decode cX8_isStaying 96 = .ok (.iaload, 1) := by decide +kernel
theorem dX8_isStaying_97 : decode cX8_isStaying 97 = .ok (.aload_n 0, 1) := by decide +kernel
theorem dX8_isStaying_98 : decode cX8_isStaying 98 = .ok (.getfield 17, 3) := by decide +kernel
theorem dX8_isStaying_101 : decode cX8_isStaying 101 = .ok (.bipush 36, 2) := by decide +kernel
theorem dX8_isStaying_103 : decode cX8_isStaying 103 = .ok (.iaload, 1) := by decide +kernel
theorem dX8_isStaying_104 : decode cX8_isStaying 104 = .ok (.if_icmp .ge 7, 3) := by decide +kernel
theorem dX8_isStaying_107 : decode cX8_isStaying 107 = .ok (.iconst 1, 1) := by decide +kernel
theorem dX8_isStaying_108 : decode cX8_isStaying 108 = .ok (.goto 4, 3) := by decide +kernel
theorem dX8_isStaying_111 : decode cX8_isStaying 111 = .ok (.iconst 0, 1) := by decide +kernel
theorem dX8_isStaying_112 : decode cX8_isStaying 112 = .ok (.ireturn, 1) := by decide +kernel
theorem dX8_isStaying_113 : decode cX8_isStaying 113 = .ok (.iload_n 2, 1) := by decide +kernel
theorem dX8_isStaying_114 : decode cX8_isStaying 114 = .ok (.aload_n 0, 1) := by decide +kernel
theorem dX8_isStaying_115 : decode cX8_isStaying 115 = .ok (.invokevirtual 159, 3) := by decide +kernel
theorem dX8_isStaying_118 : decode cX8_isStaying 118 = .ok (.if_icmp .lt 7, 3) := by decide +kernel
theorem dX8_isStaying_121 : decode cX8_isStaying 121 = .ok (.iconst 1, 1) := by decide +kernel
theorem dX8_isStaying_122 : decode cX8_isStaying 122 = .ok (.goto 4, 3) := by decide +kernel
theorem dX8_isStaying_125 : decode cX8_isStaying 125 = .ok (.iconst 0, 1) := by decide +kernel
theorem dX8_isStaying_126 : decode cX8_isStaying 126 = .ok (.ireturn, 1) := by decide +kernel
theorem dX8_soothes_0 : decode cX8_soothes 0 = .ok (.aload_n 0, 1) := by decide +kernel
theorem dX8_soothes_1 : decode cX8_soothes 1 = .ok (.iload_n 1, 1) := by decide +kernel
theorem dX8_soothes_2 : decode cX8_soothes 2 = .ok (.invokevirtual 156, 3) := by decide +kernel
theorem dX8_soothes_5 : decode cX8_soothes 5 = .ok (.aload_n 0, 1) := by decide +kernel
theorem dX8_soothes_6 : decode cX8_soothes 6 = .ok (.getfield 17, 3) := by decide +kernel
theorem dX8_soothes_9 : decode cX8_soothes 9 = .ok (.bipush 33, 2) := by decide +kernel
theorem dX8_soothes_11 : decode cX8_soothes 11 = .ok (.iaload, 1) := by decide +kernel
theorem dX8_soothes_12 : decode cX8_soothes 12 = .ok (.iconst 2, 1) := by decide +kernel
theorem dX8_soothes_13 : decode cX8_soothes 13 = .ok (.irem, 1) := by decide +kernel
theorem dX8_soothes_14 : decode cX8_soothes 14 = .ok (.ifCond .ne 7, 3) := by decide +kernel
theorem dX8_soothes_17 : decode cX8_soothes 17 = .ok (.iconst 3, 1) := by decide +kernel
theorem dX8_soothes_18 : decode cX8_soothes 18 = .ok (.goto 4, 3) := by decide +kernel
theorem dX8_soothes_21 : decode cX8_soothes 21 = .ok (.iconst 0, 1) := by decide +kernel
theorem dX8_soothes_22 : decode cX8_soothes 22 = .ok (.iadd, 1) := by decide +kernel
theorem dX8_soothes_23 : decode cX8_soothes 23 = .ok (.istore_n 2, 1) := by decide +kernel
theorem dX8_soothes_24 : decode cX8_soothes 24 = .ok (.aload_n 0, 1) := by decide +kernel
theorem dX8_soothes_25 : decode cX8_soothes 25 = .ok (.iload_n 1, 1) := by decide +kernel
theorem dX8_soothes_26 : decode cX8_soothes 26 = .ok (.invokevirtual 153, 3) := by decide +kernel
theorem dX8_soothes_29 : decode cX8_soothes 29 = .ok (.tableswitch 80 1 5 #[35, 37, 47, 57, 73], 35) := by decide +kernel
theorem dX8_soothes_64 : decode cX8_soothes 64 = .ok (.iload_n 2, 1) := by decide +kernel
theorem dX8_soothes_65 : decode cX8_soothes 65 = .ok (.ireturn, 1) := by decide +kernel
theorem dX8_soothes_66 : decode cX8_soothes 66 = .ok (.aload_n 0, 1) := by decide +kernel
theorem dX8_soothes_67 : decode cX8_soothes 67 = .ok (.getfield 17, 3) := by decide +kernel
theorem dX8_soothes_70 : decode cX8_soothes 70 = .ok (.bipush 33, 2) := by decide +kernel
theorem dX8_soothes_72 : decode cX8_soothes 72 = .ok (.iaload, 1) := by decide +kernel
theorem dX8_soothes_73 : decode cX8_soothes 73 = .ok (.iconst 4, 1) := by decide +kernel
theorem dX8_soothes_74 : decode cX8_soothes 74 = .ok (.idiv, 1) := by decide +kernel
theorem dX8_soothes_75 : decode cX8_soothes 75 = .ok (.ireturn, 1) := by decide +kernel
theorem dX8_soothes_76 : decode cX8_soothes 76 = .ok (.iload_n 2, 1) := by decide +kernel
theorem dX8_soothes_77 : decode cX8_soothes 77 = .ok (.aload_n 0, 1) := by decide +kernel
theorem dX8_soothes_78 : decode cX8_soothes 78 = .ok (.getfield 17, 3) := by decide +kernel
theorem dX8_soothes_81 : decode cX8_soothes 81 = .ok (.bipush 35, 2) := by decide +kernel
theorem dX8_soothes_83 : decode cX8_soothes 83 = .ok (.iaload, 1) := by decide +kernel
theorem dX8_soothes_84 : decode cX8_soothes 84 = .ok (.iadd, 1) := by decide +kernel
theorem dX8_soothes_85 : decode cX8_soothes 85 = .ok (.ireturn, 1) := by decide +kernel
theorem dX8_soothes_86 : decode cX8_soothes 86 = .ok (.aload_n 0, 1) := by decide +kernel
theorem dX8_soothes_87 : decode cX8_soothes 87 = .ok (.getfield 17, 3) := by decide +kernel
theorem dX8_soothes_90 : decode cX8_soothes 90 = .ok (.bipush 33, 2) := by decide +kernel
theorem dX8_soothes_92 : decode cX8_soothes 92 = .ok (.iaload, 1) := by decide +kernel
theorem dX8_soothes_93 : decode cX8_soothes 93 = .ok (.iconst 4, 1) := by decide +kernel
theorem dX8_soothes_94 : decode cX8_soothes 94 = .ok (.idiv, 1) := by decide +kernel
theorem dX8_soothes_95 : decode cX8_soothes 95 = .ok (.aload_n 0, 1) := by decide +kernel
theorem dX8_soothes_96 : decode cX8_soothes 96 = .ok (.iload_n 1, 1) := by decide +kernel
theorem dX8_soothes_97 : decode cX8_soothes 97 = .ok (.invokevirtual 156, 3) := by decide +kernel
theorem dX8_soothes_100 : decode cX8_soothes 100 = .ok (.iadd, 1) := by decide +kernel
theorem dX8_soothes_101 : decode cX8_soothes 101 = .ok (.ireturn, 1) := by decide +kernel
theorem dX8_soothes_102 : decode cX8_soothes 102 = .ok (.aload_n 0, 1) := by decide +kernel
theorem dX8_soothes_103 : decode cX8_soothes 103 = .ok (.iload_n 1, 1) := by decide +kernel
theorem dX8_soothes_104 : decode cX8_soothes 104 = .ok (.invokevirtual 156, 3) := by decide +kernel
theorem dX8_soothes_107 : decode cX8_soothes 107 = .ok (.ineg, 1) := by decide +kernel
theorem dX8_soothes_108 : decode cX8_soothes 108 = .ok (.ireturn, 1) := by decide +kernel
theorem dX8_soothes_109 : decode cX8_soothes 109 = .ok (.aload_n 0, 1) := by decide +kernel
theorem dX8_soothes_110 : decode cX8_soothes 110 = .ok (.iload_n 1, 1) := by decide +kernel
theorem dX8_soothes_111 : decode cX8_soothes 111 = .ok (.invokevirtual 156, 3) := by decide +kernel
theorem dX8_soothes_114 : decode cX8_soothes 114 = .ok (.ireturn, 1) := by decide +kernel
theorem dX8_grow_0 : decode cX8_grow 0 = .ok (.aload_n 0, 1) := by decide +kernel
theorem dX8_grow_1 : decode cX8_grow 1 = .ok (.getfield 17, 3) := by decide +kernel
theorem dX8_grow_4 : decode cX8_grow 4 = .ok (.bipush 35, 2) := by decide +kernel
theorem dX8_grow_6 : decode cX8_grow 6 = .ok (.bipush 9, 2) := by decide +kernel
theorem dX8_grow_8 : decode cX8_grow 8 = .ok (.aload_n 0, 1) := by decide +kernel
theorem dX8_grow_9 : decode cX8_grow 9 = .ok (.getfield 17, 3) := by decide +kernel
theorem dX8_grow_12 : decode cX8_grow 12 = .ok (.bipush 35, 2) := by decide +kernel
theorem dX8_grow_14 : decode cX8_grow 14 = .ok (.iaload, 1) := by decide +kernel
theorem dX8_grow_15 : decode cX8_grow 15 = .ok (.aload_n 0, 1) := by decide +kernel
theorem dX8_grow_16 : decode cX8_grow 16 = .ok (.getfield 17, 3) := by decide +kernel
theorem dX8_grow_19 : decode cX8_grow 19 = .ok (.bipush 37, 2) := by decide +kernel
theorem dX8_grow_21 : decode cX8_grow 21 = .ok (.iaload, 1) := by decide +kernel
theorem dX8_grow_22 : decode cX8_grow 22 = .ok (.iload_n 1, 1) := by decide +kernel
theorem dX8_grow_23 : decode cX8_grow 23 = .ok (.irem, 1) := by decide +kernel
theorem dX8_grow_24 : decode cX8_grow 24 = .ok (.ifCond .ne 7, 3) := by decide +kernel
theorem dX8_grow_27 : decode cX8_grow 27 = .ok (.iconst 1, 1) := by decide +kernel
theorem dX8_grow_28 : decode cX8_grow 28 = .ok (.goto 4, 3) := by decide +kernel
theorem dX8_grow_31 : decode cX8_grow 31 = .ok (.iconst 0, 1) := by decide +kernel
theorem dX8_grow_32 : decode cX8_grow 32 = .ok (.iadd, 1) := by decide +kernel
theorem dX8_grow_33 : decode cX8_grow 33 = .ok (.invokestatic 59, 3) := by decide +kernel
theorem dX8_grow_36 : decode cX8_grow 36 = .ok (.iastore, 1) := by decide +kernel
theorem dX8_grow_37 : decode cX8_grow 37 = .ok (.return_, 1) := by decide +kernel
theorem dX8_step_0 : decode cX8_step 0 = .ok (.aload_n 0, 1) := by decide +kernel
theorem dX8_step_1 : decode cX8_step 1 = .ok (.iconst 0, 1) := by decide +kernel
theorem dX8_step_2 : decode cX8_step 2 = .ok (.putfield 162, 3) := by decide +kernel
theorem dX8_step_5 : decode cX8_step 5 = .ok (.iload_n 1, 1) := by decide +kernel
theorem dX8_step_6 : decode cX8_step 6 = .ok (.bipush 10, 2) := by decide +kernel
theorem dX8_step_8 : decode cX8_step 8 = .ok (.if_icmp .ne 46, 3) := by decide +kernel
theorem dX8_step_11 : decode cX8_step 11 = .ok (.aload_n 0, 1) := by decide +kernel
theorem dX8_step_12 : decode cX8_step 12 = .ok (.getfield 17, 3) := by decide +kernel
theorem dX8_step_15 : decode cX8_step 15 = .ok (.bipush 33, 2) := by decide +kernel
theorem dX8_step_17 : decode cX8_step 17 = .ok (.iaload, 1) := by decide +kernel
theorem dX8_step_18 : decode cX8_step 18 = .ok (.aload_n 0, 1) := by decide +kernel
theorem dX8_step_19 : decode cX8_step 19 = .ok (.getfield 17, 3) := by decide +kernel
theorem dX8_step_22 : decode cX8_step 22 = .ok (.bipush 34, 2) := by decide +kernel
theorem dX8_step_24 : decode cX8_step 24 = .ok (.iaload, 1) := by decide +kernel
theorem dX8_step_25 : decode cX8_step 25 = .ok (.isub, 1) := by decide +kernel
theorem dX8_step_26 : decode cX8_step 26 = .ok (.iconst 4, 1) := by decide +kernel
theorem dX8_step_27 : decode cX8_step 27 = .ok (.idiv, 1) := by decide +kernel
theorem dX8_step_28 : decode cX8_step 28 = .ok (.istore_n 2, 1) := by decide +kernel
theorem dX8_step_29 : decode cX8_step 29 = .ok (.aload_n 0, 1) := by decide +kernel
theorem dX8_step_30 : decode cX8_step 30 = .ok (.getfield 17, 3) := by decide +kernel
theorem dX8_step_33 : decode cX8_step 33 = .ok (.bipush 33, 2) := by decide +kernel
theorem dX8_step_35 : decode cX8_step 35 = .ok (.dup2, 1) := by decide +kernel
theorem dX8_step_36 : decode cX8_step 36 = .ok (.iaload, 1) := by decide +kernel
theorem dX8_step_37 : decode cX8_step 37 = .ok (.iload_n 2, 1) := by decide +kernel
theorem dX8_step_38 : decode cX8_step 38 = .ok (.isub, 1) := by decide +kernel
theorem dX8_step_39 : decode cX8_step 39 = .ok (.iastore, 1) := by decide +kernel
theorem dX8_step_40 : decode cX8_step 40 = .ok (.aload_n 0, 1) := by decide +kernel
theorem dX8_step_41 : decode cX8_step 41 = .ok (.getfield 17, 3) := by decide +kernel
theorem dX8_step_44 : decode cX8_step 44 = .ok (.bipush 34, 2) := by decide +kernel
theorem dX8_step_46 : decode cX8_step 46 = .ok (.dup2, 1) := by decide +kernel
theorem dX8_step_47 : decode cX8_step 47 = .ok (.iaload, 1) := by decide +kernel
theorem dX8_step_48 : decode cX8_step 48 = .ok (.iload_n 2, 1) := by decide +kernel
theorem dX8_step_49 : decode cX8_step 49 = .ok (.iadd, 1) := by decide +kernel
theorem dX8_step_50 : decode cX8_step 50 = .ok (.iastore, 1) := by decide +kernel
theorem dX8_step_51 : decode cX8_step 51 = .ok (.goto 126, 3) := by decide +kernel
theorem dX8_step_54 : decode cX8_step 54 = .ok (.iload_n 1, 1) := by decide +kernel
theorem dX8_step_55 : decode cX8_step 55 = .ok (.iconst (-1), 1) := by decide +kernel
theorem dX8_step_56 : decode cX8_step 56 = .ok (.if_icmp .eq 62, 3) := by decide +kernel
theorem dX8_step_59 : decode cX8_step 59 = .ok (.aload_n 0, 1) := by decide +kernel
theorem dX8_step_60 : decode cX8_step 60 = .ok (.iload_n 1, 1) := by decide +kernel
theorem dX8_step_61 : decode cX8_step 61 = .ok (.invokevirtual 166, 3) := by decide +kernel
theorem dX8_step_64 : decode cX8_step 64 = .ok (.ifCond .eq 54, 3) := by decide +kernel
theorem dX8_step_67 : decode cX8_step 67 = .ok (.aload_n 0, 1) := by decide +kernel
theorem dX8_step_68 : decode cX8_step 68 = .ok (.getfield 17, 3) := by decide +kernel
theorem dX8_step_71 : decode cX8_step 71 = .ok (.bipush 33, 2) := by decide +kernel
theorem dX8_step_73 : decode cX8_step 73 = .ok (.aload_n 0, 1) := by decide +kernel
theorem dX8_step_74 : decode cX8_step 74 = .ok (.getfield 17, 3) := by decide +kernel
theorem dX8_step_77 : decode cX8_step 77 = .ok (.bipush 33, 2) := by decide +kernel
theorem dX8_step_79 : decode cX8_step 79 = .ok (.iaload, 1) := by decide +kernel
theorem dX8_step_80 : decode cX8_step 80 = .ok (.aload_n 0, 1) := by decide +kernel
theorem dX8_step_81 : decode cX8_step 81 = .ok (.iload_n 1, 1) := by decide +kernel
theorem dX8_step_82 : decode cX8_step 82 = .ok (.invokevirtual 170, 3) := by decide +kernel
theorem dX8_step_85 : decode cX8_step 85 = .ok (.isub, 1) := by decide +kernel
theorem dX8_step_86 : decode cX8_step 86 = .ok (.bipush 99, 2) := by decide +kernel
theorem dX8_step_88 : decode cX8_step 88 = .ok (.invokestatic 173, 3) := by decide +kernel
theorem dX8_step_91 : decode cX8_step 91 = .ok (.iastore, 1) := by decide +kernel
theorem dX8_step_92 : decode cX8_step 92 = .ok (.aload_n 0, 1) := by decide +kernel
theorem dX8_step_93 : decode cX8_step 93 = .ok (.iload_n 1, 1) := by decide +kernel
theorem dX8_step_94 : decode cX8_step 94 = .ok (.invokevirtual 153, 3) := by decide +kernel
theorem dX8_step_97 : decode cX8_step 97 = .ok (.iconst 2, 1) := by decide +kernel
theorem dX8_step_98 : decode cX8_step 98 = .ok (.if_icmp .eq 12, 3) := by decide +kernel
theorem dX8_step_101 : decode cX8_step 101 = .ok (.aload_n 0, 1) := by decide +kernel
theorem dX8_step_102 : decode cX8_step 102 = .ok (.iload_n 1, 1) := by decide +kernel
theorem dX8_step_103 : decode cX8_step 103 = .ok (.invokevirtual 153, 3) := by decide +kernel
theorem dX8_step_106 : decode cX8_step 106 = .ok (.iconst 4, 1) := by decide +kernel
theorem dX8_step_107 : decode cX8_step 107 = .ok (.if_icmp .ne 70, 3) := by decide +kernel
theorem dX8_step_110 : decode cX8_step 110 = .ok (.aload_n 0, 1) := by decide +kernel
theorem dX8_step_111 : decode cX8_step 111 = .ok (.iconst 4, 1) := by decide +kernel
theorem dX8_step_112 : decode cX8_step 112 = .ok (.invokevirtual 176, 3) := by decide +kernel
theorem dX8_step_115 : decode cX8_step 115 = .ok (.goto 62, 3) := by decide +kernel
theorem dX8_step_118 : decode cX8_step 118 = .ok (.iload_n 1, 1) := by decide +kernel
theorem dX8_step_119 : decode cX8_step 119 = .ok (.iconst (-1), 1) := by decide +kernel
theorem dX8_step_120 : decode cX8_step 120 = .ok (.if_icmp .eq 22, 3) := by decide +kernel
theorem dX8_step_123 : decode cX8_step 123 = .ok (.aload_n 0, 1) := by decide +kernel
theorem dX8_step_124 : decode cX8_step 124 = .ok (.iconst 1, 1) := by decide +kernel
theorem dX8_step_125 : decode cX8_step 125 = .ok (.putfield 162, 3) := by decide +kernel
theorem dX8_step_128 : decode cX8_step 128 = .ok (.aload_n 0, 1) := by decide +kernel
theorem dX8_step_129 : decode cX8_step 129 = .ok (.getfield 17, 3) := by decide +kernel
theorem dX8_step_132 : decode cX8_step 132 = .ok (.iconst 4, 1) := by decide +kernel
theorem dX8_step_133 : decode cX8_step 133 = .ok (.iload_n 1, 1) := by decide +kernel
theorem dX8_step_134 : decode cX8_step 134 = .ok (.imul, 1) := by decide +kernel
theorem dX8_step_135 : decode cX8_step 135 = .ok (.iconst 3, 1) := by decide +kernel
theorem dX8_step_136 : decode cX8_step 136 = .ok (.iadd, 1) := by decide +kernel
theorem dX8_step_137 : decode cX8_step 137 = .ok (.dup2, 1) := by decide +kernel
theorem dX8_step_138 : decode cX8_step 138 = .ok (.iaload, 1) := by decide +kernel
theorem dX8_step_139 : decode cX8_step 139 = .ok (.iconst 1, 1) := by decide +kernel
theorem dX8_step_140 : decode cX8_step 140 = .ok (.iadd, 1) := by decide +kernel
theorem dX8_step_141 : decode cX8_step 141 = .ok (.iastore, 1) := by decide +kernel
theorem dX8_step_142 : decode cX8_step 142 = .ok (.aload_n 0, 1) := by decide +kernel
theorem dX8_step_143 : decode cX8_step 143 = .ok (.getfield 17, 3) := by decide +kernel
theorem dX8_step_146 : decode cX8_step 146 = .ok (.bipush 33, 2) := by decide +kernel
theorem dX8_step_148 : decode cX8_step 148 = .ok (.aload_n 0, 1) := by decide +kernel
theorem dX8_step_149 : decode cX8_step 149 = .ok (.getfield 17, 3) := by decide +kernel
theorem dX8_step_152 : decode cX8_step 152 = .ok (.bipush 33, 2) := by decide +kernel
theorem dX8_step_154 : decode cX8_step 154 = .ok (.iaload, 1) := by decide +kernel
theorem dX8_step_155 : decode cX8_step 155 = .ok (.iconst 2, 1) := by decide +kernel
theorem dX8_step_156 : decode cX8_step 156 = .ok (.aload_n 0, 1) := by decide +kernel
theorem dX8_step_157 : decode cX8_step 157 = .ok (.getfield 17, 3) := by decide +kernel
theorem dX8_step_160 : decode cX8_step 160 = .ok (.bipush 35, 2) := by decide +kernel
theorem dX8_step_162 : decode cX8_step 162 = .ok (.iaload, 1) := by decide +kernel
theorem dX8_step_163 : decode cX8_step 163 = .ok (.imul, 1) := by decide +kernel
theorem dX8_step_164 : decode cX8_step 164 = .ok (.iadd, 1) := by decide +kernel
theorem dX8_step_165 : decode cX8_step 165 = .ok (.bipush 99, 2) := by decide +kernel
theorem dX8_step_167 : decode cX8_step 167 = .ok (.invokestatic 173, 3) := by decide +kernel
theorem dX8_step_170 : decode cX8_step 170 = .ok (.iastore, 1) := by decide +kernel
theorem dX8_step_171 : decode cX8_step 171 = .ok (.aload_n 0, 1) := by decide +kernel
theorem dX8_step_172 : decode cX8_step 172 = .ok (.bipush 12, 2) := by decide +kernel
theorem dX8_step_174 : decode cX8_step 174 = .ok (.invokevirtual 176, 3) := by decide +kernel
theorem dX8_step_177 : decode cX8_step 177 = .ok (.aload_n 0, 1) := by decide +kernel
theorem dX8_step_178 : decode cX8_step 178 = .ok (.getfield 17, 3) := by decide +kernel
theorem dX8_step_181 : decode cX8_step 181 = .ok (.bipush 33, 2) := by decide +kernel
theorem dX8_step_183 : decode cX8_step 183 = .ok (.iaload, 1) := by decide +kernel
theorem dX8_step_184 : decode cX8_step 184 = .ok (.aload_n 0, 1) := by decide +kernel
theorem dX8_step_185 : decode cX8_step 185 = .ok (.getfield 17, 3) := by decide +kernel
theorem dX8_step_188 : decode cX8_step 188 = .ok (.bipush 36, 2) := by decide +kernel
theorem dX8_step_190 : decode cX8_step 190 = .ok (.iaload, 1) := by decide +kernel
theorem dX8_step_191 : decode cX8_step 191 = .ok (.if_icmp .lt 7, 3) := by decide +kernel
theorem dX8_step_194 : decode cX8_step 194 = .ok (.iconst 1, 1) := by decide +kernel
theorem dX8_step_195 : decode cX8_step 195 = .ok (.goto 4, 3) := by decide +kernel
theorem dX8_step_198 : decode cX8_step 198 = .ok (.iconst 0, 1) := by decide +kernel
theorem dX8_step_199 : decode cX8_step 199 = .ok (.istore_n 2, 1) := by decide +kernel
theorem dX8_step_200 : decode cX8_step 200 = .ok (.aload_n 0, 1) := by decide +kernel
theorem dX8_step_201 : decode cX8_step 201 = .ok (.getfield 17, 3) := by decide +kernel
theorem dX8_step_204 : decode cX8_step 204 = .ok (.bipush 34, 2) := by decide +kernel
theorem dX8_step_206 : decode cX8_step 206 = .ok (.aload_n 0, 1) := by decide +kernel
theorem dX8_step_207 : decode cX8_step 207 = .ok (.getfield 17, 3) := by decide +kernel
theorem dX8_step_210 : decode cX8_step 210 = .ok (.bipush 34, 2) := by decide +kernel
theorem dX8_step_212 : decode cX8_step 212 = .ok (.iaload, 1) := by decide +kernel
theorem dX8_step_213 : decode cX8_step 213 = .ok (.iload_n 2, 1) := by decide +kernel
theorem dX8_step_214 : decode cX8_step 214 = .ok (.isub, 1) := by decide +kernel
theorem dX8_step_215 : decode cX8_step 215 = .ok (.bipush 99, 2) := by decide +kernel
theorem dX8_step_217 : decode cX8_step 217 = .ok (.invokestatic 173, 3) := by decide +kernel
theorem dX8_step_220 : decode cX8_step 220 = .ok (.iastore, 1) := by decide +kernel
theorem dX8_step_221 : decode cX8_step 221 = .ok (.aload_n 0, 1) := by decide +kernel
theorem dX8_step_222 : decode cX8_step 222 = .ok (.getfield 17, 3) := by decide +kernel
theorem dX8_step_225 : decode cX8_step 225 = .ok (.bipush 37, 2) := by decide +kernel
theorem dX8_step_227 : decode cX8_step 227 = .ok (.aload_n 0, 1) := by decide +kernel
theorem dX8_step_228 : decode cX8_step 228 = .ok (.getfield 17, 3) := by decide +kernel
theorem dX8_step_231 : decode cX8_step 231 = .ok (.bipush 37, 2) := by decide +kernel
theorem dX8_step_233 : decode cX8_step 233 = .ok (.iaload, 1) := by decide +kernel
theorem dX8_step_234 : decode cX8_step 234 = .ok (.iconst 1, 1) := by decide +kernel
theorem dX8_step_235 : decode cX8_step 235 = .ok (.iadd, 1) := by decide +kernel
theorem dX8_step_236 : decode cX8_step 236 = .ok (.sipush 9999, 3) := by decide +kernel
theorem dX8_step_239 : decode cX8_step 239 = .ok (.invokestatic 173, 3) := by decide +kernel
theorem dX8_step_242 : decode cX8_step 242 = .ok (.iastore, 1) := by decide +kernel
theorem dX8_step_243 : decode cX8_step 243 = .ok (.iload_n 2, 1) := by decide +kernel
theorem dX8_step_244 : decode cX8_step 244 = .ok (.ireturn, 1) := by decide +kernel
theorem dX8_keeperOf_0 : decode cX8_keeperOf 0 = .ok (.aload_n 0, 1) := by decide +kernel
theorem dX8_keeperOf_1 : decode cX8_keeperOf 1 = .ok (.iload_n 1, 1) := by decide +kernel
theorem dX8_keeperOf_2 : decode cX8_keeperOf 2 = .ok (.i2l, 1) := by decide +kernel
theorem dX8_keeperOf_3 : decode cX8_keeperOf 3 = .ok (.invokevirtual 76, 3) := by decide +kernel
theorem dX8_keeperOf_6 : decode cX8_keeperOf 6 = .ok (.ifCond .eq 28, 3) := by decide +kernel
theorem dX8_keeperOf_9 : decode cX8_keeperOf 9 = .ok (.iload_n 2, 1) := by decide +kernel
theorem dX8_keeperOf_10 : decode cX8_keeperOf 10 = .ok (.i2l, 1) := by decide +kernel
theorem dX8_keeperOf_11 : decode cX8_keeperOf 11 = .ok (.lconst 0, 1) := by decide +kernel
theorem dX8_keeperOf_12 : decode cX8_keeperOf 12 = .ok (.ldc2_w 179, 3) := by decide +kernel
theorem dX8_keeperOf_15 : decode cX8_keeperOf 15 = .ok (.invokestatic 68, 3) := by decide +kernel
theorem dX8_keeperOf_18 : decode cX8_keeperOf 18 = .ok (.ifCond .eq 16, 3) := by decide +kernel
theorem dX8_keeperOf_21 : decode cX8_keeperOf 21 = .ok (.aload_n 0, 1) := by decide +kernel
theorem dX8_keeperOf_22 : decode cX8_keeperOf 22 = .ok (.getfield 17, 3) := by decide +kernel
theorem dX8_keeperOf_25 : decode cX8_keeperOf 25 = .ok (.iconst 4, 1) := by decide +kernel
theorem dX8_keeperOf_26 : decode cX8_keeperOf 26 = .ok (.iload_n 1, 1) := by decide +kernel
theorem dX8_keeperOf_27 : decode cX8_keeperOf 27 = .ok (.imul, 1) := by decide +kernel
theorem dX8_keeperOf_28 : decode cX8_keeperOf 28 = .ok (.iload_n 2, 1) := by decide +kernel
theorem dX8_keeperOf_29 : decode cX8_keeperOf 29 = .ok (.iadd, 1) := by decide +kernel
theorem dX8_keeperOf_30 : decode cX8_keeperOf 30 = .ok (.iaload, 1) := by decide +kernel
theorem dX8_keeperOf_31 : decode cX8_keeperOf 31 = .ok (.goto 9, 3) := by decide +kernel
theorem dX8_keeperOf_34 : decode cX8_keeperOf 34 = .ok (.aload_n 0, 1) := by decide +kernel
theorem dX8_keeperOf_35 : decode cX8_keeperOf 35 = .ok (.bipush (-2), 2) := by decide +kernel
theorem dX8_keeperOf_37 : decode cX8_keeperOf 37 = .ok (.invokevirtual 90, 3) := by decide +kernel
theorem dX8_keeperOf_40 : decode cX8_keeperOf 40 = .ok (.ireturn, 1) := by decide +kernel
theorem dX8_stays_0 : decode cX8_stays 0 = .ok (.aload_n 0, 1) := by decide +kernel
theorem dX8_stays_1 : decode cX8_stays 1 = .ok (.iload_n 1, 1) := by decide +kernel
theorem dX8_stays_2 : decode cX8_stays 2 = .ok (.i2l, 1) := by decide +kernel
theorem dX8_stays_3 : decode cX8_stays 3 = .ok (.invokevirtual 76, 3) := by decide +kernel
theorem dX8_stays_6 : decode cX8_stays 6 = .ok (.ifCond .ne 12, 3) := by decide +kernel
theorem dX8_stays_9 : decode cX8_stays 9 = .ok (.aload_n 0, 1) := by decide +kernel
theorem dX8_stays_10 : decode cX8_stays 10 = .ok (.bipush (-2), 2) := by decide +kernel
theorem dX8_stays_12 : decode cX8_stays 12 = .ok (.invokevirtual 90, 3) := by decide +kernel
theorem dX8_stays_15 : decode cX8_stays 15 = .ok (.goto 16, 3) := by decide +kernel
theorem dX8_stays_18 : decode cX8_stays 18 = .ok (.aload_n 0, 1) := by decide +kernel
theorem dX8_stays_19 : decode cX8_stays 19 = .ok (.iload_n 1, 1) := by decide +kernel
theorem dX8_stays_20 : decode cX8_stays 20 = .ok (.invokevirtual 166, 3) := by decide +kernel
theorem dX8_stays_23 : decode cX8_stays 23 = .ok (.ifCond .eq 7, 3) := by decide +kernel
theorem dX8_stays_26 : decode cX8_stays 26 = .ok (.iconst 1, 1) := by decide +kernel
theorem dX8_stays_27 : decode cX8_stays 27 = .ok (.goto 4, 3) := by decide +kernel
theorem dX8_stays_30 : decode cX8_stays 30 = .ok (.iconst 0, 1) := by decide +kernel
theorem dX8_stays_31 : decode cX8_stays 31 = .ok (.ireturn, 1) := by decide +kernel
theorem dX8_staying_0 : decode cX8_staying 0 = .ok (.iconst 0, 1) := by decide +kernel
theorem dX8_staying_1 : decode cX8_staying 1 = .ok (.istore_n 1, 1) := by decide +kernel
theorem dX8_staying_2 : decode cX8_staying 2 = .ok (.iconst 0, 1) := by decide +kernel
theorem dX8_staying_3 : decode cX8_staying 3 = .ok (.istore_n 2, 1) := by decide +kernel
theorem dX8_staying_4 : decode cX8_staying 4 = .ok (.iload_n 2, 1) := by decide +kernel
theorem dX8_staying_5 : decode cX8_staying 5 = .ok (.aload_n 0, 1) := by decide +kernel
theorem dX8_staying_6 : decode cX8_staying 6 = .ok (.invokevirtual 80, 3) := by decide +kernel
theorem dX8_staying_9 : decode cX8_staying 9 = .ok (.if_icmp .ge 27, 3) := by decide +kernel
theorem dX8_staying_12 : decode cX8_staying 12 = .ok (.iload_n 1, 1) := by decide +kernel
theorem dX8_staying_13 : decode cX8_staying 13 = .ok (.aload_n 0, 1) := by decide +kernel
theorem dX8_staying_14 : decode cX8_staying 14 = .ok (.iload_n 2, 1) := by decide +kernel
theorem dX8_staying_15 : decode cX8_staying 15 = .ok (.invokevirtual 166, 3) := by decide +kernel
theorem dX8_staying_18 : decode cX8_staying 18 = .ok (.ifCond .eq 9, 3) := by decide +kernel
theorem dX8_staying_21 : decode cX8_staying 21 = .ok (.iconst 1, 1) := by decide +kernel
theorem dX8_staying_22 : decode cX8_staying 22 = .ok (.iload_n 2, 1) := by decide +kernel
theorem dX8_staying_23 : decode cX8_staying 23 = .ok (.ishl, 1) := by decide +kernel
theorem dX8_staying_24 : decode cX8_staying 24 = .ok (.goto 4, 3) := by decide +kernel
theorem dX8_staying_27 : decode cX8_staying 27 = .ok (.iconst 0, 1) := by decide +kernel
theorem dX8_staying_28 : decode cX8_staying 28 = .ok (.ior, 1) := by decide +kernel
theorem dX8_staying_29 : decode cX8_staying 29 = .ok (.istore_n 1, 1) := by decide +kernel
theorem dX8_staying_30 : decode cX8_staying 30 = .ok (.iinc 2 1, 3) := by decide +kernel
theorem dX8_staying_33 : decode cX8_staying 33 = .ok (.goto (-29), 3) := by decide +kernel
theorem dX8_staying_36 : decode cX8_staying 36 = .ok (.iload_n 1, 1) := by decide +kernel
theorem dX8_staying_37 : decode cX8_staying 37 = .ok (.ireturn, 1) := by decide +kernel
theorem dX8_then_0 : decode cX8_then 0 = .ok (.aload_n 0, 1) := by decide +kernel
theorem dX8_then_1 : decode cX8_then 1 = .ok (.iconst 0, 1) := by decide +kernel
theorem dX8_then_2 : decode cX8_then 2 = .ok (.invokevirtual 142, 3) := by decide +kernel
theorem dX8_then_5 : decode cX8_then 5 = .ok (.aload_n 0, 1) := by decide +kernel
theorem dX8_then_6 : decode cX8_then 6 = .ok (.getfield 17, 3) := by decide +kernel
theorem dX8_then_9 : decode cX8_then 9 = .ok (.bipush 33, 2) := by decide +kernel
theorem dX8_then_11 : decode cX8_then 11 = .ok (.iload_n 3, 1) := by decide +kernel
theorem dX8_then_12 : decode cX8_then 12 = .ok (.iastore, 1) := by decide +kernel
theorem dX8_then_13 : decode cX8_then 13 = .ok (.aload_n 0, 1) := by decide +kernel
theorem dX8_then_14 : decode cX8_then 14 = .ok (.iload_n 1, 1) := by decide +kernel
theorem dX8_then_15 : decode cX8_then 15 = .ok (.invokevirtual 181, 3) := by decide +kernel
theorem dX8_then_18 : decode cX8_then 18 = .ok (.istore 4, 2) := by decide +kernel
theorem dX8_then_20 : decode cX8_then 20 = .ok (.iload_n 2, 1) := by decide +kernel
theorem dX8_then_21 : decode cX8_then 21 = .ok (.iconst 3, 1) := by decide +kernel
theorem dX8_then_22 : decode cX8_then 22 = .ok (.if_icmp .ne 8, 3) := by decide +kernel
theorem dX8_then_25 : decode cX8_then 25 = .ok (.iload 4, 2) := by decide +kernel
theorem dX8_then_27 : decode cX8_then 27 = .ok (.goto 12, 3) := by decide +kernel
theorem dX8_then_30 : decode cX8_then 30 = .ok (.aload_n 0, 1) := by decide +kernel
theorem dX8_then_31 : decode cX8_then 31 = .ok (.getfield 17, 3) := by decide +kernel
theorem dX8_then_34 : decode cX8_then 34 = .ok (.bipush 33, 2) := by decide +kernel
theorem dX8_then_36 : decode cX8_then 36 = .ok (.iload_n 2, 1) := by decide +kernel
theorem dX8_then_37 : decode cX8_then 37 = .ok (.iadd, 1) := by decide +kernel
theorem dX8_then_38 : decode cX8_then 38 = .ok (.iaload, 1) := by decide +kernel
theorem dX8_then_39 : decode cX8_then 39 = .ok (.istore 5, 2) := by decide +kernel
theorem dX8_then_41 : decode cX8_then 41 = .ok (.aload_n 0, 1) := by decide +kernel
theorem dX8_then_42 : decode cX8_then 42 = .ok (.iconst 0, 1) := by decide +kernel
theorem dX8_then_43 : decode cX8_then 43 = .ok (.invokevirtual 150, 3) := by decide +kernel
theorem dX8_then_46 : decode cX8_then 46 = .ok (.iload 5, 2) := by decide +kernel
theorem dX8_then_48 : decode cX8_then 48 = .ok (.ireturn, 1) := by decide +kernel
theorem dX8_after_0 : decode cX8_after 0 = .ok (.aload_n 0, 1) := by decide +kernel
theorem dX8_after_1 : decode cX8_after 1 = .ok (.iload_n 1, 1) := by decide +kernel
theorem dX8_after_2 : decode cX8_after 2 = .ok (.i2l, 1) := by decide +kernel
theorem dX8_after_3 : decode cX8_after 3 = .ok (.invokevirtual 184, 3) := by decide +kernel
theorem dX8_after_6 : decode cX8_after 6 = .ok (.ifCond .eq 31, 3) := by decide +kernel
theorem dX8_after_9 : decode cX8_after 9 = .ok (.iload_n 2, 1) := by decide +kernel
theorem dX8_after_10 : decode cX8_after 10 = .ok (.i2l, 1) := by decide +kernel
theorem dX8_after_11 : decode cX8_after 11 = .ok (.lconst 0, 1) := by decide +kernel
theorem dX8_after_12 : decode cX8_after 12 = .ok (.ldc2_w 179, 3) := by decide +kernel
theorem dX8_after_15 : decode cX8_after 15 = .ok (.invokestatic 68, 3) := by decide +kernel
theorem dX8_after_18 : decode cX8_after 18 = .ok (.ifCond .eq 19, 3) := by decide +kernel
theorem dX8_after_21 : decode cX8_after 21 = .ok (.aload_n 0, 1) := by decide +kernel
theorem dX8_after_22 : decode cX8_after 22 = .ok (.iload_n 1, 1) := by decide +kernel
theorem dX8_after_23 : decode cX8_after 23 = .ok (.iload_n 2, 1) := by decide +kernel
theorem dX8_after_24 : decode cX8_after 24 = .ok (.aload_n 0, 1) := by decide +kernel
theorem dX8_after_25 : decode cX8_after 25 = .ok (.getfield 17, 3) := by decide +kernel
theorem dX8_after_28 : decode cX8_after 28 = .ok (.bipush 33, 2) := by decide +kernel
theorem dX8_after_30 : decode cX8_after 30 = .ok (.iaload, 1) := by decide +kernel
theorem dX8_after_31 : decode cX8_after 31 = .ok (.invokevirtual 187, 3) := by decide +kernel
theorem dX8_after_34 : decode cX8_after 34 = .ok (.goto 9, 3) := by decide +kernel
theorem dX8_after_37 : decode cX8_after 37 = .ok (.aload_n 0, 1) := by decide +kernel
theorem dX8_after_38 : decode cX8_after 38 = .ok (.bipush (-2), 2) := by decide +kernel
theorem dX8_after_40 : decode cX8_after 40 = .ok (.invokevirtual 90, 3) := by decide +kernel
theorem dX8_after_43 : decode cX8_after 43 = .ok (.ireturn, 1) := by decide +kernel
theorem dX8_bestNow_0 : decode cX8_bestNow 0 = .ok (.iload_n 1, 1) := by decide +kernel
theorem dX8_bestNow_1 : decode cX8_bestNow 1 = .ok (.i2l, 1) := by decide +kernel
theorem dX8_bestNow_2 : decode cX8_bestNow 2 = .ok (.lconst 0, 1) := by decide +kernel
theorem dX8_bestNow_3 : decode cX8_bestNow 3 = .ok (.ldc2_w 190, 3) := by decide +kernel
theorem dX8_bestNow_6 : decode cX8_bestNow 6 = .ok (.invokestatic 68, 3) := by decide +kernel
theorem dX8_bestNow_9 : decode cX8_bestNow 9 = .ok (.ifCond .ne 10, 3) := by decide +kernel
theorem dX8_bestNow_12 : decode cX8_bestNow 12 = .ok (.aload_n 0, 1) := by decide +kernel
theorem dX8_bestNow_13 : decode cX8_bestNow 13 = .ok (.bipush (-2), 2) := by decide +kernel
theorem dX8_bestNow_15 : decode cX8_bestNow 15 = .ok (.invokevirtual 90, 3) := by decide +kernel
theorem dX8_bestNow_18 : decode cX8_bestNow 18 = .ok (.ireturn, 1) := by decide +kernel
theorem dX8_bestNow_19 : decode cX8_bestNow 19 = .ok (.iconst (-1), 1) := by decide +kernel
theorem dX8_bestNow_20 : decode cX8_bestNow 20 = .ok (.istore_n 2, 1) := by decide +kernel
theorem dX8_bestNow_21 : decode cX8_bestNow 21 = .ok (.ldc 194, 2) := by decide +kernel
theorem dX8_bestNow_23 : decode cX8_bestNow 23 = .ok (.istore_n 3, 1) := by decide +kernel
theorem dX8_bestNow_24 : decode cX8_bestNow 24 = .ok (.iconst 0, 1) := by decide +kernel
theorem dX8_bestNow_25 : decode cX8_bestNow 25 = .ok (.istore 4, 2) := by decide +kernel
theorem dX8_bestNow_27 : decode cX8_bestNow 27 = .ok (.iload 4, 2) := by decide +kernel
theorem dX8_bestNow_29 : decode cX8_bestNow 29 = .ok (.aload_n 0, 1) := by decide +kernel
theorem dX8_bestNow_30 : decode cX8_bestNow 30 = .ok (.invokevirtual 80, 3) := by decide +kernel
theorem dX8_bestNow_33 : decode cX8_bestNow 33 = .ok (.iconst 2, 1) := by decide +kernel
theorem dX8_bestNow_34 : decode cX8_bestNow 34 = .ok (.iadd, 1) := by decide +kernel
theorem dX8_bestNow_35 : decode cX8_bestNow 35 = .ok (.if_icmp .ge 68, 3) := by decide +kernel
theorem dX8_bestNow_38 : decode cX8_bestNow 38 = .ok (.aload_n 0, 1) := by decide +kernel
theorem dX8_bestNow_39 : decode cX8_bestNow 39 = .ok (.aload_n 0, 1) := by decide +kernel
theorem dX8_bestNow_40 : decode cX8_bestNow 40 = .ok (.iload 4, 2) := by decide +kernel
theorem dX8_bestNow_42 : decode cX8_bestNow 42 = .ok (.invokevirtual 195, 3) := by decide +kernel
theorem dX8_bestNow_45 : decode cX8_bestNow 45 = .ok (.iload_n 1, 1) := by decide +kernel
theorem dX8_bestNow_46 : decode cX8_bestNow 46 = .ok (.aload_n 0, 1) := by decide +kernel
theorem dX8_bestNow_47 : decode cX8_bestNow 47 = .ok (.getfield 17, 3) := by decide +kernel
theorem dX8_bestNow_50 : decode cX8_bestNow 50 = .ok (.bipush 33, 2) := by decide +kernel
theorem dX8_bestNow_52 : decode cX8_bestNow 52 = .ok (.iaload, 1) := by decide +kernel
theorem dX8_bestNow_53 : decode cX8_bestNow 53 = .ok (.invokevirtual 187, 3) := by decide +kernel
theorem dX8_bestNow_56 : decode cX8_bestNow 56 = .ok (.istore 5, 2) := by decide +kernel
theorem dX8_bestNow_58 : decode cX8_bestNow 58 = .ok (.iload_n 1, 1) := by decide +kernel
theorem dX8_bestNow_59 : decode cX8_bestNow 59 = .ok (.iconst 1, 1) := by decide +kernel
theorem dX8_bestNow_60 : decode cX8_bestNow 60 = .ok (.if_icmp .ne 9, 3) := by decide +kernel
theorem dX8_bestNow_63 : decode cX8_bestNow 63 = .ok (.iload 5, 2) := by decide +kernel
theorem dX8_bestNow_65 : decode cX8_bestNow 65 = .ok (.ineg, 1) := by decide +kernel
theorem dX8_bestNow_66 : decode cX8_bestNow 66 = .ok (.goto 5, 3) := by decide +kernel
theorem dX8_bestNow_69 : decode cX8_bestNow 69 = .ok (.iload 5, 2) := by decide +kernel
theorem dX8_bestNow_71 : decode cX8_bestNow 71 = .ok (.istore 6, 2) := by decide +kernel
theorem dX8_bestNow_73 : decode cX8_bestNow 73 = .ok (.iload 6, 2) := by decide +kernel
theorem dX8_bestNow_75 : decode cX8_bestNow 75 = .ok (.iload_n 3, 1) := by decide +kernel
theorem dX8_bestNow_76 : decode cX8_bestNow 76 = .ok (.if_icmp .ge 12, 3) := by decide +kernel
theorem dX8_bestNow_79 : decode cX8_bestNow 79 = .ok (.aload_n 0, 1) := by decide +kernel
theorem dX8_bestNow_80 : decode cX8_bestNow 80 = .ok (.iload 4, 2) := by decide +kernel
theorem dX8_bestNow_82 : decode cX8_bestNow 82 = .ok (.invokevirtual 195, 3) := by decide +kernel
theorem dX8_bestNow_85 : decode cX8_bestNow 85 = .ok (.goto 4, 3) := by decide +kernel
theorem dX8_bestNow_88 : decode cX8_bestNow 88 = .ok (.iload_n 2, 1) := by decide +kernel
theorem dX8_bestNow_89 : decode cX8_bestNow 89 = .ok (.istore_n 2, 1) := by decide +kernel
theorem dX8_bestNow_90 : decode cX8_bestNow 90 = .ok (.iload 6, 2) := by decide +kernel
theorem dX8_bestNow_92 : decode cX8_bestNow 92 = .ok (.iload_n 3, 1) := by decide +kernel
theorem dX8_bestNow_93 : decode cX8_bestNow 93 = .ok (.invokestatic 59, 3) := by decide +kernel
theorem dX8_bestNow_96 : decode cX8_bestNow 96 = .ok (.istore_n 3, 1) := by decide +kernel
theorem dX8_bestNow_97 : decode cX8_bestNow 97 = .ok (.iinc 4 1, 3) := by decide +kernel
theorem dX8_bestNow_100 : decode cX8_bestNow 100 = .ok (.goto (-73), 3) := by decide +kernel
theorem dX8_bestNow_103 : decode cX8_bestNow 103 = .ok (.iload_n 2, 1) := by decide +kernel
theorem dX8_bestNow_104 : decode cX8_bestNow 104 = .ok (.ireturn, 1) := by decide +kernel
theorem dX8_isShelf_0 : decode cX8_isShelf 0 = .ok (.iload_n 0, 1) := by decide +kernel
theorem dX8_isShelf_1 : decode cX8_isShelf 1 = .ok (.i2l, 1) := by decide +kernel
theorem dX8_isShelf_2 : decode cX8_isShelf 2 = .ok (.lconst 0, 1) := by decide +kernel
theorem dX8_isShelf_3 : decode cX8_isShelf 3 = .ok (.ldc2_w 198, 3) := by decide +kernel
theorem dX8_isShelf_6 : decode cX8_isShelf 6 = .ok (.invokestatic 68, 3) := by decide +kernel
theorem dX8_isShelf_9 : decode cX8_isShelf 9 = .ok (.ireturn, 1) := by decide +kernel
theorem dX8_row_0 : decode cX8_row 0 = .ok (.iload_n 1, 1) := by decide +kernel
theorem dX8_row_1 : decode cX8_row 1 = .ok (.invokestatic 200, 3) := by decide +kernel
theorem dX8_row_4 : decode cX8_row 4 = .ok (.ifCond .eq 27, 3) := by decide +kernel
theorem dX8_row_7 : decode cX8_row 7 = .ok (.iload_n 2, 1) := by decide +kernel
theorem dX8_row_8 : decode cX8_row 8 = .ok (.i2l, 1) := by decide +kernel
theorem dX8_row_9 : decode cX8_row 9 = .ok (.lconst 0, 1) := by decide +kernel
theorem dX8_row_10 : decode cX8_row 10 = .ok (.ldc2_w 101, 3) := by decide +kernel
theorem dX8_row_13 : decode cX8_row 13 = .ok (.invokestatic 68, 3) := by decide +kernel
theorem dX8_row_16 : decode cX8_row 16 = .ok (.ifCond .eq 15, 3) := by decide +kernel
theorem dX8_row_19 : decode cX8_row 19 = .ok (.iload_n 3, 1) := by decide +kernel
theorem dX8_row_20 : decode cX8_row 20 = .ok (.i2l, 1) := by decide +kernel
theorem dX8_row_21 : decode cX8_row 21 = .ok (.lconst 0, 1) := by decide +kernel
theorem dX8_row_22 : decode cX8_row 22 = .ok (.ldc2_w 88, 3) := by decide +kernel
theorem dX8_row_25 : decode cX8_row 25 = .ok (.invokestatic 68, 3) := by decide +kernel
theorem dX8_row_28 : decode cX8_row 28 = .ok (.ifCond .ne 10, 3) := by decide +kernel
theorem dX8_row_31 : decode cX8_row 31 = .ok (.aload_n 0, 1) := by decide +kernel
theorem dX8_row_32 : decode cX8_row 32 = .ok (.bipush (-2), 2) := by decide +kernel
theorem dX8_row_34 : decode cX8_row 34 = .ok (.invokevirtual 90, 3) := by decide +kernel
theorem dX8_row_37 : decode cX8_row 37 = .ok (.ireturn, 1) := by decide +kernel
theorem dX8_row_38 : decode cX8_row 38 = .ok (.aload_n 0, 1) := by decide +kernel
theorem dX8_row_39 : decode cX8_row 39 = .ok (.getfield 33, 3) := by decide +kernel
theorem dX8_row_42 : decode cX8_row 42 = .ok (.iload_n 1, 1) := by decide +kernel
theorem dX8_row_43 : decode cX8_row 43 = .ok (.iload_n 2, 1) := by decide +kernel
theorem dX8_row_44 : decode cX8_row 44 = .ok (.iastore, 1) := by decide +kernel
theorem dX8_row_45 : decode cX8_row 45 = .ok (.aload_n 0, 1) := by decide +kernel
theorem dX8_row_46 : decode cX8_row 46 = .ok (.getfield 36, 3) := by decide +kernel
theorem dX8_row_49 : decode cX8_row 49 = .ok (.iload_n 1, 1) := by decide +kernel
theorem dX8_row_50 : decode cX8_row 50 = .ok (.iload_n 3, 1) := by decide +kernel
theorem dX8_row_51 : decode cX8_row 51 = .ok (.iastore, 1) := by decide +kernel
theorem dX8_row_52 : decode cX8_row 52 = .ok (.iconst 0, 1) := by decide +kernel
theorem dX8_row_53 : decode cX8_row 53 = .ok (.istore 4, 2) := by decide +kernel
theorem dX8_row_55 : decode cX8_row 55 = .ok (.iload 4, 2) := by decide +kernel
theorem dX8_row_57 : decode cX8_row 57 = .ok (.bipush 40, 2) := by decide +kernel
theorem dX8_row_59 : decode cX8_row 59 = .ok (.if_icmp .ge 22, 3) := by decide +kernel
theorem dX8_row_62 : decode cX8_row 62 = .ok (.aload_n 0, 1) := by decide +kernel
theorem dX8_row_63 : decode cX8_row 63 = .ok (.getfield 39, 3) := by decide +kernel
theorem dX8_row_66 : decode cX8_row 66 = .ok (.bipush 40, 2) := by decide +kernel
theorem dX8_row_68 : decode cX8_row 68 = .ok (.iload_n 1, 1) := by decide +kernel
theorem dX8_row_69 : decode cX8_row 69 = .ok (.imul, 1) := by decide +kernel
theorem dX8_row_70 : decode cX8_row 70 = .ok (.iload 4, 2) := by decide +kernel
theorem dX8_row_72 : decode cX8_row 72 = .ok (.iadd, 1) := by decide +kernel
theorem dX8_row_73 : decode cX8_row 73 = .ok (.lconst 0, 1) := by decide +kernel
theorem dX8_row_74 : decode cX8_row 74 = .ok (.lastore, 1) := by decide +kernel
theorem dX8_row_75 : decode cX8_row 75 = .ok (.iinc 4 1, 3) := by decide +kernel
theorem dX8_row_78 : decode cX8_row 78 = .ok (.goto (-23), 3) := by decide +kernel
theorem dX8_row_81 : decode cX8_row 81 = .ok (.iconst 1, 1) := by decide +kernel
theorem dX8_row_82 : decode cX8_row 82 = .ok (.ireturn, 1) := by decide +kernel
theorem dX8_rowIn_0 : decode cX8_rowIn 0 = .ok (.aload_n 0, 1) := by decide +kernel
theorem dX8_rowIn_1 : decode cX8_rowIn 1 = .ok (.getfield 33, 3) := by decide +kernel
theorem dX8_rowIn_4 : decode cX8_rowIn 4 = .ok (.iload_n 1, 1) := by decide +kernel
theorem dX8_rowIn_5 : decode cX8_rowIn 5 = .ok (.iaload, 1) := by decide +kernel
theorem dX8_rowIn_6 : decode cX8_rowIn 6 = .ok (.bipush 10, 2) := by decide +kernel
theorem dX8_rowIn_8 : decode cX8_rowIn 8 = .ok (.if_icmp .lt 8, 3) := by decide +kernel
theorem dX8_rowIn_11 : decode cX8_rowIn 11 = .ok (.bipush (-3), 2) := by decide +kernel
theorem dX8_rowIn_13 : decode cX8_rowIn 13 = .ok (.goto 19, 3) := by decide +kernel
theorem dX8_rowIn_16 : decode cX8_rowIn 16 = .ok (.aload_n 0, 1) := by decide +kernel
theorem dX8_rowIn_17 : decode cX8_rowIn 17 = .ok (.getfield 33, 3) := by decide +kernel
theorem dX8_rowIn_20 : decode cX8_rowIn 20 = .ok (.iload_n 1, 1) := by decide +kernel
theorem dX8_rowIn_21 : decode cX8_rowIn 21 = .ok (.iaload, 1) := by decide +kernel
theorem dX8_rowIn_22 : decode cX8_rowIn 22 = .ok (.iconst (-1), 1) := by decide +kernel
theorem dX8_rowIn_23 : decode cX8_rowIn 23 = .ok (.if_icmp .ne 8, 3) := by decide +kernel
theorem dX8_rowIn_26 : decode cX8_rowIn 26 = .ok (.bipush (-4), 2) := by decide +kernel
theorem dX8_rowIn_28 : decode cX8_rowIn 28 = .ok (.goto 4, 3) := by decide +kernel
theorem dX8_rowIn_31 : decode cX8_rowIn 31 = .ok (.iconst 1, 1) := by decide +kernel
theorem dX8_rowIn_32 : decode cX8_rowIn 32 = .ok (.ireturn, 1) := by decide +kernel
theorem dX8_set_0 : decode cX8_set 0 = .ok (.iload_n 1, 1) := by decide +kernel
theorem dX8_set_1 : decode cX8_set 1 = .ok (.invokestatic 200, 3) := by decide +kernel
theorem dX8_set_4 : decode cX8_set 4 = .ok (.ifCond .ne 10, 3) := by decide +kernel
theorem dX8_set_7 : decode cX8_set 7 = .ok (.aload_n 0, 1) := by decide +kernel
theorem dX8_set_8 : decode cX8_set 8 = .ok (.bipush (-2), 2) := by decide +kernel
theorem dX8_set_10 : decode cX8_set 10 = .ok (.invokevirtual 90, 3) := by decide +kernel
theorem dX8_set_13 : decode cX8_set 13 = .ok (.ireturn, 1) := by decide +kernel
theorem dX8_set_14 : decode cX8_set 14 = .ok (.aload_n 0, 1) := by decide +kernel
theorem dX8_set_15 : decode cX8_set 15 = .ok (.iload_n 1, 1) := by decide +kernel
theorem dX8_set_16 : decode cX8_set 16 = .ok (.invokevirtual 203, 3) := by decide +kernel
theorem dX8_set_19 : decode cX8_set 19 = .ok (.ifCond .ge 13, 3) := by decide +kernel
theorem dX8_set_22 : decode cX8_set 22 = .ok (.aload_n 0, 1) := by decide +kernel
theorem dX8_set_23 : decode cX8_set 23 = .ok (.aload_n 0, 1) := by decide +kernel
theorem dX8_set_24 : decode cX8_set 24 = .ok (.iload_n 1, 1) := by decide +kernel
theorem dX8_set_25 : decode cX8_set 25 = .ok (.invokevirtual 203, 3) := by decide +kernel
theorem dX8_set_28 : decode cX8_set 28 = .ok (.invokevirtual 90, 3) := by decide +kernel
theorem dX8_set_31 : decode cX8_set 31 = .ok (.ireturn, 1) := by decide +kernel
theorem dX8_set_32 : decode cX8_set 32 = .ok (.iload_n 2, 1) := by decide +kernel
theorem dX8_set_33 : decode cX8_set 33 = .ok (.i2l, 1) := by decide +kernel
theorem dX8_set_34 : decode cX8_set 34 = .ok (.lconst 0, 1) := by decide +kernel
theorem dX8_set_35 : decode cX8_set 35 = .ok (.aload_n 0, 1) := by decide +kernel
theorem dX8_set_36 : decode cX8_set 36 = .ok (.getfield 36, 3) := by decide +kernel
theorem dX8_set_39 : decode cX8_set 39 = .ok (.iload_n 1, 1) := by decide +kernel
theorem dX8_set_40 : decode cX8_set 40 = .ok (.iaload, 1) := by decide +kernel
theorem dX8_set_41 : decode cX8_set 41 = .ok (.iconst 1, 1) := by decide +kernel
theorem dX8_set_42 : decode cX8_set 42 = .ok (.isub, 1) := by decide +kernel
theorem dX8_set_43 : decode cX8_set 43 = .ok (.i2l, 1) := by decide +kernel
theorem dX8_set_44 : decode cX8_set 44 = .ok (.invokestatic 68, 3) := by decide +kernel
theorem dX8_set_47 : decode cX8_set 47 = .ok (.ifCond .ne 10, 3) := by decide +kernel
theorem dX8_set_50 : decode cX8_set 50 = .ok (.aload_n 0, 1) := by decide +kernel
theorem dX8_set_51 : decode cX8_set 51 = .ok (.bipush (-2), 2) := by decide +kernel
theorem dX8_set_53 : decode cX8_set 53 = .ok (.invokevirtual 90, 3) := by decide +kernel
theorem dX8_set_56 : decode cX8_set 56 = .ok (.ireturn, 1) := by decide +kernel
theorem dX8_set_57 : decode cX8_set 57 = .ok (.aload_n 0, 1) := by decide +kernel
theorem dX8_set_58 : decode cX8_set 58 = .ok (.getfield 33, 3) := by decide +kernel
theorem dX8_set_61 : decode cX8_set 61 = .ok (.iload_n 1, 1) := by decide +kernel
theorem dX8_set_62 : decode cX8_set 62 = .ok (.iaload, 1) := by decide +kernel
theorem dX8_set_63 : decode cX8_set 63 = .ok (.istore 5, 2) := by decide +kernel
theorem dX8_set_65 : decode cX8_set 65 = .ok (.aload_n 0, 1) := by decide +kernel
theorem dX8_set_66 : decode cX8_set 66 = .ok (.getfield 39, 3) := by decide +kernel
theorem dX8_set_69 : decode cX8_set 69 = .ok (.bipush 40, 2) := by decide +kernel
theorem dX8_set_71 : decode cX8_set 71 = .ok (.iload_n 1, 1) := by decide +kernel
theorem dX8_set_72 : decode cX8_set 72 = .ok (.imul, 1) := by decide +kernel
theorem dX8_set_73 : decode cX8_set 73 = .ok (.iload_n 2, 1) := by decide +kernel
theorem dX8_set_74 : decode cX8_set 74 = .ok (.iadd, 1) := by decide +kernel
theorem dX8_set_75 : decode cX8_set 75 = .ok (.iload 5, 2) := by decide +kernel
theorem dX8_set_77 : decode cX8_set 77 = .ok (.ifCond .ne 10, 3) := by decide +kernel
theorem dX8_set_80 : decode cX8_set 80 = .ok (.lload_n 3, 1) := by decide +kernel
theorem dX8_set_81 : decode cX8_set 81 = .ok (.l2i, 1) := by decide +kernel
theorem dX8_set_82 : decode cX8_set 82 = .ok (.i2b, 1) := by decide +kernel
theorem dX8_set_83 : decode cX8_set 83 = .ok (.i2l, 1) := by decide +kernel
theorem dX8_set_84 : decode cX8_set 84 = .ok (.goto 49, 3) := by decide +kernel
theorem dX8_set_87 : decode cX8_set 87 = .ok (.iload 5, 2) := by decide +kernel
theorem dX8_set_89 : decode cX8_set 89 = .ok (.iconst 1, 1) := by decide +kernel
theorem dX8_set_90 : decode cX8_set 90 = .ok (.if_icmp .ne 10, 3) := by decide +kernel
theorem dX8_set_93 : decode cX8_set 93 = .ok (.lload_n 3, 1) := by decide +kernel
theorem dX8_set_94 : decode cX8_set 94 = .ok (.l2i, 1) := by decide +kernel
theorem dX8_set_95 : decode cX8_set 95 = .ok (.i2s, 1) := by decide +kernel
theorem dX8_set_96 : decode cX8_set 96 = .ok (.i2l, 1) := by decide +kernel
theorem dX8_set_97 : decode cX8_set 97 = .ok (.goto 36, 3) := by decide +kernel
theorem dX8_set_100 : decode cX8_set 100 = .ok (.iload 5, 2) := by decide +kernel
theorem dX8_set_102 : decode cX8_set 102 = .ok (.iconst 2, 1) := by decide +kernel
theorem dX8_set_103 : decode cX8_set 103 = .ok (.if_icmp .ne 9, 3) := by decide +kernel
theorem dX8_set_106 : decode cX8_set 106 = .ok (.lload_n 3, 1) := by decide +kernel
theorem dX8_set_107 : decode cX8_set 107 = .ok (.l2i, 1) := by decide +kernel
theorem dX8_set_108 : decode cX8_set 108 = .ok (.i2l, 1) := by decide +kernel
theorem dX8_set_109 : decode cX8_set 109 = .ok (.goto 24, 3) := by decide +kernel
theorem dX8_set_112 : decode cX8_set 112 = .ok (.iload 5, 2) := by decide +kernel
theorem dX8_set_114 : decode cX8_set 114 = .ok (.iconst 3, 1) := by decide +kernel
theorem dX8_set_115 : decode cX8_set 115 = .ok (.if_icmp .ne 7, 3) := by decide +kernel
theorem dX8_set_118 : decode cX8_set 118 = .ok (.lload_n 3, 1) := by decide +kernel
theorem dX8_set_119 : decode cX8_set 119 = .ok (.goto 14, 3) := by decide +kernel
theorem dX8_set_122 : decode cX8_set 122 = .ok (.lload_n 3, 1) := by decide +kernel
theorem dX8_set_123 : decode cX8_set 123 = .ok (.lconst 0, 1) := by decide +kernel
theorem dX8_set_124 : decode cX8_set 124 = .ok (.lcmp, 1) := by decide +kernel
theorem dX8_set_125 : decode cX8_set 125 = .ok (.ifCond .eq 7, 3) := by decide +kernel
theorem dX8_set_128 : decode cX8_set 128 = .ok (.lconst 1, 1) := by decide +kernel
theorem dX8_set_129 : decode cX8_set 129 = .ok (.goto 4, 3) := by decide +kernel
theorem dX8_set_132 : decode cX8_set 132 = .ok (.lconst 0, 1) := by decide +kernel
theorem dX8_set_133 : decode cX8_set 133 = .ok (.lastore, 1) := by decide +kernel
theorem dX8_set_134 : decode cX8_set 134 = .ok (.iconst 1, 1) := by decide +kernel
theorem dX8_set_135 : decode cX8_set 135 = .ok (.ireturn, 1) := by decide +kernel
theorem dX8_copy_0 : decode cX8_copy 0 = .ok (.iload_n 1, 1) := by decide +kernel
theorem dX8_copy_1 : decode cX8_copy 1 = .ok (.invokestatic 200, 3) := by decide +kernel
theorem dX8_copy_4 : decode cX8_copy 4 = .ok (.ifCond .eq 10, 3) := by decide +kernel
theorem dX8_copy_7 : decode cX8_copy 7 = .ok (.iload_n 2, 1) := by decide +kernel
theorem dX8_copy_8 : decode cX8_copy 8 = .ok (.invokestatic 200, 3) := by decide +kernel
theorem dX8_copy_11 : decode cX8_copy 11 = .ok (.ifCond .ne 10, 3) := by decide +kernel
theorem dX8_copy_14 : decode cX8_copy 14 = .ok (.aload_n 0, 1) := by decide +kernel
theorem dX8_copy_15 : decode cX8_copy 15 = .ok (.bipush (-2), 2) := by decide +kernel
theorem dX8_copy_17 : decode cX8_copy 17 = .ok (.invokevirtual 90, 3) := by decide +kernel
theorem dX8_copy_20 : decode cX8_copy 20 = .ok (.ireturn, 1) := by decide +kernel
theorem dX8_copy_21 : decode cX8_copy 21 = .ok (.aload_n 0, 1) := by decide +kernel
theorem dX8_copy_22 : decode cX8_copy 22 = .ok (.getfield 33, 3) := by decide +kernel
theorem dX8_copy_25 : decode cX8_copy 25 = .ok (.iload_n 1, 1) := by decide +kernel
theorem dX8_copy_26 : decode cX8_copy 26 = .ok (.iaload, 1) := by decide +kernel
theorem dX8_copy_27 : decode cX8_copy 27 = .ok (.iconst (-1), 1) := by decide +kernel
theorem dX8_copy_28 : decode cX8_copy 28 = .ok (.if_icmp .eq 17, 3) := by decide +kernel
theorem dX8_copy_31 : decode cX8_copy 31 = .ok (.aload_n 0, 1) := by decide +kernel
theorem dX8_copy_32 : decode cX8_copy 32 = .ok (.getfield 33, 3) := by decide +kernel
theorem dX8_copy_35 : decode cX8_copy 35 = .ok (.iload_n 2, 1) := by decide +kernel
theorem dX8_copy_36 : decode cX8_copy 36 = .ok (.iaload, 1) := by decide +kernel
theorem dX8_copy_37 : decode cX8_copy 37 = .ok (.iconst (-1), 1) := by decide +kernel
theorem dX8_copy_38 : decode cX8_copy 38 = .ok (.if_icmp .eq 7, 3) := by decide +kernel
theorem dX8_copy_41 : decode cX8_copy 41 = .ok (.iconst 1, 1) := by decide +kernel
theorem dX8_copy_42 : decode cX8_copy 42 = .ok (.goto 4, 3) := by decide +kernel
theorem dX8_copy_45 : decode cX8_copy 45 = .ok (.iconst 0, 1) := by decide +kernel
theorem dX8_copy_46 : decode cX8_copy 46 = .ok (.istore 6, 2) := by decide +kernel
theorem dX8_copy_48 : decode cX8_copy 48 = .ok (.aload_n 0, 1) := by decide +kernel
theorem dX8_copy_49 : decode cX8_copy 49 = .ok (.getfield 33, 3) := by decide +kernel
theorem dX8_copy_52 : decode cX8_copy 52 = .ok (.iload_n 1, 1) := by decide +kernel
theorem dX8_copy_53 : decode cX8_copy 53 = .ok (.iaload, 1) := by decide +kernel
theorem dX8_copy_54 : decode cX8_copy 54 = .ok (.bipush 10, 2) := by decide +kernel
theorem dX8_copy_56 : decode cX8_copy 56 = .ok (.if_icmp .ge 34, 3) := by decide +kernel
theorem dX8_copy_59 : decode cX8_copy 59 = .ok (.aload_n 0, 1) := by decide +kernel
theorem dX8_copy_60 : decode cX8_copy 60 = .ok (.getfield 33, 3) := by decide +kernel
theorem dX8_copy_63 : decode cX8_copy 63 = .ok (.iload_n 2, 1) := by decide +kernel
theorem dX8_copy_64 : decode cX8_copy 64 = .ok (.iaload, 1) := by decide +kernel
theorem dX8_copy_65 : decode cX8_copy 65 = .ok (.bipush 10, 2) := by decide +kernel
theorem dX8_copy_67 : decode cX8_copy 67 = .ok (.if_icmp .ge 23, 3) := by decide +kernel
theorem dX8_copy_70 : decode cX8_copy 70 = .ok (.iload 6, 2) := by decide +kernel
theorem dX8_copy_72 : decode cX8_copy 72 = .ok (.ifCond .eq 25, 3) := by decide +kernel
theorem dX8_copy_75 : decode cX8_copy 75 = .ok (.aload_n 0, 1) := by decide +kernel
theorem dX8_copy_76 : decode cX8_copy 76 = .ok (.getfield 33, 3) := by decide +kernel
theorem dX8_copy_79 : decode cX8_copy 79 = .ok (.iload_n 1, 1) := by decide +kernel
theorem dX8_copy_80 : decode cX8_copy 80 = .ok (.iaload, 1) := by decide +kernel
theorem dX8_copy_81 : decode cX8_copy 81 = .ok (.aload_n 0, 1) := by decide +kernel
theorem dX8_copy_82 : decode cX8_copy 82 = .ok (.getfield 33, 3) := by decide +kernel
theorem dX8_copy_85 : decode cX8_copy 85 = .ok (.iload_n 2, 1) := by decide +kernel
theorem dX8_copy_86 : decode cX8_copy 86 = .ok (.iaload, 1) := by decide +kernel
theorem dX8_copy_87 : decode cX8_copy 87 = .ok (.if_icmp .eq 10, 3) := by decide +kernel
theorem dX8_copy_90 : decode cX8_copy 90 = .ok (.aload_n 0, 1) := by decide +kernel
theorem dX8_copy_91 : decode cX8_copy 91 = .ok (.bipush (-3), 2) := by decide +kernel
theorem dX8_copy_93 : decode cX8_copy 93 = .ok (.invokevirtual 90, 3) := by decide +kernel
theorem dX8_copy_96 : decode cX8_copy 96 = .ok (.ireturn, 1) := by decide +kernel
theorem dX8_copy_97 : decode cX8_copy 97 = .ok (.iload 6, 2) := by decide +kernel
theorem dX8_copy_99 : decode cX8_copy 99 = .ok (.ifCond .ne 10, 3) := by decide +kernel
theorem dX8_copy_102 : decode cX8_copy 102 = .ok (.aload_n 0, 1) := by decide +kernel
theorem dX8_copy_103 : decode cX8_copy 103 = .ok (.bipush (-4), 2) := by decide +kernel
theorem dX8_copy_105 : decode cX8_copy 105 = .ok (.invokevirtual 90, 3) := by decide +kernel
theorem dX8_copy_108 : decode cX8_copy 108 = .ok (.ireturn, 1) := by decide +kernel
theorem dX8_copy_109 : decode cX8_copy 109 = .ok (.iload 5, 2) := by decide +kernel
theorem dX8_copy_111 : decode cX8_copy 111 = .ok (.ifCond .lt 39, 3) := by decide +kernel
theorem dX8_copy_114 : decode cX8_copy 114 = .ok (.iload_n 3, 1) := by decide +kernel
theorem dX8_copy_115 : decode cX8_copy 115 = .ok (.ifCond .lt 35, 3) := by decide +kernel
theorem dX8_copy_118 : decode cX8_copy 118 = .ok (.iload 4, 2) := by decide +kernel
theorem dX8_copy_120 : decode cX8_copy 120 = .ok (.ifCond .lt 30, 3) := by decide +kernel
theorem dX8_copy_123 : decode cX8_copy 123 = .ok (.iload 5, 2) := by decide +kernel
theorem dX8_copy_125 : decode cX8_copy 125 = .ok (.aload_n 0, 1) := by decide +kernel
theorem dX8_copy_126 : decode cX8_copy 126 = .ok (.getfield 36, 3) := by decide +kernel
theorem dX8_copy_129 : decode cX8_copy 129 = .ok (.iload_n 1, 1) := by decide +kernel
theorem dX8_copy_130 : decode cX8_copy 130 = .ok (.iaload, 1) := by decide +kernel
theorem dX8_copy_131 : decode cX8_copy 131 = .ok (.iload_n 3, 1) := by decide +kernel
theorem dX8_copy_132 : decode cX8_copy 132 = .ok (.isub, 1) := by decide +kernel
theorem dX8_copy_133 : decode cX8_copy 133 = .ok (.if_icmp .gt 17, 3) := by decide +kernel
theorem dX8_copy_136 : decode cX8_copy 136 = .ok (.iload 5, 2) := by decide +kernel
theorem dX8_copy_138 : decode cX8_copy 138 = .ok (.aload_n 0, 1) := by decide +kernel
theorem dX8_copy_139 : decode cX8_copy 139 = .ok (.getfield 36, 3) := by decide +kernel
theorem dX8_copy_142 : decode cX8_copy 142 = .ok (.iload_n 2, 1) := by decide +kernel
theorem dX8_copy_143 : decode cX8_copy 143 = .ok (.iaload, 1) := by decide +kernel
theorem dX8_copy_144 : decode cX8_copy 144 = .ok (.iload 4, 2) := by decide +kernel
theorem dX8_copy_146 : decode cX8_copy 146 = .ok (.isub, 1) := by decide +kernel
theorem dX8_copy_147 : decode cX8_copy 147 = .ok (.if_icmp .le 10, 3) := by decide +kernel
theorem dX8_copy_150 : decode cX8_copy 150 = .ok (.aload_n 0, 1) := by decide +kernel
theorem dX8_copy_151 : decode cX8_copy 151 = .ok (.bipush (-2), 2) := by decide +kernel
theorem dX8_copy_153 : decode cX8_copy 153 = .ok (.invokevirtual 90, 3) := by decide +kernel
theorem dX8_copy_156 : decode cX8_copy 156 = .ok (.ireturn, 1) := by decide +kernel
theorem dX8_copy_157 : decode cX8_copy 157 = .ok (.iconst 0, 1) := by decide +kernel
theorem dX8_copy_158 : decode cX8_copy 158 = .ok (.istore 7, 2) := by decide +kernel
theorem dX8_copy_160 : decode cX8_copy 160 = .ok (.iload 7, 2) := by decide +kernel
theorem dX8_copy_162 : decode cX8_copy 162 = .ok (.iload 5, 2) := by decide +kernel
theorem dX8_copy_164 : decode cX8_copy 164 = .ok (.if_icmp .ge 30, 3) := by decide +kernel
theorem dX8_copy_167 : decode cX8_copy 167 = .ok (.aload_n 0, 1) := by decide +kernel
theorem dX8_copy_168 : decode cX8_copy 168 = .ok (.getfield 43, 3) := by decide +kernel
theorem dX8_copy_171 : decode cX8_copy 171 = .ok (.iload 7, 2) := by decide +kernel
theorem dX8_copy_173 : decode cX8_copy 173 = .ok (.aload_n 0, 1) := by decide +kernel
theorem dX8_copy_174 : decode cX8_copy 174 = .ok (.getfield 39, 3) := by decide +kernel
theorem dX8_copy_177 : decode cX8_copy 177 = .ok (.bipush 40, 2) := by decide +kernel
theorem dX8_copy_179 : decode cX8_copy 179 = .ok (.iload_n 1, 1) := by decide +kernel
theorem dX8_copy_180 : decode cX8_copy 180 = .ok (.imul, 1) := by decide +kernel
theorem dX8_copy_181 : decode cX8_copy 181 = .ok (.iload_n 3, 1) := by decide +kernel
theorem dX8_copy_182 : decode cX8_copy 182 = .ok (.iadd, 1) := by decide +kernel
theorem dX8_copy_183 : decode cX8_copy 183 = .ok (.iload 7, 2) := by decide +kernel
theorem dX8_copy_185 : decode cX8_copy 185 = .ok (.iadd, 1) := by decide +kernel
theorem dX8_copy_186 : decode cX8_copy 186 = .ok (.laload, 1) := by decide +kernel
theorem dX8_copy_187 : decode cX8_copy 187 = .ok (.lastore, 1) := by decide +kernel
theorem dX8_copy_188 : decode cX8_copy 188 = .ok (.iinc 7 1, 3) := by decide +kernel
theorem dX8_copy_191 : decode cX8_copy 191 = .ok (.goto (-31), 3) := by decide +kernel
theorem dX8_copy_194 : decode cX8_copy 194 = .ok (.iconst 0, 1) := by decide +kernel
theorem dX8_copy_195 : decode cX8_copy 195 = .ok (.istore 7, 2) := by decide +kernel
theorem dX8_copy_197 : decode cX8_copy 197 = .ok (.iload 7, 2) := by decide +kernel
theorem dX8_copy_199 : decode cX8_copy 199 = .ok (.iload 5, 2) := by decide +kernel
theorem dX8_copy_201 : decode cX8_copy 201 = .ok (.if_icmp .ge 31, 3) := by decide +kernel
theorem dX8_copy_204 : decode cX8_copy 204 = .ok (.aload_n 0, 1) := by decide +kernel
theorem dX8_copy_205 : decode cX8_copy 205 = .ok (.getfield 39, 3) := by decide +kernel
theorem dX8_copy_208 : decode cX8_copy 208 = .ok (.bipush 40, 2) := by decide +kernel
theorem dX8_copy_210 : decode cX8_copy 210 = .ok (.iload_n 2, 1) := by decide +kernel
theorem dX8_copy_211 : decode cX8_copy 211 = .ok (.imul, 1) := by decide +kernel
theorem dX8_copy_212 : decode cX8_copy 212 = .ok (.iload 4, 2) := by decide +kernel
theorem dX8_copy_214 : decode cX8_copy 214 = .ok (.iadd, 1) := by decide +kernel
theorem dX8_copy_215 : decode cX8_copy 215 = .ok (.iload 7, 2) := by decide +kernel
theorem dX8_copy_217 : decode cX8_copy 217 = .ok (.iadd, 1) := by decide +kernel
theorem dX8_copy_218 : decode cX8_copy 218 = .ok (.aload_n 0, 1) := by decide +kernel
theorem dX8_copy_219 : decode cX8_copy 219 = .ok (.getfield 43, 3) := by decide +kernel
theorem dX8_copy_222 : decode cX8_copy 222 = .ok (.iload 7, 2) := by decide +kernel
theorem dX8_copy_224 : decode cX8_copy 224 = .ok (.laload, 1) := by decide +kernel
theorem dX8_copy_225 : decode cX8_copy 225 = .ok (.lastore, 1) := by decide +kernel
theorem dX8_copy_226 : decode cX8_copy 226 = .ok (.iinc 7 1, 3) := by decide +kernel
theorem dX8_copy_229 : decode cX8_copy 229 = .ok (.goto (-32), 3) := by decide +kernel
theorem dX8_copy_232 : decode cX8_copy 232 = .ok (.iload 5, 2) := by decide +kernel
theorem dX8_copy_234 : decode cX8_copy 234 = .ok (.ireturn, 1) := by decide +kernel
theorem dX8_element_0 : decode cX8_element 0 = .ok (.iload_n 1, 1) := by decide +kernel
theorem dX8_element_1 : decode cX8_element 1 = .ok (.invokestatic 200, 3) := by decide +kernel
theorem dX8_element_4 : decode cX8_element 4 = .ok (.ifCond .eq 52, 3) := by decide +kernel
theorem dX8_element_7 : decode cX8_element 7 = .ok (.aload_n 0, 1) := by decide +kernel
theorem dX8_element_8 : decode cX8_element 8 = .ok (.getfield 33, 3) := by decide +kernel
theorem dX8_element_11 : decode cX8_element 11 = .ok (.iload_n 1, 1) := by decide +kernel
theorem dX8_element_12 : decode cX8_element 12 = .ok (.iaload, 1) := by decide +kernel
theorem dX8_element_13 : decode cX8_element 13 = .ok (.i2l, 1) := by decide +kernel
theorem dX8_element_14 : decode cX8_element 14 = .ok (.lconst 0, 1) := by decide +kernel
theorem dX8_element_15 : decode cX8_element 15 = .ok (.ldc2_w 101, 3) := by decide +kernel
theorem dX8_element_18 : decode cX8_element 18 = .ok (.invokestatic 68, 3) := by decide +kernel
theorem dX8_element_21 : decode cX8_element 21 = .ok (.ifCond .eq 35, 3) := by decide +kernel
theorem dX8_element_24 : decode cX8_element 24 = .ok (.iload_n 2, 1) := by decide +kernel
theorem dX8_element_25 : decode cX8_element 25 = .ok (.i2l, 1) := by decide +kernel
theorem dX8_element_26 : decode cX8_element 26 = .ok (.lconst 0, 1) := by decide +kernel
theorem dX8_element_27 : decode cX8_element 27 = .ok (.aload_n 0, 1) := by decide +kernel
theorem dX8_element_28 : decode cX8_element 28 = .ok (.getfield 36, 3) := by decide +kernel
theorem dX8_element_31 : decode cX8_element 31 = .ok (.iload_n 1, 1) := by decide +kernel
theorem dX8_element_32 : decode cX8_element 32 = .ok (.iaload, 1) := by decide +kernel
theorem dX8_element_33 : decode cX8_element 33 = .ok (.iconst 1, 1) := by decide +kernel
theorem dX8_element_34 : decode cX8_element 34 = .ok (.isub, 1) := by decide +kernel
theorem dX8_element_35 : decode cX8_element 35 = .ok (.i2l, 1) := by decide +kernel
theorem dX8_element_36 : decode cX8_element 36 = .ok (.invokestatic 68, 3) := by decide +kernel
theorem dX8_element_39 : decode cX8_element 39 = .ok (.ifCond .eq 17, 3) := by decide +kernel
theorem dX8_element_42 : decode cX8_element 42 = .ok (.aload_n 0, 1) := by decide +kernel
theorem dX8_element_43 : decode cX8_element 43 = .ok (.getfield 39, 3) := by decide +kernel
theorem dX8_element_46 : decode cX8_element 46 = .ok (.bipush 40, 2) := by decide +kernel
theorem dX8_element_48 : decode cX8_element 48 = .ok (.iload_n 1, 1) := by decide +kernel
theorem dX8_element_49 : decode cX8_element 49 = .ok (.imul, 1) := by decide +kernel
theorem dX8_element_50 : decode cX8_element 50 = .ok (.iload_n 2, 1) := by decide +kernel
theorem dX8_element_51 : decode cX8_element 51 = .ok (.iadd, 1) := by decide +kernel
theorem dX8_element_52 : decode cX8_element 52 = .ok (.laload, 1) := by decide +kernel
theorem dX8_element_53 : decode cX8_element 53 = .ok (.goto 4, 3) := by decide +kernel
theorem dX8_element_56 : decode cX8_element 56 = .ok (.lconst 0, 1) := by decide +kernel
theorem dX8_element_57 : decode cX8_element 57 = .ok (.lreturn, 1) := by decide +kernel
theorem dX8_holds_0 : decode cX8_holds 0 = .ok (.iload_n 1, 1) := by decide +kernel
theorem dX8_holds_1 : decode cX8_holds 1 = .ok (.invokestatic 200, 3) := by decide +kernel
theorem dX8_holds_4 : decode cX8_holds 4 = .ok (.ifCond .eq 12, 3) := by decide +kernel
theorem dX8_holds_7 : decode cX8_holds 7 = .ok (.aload_n 0, 1) := by decide +kernel
theorem dX8_holds_8 : decode cX8_holds 8 = .ok (.getfield 33, 3) := by decide +kernel
theorem dX8_holds_11 : decode cX8_holds 11 = .ok (.iload_n 1, 1) := by decide +kernel
theorem dX8_holds_12 : decode cX8_holds 12 = .ok (.iaload, 1) := by decide +kernel
theorem dX8_holds_13 : decode cX8_holds 13 = .ok (.goto 4, 3) := by decide +kernel
theorem dX8_holds_16 : decode cX8_holds 16 = .ok (.iconst (-1), 1) := by decide +kernel
theorem dX8_holds_17 : decode cX8_holds 17 = .ok (.ireturn, 1) := by decide +kernel
theorem dX8_show_0 : decode cX8_show 0 = .ok (.iload_n 1, 1) := by decide +kernel
theorem dX8_show_1 : decode cX8_show 1 = .ok (.invokestatic 200, 3) := by decide +kernel
theorem dX8_show_4 : decode cX8_show 4 = .ok (.ifCond .eq 17, 3) := by decide +kernel
theorem dX8_show_7 : decode cX8_show 7 = .ok (.iload_n 2, 1) := by decide +kernel
theorem dX8_show_8 : decode cX8_show 8 = .ok (.iconst (-1), 1) := by decide +kernel
theorem dX8_show_9 : decode cX8_show 9 = .ok (.if_icmp .eq 19, 3) := by decide +kernel
theorem dX8_show_12 : decode cX8_show 12 = .ok (.aload_n 0, 1) := by decide +kernel
theorem dX8_show_13 : decode cX8_show 13 = .ok (.iload_n 2, 1) := by decide +kernel
theorem dX8_show_14 : decode cX8_show 14 = .ok (.i2l, 1) := by decide +kernel
theorem dX8_show_15 : decode cX8_show 15 = .ok (.invokevirtual 76, 3) := by decide +kernel
theorem dX8_show_18 : decode cX8_show 18 = .ok (.ifCond .ne 10, 3) := by decide +kernel
theorem dX8_show_21 : decode cX8_show 21 = .ok (.aload_n 0, 1) := by decide +kernel
theorem dX8_show_22 : decode cX8_show 22 = .ok (.bipush (-2), 2) := by decide +kernel
theorem dX8_show_24 : decode cX8_show 24 = .ok (.invokevirtual 90, 3) := by decide +kernel
theorem dX8_show_27 : decode cX8_show 27 = .ok (.ireturn, 1) := by decide +kernel
theorem dX8_show_28 : decode cX8_show 28 = .ok (.aload_n 0, 1) := by decide +kernel
theorem dX8_show_29 : decode cX8_show 29 = .ok (.getfield 33, 3) := by decide +kernel
theorem dX8_show_32 : decode cX8_show 32 = .ok (.iload_n 1, 1) := by decide +kernel
theorem dX8_show_33 : decode cX8_show 33 = .ok (.iload_n 2, 1) := by decide +kernel
theorem dX8_show_34 : decode cX8_show 34 = .ok (.iconst (-1), 1) := by decide +kernel
theorem dX8_show_35 : decode cX8_show 35 = .ok (.if_icmp .ne 7, 3) := by decide +kernel
theorem dX8_show_38 : decode cX8_show 38 = .ok (.iconst (-1), 1) := by decide +kernel
theorem dX8_show_39 : decode cX8_show 39 = .ok (.goto 7, 3) := by decide +kernel
theorem dX8_show_42 : decode cX8_show 42 = .ok (.bipush 10, 2) := by decide +kernel
theorem dX8_show_44 : decode cX8_show 44 = .ok (.iload_n 2, 1) := by decide +kernel
theorem dX8_show_45 : decode cX8_show 45 = .ok (.iadd, 1) := by decide +kernel
theorem dX8_show_46 : decode cX8_show 46 = .ok (.iastore, 1) := by decide +kernel
theorem dX8_show_47 : decode cX8_show 47 = .ok (.iconst 1, 1) := by decide +kernel
theorem dX8_show_48 : decode cX8_show 48 = .ok (.ireturn, 1) := by decide +kernel
theorem dX8_says_0 : decode cX8_says 0 = .ok (.iload_n 1, 1) := by decide +kernel
theorem dX8_says_1 : decode cX8_says 1 = .ok (.invokestatic 200, 3) := by decide +kernel
theorem dX8_says_4 : decode cX8_says 4 = .ok (.ifCond .eq 15, 3) := by decide +kernel
theorem dX8_says_7 : decode cX8_says 7 = .ok (.iload_n 2, 1) := by decide +kernel
theorem dX8_says_8 : decode cX8_says 8 = .ok (.i2l, 1) := by decide +kernel
theorem dX8_says_9 : decode cX8_says 9 = .ok (.lconst 0, 1) := by decide +kernel
theorem dX8_says_10 : decode cX8_says 10 = .ok (.ldc2_w 84, 3) := by decide +kernel
theorem dX8_says_13 : decode cX8_says 13 = .ok (.invokestatic 68, 3) := by decide +kernel
theorem dX8_says_16 : decode cX8_says 16 = .ok (.ifCond .ne 10, 3) := by decide +kernel
theorem dX8_says_19 : decode cX8_says 19 = .ok (.aload_n 0, 1) := by decide +kernel
theorem dX8_says_20 : decode cX8_says 20 = .ok (.bipush (-2), 2) := by decide +kernel
theorem dX8_says_22 : decode cX8_says 22 = .ok (.invokevirtual 90, 3) := by decide +kernel
theorem dX8_says_25 : decode cX8_says 25 = .ok (.ireturn, 1) := by decide +kernel
theorem dX8_says_26 : decode cX8_says 26 = .ok (.aload_n 0, 1) := by decide +kernel
theorem dX8_says_27 : decode cX8_says 27 = .ok (.getfield 33, 3) := by decide +kernel
theorem dX8_says_30 : decode cX8_says 30 = .ok (.iload_n 1, 1) := by decide +kernel
theorem dX8_says_31 : decode cX8_says 31 = .ok (.iaload, 1) := by decide +kernel
theorem dX8_says_32 : decode cX8_says 32 = .ok (.iconst (-1), 1) := by decide +kernel
theorem dX8_says_33 : decode cX8_says 33 = .ok (.if_icmp .ne 10, 3) := by decide +kernel
theorem dX8_says_36 : decode cX8_says 36 = .ok (.aload_n 0, 1) := by decide +kernel
theorem dX8_says_37 : decode cX8_says 37 = .ok (.bipush (-4), 2) := by decide +kernel
theorem dX8_says_39 : decode cX8_says 39 = .ok (.invokevirtual 90, 3) := by decide +kernel
theorem dX8_says_42 : decode cX8_says 42 = .ok (.ireturn, 1) := by decide +kernel
theorem dX8_says_43 : decode cX8_says 43 = .ok (.aload_n 0, 1) := by decide +kernel
theorem dX8_says_44 : decode cX8_says 44 = .ok (.getfield 33, 3) := by decide +kernel
theorem dX8_says_47 : decode cX8_says 47 = .ok (.iload_n 1, 1) := by decide +kernel
theorem dX8_says_48 : decode cX8_says 48 = .ok (.iaload, 1) := by decide +kernel
theorem dX8_says_49 : decode cX8_says 49 = .ok (.bipush 10, 2) := by decide +kernel
theorem dX8_says_51 : decode cX8_says 51 = .ok (.isub, 1) := by decide +kernel
theorem dX8_says_52 : decode cX8_says 52 = .ok (.istore_n 3, 1) := by decide +kernel
theorem dX8_says_53 : decode cX8_says 53 = .ok (.iload_n 3, 1) := by decide +kernel
theorem dX8_says_54 : decode cX8_says 54 = .ok (.ifCond .ge 7, 3) := by decide +kernel
theorem dX8_says_57 : decode cX8_says 57 = .ok (.iconst (-1), 1) := by decide +kernel
theorem dX8_says_58 : decode cX8_says 58 = .ok (.goto 8, 3) := by decide +kernel
theorem dX8_says_61 : decode cX8_says 61 = .ok (.aload_n 0, 1) := by decide +kernel
theorem dX8_says_62 : decode cX8_says 62 = .ok (.iload_n 3, 1) := by decide +kernel
theorem dX8_says_63 : decode cX8_says 63 = .ok (.invokevirtual 153, 3) := by decide +kernel
theorem dX8_says_66 : decode cX8_says 66 = .ok (.istore 4, 2) := by decide +kernel
theorem dX8_says_68 : decode cX8_says 68 = .ok (.iload 4, 2) := by decide +kernel
theorem dX8_says_70 : decode cX8_says 70 = .ok (.iconst (-1), 1) := by decide +kernel
theorem dX8_says_71 : decode cX8_says 71 = .ok (.if_icmp .eq 21, 3) := by decide +kernel
theorem dX8_says_74 : decode cX8_says 74 = .ok (.iload 4, 2) := by decide +kernel
theorem dX8_says_76 : decode cX8_says 76 = .ok (.iload_n 2, 1) := by decide +kernel
theorem dX8_says_77 : decode cX8_says 77 = .ok (.if_icmp .eq 15, 3) := by decide +kernel
theorem dX8_says_80 : decode cX8_says 80 = .ok (.aload_n 0, 1) := by decide +kernel
theorem dX8_says_81 : decode cX8_says 81 = .ok (.getfield 46, 3) := by decide +kernel
theorem dX8_says_84 : decode cX8_says 84 = .ok (.iload 4, 2) := by decide +kernel
theorem dX8_says_86 : decode cX8_says 86 = .ok (.iaload, 1) := by decide +kernel
theorem dX8_says_87 : decode cX8_says 87 = .ok (.istore 4, 2) := by decide +kernel
theorem dX8_says_89 : decode cX8_says 89 = .ok (.goto (-21), 3) := by decide +kernel
theorem dX8_says_92 : decode cX8_says 92 = .ok (.iload 4, 2) := by decide +kernel
theorem dX8_says_94 : decode cX8_says 94 = .ok (.iconst (-1), 1) := by decide +kernel
theorem dX8_says_95 : decode cX8_says 95 = .ok (.if_icmp .ne 12, 3) := by decide +kernel
theorem dX8_says_98 : decode cX8_says 98 = .ok (.aload_n 0, 1) := by decide +kernel
theorem dX8_says_99 : decode cX8_says 99 = .ok (.bipush (-3), 2) := by decide +kernel
theorem dX8_says_101 : decode cX8_says 101 = .ok (.invokevirtual 90, 3) := by decide +kernel
theorem dX8_says_104 : decode cX8_says 104 = .ok (.goto 33, 3) := by decide +kernel
theorem dX8_says_107 : decode cX8_says 107 = .ok (.iload_n 2, 1) := by decide +kernel
theorem dX8_says_108 : decode cX8_says 108 = .ok (.ifCond .ne 11, 3) := by decide +kernel
theorem dX8_says_111 : decode cX8_says 111 = .ok (.aload_n 0, 1) := by decide +kernel
theorem dX8_says_112 : decode cX8_says 112 = .ok (.iload_n 3, 1) := by decide +kernel
theorem dX8_says_113 : decode cX8_says 113 = .ok (.invokevirtual 98, 3) := by decide +kernel
theorem dX8_says_116 : decode cX8_says 116 = .ok (.goto 21, 3) := by decide +kernel
theorem dX8_says_119 : decode cX8_says 119 = .ok (.aload_n 0, 1) := by decide +kernel
theorem dX8_says_120 : decode cX8_says 120 = .ok (.getfield 17, 3) := by decide +kernel
theorem dX8_says_123 : decode cX8_says 123 = .ok (.bipush 33, 2) := by decide +kernel
theorem dX8_says_125 : decode cX8_says 125 = .ok (.iaload, 1) := by decide +kernel
theorem dX8_says_126 : decode cX8_says 126 = .ok (.aload_n 0, 1) := by decide +kernel
theorem dX8_says_127 : decode cX8_says 127 = .ok (.iload_n 3, 1) := by decide +kernel
theorem dX8_says_128 : decode cX8_says 128 = .ok (.invokevirtual 170, 3) := by decide +kernel
theorem dX8_says_131 : decode cX8_says 131 = .ok (.isub, 1) := by decide +kernel
theorem dX8_says_132 : decode cX8_says 132 = .ok (.bipush 99, 2) := by decide +kernel
theorem dX8_says_134 : decode cX8_says 134 = .ok (.invokestatic 173, 3) := by decide +kernel
theorem dX8_says_137 : decode cX8_says 137 = .ok (.ireturn, 1) := by decide +kernel
theorem dX8_told_0 : decode cX8_told 0 = .ok (.aload_n 0, 1) := by decide +kernel
theorem dX8_told_1 : decode cX8_told 1 = .ok (.getfield 39, 3) := by decide +kernel
theorem dX8_told_4 : decode cX8_told 4 = .ok (.bipush 40, 2) := by decide +kernel
theorem dX8_told_6 : decode cX8_told 6 = .ok (.iload_n 1, 1) := by decide +kernel
theorem dX8_told_7 : decode cX8_told 7 = .ok (.imul, 1) := by decide +kernel
theorem dX8_told_8 : decode cX8_told 8 = .ok (.iload_n 2, 1) := by decide +kernel
theorem dX8_told_9 : decode cX8_told 9 = .ok (.iadd, 1) := by decide +kernel
theorem dX8_told_10 : decode cX8_told 10 = .ok (.laload, 1) := by decide +kernel
theorem dX8_told_11 : decode cX8_told 11 = .ok (.lreturn, 1) := by decide +kernel
theorem dX8_rows_0 : decode cX8_rows 0 = .ok (.iload_n 2, 1) := by decide +kernel
theorem dX8_rows_1 : decode cX8_rows 1 = .ok (.invokestatic 200, 3) := by decide +kernel
theorem dX8_rows_4 : decode cX8_rows 4 = .ok (.ifCond .eq 19, 3) := by decide +kernel
theorem dX8_rows_7 : decode cX8_rows 7 = .ok (.iload_n 3, 1) := by decide +kernel
theorem dX8_rows_8 : decode cX8_rows 8 = .ok (.i2l, 1) := by decide +kernel
theorem dX8_rows_9 : decode cX8_rows 9 = .ok (.lconst 0, 1) := by decide +kernel
theorem dX8_rows_10 : decode cX8_rows 10 = .ok (.ldc2_w 88, 3) := by decide +kernel
theorem dX8_rows_13 : decode cX8_rows 13 = .ok (.invokestatic 68, 3) := by decide +kernel
theorem dX8_rows_16 : decode cX8_rows 16 = .ok (.ifCond .eq 7, 3) := by decide +kernel
theorem dX8_rows_19 : decode cX8_rows 19 = .ok (.iload_n 1, 1) := by decide +kernel
theorem dX8_rows_20 : decode cX8_rows 20 = .ok (.ifCond .ne 8, 3) := by decide +kernel
theorem dX8_rows_23 : decode cX8_rows 23 = .ok (.bipush (-2), 2) := by decide +kernel
theorem dX8_rows_25 : decode cX8_rows 25 = .ok (.goto 35, 3) := by decide +kernel
theorem dX8_rows_28 : decode cX8_rows 28 = .ok (.aload_n 0, 1) := by decide +kernel
theorem dX8_rows_29 : decode cX8_rows 29 = .ok (.iload_n 2, 1) := by decide +kernel
theorem dX8_rows_30 : decode cX8_rows 30 = .ok (.invokevirtual 203, 3) := by decide +kernel
theorem dX8_rows_33 : decode cX8_rows 33 = .ok (.ifCond .ge 11, 3) := by decide +kernel
theorem dX8_rows_36 : decode cX8_rows 36 = .ok (.aload_n 0, 1) := by decide +kernel
theorem dX8_rows_37 : decode cX8_rows 37 = .ok (.iload_n 2, 1) := by decide +kernel
theorem dX8_rows_38 : decode cX8_rows 38 = .ok (.invokevirtual 203, 3) := by decide +kernel
theorem dX8_rows_41 : decode cX8_rows 41 = .ok (.goto 19, 3) := by decide +kernel
theorem dX8_rows_44 : decode cX8_rows 44 = .ok (.iload_n 3, 1) := by decide +kernel
theorem dX8_rows_45 : decode cX8_rows 45 = .ok (.aload_n 0, 1) := by decide +kernel
theorem dX8_rows_46 : decode cX8_rows 46 = .ok (.getfield 36, 3) := by decide +kernel
theorem dX8_rows_49 : decode cX8_rows 49 = .ok (.iload_n 2, 1) := by decide +kernel
theorem dX8_rows_50 : decode cX8_rows 50 = .ok (.iaload, 1) := by decide +kernel
theorem dX8_rows_51 : decode cX8_rows 51 = .ok (.if_icmp .le 8, 3) := by decide +kernel
theorem dX8_rows_54 : decode cX8_rows 54 = .ok (.bipush (-2), 2) := by decide +kernel
theorem dX8_rows_56 : decode cX8_rows 56 = .ok (.goto 4, 3) := by decide +kernel
theorem dX8_rows_59 : decode cX8_rows 59 = .ok (.iconst 1, 1) := by decide +kernel
theorem dX8_rows_60 : decode cX8_rows 60 = .ok (.ireturn, 1) := by decide +kernel
theorem dX8_wrong_0 : decode cX8_wrong 0 = .ok (.iconst 0, 1) := by decide +kernel
theorem dX8_wrong_1 : decode cX8_wrong 1 = .ok (.istore_n 3, 1) := by decide +kernel
theorem dX8_wrong_2 : decode cX8_wrong 2 = .ok (.iload_n 3, 1) := by decide +kernel
theorem dX8_wrong_3 : decode cX8_wrong 3 = .ok (.iload_n 2, 1) := by decide +kernel
theorem dX8_wrong_4 : decode cX8_wrong 4 = .ok (.if_icmp .ge 37, 3) := by decide +kernel
theorem dX8_wrong_7 : decode cX8_wrong 7 = .ok (.aload_n 0, 1) := by decide +kernel
theorem dX8_wrong_8 : decode cX8_wrong 8 = .ok (.aload_n 0, 1) := by decide +kernel
theorem dX8_wrong_9 : decode cX8_wrong 9 = .ok (.iload_n 1, 1) := by decide +kernel
theorem dX8_wrong_10 : decode cX8_wrong 10 = .ok (.iload_n 3, 1) := by decide +kernel
theorem dX8_wrong_11 : decode cX8_wrong 11 = .ok (.invokevirtual 206, 3) := by decide +kernel
theorem dX8_wrong_14 : decode cX8_wrong 14 = .ok (.invokevirtual 184, 3) := by decide +kernel
theorem dX8_wrong_17 : decode cX8_wrong 17 = .ok (.ifCond .ne 5, 3) := by decide +kernel
theorem dX8_wrong_20 : decode cX8_wrong 20 = .ok (.iload_n 3, 1) := by decide +kernel
theorem dX8_wrong_21 : decode cX8_wrong 21 = .ok (.ireturn, 1) := by decide +kernel
theorem dX8_wrong_22 : decode cX8_wrong 22 = .ok (.aload_n 0, 1) := by decide +kernel
theorem dX8_wrong_23 : decode cX8_wrong 23 = .ok (.getfield 49, 3) := by decide +kernel
theorem dX8_wrong_26 : decode cX8_wrong 26 = .ok (.iload_n 3, 1) := by decide +kernel
theorem dX8_wrong_27 : decode cX8_wrong 27 = .ok (.aload_n 0, 1) := by decide +kernel
theorem dX8_wrong_28 : decode cX8_wrong 28 = .ok (.iload_n 1, 1) := by decide +kernel
theorem dX8_wrong_29 : decode cX8_wrong 29 = .ok (.iload_n 3, 1) := by decide +kernel
theorem dX8_wrong_30 : decode cX8_wrong 30 = .ok (.invokevirtual 206, 3) := by decide +kernel
theorem dX8_wrong_33 : decode cX8_wrong 33 = .ok (.l2i, 1) := by decide +kernel
theorem dX8_wrong_34 : decode cX8_wrong 34 = .ok (.iastore, 1) := by decide +kernel
theorem dX8_wrong_35 : decode cX8_wrong 35 = .ok (.iinc 3 1, 3) := by decide +kernel
theorem dX8_wrong_38 : decode cX8_wrong 38 = .ok (.goto (-36), 3) := by decide +kernel
theorem dX8_wrong_41 : decode cX8_wrong 41 = .ok (.iconst (-1), 1) := by decide +kernel
theorem dX8_wrong_42 : decode cX8_wrong 42 = .ok (.ireturn, 1) := by decide +kernel
theorem dX8_load_0 : decode cX8_load 0 = .ok (.aload_n 0, 1) := by decide +kernel
theorem dX8_load_1 : decode cX8_load 1 = .ok (.iload_n 1, 1) := by decide +kernel
theorem dX8_load_2 : decode cX8_load 2 = .ok (.iload_n 2, 1) := by decide +kernel
theorem dX8_load_3 : decode cX8_load 3 = .ok (.iload_n 3, 1) := by decide +kernel
theorem dX8_load_4 : decode cX8_load 4 = .ok (.invokevirtual 210, 3) := by decide +kernel
theorem dX8_load_7 : decode cX8_load 7 = .ok (.istore 4, 2) := by decide +kernel
theorem dX8_load_9 : decode cX8_load 9 = .ok (.iload 4, 2) := by decide +kernel
theorem dX8_load_11 : decode cX8_load 11 = .ok (.iconst 1, 1) := by decide +kernel
theorem dX8_load_12 : decode cX8_load 12 = .ok (.if_icmp .ne 18, 3) := by decide +kernel
theorem dX8_load_15 : decode cX8_load 15 = .ok (.aload_n 0, 1) := by decide +kernel
theorem dX8_load_16 : decode cX8_load 16 = .ok (.iload_n 2, 1) := by decide +kernel
theorem dX8_load_17 : decode cX8_load 17 = .ok (.iload_n 3, 1) := by decide +kernel
theorem dX8_load_18 : decode cX8_load 18 = .ok (.invokevirtual 214, 3) := by decide +kernel
theorem dX8_load_21 : decode cX8_load 21 = .ok (.iconst (-1), 1) := by decide +kernel
theorem dX8_load_22 : decode cX8_load 22 = .ok (.if_icmp .eq 8, 3) := by decide +kernel
theorem dX8_load_25 : decode cX8_load 25 = .ok (.bipush (-5), 2) := by decide +kernel
theorem dX8_load_27 : decode cX8_load 27 = .ok (.goto 5, 3) := by decide +kernel
theorem dX8_load_30 : decode cX8_load 30 = .ok (.iload 4, 2) := by decide +kernel
theorem dX8_load_32 : decode cX8_load 32 = .ok (.ireturn, 1) := by decide +kernel
theorem dX8_go_0 : decode cX8_go 0 = .ok (.iconst 0, 1) := by decide +kernel
theorem dX8_go_1 : decode cX8_go 1 = .ok (.istore_n 2, 1) := by decide +kernel
theorem dX8_go_2 : decode cX8_go 2 = .ok (.aload_n 0, 1) := by decide +kernel
theorem dX8_go_3 : decode cX8_go 3 = .ok (.iconst 0, 1) := by decide +kernel
theorem dX8_go_4 : decode cX8_go 4 = .ok (.putfield 217, 3) := by decide +kernel
theorem dX8_go_7 : decode cX8_go 7 = .ok (.aload_n 0, 1) := by decide +kernel
theorem dX8_go_8 : decode cX8_go 8 = .ok (.iconst (-1), 1) := by decide +kernel
theorem dX8_go_9 : decode cX8_go 9 = .ok (.putfield 220, 3) := by decide +kernel
theorem dX8_go_12 : decode cX8_go 12 = .ok (.iconst 0, 1) := by decide +kernel
theorem dX8_go_13 : decode cX8_go 13 = .ok (.istore_n 3, 1) := by decide +kernel
theorem dX8_go_14 : decode cX8_go 14 = .ok (.iload_n 3, 1) := by decide +kernel
theorem dX8_go_15 : decode cX8_go 15 = .ok (.iload_n 1, 1) := by decide +kernel
theorem dX8_go_16 : decode cX8_go 16 = .ok (.if_icmp .ge 70, 3) := by decide +kernel
theorem dX8_go_19 : decode cX8_go 19 = .ok (.iload_n 2, 1) := by decide +kernel
theorem dX8_go_20 : decode cX8_go 20 = .ok (.aload_n 0, 1) := by decide +kernel
theorem dX8_go_21 : decode cX8_go 21 = .ok (.aload_n 0, 1) := by decide +kernel
theorem dX8_go_22 : decode cX8_go 22 = .ok (.getfield 49, 3) := by decide +kernel
theorem dX8_go_25 : decode cX8_go 25 = .ok (.iload_n 3, 1) := by decide +kernel
theorem dX8_go_26 : decode cX8_go 26 = .ok (.iaload, 1) := by decide +kernel
theorem dX8_go_27 : decode cX8_go 27 = .ok (.invokevirtual 181, 3) := by decide +kernel
theorem dX8_go_30 : decode cX8_go 30 = .ok (.iadd, 1) := by decide +kernel
theorem dX8_go_31 : decode cX8_go 31 = .ok (.istore_n 2, 1) := by decide +kernel
theorem dX8_go_32 : decode cX8_go 32 = .ok (.aload_n 0, 1) := by decide +kernel
theorem dX8_go_33 : decode cX8_go 33 = .ok (.dup, 1) := by decide +kernel
theorem dX8_go_34 : decode cX8_go 34 = .ok (.getfield 217, 3) := by decide +kernel
theorem dX8_go_37 : decode cX8_go 37 = .ok (.aload_n 0, 1) := by decide +kernel
theorem dX8_go_38 : decode cX8_go 38 = .ok (.getfield 162, 3) := by decide +kernel
theorem dX8_go_41 : decode cX8_go 41 = .ok (.ifCond .eq 7, 3) := by decide +kernel
theorem dX8_go_44 : decode cX8_go 44 = .ok (.iconst 1, 1) := by decide +kernel
theorem dX8_go_45 : decode cX8_go 45 = .ok (.goto 4, 3) := by decide +kernel
theorem dX8_go_48 : decode cX8_go 48 = .ok (.iconst 0, 1) := by decide +kernel
theorem dX8_go_49 : decode cX8_go 49 = .ok (.iadd, 1) := by decide +kernel
theorem dX8_go_50 : decode cX8_go 50 = .ok (.putfield 217, 3) := by decide +kernel
theorem dX8_go_53 : decode cX8_go 53 = .ok (.aload_n 0, 1) := by decide +kernel
theorem dX8_go_54 : decode cX8_go 54 = .ok (.aload_n 0, 1) := by decide +kernel
theorem dX8_go_55 : decode cX8_go 55 = .ok (.getfield 162, 3) := by decide +kernel
theorem dX8_go_58 : decode cX8_go 58 = .ok (.ifCond .eq 15, 3) := by decide +kernel
theorem dX8_go_61 : decode cX8_go 61 = .ok (.aload_n 0, 1) := by decide +kernel
theorem dX8_go_62 : decode cX8_go 62 = .ok (.getfield 220, 3) := by decide +kernel
theorem dX8_go_65 : decode cX8_go 65 = .ok (.iconst (-1), 1) := by decide +kernel
theorem dX8_go_66 : decode cX8_go 66 = .ok (.if_icmp .ne 7, 3) := by decide +kernel
theorem dX8_go_69 : decode cX8_go 69 = .ok (.iload_n 3, 1) := by decide +kernel
theorem dX8_go_70 : decode cX8_go 70 = .ok (.goto 7, 3) := by decide +kernel
theorem dX8_go_73 : decode cX8_go 73 = .ok (.aload_n 0, 1) := by decide +kernel
theorem dX8_go_74 : decode cX8_go 74 = .ok (.getfield 220, 3) := by decide +kernel
theorem dX8_go_77 : decode cX8_go 77 = .ok (.putfield 220, 3) := by decide +kernel
theorem dX8_go_80 : decode cX8_go 80 = .ok (.iinc 3 1, 3) := by decide +kernel
theorem dX8_go_83 : decode cX8_go 83 = .ok (.goto (-69), 3) := by decide +kernel
theorem dX8_go_86 : decode cX8_go 86 = .ok (.iload_n 2, 1) := by decide +kernel
theorem dX8_go_87 : decode cX8_go 87 = .ok (.ireturn, 1) := by decide +kernel
theorem dX8_behind_0 : decode cX8_behind 0 = .ok (.aload_n 0, 1) := by decide +kernel
theorem dX8_behind_1 : decode cX8_behind 1 = .ok (.iload_n 3, 1) := by decide +kernel
theorem dX8_behind_2 : decode cX8_behind 2 = .ok (.i2l, 1) := by decide +kernel
theorem dX8_behind_3 : decode cX8_behind 3 = .ok (.lconst 0, 1) := by decide +kernel
theorem dX8_behind_4 : decode cX8_behind 4 = .ok (.ldc2_w 101, 3) := by decide +kernel
theorem dX8_behind_7 : decode cX8_behind 7 = .ok (.invokestatic 68, 3) := by decide +kernel
theorem dX8_behind_10 : decode cX8_behind 10 = .ok (.iload_n 1, 1) := by decide +kernel
theorem dX8_behind_11 : decode cX8_behind 11 = .ok (.iload_n 2, 1) := by decide +kernel
theorem dX8_behind_12 : decode cX8_behind 12 = .ok (.invokevirtual 223, 3) := by decide +kernel
theorem dX8_behind_15 : decode cX8_behind 15 = .ok (.istore 4, 2) := by decide +kernel
theorem dX8_behind_17 : decode cX8_behind 17 = .ok (.iload 4, 2) := by decide +kernel
theorem dX8_behind_19 : decode cX8_behind 19 = .ok (.ifCond .ge 10, 3) := by decide +kernel
theorem dX8_behind_22 : decode cX8_behind 22 = .ok (.aload_n 0, 1) := by decide +kernel
theorem dX8_behind_23 : decode cX8_behind 23 = .ok (.iload 4, 2) := by decide +kernel
theorem dX8_behind_25 : decode cX8_behind 25 = .ok (.invokevirtual 90, 3) := by decide +kernel
theorem dX8_behind_28 : decode cX8_behind 28 = .ok (.ireturn, 1) := by decide +kernel
theorem dX8_behind_29 : decode cX8_behind 29 = .ok (.aload_n 0, 1) := by decide +kernel
theorem dX8_behind_30 : decode cX8_behind 30 = .ok (.iconst 0, 1) := by decide +kernel
theorem dX8_behind_31 : decode cX8_behind 31 = .ok (.invokevirtual 142, 3) := by decide +kernel
theorem dX8_behind_34 : decode cX8_behind 34 = .ok (.aload_n 0, 1) := by decide +kernel
theorem dX8_behind_35 : decode cX8_behind 35 = .ok (.iload_n 2, 1) := by decide +kernel
theorem dX8_behind_36 : decode cX8_behind 36 = .ok (.invokevirtual 226, 3) := by decide +kernel
theorem dX8_behind_39 : decode cX8_behind 39 = .ok (.istore 5, 2) := by decide +kernel
theorem dX8_behind_41 : decode cX8_behind 41 = .ok (.iload_n 3, 1) := by decide +kernel
theorem dX8_behind_42 : decode cX8_behind 42 = .ok (.iconst 3, 1) := by decide +kernel
theorem dX8_behind_43 : decode cX8_behind 43 = .ok (.if_icmp .ge 15, 3) := by decide +kernel
theorem dX8_behind_46 : decode cX8_behind 46 = .ok (.aload_n 0, 1) := by decide +kernel
theorem dX8_behind_47 : decode cX8_behind 47 = .ok (.getfield 17, 3) := by decide +kernel
theorem dX8_behind_50 : decode cX8_behind 50 = .ok (.bipush 33, 2) := by decide +kernel
theorem dX8_behind_52 : decode cX8_behind 52 = .ok (.iload_n 3, 1) := by decide +kernel
theorem dX8_behind_53 : decode cX8_behind 53 = .ok (.iadd, 1) := by decide +kernel
theorem dX8_behind_54 : decode cX8_behind 54 = .ok (.iaload, 1) := by decide +kernel
theorem dX8_behind_55 : decode cX8_behind 55 = .ok (.goto 17, 3) := by decide +kernel
theorem dX8_behind_58 : decode cX8_behind 58 = .ok (.iload_n 3, 1) := by decide +kernel
theorem dX8_behind_59 : decode cX8_behind 59 = .ok (.iconst 3, 1) := by decide +kernel
theorem dX8_behind_60 : decode cX8_behind 60 = .ok (.if_icmp .ne 8, 3) := by decide +kernel
theorem dX8_behind_63 : decode cX8_behind 63 = .ok (.iload 5, 2) := by decide +kernel
theorem dX8_behind_65 : decode cX8_behind 65 = .ok (.goto 7, 3) := by decide +kernel
theorem dX8_behind_68 : decode cX8_behind 68 = .ok (.aload_n 0, 1) := by decide +kernel
theorem dX8_behind_69 : decode cX8_behind 69 = .ok (.getfield 217, 3) := by decide +kernel
theorem dX8_behind_72 : decode cX8_behind 72 = .ok (.istore 6, 2) := by decide +kernel
theorem dX8_behind_74 : decode cX8_behind 74 = .ok (.aload_n 0, 1) := by decide +kernel
theorem dX8_behind_75 : decode cX8_behind 75 = .ok (.iconst 0, 1) := by decide +kernel
theorem dX8_behind_76 : decode cX8_behind 76 = .ok (.invokevirtual 150, 3) := by decide +kernel
theorem dX8_behind_79 : decode cX8_behind 79 = .ok (.iload 6, 2) := by decide +kernel
theorem dX8_behind_81 : decode cX8_behind 81 = .ok (.ireturn, 1) := by decide +kernel
theorem dX8_unkept_0 : decode cX8_unkept 0 = .ok (.aload_n 0, 1) := by decide +kernel
theorem dX8_unkept_1 : decode cX8_unkept 1 = .ok (.iconst 1, 1) := by decide +kernel
theorem dX8_unkept_2 : decode cX8_unkept 2 = .ok (.iload_n 1, 1) := by decide +kernel
theorem dX8_unkept_3 : decode cX8_unkept 3 = .ok (.iload_n 2, 1) := by decide +kernel
theorem dX8_unkept_4 : decode cX8_unkept 4 = .ok (.invokevirtual 223, 3) := by decide +kernel
theorem dX8_unkept_7 : decode cX8_unkept 7 = .ok (.istore_n 3, 1) := by decide +kernel
theorem dX8_unkept_8 : decode cX8_unkept 8 = .ok (.iload_n 3, 1) := by decide +kernel
theorem dX8_unkept_9 : decode cX8_unkept 9 = .ok (.ifCond .ge 9, 3) := by decide +kernel
theorem dX8_unkept_12 : decode cX8_unkept 12 = .ok (.aload_n 0, 1) := by decide +kernel
theorem dX8_unkept_13 : decode cX8_unkept 13 = .ok (.iload_n 3, 1) := by decide +kernel
theorem dX8_unkept_14 : decode cX8_unkept 14 = .ok (.invokevirtual 90, 3) := by decide +kernel
theorem dX8_unkept_17 : decode cX8_unkept 17 = .ok (.ireturn, 1) := by decide +kernel
theorem dX8_unkept_18 : decode cX8_unkept 18 = .ok (.aload_n 0, 1) := by decide +kernel
theorem dX8_unkept_19 : decode cX8_unkept 19 = .ok (.iconst 0, 1) := by decide +kernel
theorem dX8_unkept_20 : decode cX8_unkept 20 = .ok (.invokevirtual 142, 3) := by decide +kernel
theorem dX8_unkept_23 : decode cX8_unkept 23 = .ok (.aload_n 0, 1) := by decide +kernel
theorem dX8_unkept_24 : decode cX8_unkept 24 = .ok (.iload_n 2, 1) := by decide +kernel
theorem dX8_unkept_25 : decode cX8_unkept 25 = .ok (.invokevirtual 226, 3) := by decide +kernel
theorem dX8_unkept_28 : decode cX8_unkept 28 = .ok (.pop, 1) := by decide +kernel
theorem dX8_unkept_29 : decode cX8_unkept 29 = .ok (.aload_n 0, 1) := by decide +kernel
theorem dX8_unkept_30 : decode cX8_unkept 30 = .ok (.iconst 0, 1) := by decide +kernel
theorem dX8_unkept_31 : decode cX8_unkept 31 = .ok (.invokevirtual 150, 3) := by decide +kernel
theorem dX8_unkept_34 : decode cX8_unkept 34 = .ok (.aload_n 0, 1) := by decide +kernel
theorem dX8_unkept_35 : decode cX8_unkept 35 = .ok (.getfield 220, 3) := by decide +kernel
theorem dX8_unkept_38 : decode cX8_unkept 38 = .ok (.ireturn, 1) := by decide +kernel
theorem dX8_judge_0 : decode cX8_judge 0 = .ok (.aload_n 0, 1) := by decide +kernel
theorem dX8_judge_1 : decode cX8_judge 1 = .ok (.iconst 1, 1) := by decide +kernel
theorem dX8_judge_2 : decode cX8_judge 2 = .ok (.iload_n 1, 1) := by decide +kernel
theorem dX8_judge_3 : decode cX8_judge 3 = .ok (.iload_n 2, 1) := by decide +kernel
theorem dX8_judge_4 : decode cX8_judge 4 = .ok (.invokevirtual 210, 3) := by decide +kernel
theorem dX8_judge_7 : decode cX8_judge 7 = .ok (.istore_n 3, 1) := by decide +kernel
theorem dX8_judge_8 : decode cX8_judge 8 = .ok (.iload_n 3, 1) := by decide +kernel
theorem dX8_judge_9 : decode cX8_judge 9 = .ok (.ifCond .ge 11, 3) := by decide +kernel
theorem dX8_judge_12 : decode cX8_judge 12 = .ok (.aload_n 0, 1) := by decide +kernel
theorem dX8_judge_13 : decode cX8_judge 13 = .ok (.iload_n 3, 1) := by decide +kernel
theorem dX8_judge_14 : decode cX8_judge 14 = .ok (.invokevirtual 90, 3) := by decide +kernel
theorem dX8_judge_17 : decode cX8_judge 17 = .ok (.goto 9, 3) := by decide +kernel
theorem dX8_judge_20 : decode cX8_judge 20 = .ok (.aload_n 0, 1) := by decide +kernel
theorem dX8_judge_21 : decode cX8_judge 21 = .ok (.iload_n 1, 1) := by decide +kernel
theorem dX8_judge_22 : decode cX8_judge 22 = .ok (.iload_n 2, 1) := by decide +kernel
theorem dX8_judge_23 : decode cX8_judge 23 = .ok (.invokevirtual 214, 3) := by decide +kernel
theorem dX8_judge_26 : decode cX8_judge 26 = .ok (.ireturn, 1) := by decide +kernel
theorem dX8_way_0 : decode cX8_way 0 = .ok (.aload_n 0, 1) := by decide +kernel
theorem dX8_way_1 : decode cX8_way 1 = .ok (.iload_n 3, 1) := by decide +kernel
theorem dX8_way_2 : decode cX8_way 2 = .ok (.i2l, 1) := by decide +kernel
theorem dX8_way_3 : decode cX8_way 3 = .ok (.lconst 0, 1) := by decide +kernel
theorem dX8_way_4 : decode cX8_way 4 = .ok (.ldc2_w 190, 3) := by decide +kernel
theorem dX8_way_7 : decode cX8_way 7 = .ok (.invokestatic 68, 3) := by decide +kernel
theorem dX8_way_10 : decode cX8_way 10 = .ok (.iload_n 1, 1) := by decide +kernel
theorem dX8_way_11 : decode cX8_way 11 = .ok (.iload_n 2, 1) := by decide +kernel
theorem dX8_way_12 : decode cX8_way 12 = .ok (.invokevirtual 223, 3) := by decide +kernel
theorem dX8_way_15 : decode cX8_way 15 = .ok (.istore 4, 2) := by decide +kernel
theorem dX8_way_17 : decode cX8_way 17 = .ok (.iload 4, 2) := by decide +kernel
theorem dX8_way_19 : decode cX8_way 19 = .ok (.ifCond .ge 10, 3) := by decide +kernel
theorem dX8_way_22 : decode cX8_way 22 = .ok (.aload_n 0, 1) := by decide +kernel
theorem dX8_way_23 : decode cX8_way 23 = .ok (.iload 4, 2) := by decide +kernel
theorem dX8_way_25 : decode cX8_way 25 = .ok (.invokevirtual 90, 3) := by decide +kernel
theorem dX8_way_28 : decode cX8_way 28 = .ok (.ireturn, 1) := by decide +kernel
theorem dX8_way_29 : decode cX8_way 29 = .ok (.aload_n 0, 1) := by decide +kernel
theorem dX8_way_30 : decode cX8_way 30 = .ok (.iconst 0, 1) := by decide +kernel
theorem dX8_way_31 : decode cX8_way 31 = .ok (.invokevirtual 142, 3) := by decide +kernel
theorem dX8_way_34 : decode cX8_way 34 = .ok (.aload_n 0, 1) := by decide +kernel
theorem dX8_way_35 : decode cX8_way 35 = .ok (.getfield 17, 3) := by decide +kernel
theorem dX8_way_38 : decode cX8_way 38 = .ok (.bipush 33, 2) := by decide +kernel
theorem dX8_way_40 : decode cX8_way 40 = .ok (.iaload, 1) := by decide +kernel
theorem dX8_way_41 : decode cX8_way 41 = .ok (.istore 5, 2) := by decide +kernel
theorem dX8_way_43 : decode cX8_way 43 = .ok (.aload_n 0, 1) := by decide +kernel
theorem dX8_way_44 : decode cX8_way 44 = .ok (.getfield 17, 3) := by decide +kernel
theorem dX8_way_47 : decode cX8_way 47 = .ok (.bipush 34, 2) := by decide +kernel
theorem dX8_way_49 : decode cX8_way 49 = .ok (.iaload, 1) := by decide +kernel
theorem dX8_way_50 : decode cX8_way 50 = .ok (.istore 6, 2) := by decide +kernel
theorem dX8_way_52 : decode cX8_way 52 = .ok (.iconst 0, 1) := by decide +kernel
theorem dX8_way_53 : decode cX8_way 53 = .ok (.istore 7, 2) := by decide +kernel
theorem dX8_way_55 : decode cX8_way 55 = .ok (.iconst 0, 1) := by decide +kernel
theorem dX8_way_56 : decode cX8_way 56 = .ok (.istore 8, 2) := by decide +kernel
theorem dX8_way_58 : decode cX8_way 58 = .ok (.iload 8, 2) := by decide +kernel
theorem dX8_way_60 : decode cX8_way 60 = .ok (.iload_n 2, 1) := by decide +kernel
theorem dX8_way_61 : decode cX8_way 61 = .ok (.if_icmp .ge 72, 3) := by decide +kernel
theorem dX8_way_64 : decode cX8_way 64 = .ok (.aload_n 0, 1) := by decide +kernel
theorem dX8_way_65 : decode cX8_way 65 = .ok (.aload_n 0, 1) := by decide +kernel
theorem dX8_way_66 : decode cX8_way 66 = .ok (.getfield 49, 3) := by decide +kernel
theorem dX8_way_69 : decode cX8_way 69 = .ok (.iload 8, 2) := by decide +kernel
theorem dX8_way_71 : decode cX8_way 71 = .ok (.iaload, 1) := by decide +kernel
theorem dX8_way_72 : decode cX8_way 72 = .ok (.invokevirtual 181, 3) := by decide +kernel
theorem dX8_way_75 : decode cX8_way 75 = .ok (.pop, 1) := by decide +kernel
theorem dX8_way_76 : decode cX8_way 76 = .ok (.aload_n 0, 1) := by decide +kernel
theorem dX8_way_77 : decode cX8_way 77 = .ok (.getfield 17, 3) := by decide +kernel
theorem dX8_way_80 : decode cX8_way 80 = .ok (.bipush 33, 2) := by decide +kernel
theorem dX8_way_82 : decode cX8_way 82 = .ok (.iaload, 1) := by decide +kernel
theorem dX8_way_83 : decode cX8_way 83 = .ok (.iload 5, 2) := by decide +kernel
theorem dX8_way_85 : decode cX8_way 85 = .ok (.if_icmp .le 10, 3) := by decide +kernel
theorem dX8_way_88 : decode cX8_way 88 = .ok (.iload 8, 2) := by decide +kernel
theorem dX8_way_90 : decode cX8_way 90 = .ok (.iconst 1, 1) := by decide +kernel
theorem dX8_way_91 : decode cX8_way 91 = .ok (.iadd, 1) := by decide +kernel
theorem dX8_way_92 : decode cX8_way 92 = .ok (.goto 5, 3) := by decide +kernel
theorem dX8_way_95 : decode cX8_way 95 = .ok (.iload 7, 2) := by decide +kernel
theorem dX8_way_97 : decode cX8_way 97 = .ok (.istore 7, 2) := by decide +kernel
theorem dX8_way_99 : decode cX8_way 99 = .ok (.aload_n 0, 1) := by decide +kernel
theorem dX8_way_100 : decode cX8_way 100 = .ok (.getfield 17, 3) := by decide +kernel
theorem dX8_way_103 : decode cX8_way 103 = .ok (.bipush 33, 2) := by decide +kernel
theorem dX8_way_105 : decode cX8_way 105 = .ok (.iaload, 1) := by decide +kernel
theorem dX8_way_106 : decode cX8_way 106 = .ok (.iload 5, 2) := by decide +kernel
theorem dX8_way_108 : decode cX8_way 108 = .ok (.invokestatic 65, 3) := by decide +kernel
theorem dX8_way_111 : decode cX8_way 111 = .ok (.istore 5, 2) := by decide +kernel
theorem dX8_way_113 : decode cX8_way 113 = .ok (.aload_n 0, 1) := by decide +kernel
theorem dX8_way_114 : decode cX8_way 114 = .ok (.getfield 17, 3) := by decide +kernel
theorem dX8_way_117 : decode cX8_way 117 = .ok (.bipush 34, 2) := by decide +kernel
theorem dX8_way_119 : decode cX8_way 119 = .ok (.iaload, 1) := by decide +kernel
theorem dX8_way_120 : decode cX8_way 120 = .ok (.iload 6, 2) := by decide +kernel
theorem dX8_way_122 : decode cX8_way 122 = .ok (.invokestatic 59, 3) := by decide +kernel
theorem dX8_way_125 : decode cX8_way 125 = .ok (.istore 6, 2) := by decide +kernel
theorem dX8_way_127 : decode cX8_way 127 = .ok (.iinc 8 1, 3) := by decide +kernel
theorem dX8_way_130 : decode cX8_way 130 = .ok (.goto (-72), 3) := by decide +kernel
theorem dX8_way_133 : decode cX8_way 133 = .ok (.aload_n 0, 1) := by decide +kernel
theorem dX8_way_134 : decode cX8_way 134 = .ok (.iconst 0, 1) := by decide +kernel
theorem dX8_way_135 : decode cX8_way 135 = .ok (.invokevirtual 150, 3) := by decide +kernel
theorem dX8_way_138 : decode cX8_way 138 = .ok (.iload_n 3, 1) := by decide +kernel
theorem dX8_way_139 : decode cX8_way 139 = .ok (.ifCond .ne 8, 3) := by decide +kernel
theorem dX8_way_142 : decode cX8_way 142 = .ok (.iload 5, 2) := by decide +kernel
theorem dX8_way_144 : decode cX8_way 144 = .ok (.goto 15, 3) := by decide +kernel
theorem dX8_way_147 : decode cX8_way 147 = .ok (.iload_n 3, 1) := by decide +kernel
theorem dX8_way_148 : decode cX8_way 148 = .ok (.iconst 1, 1) := by decide +kernel
theorem dX8_way_149 : decode cX8_way 149 = .ok (.if_icmp .ne 8, 3) := by decide +kernel
theorem dX8_way_152 : decode cX8_way 152 = .ok (.iload 6, 2) := by decide +kernel
theorem dX8_way_154 : decode cX8_way 154 = .ok (.goto 5, 3) := by decide +kernel
theorem dX8_way_157 : decode cX8_way 157 = .ok (.iload 7, 2) := by decide +kernel
theorem dX8_way_159 : decode cX8_way 159 = .ok (.ireturn, 1) := by decide +kernel
theorem dX8_rageBehind_0 : decode cX8_rageBehind 0 = .ok (.aload_n 0, 1) := by decide +kernel
theorem dX8_rageBehind_1 : decode cX8_rageBehind 1 = .ok (.iconst 0, 1) := by decide +kernel
theorem dX8_rageBehind_2 : decode cX8_rageBehind 2 = .ok (.invokevirtual 142, 3) := by decide +kernel
theorem dX8_rageBehind_5 : decode cX8_rageBehind 5 = .ok (.aload_n 0, 1) := by decide +kernel
theorem dX8_rageBehind_6 : decode cX8_rageBehind 6 = .ok (.iload_n 1, 1) := by decide +kernel
theorem dX8_rageBehind_7 : decode cX8_rageBehind 7 = .ok (.invokevirtual 226, 3) := by decide +kernel
theorem dX8_rageBehind_10 : decode cX8_rageBehind 10 = .ok (.pop, 1) := by decide +kernel
theorem dX8_rageBehind_11 : decode cX8_rageBehind 11 = .ok (.aload_n 0, 1) := by decide +kernel
theorem dX8_rageBehind_12 : decode cX8_rageBehind 12 = .ok (.getfield 17, 3) := by decide +kernel
theorem dX8_rageBehind_15 : decode cX8_rageBehind 15 = .ok (.bipush 33, 2) := by decide +kernel
theorem dX8_rageBehind_17 : decode cX8_rageBehind 17 = .ok (.iaload, 1) := by decide +kernel
theorem dX8_rageBehind_18 : decode cX8_rageBehind 18 = .ok (.istore_n 2, 1) := by decide +kernel
theorem dX8_rageBehind_19 : decode cX8_rageBehind 19 = .ok (.aload_n 0, 1) := by decide +kernel
theorem dX8_rageBehind_20 : decode cX8_rageBehind 20 = .ok (.iconst 0, 1) := by decide +kernel
theorem dX8_rageBehind_21 : decode cX8_rageBehind 21 = .ok (.invokevirtual 150, 3) := by decide +kernel
theorem dX8_rageBehind_24 : decode cX8_rageBehind 24 = .ok (.iload_n 2, 1) := by decide +kernel
theorem dX8_rageBehind_25 : decode cX8_rageBehind 25 = .ok (.ireturn, 1) := by decide +kernel
theorem dX8_matters_0 : decode cX8_matters 0 = .ok (.aload_n 0, 1) := by decide +kernel
theorem dX8_matters_1 : decode cX8_matters 1 = .ok (.iconst 1, 1) := by decide +kernel
theorem dX8_matters_2 : decode cX8_matters 2 = .ok (.iload_n 1, 1) := by decide +kernel
theorem dX8_matters_3 : decode cX8_matters 3 = .ok (.iload_n 2, 1) := by decide +kernel
theorem dX8_matters_4 : decode cX8_matters 4 = .ok (.invokevirtual 223, 3) := by decide +kernel
theorem dX8_matters_7 : decode cX8_matters 7 = .ok (.istore_n 3, 1) := by decide +kernel
theorem dX8_matters_8 : decode cX8_matters 8 = .ok (.iload_n 3, 1) := by decide +kernel
theorem dX8_matters_9 : decode cX8_matters 9 = .ok (.ifCond .lt 7, 3) := by decide +kernel
theorem dX8_matters_12 : decode cX8_matters 12 = .ok (.iload_n 2, 1) := by decide +kernel
theorem dX8_matters_13 : decode cX8_matters 13 = .ok (.ifCond .ne 18, 3) := by decide +kernel
theorem dX8_matters_16 : decode cX8_matters 16 = .ok (.aload_n 0, 1) := by decide +kernel
theorem dX8_matters_17 : decode cX8_matters 17 = .ok (.iload_n 3, 1) := by decide +kernel
theorem dX8_matters_18 : decode cX8_matters 18 = .ok (.ifCond .ge 7, 3) := by decide +kernel
theorem dX8_matters_21 : decode cX8_matters 21 = .ok (.iload_n 3, 1) := by decide +kernel
theorem dX8_matters_22 : decode cX8_matters 22 = .ok (.goto 5, 3) := by decide +kernel
theorem dX8_matters_25 : decode cX8_matters 25 = .ok (.bipush (-5), 2) := by decide +kernel
theorem dX8_matters_27 : decode cX8_matters 27 = .ok (.invokevirtual 90, 3) := by decide +kernel
theorem dX8_matters_30 : decode cX8_matters 30 = .ok (.ireturn, 1) := by decide +kernel
theorem dX8_matters_31 : decode cX8_matters 31 = .ok (.iconst 0, 1) := by decide +kernel
theorem dX8_matters_32 : decode cX8_matters 32 = .ok (.istore 4, 2) := by decide +kernel
theorem dX8_matters_34 : decode cX8_matters 34 = .ok (.iconst (-1), 1) := by decide +kernel
theorem dX8_matters_35 : decode cX8_matters 35 = .ok (.istore 5, 2) := by decide +kernel
theorem dX8_matters_37 : decode cX8_matters 37 = .ok (.iconst 0, 1) := by decide +kernel
theorem dX8_matters_38 : decode cX8_matters 38 = .ok (.istore 6, 2) := by decide +kernel
theorem dX8_matters_40 : decode cX8_matters 40 = .ok (.iload 6, 2) := by decide +kernel
theorem dX8_matters_42 : decode cX8_matters 42 = .ok (.iload_n 2, 1) := by decide +kernel
theorem dX8_matters_43 : decode cX8_matters 43 = .ok (.if_icmp .ge 67, 3) := by decide +kernel
theorem dX8_matters_46 : decode cX8_matters 46 = .ok (.aload_n 0, 1) := by decide +kernel
theorem dX8_matters_47 : decode cX8_matters 47 = .ok (.getfield 49, 3) := by decide +kernel
theorem dX8_matters_50 : decode cX8_matters 50 = .ok (.iload 6, 2) := by decide +kernel
theorem dX8_matters_52 : decode cX8_matters 52 = .ok (.iaload, 1) := by decide +kernel
theorem dX8_matters_53 : decode cX8_matters 53 = .ok (.istore 7, 2) := by decide +kernel
theorem dX8_matters_55 : decode cX8_matters 55 = .ok (.aload_n 0, 1) := by decide +kernel
theorem dX8_matters_56 : decode cX8_matters 56 = .ok (.getfield 49, 3) := by decide +kernel
theorem dX8_matters_59 : decode cX8_matters 59 = .ok (.iload 6, 2) := by decide +kernel
theorem dX8_matters_61 : decode cX8_matters 61 = .ok (.iconst (-1), 1) := by decide +kernel
theorem dX8_matters_62 : decode cX8_matters 62 = .ok (.iastore, 1) := by decide +kernel
theorem dX8_matters_63 : decode cX8_matters 63 = .ok (.aload_n 0, 1) := by decide +kernel
theorem dX8_matters_64 : decode cX8_matters 64 = .ok (.iload_n 2, 1) := by decide +kernel
theorem dX8_matters_65 : decode cX8_matters 65 = .ok (.invokevirtual 229, 3) := by decide +kernel
theorem dX8_matters_68 : decode cX8_matters 68 = .ok (.istore 8, 2) := by decide +kernel
theorem dX8_matters_70 : decode cX8_matters 70 = .ok (.aload_n 0, 1) := by decide +kernel
theorem dX8_matters_71 : decode cX8_matters 71 = .ok (.getfield 49, 3) := by decide +kernel
theorem dX8_matters_74 : decode cX8_matters 74 = .ok (.iload 6, 2) := by decide +kernel
theorem dX8_matters_76 : decode cX8_matters 76 = .ok (.iload 7, 2) := by decide +kernel
theorem dX8_matters_78 : decode cX8_matters 78 = .ok (.iastore, 1) := by decide +kernel
theorem dX8_matters_79 : decode cX8_matters 79 = .ok (.iload 8, 2) := by decide +kernel
theorem dX8_matters_81 : decode cX8_matters 81 = .ok (.iload 5, 2) := by decide +kernel
theorem dX8_matters_83 : decode cX8_matters 83 = .ok (.if_icmp .le 8, 3) := by decide +kernel
theorem dX8_matters_86 : decode cX8_matters 86 = .ok (.iload 6, 2) := by decide +kernel
theorem dX8_matters_88 : decode cX8_matters 88 = .ok (.goto 5, 3) := by decide +kernel
theorem dX8_matters_91 : decode cX8_matters 91 = .ok (.iload 4, 2) := by decide +kernel
theorem dX8_matters_93 : decode cX8_matters 93 = .ok (.istore 4, 2) := by decide +kernel
theorem dX8_matters_95 : decode cX8_matters 95 = .ok (.iload 8, 2) := by decide +kernel
theorem dX8_matters_97 : decode cX8_matters 97 = .ok (.iload 5, 2) := by decide +kernel
theorem dX8_matters_99 : decode cX8_matters 99 = .ok (.invokestatic 65, 3) := by decide +kernel
theorem dX8_matters_102 : decode cX8_matters 102 = .ok (.istore 5, 2) := by decide +kernel
theorem dX8_matters_104 : decode cX8_matters 104 = .ok (.iinc 6 1, 3) := by decide +kernel
theorem dX8_matters_107 : decode cX8_matters 107 = .ok (.goto (-67), 3) := by decide +kernel
theorem dX8_matters_110 : decode cX8_matters 110 = .ok (.iload 4, 2) := by decide +kernel
theorem dX8_matters_112 : decode cX8_matters 112 = .ok (.ireturn, 1) := by decide +kernel
theorem dX8_instead_0 : decode cX8_instead 0 = .ok (.aload_n 0, 1) := by decide +kernel
theorem dX8_instead_1 : decode cX8_instead 1 = .ok (.iload_n 3, 1) := by decide +kernel
theorem dX8_instead_2 : decode cX8_instead 2 = .ok (.i2l, 1) := by decide +kernel
theorem dX8_instead_3 : decode cX8_instead 3 = .ok (.lconst 0, 1) := by decide +kernel
theorem dX8_instead_4 : decode cX8_instead 4 = .ok (.iload_n 2, 1) := by decide +kernel
theorem dX8_instead_5 : decode cX8_instead 5 = .ok (.iconst 1, 1) := by decide +kernel
theorem dX8_instead_6 : decode cX8_instead 6 = .ok (.isub, 1) := by decide +kernel
theorem dX8_instead_7 : decode cX8_instead 7 = .ok (.i2l, 1) := by decide +kernel
theorem dX8_instead_8 : decode cX8_instead 8 = .ok (.invokestatic 68, 3) := by decide +kernel
theorem dX8_instead_11 : decode cX8_instead 11 = .ok (.iload_n 1, 1) := by decide +kernel
theorem dX8_instead_12 : decode cX8_instead 12 = .ok (.iload_n 2, 1) := by decide +kernel
theorem dX8_instead_13 : decode cX8_instead 13 = .ok (.invokevirtual 223, 3) := by decide +kernel
theorem dX8_instead_16 : decode cX8_instead 16 = .ok (.istore 4, 2) := by decide +kernel
theorem dX8_instead_18 : decode cX8_instead 18 = .ok (.iload 4, 2) := by decide +kernel
theorem dX8_instead_20 : decode cX8_instead 20 = .ok (.ifCond .ge 10, 3) := by decide +kernel
theorem dX8_instead_23 : decode cX8_instead 23 = .ok (.aload_n 0, 1) := by decide +kernel
theorem dX8_instead_24 : decode cX8_instead 24 = .ok (.iload 4, 2) := by decide +kernel
theorem dX8_instead_26 : decode cX8_instead 26 = .ok (.invokevirtual 90, 3) := by decide +kernel
theorem dX8_instead_29 : decode cX8_instead 29 = .ok (.ireturn, 1) := by decide +kernel
theorem dX8_instead_30 : decode cX8_instead 30 = .ok (.iconst (-1), 1) := by decide +kernel
theorem dX8_instead_31 : decode cX8_instead 31 = .ok (.istore 5, 2) := by decide +kernel
theorem dX8_instead_33 : decode cX8_instead 33 = .ok (.bipush 100, 2) := by decide +kernel
theorem dX8_instead_35 : decode cX8_instead 35 = .ok (.istore 6, 2) := by decide +kernel
theorem dX8_instead_37 : decode cX8_instead 37 = .ok (.iconst 0, 1) := by decide +kernel
theorem dX8_instead_38 : decode cX8_instead 38 = .ok (.istore 7, 2) := by decide +kernel
theorem dX8_instead_40 : decode cX8_instead 40 = .ok (.iload 7, 2) := by decide +kernel
theorem dX8_instead_42 : decode cX8_instead 42 = .ok (.aload_n 0, 1) := by decide +kernel
theorem dX8_instead_43 : decode cX8_instead 43 = .ok (.invokevirtual 80, 3) := by decide +kernel
theorem dX8_instead_46 : decode cX8_instead 46 = .ok (.iconst 2, 1) := by decide +kernel
theorem dX8_instead_47 : decode cX8_instead 47 = .ok (.iadd, 1) := by decide +kernel
theorem dX8_instead_48 : decode cX8_instead 48 = .ok (.if_icmp .ge 57, 3) := by decide +kernel
theorem dX8_instead_51 : decode cX8_instead 51 = .ok (.aload_n 0, 1) := by decide +kernel
theorem dX8_instead_52 : decode cX8_instead 52 = .ok (.getfield 49, 3) := by decide +kernel
theorem dX8_instead_55 : decode cX8_instead 55 = .ok (.iload_n 3, 1) := by decide +kernel
theorem dX8_instead_56 : decode cX8_instead 56 = .ok (.aload_n 0, 1) := by decide +kernel
theorem dX8_instead_57 : decode cX8_instead 57 = .ok (.iload 7, 2) := by decide +kernel
theorem dX8_instead_59 : decode cX8_instead 59 = .ok (.invokevirtual 195, 3) := by decide +kernel
theorem dX8_instead_62 : decode cX8_instead 62 = .ok (.iastore, 1) := by decide +kernel
theorem dX8_instead_63 : decode cX8_instead 63 = .ok (.aload_n 0, 1) := by decide +kernel
theorem dX8_instead_64 : decode cX8_instead 64 = .ok (.iload_n 2, 1) := by decide +kernel
theorem dX8_instead_65 : decode cX8_instead 65 = .ok (.invokevirtual 229, 3) := by decide +kernel
theorem dX8_instead_68 : decode cX8_instead 68 = .ok (.istore 8, 2) := by decide +kernel
theorem dX8_instead_70 : decode cX8_instead 70 = .ok (.iload 8, 2) := by decide +kernel
theorem dX8_instead_72 : decode cX8_instead 72 = .ok (.iload 6, 2) := by decide +kernel
theorem dX8_instead_74 : decode cX8_instead 74 = .ok (.if_icmp .ge 12, 3) := by decide +kernel
theorem dX8_instead_77 : decode cX8_instead 77 = .ok (.aload_n 0, 1) := by decide +kernel
theorem dX8_instead_78 : decode cX8_instead 78 = .ok (.iload 7, 2) := by decide +kernel
theorem dX8_instead_80 : decode cX8_instead 80 = .ok (.invokevirtual 195, 3) := by decide +kernel
theorem dX8_instead_83 : decode cX8_instead 83 = .ok (.goto 5, 3) := by decide +kernel
theorem dX8_instead_86 : decode cX8_instead 86 = .ok (.iload 5, 2) := by decide +kernel
theorem dX8_instead_88 : decode cX8_instead 88 = .ok (.istore 5, 2) := by decide +kernel
theorem dX8_instead_90 : decode cX8_instead 90 = .ok (.iload 8, 2) := by decide +kernel
theorem dX8_instead_92 : decode cX8_instead 92 = .ok (.iload 6, 2) := by decide +kernel
theorem dX8_instead_94 : decode cX8_instead 94 = .ok (.invokestatic 59, 3) := by decide +kernel
theorem dX8_instead_97 : decode cX8_instead 97 = .ok (.istore 6, 2) := by decide +kernel
theorem dX8_instead_99 : decode cX8_instead 99 = .ok (.iinc 7 1, 3) := by decide +kernel
theorem dX8_instead_102 : decode cX8_instead 102 = .ok (.goto (-62), 3) := by decide +kernel
theorem dX8_instead_105 : decode cX8_instead 105 = .ok (.iload 5, 2) := by decide +kernel
theorem dX8_instead_107 : decode cX8_instead 107 = .ok (.ireturn, 1) := by decide +kernel
theorem dX8_tryAll_0 : decode cX8_tryAll 0 = .ok (.iload_n 1, 1) := by decide +kernel
theorem dX8_tryAll_1 : decode cX8_tryAll 1 = .ok (.iload_n 2, 1) := by decide +kernel
theorem dX8_tryAll_2 : decode cX8_tryAll 2 = .ok (.if_icmp .ne 79, 3) := by decide +kernel
theorem dX8_tryAll_5 : decode cX8_tryAll 5 = .ok (.iload_n 3, 1) := by decide +kernel
theorem dX8_tryAll_6 : decode cX8_tryAll 6 = .ok (.aload_n 0, 1) := by decide +kernel
theorem dX8_tryAll_7 : decode cX8_tryAll 7 = .ok (.getfield 232, 3) := by decide +kernel
theorem dX8_tryAll_10 : decode cX8_tryAll 10 = .ok (.if_icmp .lt 25, 3) := by decide +kernel
theorem dX8_tryAll_13 : decode cX8_tryAll 13 = .ok (.iload_n 3, 1) := by decide +kernel
theorem dX8_tryAll_14 : decode cX8_tryAll 14 = .ok (.aload_n 0, 1) := by decide +kernel
theorem dX8_tryAll_15 : decode cX8_tryAll 15 = .ok (.getfield 232, 3) := by decide +kernel
theorem dX8_tryAll_18 : decode cX8_tryAll 18 = .ok (.if_icmp .ne 62, 3) := by decide +kernel
theorem dX8_tryAll_21 : decode cX8_tryAll 21 = .ok (.aload_n 0, 1) := by decide +kernel
theorem dX8_tryAll_22 : decode cX8_tryAll 22 = .ok (.getfield 17, 3) := by decide +kernel
theorem dX8_tryAll_25 : decode cX8_tryAll 25 = .ok (.bipush 33, 2) := by decide +kernel
theorem dX8_tryAll_27 : decode cX8_tryAll 27 = .ok (.iaload, 1) := by decide +kernel
theorem dX8_tryAll_28 : decode cX8_tryAll 28 = .ok (.aload_n 0, 1) := by decide +kernel
theorem dX8_tryAll_29 : decode cX8_tryAll 29 = .ok (.getfield 235, 3) := by decide +kernel
theorem dX8_tryAll_32 : decode cX8_tryAll 32 = .ok (.if_icmp .ge 48, 3) := by decide +kernel
theorem dX8_tryAll_35 : decode cX8_tryAll 35 = .ok (.aload_n 0, 1) := by decide +kernel
theorem dX8_tryAll_36 : decode cX8_tryAll 36 = .ok (.iload_n 3, 1) := by decide +kernel
theorem dX8_tryAll_37 : decode cX8_tryAll 37 = .ok (.putfield 232, 3) := by decide +kernel
theorem dX8_tryAll_40 : decode cX8_tryAll 40 = .ok (.aload_n 0, 1) := by decide +kernel
theorem dX8_tryAll_41 : decode cX8_tryAll 41 = .ok (.aload_n 0, 1) := by decide +kernel
theorem dX8_tryAll_42 : decode cX8_tryAll 42 = .ok (.getfield 17, 3) := by decide +kernel
theorem dX8_tryAll_45 : decode cX8_tryAll 45 = .ok (.bipush 33, 2) := by decide +kernel
theorem dX8_tryAll_47 : decode cX8_tryAll 47 = .ok (.iaload, 1) := by decide +kernel
theorem dX8_tryAll_48 : decode cX8_tryAll 48 = .ok (.putfield 235, 3) := by decide +kernel
theorem dX8_tryAll_51 : decode cX8_tryAll 51 = .ok (.iconst 0, 1) := by decide +kernel
theorem dX8_tryAll_52 : decode cX8_tryAll 52 = .ok (.istore 4, 2) := by decide +kernel
theorem dX8_tryAll_54 : decode cX8_tryAll 54 = .ok (.iload 4, 2) := by decide +kernel
theorem dX8_tryAll_56 : decode cX8_tryAll 56 = .ok (.iload_n 2, 1) := by decide +kernel
theorem dX8_tryAll_57 : decode cX8_tryAll 57 = .ok (.if_icmp .ge 23, 3) := by decide +kernel
theorem dX8_tryAll_60 : decode cX8_tryAll 60 = .ok (.aload_n 0, 1) := by decide +kernel
theorem dX8_tryAll_61 : decode cX8_tryAll 61 = .ok (.getfield 52, 3) := by decide +kernel
theorem dX8_tryAll_64 : decode cX8_tryAll 64 = .ok (.iload 4, 2) := by decide +kernel
theorem dX8_tryAll_66 : decode cX8_tryAll 66 = .ok (.aload_n 0, 1) := by decide +kernel
theorem dX8_tryAll_67 : decode cX8_tryAll 67 = .ok (.getfield 49, 3) := by decide +kernel
theorem dX8_tryAll_70 : decode cX8_tryAll 70 = .ok (.iload 4, 2) := by decide +kernel
theorem dX8_tryAll_72 : decode cX8_tryAll 72 = .ok (.iaload, 1) := by decide +kernel
theorem dX8_tryAll_73 : decode cX8_tryAll 73 = .ok (.iastore, 1) := by decide +kernel
theorem dX8_tryAll_74 : decode cX8_tryAll 74 = .ok (.iinc 4 1, 3) := by decide +kernel
theorem dX8_tryAll_77 : decode cX8_tryAll 77 = .ok (.goto (-23), 3) := by decide +kernel
theorem dX8_tryAll_80 : decode cX8_tryAll 80 = .ok (.return_, 1) := by decide +kernel
theorem dX8_tryAll_81 : decode cX8_tryAll 81 = .ok (.aload_n 0, 1) := by decide +kernel
theorem dX8_tryAll_82 : decode cX8_tryAll 82 = .ok (.iload_n 1, 1) := by decide +kernel
theorem dX8_tryAll_83 : decode cX8_tryAll 83 = .ok (.invokevirtual 142, 3) := by decide +kernel
theorem dX8_tryAll_86 : decode cX8_tryAll 86 = .ok (.iconst 0, 1) := by decide +kernel
theorem dX8_tryAll_87 : decode cX8_tryAll 87 = .ok (.istore 4, 2) := by decide +kernel
theorem dX8_tryAll_89 : decode cX8_tryAll 89 = .ok (.iload 4, 2) := by decide +kernel
theorem dX8_tryAll_91 : decode cX8_tryAll 91 = .ok (.aload_n 0, 1) := by decide +kernel
theorem dX8_tryAll_92 : decode cX8_tryAll 92 = .ok (.invokevirtual 80, 3) := by decide +kernel
theorem dX8_tryAll_95 : decode cX8_tryAll 95 = .ok (.iconst 2, 1) := by decide +kernel
theorem dX8_tryAll_96 : decode cX8_tryAll 96 = .ok (.iadd, 1) := by decide +kernel
theorem dX8_tryAll_97 : decode cX8_tryAll 97 = .ok (.if_icmp .ge 50, 3) := by decide +kernel
theorem dX8_tryAll_100 : decode cX8_tryAll 100 = .ok (.aload_n 0, 1) := by decide +kernel
theorem dX8_tryAll_101 : decode cX8_tryAll 101 = .ok (.getfield 49, 3) := by decide +kernel
theorem dX8_tryAll_104 : decode cX8_tryAll 104 = .ok (.iload_n 1, 1) := by decide +kernel
theorem dX8_tryAll_105 : decode cX8_tryAll 105 = .ok (.aload_n 0, 1) := by decide +kernel
theorem dX8_tryAll_106 : decode cX8_tryAll 106 = .ok (.iload 4, 2) := by decide +kernel
theorem dX8_tryAll_108 : decode cX8_tryAll 108 = .ok (.invokevirtual 195, 3) := by decide +kernel
theorem dX8_tryAll_111 : decode cX8_tryAll 111 = .ok (.iastore, 1) := by decide +kernel
theorem dX8_tryAll_112 : decode cX8_tryAll 112 = .ok (.aload_n 0, 1) := by decide +kernel
theorem dX8_tryAll_113 : decode cX8_tryAll 113 = .ok (.aload_n 0, 1) := by decide +kernel
theorem dX8_tryAll_114 : decode cX8_tryAll 114 = .ok (.getfield 49, 3) := by decide +kernel
theorem dX8_tryAll_117 : decode cX8_tryAll 117 = .ok (.iload_n 1, 1) := by decide +kernel
theorem dX8_tryAll_118 : decode cX8_tryAll 118 = .ok (.iaload, 1) := by decide +kernel
theorem dX8_tryAll_119 : decode cX8_tryAll 119 = .ok (.invokevirtual 181, 3) := by decide +kernel
theorem dX8_tryAll_122 : decode cX8_tryAll 122 = .ok (.istore 5, 2) := by decide +kernel
theorem dX8_tryAll_124 : decode cX8_tryAll 124 = .ok (.aload_n 0, 1) := by decide +kernel
theorem dX8_tryAll_125 : decode cX8_tryAll 125 = .ok (.iload_n 1, 1) := by decide +kernel
theorem dX8_tryAll_126 : decode cX8_tryAll 126 = .ok (.iconst 1, 1) := by decide +kernel
theorem dX8_tryAll_127 : decode cX8_tryAll 127 = .ok (.iadd, 1) := by decide +kernel
theorem dX8_tryAll_128 : decode cX8_tryAll 128 = .ok (.iload_n 2, 1) := by decide +kernel
theorem dX8_tryAll_129 : decode cX8_tryAll 129 = .ok (.iload_n 3, 1) := by decide +kernel
theorem dX8_tryAll_130 : decode cX8_tryAll 130 = .ok (.iload 5, 2) := by decide +kernel
theorem dX8_tryAll_132 : decode cX8_tryAll 132 = .ok (.iadd, 1) := by decide +kernel
theorem dX8_tryAll_133 : decode cX8_tryAll 133 = .ok (.invokevirtual 238, 3) := by decide +kernel
theorem dX8_tryAll_136 : decode cX8_tryAll 136 = .ok (.aload_n 0, 1) := by decide +kernel
theorem dX8_tryAll_137 : decode cX8_tryAll 137 = .ok (.iload_n 1, 1) := by decide +kernel
theorem dX8_tryAll_138 : decode cX8_tryAll 138 = .ok (.invokevirtual 150, 3) := by decide +kernel
theorem dX8_tryAll_141 : decode cX8_tryAll 141 = .ok (.iinc 4 1, 3) := by decide +kernel
theorem dX8_tryAll_144 : decode cX8_tryAll 144 = .ok (.goto (-55), 3) := by decide +kernel
theorem dX8_tryAll_147 : decode cX8_tryAll 147 = .ok (.return_, 1) := by decide +kernel
theorem dX8_best_0 : decode cX8_best 0 = .ok (.iload_n 1, 1) := by decide +kernel
theorem dX8_best_1 : decode cX8_best 1 = .ok (.i2l, 1) := by decide +kernel
theorem dX8_best_2 : decode cX8_best 2 = .ok (.lconst 1, 1) := by decide +kernel
theorem dX8_best_3 : decode cX8_best 3 = .ok (.ldc2_w 101, 3) := by decide +kernel
theorem dX8_best_6 : decode cX8_best 6 = .ok (.invokestatic 68, 3) := by decide +kernel
theorem dX8_best_9 : decode cX8_best 9 = .ok (.ifCond .eq 18, 3) := by decide +kernel
theorem dX8_best_12 : decode cX8_best 12 = .ok (.iload_n 2, 1) := by decide +kernel
theorem dX8_best_13 : decode cX8_best 13 = .ok (.i2l, 1) := by decide +kernel
theorem dX8_best_14 : decode cX8_best 14 = .ok (.ldc2_w 242, 3) := by decide +kernel
theorem dX8_best_17 : decode cX8_best 17 = .ok (.iload_n 1, 1) := by decide +kernel
theorem dX8_best_18 : decode cX8_best 18 = .ok (.iconst 1, 1) := by decide +kernel
theorem dX8_best_19 : decode cX8_best 19 = .ok (.isub, 1) := by decide +kernel
theorem dX8_best_20 : decode cX8_best 20 = .ok (.i2l, 1) := by decide +kernel
theorem dX8_best_21 : decode cX8_best 21 = .ok (.invokestatic 68, 3) := by decide +kernel
theorem dX8_best_24 : decode cX8_best 24 = .ok (.ifCond .ne 10, 3) := by decide +kernel
theorem dX8_best_27 : decode cX8_best 27 = .ok (.aload_n 0, 1) := by decide +kernel
theorem dX8_best_28 : decode cX8_best 28 = .ok (.bipush (-2), 2) := by decide +kernel
theorem dX8_best_30 : decode cX8_best 30 = .ok (.invokevirtual 90, 3) := by decide +kernel
theorem dX8_best_33 : decode cX8_best 33 = .ok (.ireturn, 1) := by decide +kernel
theorem dX8_best_34 : decode cX8_best 34 = .ok (.aload_n 0, 1) := by decide +kernel
theorem dX8_best_35 : decode cX8_best 35 = .ok (.iconst 5, 1) := by decide +kernel
theorem dX8_best_36 : decode cX8_best 36 = .ok (.putfield 232, 3) := by decide +kernel
theorem dX8_best_39 : decode cX8_best 39 = .ok (.aload_n 0, 1) := by decide +kernel
theorem dX8_best_40 : decode cX8_best 40 = .ok (.bipush 100, 2) := by decide +kernel
theorem dX8_best_42 : decode cX8_best 42 = .ok (.putfield 235, 3) := by decide +kernel
theorem dX8_best_45 : decode cX8_best 45 = .ok (.aload_n 0, 1) := by decide +kernel
theorem dX8_best_46 : decode cX8_best 46 = .ok (.iconst 0, 1) := by decide +kernel
theorem dX8_best_47 : decode cX8_best 47 = .ok (.iload_n 1, 1) := by decide +kernel
theorem dX8_best_48 : decode cX8_best 48 = .ok (.iconst 0, 1) := by decide +kernel
theorem dX8_best_49 : decode cX8_best 49 = .ok (.invokevirtual 238, 3) := by decide +kernel
theorem dX8_best_52 : decode cX8_best 52 = .ok (.iload_n 2, 1) := by decide +kernel
theorem dX8_best_53 : decode cX8_best 53 = .ok (.bipush (-2), 2) := by decide +kernel
theorem dX8_best_55 : decode cX8_best 55 = .ok (.if_icmp .ne 10, 3) := by decide +kernel
theorem dX8_best_58 : decode cX8_best 58 = .ok (.aload_n 0, 1) := by decide +kernel
theorem dX8_best_59 : decode cX8_best 59 = .ok (.getfield 232, 3) := by decide +kernel
theorem dX8_best_62 : decode cX8_best 62 = .ok (.goto 21, 3) := by decide +kernel
theorem dX8_best_65 : decode cX8_best 65 = .ok (.iload_n 2, 1) := by decide +kernel
theorem dX8_best_66 : decode cX8_best 66 = .ok (.iconst (-1), 1) := by decide +kernel
theorem dX8_best_67 : decode cX8_best 67 = .ok (.if_icmp .ne 10, 3) := by decide +kernel
theorem dX8_best_70 : decode cX8_best 70 = .ok (.aload_n 0, 1) := by decide +kernel
theorem dX8_best_71 : decode cX8_best 71 = .ok (.getfield 235, 3) := by decide +kernel
theorem dX8_best_74 : decode cX8_best 74 = .ok (.goto 9, 3) := by decide +kernel
theorem dX8_best_77 : decode cX8_best 77 = .ok (.aload_n 0, 1) := by decide +kernel
theorem dX8_best_78 : decode cX8_best 78 = .ok (.getfield 52, 3) := by decide +kernel
theorem dX8_best_81 : decode cX8_best 81 = .ok (.iload_n 2, 1) := by decide +kernel
theorem dX8_best_82 : decode cX8_best 82 = .ok (.iaload, 1) := by decide +kernel
theorem dX8_best_83 : decode cX8_best 83 = .ok (.ireturn, 1) := by decide +kernel
theorem dX8_twos_0 : decode cX8_twos 0 = .ok (.iload_n 2, 1) := by decide +kernel
theorem dX8_twos_1 : decode cX8_twos 1 = .ok (.invokestatic 200, 3) := by decide +kernel
theorem dX8_twos_4 : decode cX8_twos 4 = .ok (.ifCond .eq 19, 3) := by decide +kernel
theorem dX8_twos_7 : decode cX8_twos 7 = .ok (.iload_n 3, 1) := by decide +kernel
theorem dX8_twos_8 : decode cX8_twos 8 = .ok (.i2l, 1) := by decide +kernel
theorem dX8_twos_9 : decode cX8_twos 9 = .ok (.lconst 0, 1) := by decide +kernel
theorem dX8_twos_10 : decode cX8_twos 10 = .ok (.ldc2_w 244, 3) := by decide +kernel
theorem dX8_twos_13 : decode cX8_twos 13 = .ok (.invokestatic 68, 3) := by decide +kernel
theorem dX8_twos_16 : decode cX8_twos 16 = .ok (.ifCond .eq 7, 3) := by decide +kernel
theorem dX8_twos_19 : decode cX8_twos 19 = .ok (.iload_n 1, 1) := by decide +kernel
theorem dX8_twos_20 : decode cX8_twos 20 = .ok (.ifCond .ne 6, 3) := by decide +kernel
theorem dX8_twos_23 : decode cX8_twos 23 = .ok (.bipush (-2), 2) := by decide +kernel
theorem dX8_twos_25 : decode cX8_twos 25 = .ok (.ireturn, 1) := by decide +kernel
theorem dX8_twos_26 : decode cX8_twos 26 = .ok (.aload_n 0, 1) := by decide +kernel
theorem dX8_twos_27 : decode cX8_twos 27 = .ok (.iload_n 2, 1) := by decide +kernel
theorem dX8_twos_28 : decode cX8_twos 28 = .ok (.invokevirtual 203, 3) := by decide +kernel
theorem dX8_twos_31 : decode cX8_twos 31 = .ok (.ifCond .ge 9, 3) := by decide +kernel
theorem dX8_twos_34 : decode cX8_twos 34 = .ok (.aload_n 0, 1) := by decide +kernel
theorem dX8_twos_35 : decode cX8_twos 35 = .ok (.iload_n 2, 1) := by decide +kernel
theorem dX8_twos_36 : decode cX8_twos 36 = .ok (.invokevirtual 203, 3) := by decide +kernel
theorem dX8_twos_39 : decode cX8_twos 39 = .ok (.ireturn, 1) := by decide +kernel
theorem dX8_twos_40 : decode cX8_twos 40 = .ok (.iconst 2, 1) := by decide +kernel
theorem dX8_twos_41 : decode cX8_twos 41 = .ok (.iload_n 3, 1) := by decide +kernel
theorem dX8_twos_42 : decode cX8_twos 42 = .ok (.imul, 1) := by decide +kernel
theorem dX8_twos_43 : decode cX8_twos 43 = .ok (.aload_n 0, 1) := by decide +kernel
theorem dX8_twos_44 : decode cX8_twos 44 = .ok (.getfield 36, 3) := by decide +kernel
theorem dX8_twos_47 : decode cX8_twos 47 = .ok (.iload_n 2, 1) := by decide +kernel
theorem dX8_twos_48 : decode cX8_twos 48 = .ok (.iaload, 1) := by decide +kernel
theorem dX8_twos_49 : decode cX8_twos 49 = .ok (.if_icmp .le 6, 3) := by decide +kernel
theorem dX8_twos_52 : decode cX8_twos 52 = .ok (.bipush (-2), 2) := by decide +kernel
theorem dX8_twos_54 : decode cX8_twos 54 = .ok (.ireturn, 1) := by decide +kernel
theorem dX8_twos_55 : decode cX8_twos 55 = .ok (.iconst 0, 1) := by decide +kernel
theorem dX8_twos_56 : decode cX8_twos 56 = .ok (.istore 4, 2) := by decide +kernel
theorem dX8_twos_58 : decode cX8_twos 58 = .ok (.iload 4, 2) := by decide +kernel
theorem dX8_twos_60 : decode cX8_twos 60 = .ok (.iload_n 3, 1) := by decide +kernel
theorem dX8_twos_61 : decode cX8_twos 61 = .ok (.if_icmp .ge 47, 3) := by decide +kernel
theorem dX8_twos_64 : decode cX8_twos 64 = .ok (.aload_n 0, 1) := by decide +kernel
theorem dX8_twos_65 : decode cX8_twos 65 = .ok (.aload_n 0, 1) := by decide +kernel
theorem dX8_twos_66 : decode cX8_twos 66 = .ok (.iload_n 2, 1) := by decide +kernel
theorem dX8_twos_67 : decode cX8_twos 67 = .ok (.iconst 2, 1) := by decide +kernel
theorem dX8_twos_68 : decode cX8_twos 68 = .ok (.iload 4, 2) := by decide +kernel
theorem dX8_twos_70 : decode cX8_twos 70 = .ok (.imul, 1) := by decide +kernel
theorem dX8_twos_71 : decode cX8_twos 71 = .ok (.invokevirtual 206, 3) := by decide +kernel
theorem dX8_twos_74 : decode cX8_twos 74 = .ok (.invokevirtual 76, 3) := by decide +kernel
theorem dX8_twos_77 : decode cX8_twos 77 = .ok (.ifCond .eq 22, 3) := by decide +kernel
theorem dX8_twos_80 : decode cX8_twos 80 = .ok (.aload_n 0, 1) := by decide +kernel
theorem dX8_twos_81 : decode cX8_twos 81 = .ok (.iload_n 2, 1) := by decide +kernel
theorem dX8_twos_82 : decode cX8_twos 82 = .ok (.iconst 2, 1) := by decide +kernel
theorem dX8_twos_83 : decode cX8_twos 83 = .ok (.iload 4, 2) := by decide +kernel
theorem dX8_twos_85 : decode cX8_twos 85 = .ok (.imul, 1) := by decide +kernel
theorem dX8_twos_86 : decode cX8_twos 86 = .ok (.iconst 1, 1) := by decide +kernel
theorem dX8_twos_87 : decode cX8_twos 87 = .ok (.iadd, 1) := by decide +kernel
theorem dX8_twos_88 : decode cX8_twos 88 = .ok (.invokevirtual 206, 3) := by decide +kernel
theorem dX8_twos_91 : decode cX8_twos 91 = .ok (.lconst 0, 1) := by decide +kernel
theorem dX8_twos_92 : decode cX8_twos 92 = .ok (.lconst 1, 1) := by decide +kernel
theorem dX8_twos_93 : decode cX8_twos 93 = .ok (.invokestatic 68, 3) := by decide +kernel
theorem dX8_twos_96 : decode cX8_twos 96 = .ok (.ifCond .ne 6, 3) := by decide +kernel
theorem dX8_twos_99 : decode cX8_twos 99 = .ok (.bipush (-5), 2) := by decide +kernel
theorem dX8_twos_101 : decode cX8_twos 101 = .ok (.ireturn, 1) := by decide +kernel
theorem dX8_twos_102 : decode cX8_twos 102 = .ok (.iinc 4 1, 3) := by decide +kernel
theorem dX8_twos_105 : decode cX8_twos 105 = .ok (.goto (-47), 3) := by decide +kernel
theorem dX8_twos_108 : decode cX8_twos 108 = .ok (.iconst 1, 1) := by decide +kernel
theorem dX8_twos_109 : decode cX8_twos 109 = .ok (.ireturn, 1) := by decide +kernel
theorem dX8_fits_0 : decode cX8_fits 0 = .ok (.aload_n 0, 1) := by decide +kernel
theorem dX8_fits_1 : decode cX8_fits 1 = .ok (.iconst 1, 1) := by decide +kernel
theorem dX8_fits_2 : decode cX8_fits 2 = .ok (.invokevirtual 142, 3) := by decide +kernel
theorem dX8_fits_5 : decode cX8_fits 5 = .ok (.iconst 1, 1) := by decide +kernel
theorem dX8_fits_6 : decode cX8_fits 6 = .ok (.istore_n 3, 1) := by decide +kernel
theorem dX8_fits_7 : decode cX8_fits 7 = .ok (.iconst 0, 1) := by decide +kernel
theorem dX8_fits_8 : decode cX8_fits 8 = .ok (.istore 4, 2) := by decide +kernel
theorem dX8_fits_10 : decode cX8_fits 10 = .ok (.iload 4, 2) := by decide +kernel
theorem dX8_fits_12 : decode cX8_fits 12 = .ok (.iload_n 2, 1) := by decide +kernel
theorem dX8_fits_13 : decode cX8_fits 13 = .ok (.if_icmp .ge 66, 3) := by decide +kernel
theorem dX8_fits_16 : decode cX8_fits 16 = .ok (.iload_n 3, 1) := by decide +kernel
theorem dX8_fits_17 : decode cX8_fits 17 = .ok (.ifCond .eq 62, 3) := by decide +kernel
theorem dX8_fits_20 : decode cX8_fits 20 = .ok (.aload_n 0, 1) := by decide +kernel
theorem dX8_fits_21 : decode cX8_fits 21 = .ok (.iload_n 1, 1) := by decide +kernel
theorem dX8_fits_22 : decode cX8_fits 22 = .ok (.iconst 2, 1) := by decide +kernel
theorem dX8_fits_23 : decode cX8_fits 23 = .ok (.iload 4, 2) := by decide +kernel
theorem dX8_fits_25 : decode cX8_fits 25 = .ok (.imul, 1) := by decide +kernel
theorem dX8_fits_26 : decode cX8_fits 26 = .ok (.invokevirtual 206, 3) := by decide +kernel
theorem dX8_fits_29 : decode cX8_fits 29 = .ok (.l2i, 1) := by decide +kernel
theorem dX8_fits_30 : decode cX8_fits 30 = .ok (.istore 5, 2) := by decide +kernel
theorem dX8_fits_32 : decode cX8_fits 32 = .ok (.aload_n 0, 1) := by decide +kernel
theorem dX8_fits_33 : decode cX8_fits 33 = .ok (.iload 5, 2) := by decide +kernel
theorem dX8_fits_35 : decode cX8_fits 35 = .ok (.invokevirtual 181, 3) := by decide +kernel
theorem dX8_fits_38 : decode cX8_fits 38 = .ok (.pop, 1) := by decide +kernel
theorem dX8_fits_39 : decode cX8_fits 39 = .ok (.aload_n 0, 1) := by decide +kernel
theorem dX8_fits_40 : decode cX8_fits 40 = .ok (.getfield 162, 3) := by decide +kernel
theorem dX8_fits_43 : decode cX8_fits 43 = .ok (.aload_n 0, 1) := by decide +kernel
theorem dX8_fits_44 : decode cX8_fits 44 = .ok (.iload_n 1, 1) := by decide +kernel
theorem dX8_fits_45 : decode cX8_fits 45 = .ok (.iconst 2, 1) := by decide +kernel
theorem dX8_fits_46 : decode cX8_fits 46 = .ok (.iload 4, 2) := by decide +kernel
theorem dX8_fits_48 : decode cX8_fits 48 = .ok (.imul, 1) := by decide +kernel
theorem dX8_fits_49 : decode cX8_fits 49 = .ok (.iconst 1, 1) := by decide +kernel
theorem dX8_fits_50 : decode cX8_fits 50 = .ok (.iadd, 1) := by decide +kernel
theorem dX8_fits_51 : decode cX8_fits 51 = .ok (.invokevirtual 206, 3) := by decide +kernel
theorem dX8_fits_54 : decode cX8_fits 54 = .ok (.lconst 0, 1) := by decide +kernel
theorem dX8_fits_55 : decode cX8_fits 55 = .ok (.lcmp, 1) := by decide +kernel
theorem dX8_fits_56 : decode cX8_fits 56 = .ok (.ifCond .ne 7, 3) := by decide +kernel
theorem dX8_fits_59 : decode cX8_fits 59 = .ok (.iconst 1, 1) := by decide +kernel
theorem dX8_fits_60 : decode cX8_fits 60 = .ok (.goto 4, 3) := by decide +kernel
theorem dX8_fits_63 : decode cX8_fits 63 = .ok (.iconst 0, 1) := by decide +kernel
theorem dX8_fits_64 : decode cX8_fits 64 = .ok (.if_icmp .ne 7, 3) := by decide +kernel
theorem dX8_fits_67 : decode cX8_fits 67 = .ok (.iconst 1, 1) := by decide +kernel
theorem dX8_fits_68 : decode cX8_fits 68 = .ok (.goto 4, 3) := by decide +kernel
theorem dX8_fits_71 : decode cX8_fits 71 = .ok (.iconst 0, 1) := by decide +kernel
theorem dX8_fits_72 : decode cX8_fits 72 = .ok (.istore_n 3, 1) := by decide +kernel
theorem dX8_fits_73 : decode cX8_fits 73 = .ok (.iinc 4 1, 3) := by decide +kernel
theorem dX8_fits_76 : decode cX8_fits 76 = .ok (.goto (-66), 3) := by decide +kernel
theorem dX8_fits_79 : decode cX8_fits 79 = .ok (.aload_n 0, 1) := by decide +kernel
theorem dX8_fits_80 : decode cX8_fits 80 = .ok (.iconst 1, 1) := by decide +kernel
theorem dX8_fits_81 : decode cX8_fits 81 = .ok (.invokevirtual 150, 3) := by decide +kernel
theorem dX8_fits_84 : decode cX8_fits 84 = .ok (.iload_n 3, 1) := by decide +kernel
theorem dX8_fits_85 : decode cX8_fits 85 = .ok (.ireturn, 1) := by decide +kernel
theorem dX8_fillFit_0 : decode cX8_fillFit 0 = .ok (.aload_n 0, 1) := by decide +kernel
theorem dX8_fillFit_1 : decode cX8_fillFit 1 = .ok (.iconst 0, 1) := by decide +kernel
theorem dX8_fillFit_2 : decode cX8_fillFit 2 = .ok (.invokevirtual 142, 3) := by decide +kernel
theorem dX8_fillFit_5 : decode cX8_fillFit 5 = .ok (.iconst 0, 1) := by decide +kernel
theorem dX8_fillFit_6 : decode cX8_fillFit 6 = .ok (.istore 5, 2) := by decide +kernel
theorem dX8_fillFit_8 : decode cX8_fillFit 8 = .ok (.iload 5, 2) := by decide +kernel
theorem dX8_fillFit_10 : decode cX8_fillFit 10 = .ok (.bipush 100, 2) := by decide +kernel
theorem dX8_fillFit_12 : decode cX8_fillFit 12 = .ok (.if_icmp .ge 45, 3) := by decide +kernel
theorem dX8_fillFit_15 : decode cX8_fillFit 15 = .ok (.aload_n 0, 1) := by decide +kernel
theorem dX8_fillFit_16 : decode cX8_fillFit 16 = .ok (.getfield 17, 3) := by decide +kernel
theorem dX8_fillFit_19 : decode cX8_fillFit 19 = .ok (.iload_n 3, 1) := by decide +kernel
theorem dX8_fillFit_20 : decode cX8_fillFit 20 = .ok (.iload 5, 2) := by decide +kernel
theorem dX8_fillFit_22 : decode cX8_fillFit 22 = .ok (.iastore, 1) := by decide +kernel
theorem dX8_fillFit_23 : decode cX8_fillFit 23 = .ok (.aload_n 0, 1) := by decide +kernel
theorem dX8_fillFit_24 : decode cX8_fillFit 24 = .ok (.getfield 55, 3) := by decide +kernel
theorem dX8_fillFit_27 : decode cX8_fillFit 27 = .ok (.iload 5, 2) := by decide +kernel
theorem dX8_fillFit_29 : decode cX8_fillFit 29 = .ok (.iload 5, 2) := by decide +kernel
theorem dX8_fillFit_31 : decode cX8_fillFit 31 = .ok (.iload 4, 2) := by decide +kernel
theorem dX8_fillFit_33 : decode cX8_fillFit 33 = .ok (.if_icmp .gt 16, 3) := by decide +kernel
theorem dX8_fillFit_36 : decode cX8_fillFit 36 = .ok (.aload_n 0, 1) := by decide +kernel
theorem dX8_fillFit_37 : decode cX8_fillFit 37 = .ok (.iload_n 1, 1) := by decide +kernel
theorem dX8_fillFit_38 : decode cX8_fillFit 38 = .ok (.iload_n 2, 1) := by decide +kernel
theorem dX8_fillFit_39 : decode cX8_fillFit 39 = .ok (.invokevirtual 246, 3) := by decide +kernel
theorem dX8_fillFit_42 : decode cX8_fillFit 42 = .ok (.ifCond .eq 7, 3) := by decide +kernel
theorem dX8_fillFit_45 : decode cX8_fillFit 45 = .ok (.iconst 1, 1) := by decide +kernel
theorem dX8_fillFit_46 : decode cX8_fillFit 46 = .ok (.goto 4, 3) := by decide +kernel
theorem dX8_fillFit_49 : decode cX8_fillFit 49 = .ok (.iconst 0, 1) := by decide +kernel
theorem dX8_fillFit_50 : decode cX8_fillFit 50 = .ok (.bastore, 1) := by decide +kernel
theorem dX8_fillFit_51 : decode cX8_fillFit 51 = .ok (.iinc 5 1, 3) := by decide +kernel
theorem dX8_fillFit_54 : decode cX8_fillFit 54 = .ok (.goto (-46), 3) := by decide +kernel
theorem dX8_fillFit_57 : decode cX8_fillFit 57 = .ok (.aload_n 0, 1) := by decide +kernel
theorem dX8_fillFit_58 : decode cX8_fillFit 58 = .ok (.iconst 0, 1) := by decide +kernel
theorem dX8_fillFit_59 : decode cX8_fillFit 59 = .ok (.invokevirtual 150, 3) := by decide +kernel
theorem dX8_fillFit_62 : decode cX8_fillFit 62 = .ok (.return_, 1) := by decide +kernel
theorem dX8_ofFit_0 : decode cX8_ofFit 0 = .ok (.iconst 0, 1) := by decide +kernel
theorem dX8_ofFit_1 : decode cX8_ofFit 1 = .ok (.istore_n 2, 1) := by decide +kernel
theorem dX8_ofFit_2 : decode cX8_ofFit 2 = .ok (.iconst (-1), 1) := by decide +kernel
theorem dX8_ofFit_3 : decode cX8_ofFit 3 = .ok (.istore_n 3, 1) := by decide +kernel
theorem dX8_ofFit_4 : decode cX8_ofFit 4 = .ok (.iconst (-1), 1) := by decide +kernel
theorem dX8_ofFit_5 : decode cX8_ofFit 5 = .ok (.istore 4, 2) := by decide +kernel
theorem dX8_ofFit_7 : decode cX8_ofFit 7 = .ok (.iconst 0, 1) := by decide +kernel
theorem dX8_ofFit_8 : decode cX8_ofFit 8 = .ok (.istore 5, 2) := by decide +kernel
theorem dX8_ofFit_10 : decode cX8_ofFit 10 = .ok (.iload 5, 2) := by decide +kernel
theorem dX8_ofFit_12 : decode cX8_ofFit 12 = .ok (.bipush 100, 2) := by decide +kernel
theorem dX8_ofFit_14 : decode cX8_ofFit 14 = .ok (.if_icmp .ge 38, 3) := by decide +kernel
theorem dX8_ofFit_17 : decode cX8_ofFit 17 = .ok (.aload_n 0, 1) := by decide +kernel
theorem dX8_ofFit_18 : decode cX8_ofFit 18 = .ok (.getfield 55, 3) := by decide +kernel
theorem dX8_ofFit_21 : decode cX8_ofFit 21 = .ok (.iload 5, 2) := by decide +kernel
theorem dX8_ofFit_23 : decode cX8_ofFit 23 = .ok (.baload, 1) := by decide +kernel
theorem dX8_ofFit_24 : decode cX8_ofFit 24 = .ok (.ifCond .eq 22, 3) := by decide +kernel
theorem dX8_ofFit_27 : decode cX8_ofFit 27 = .ok (.iinc 2 1, 3) := by decide +kernel
theorem dX8_ofFit_30 : decode cX8_ofFit 30 = .ok (.iload_n 3, 1) := by decide +kernel
theorem dX8_ofFit_31 : decode cX8_ofFit 31 = .ok (.iconst (-1), 1) := by decide +kernel
theorem dX8_ofFit_32 : decode cX8_ofFit 32 = .ok (.if_icmp .ne 8, 3) := by decide +kernel
theorem dX8_ofFit_35 : decode cX8_ofFit 35 = .ok (.iload 5, 2) := by decide +kernel
theorem dX8_ofFit_37 : decode cX8_ofFit 37 = .ok (.goto 4, 3) := by decide +kernel
theorem dX8_ofFit_40 : decode cX8_ofFit 40 = .ok (.iload_n 3, 1) := by decide +kernel
theorem dX8_ofFit_41 : decode cX8_ofFit 41 = .ok (.istore_n 3, 1) := by decide +kernel
theorem dX8_ofFit_42 : decode cX8_ofFit 42 = .ok (.iload 5, 2) := by decide +kernel
theorem dX8_ofFit_44 : decode cX8_ofFit 44 = .ok (.istore 4, 2) := by decide +kernel
theorem dX8_ofFit_46 : decode cX8_ofFit 46 = .ok (.iinc 5 1, 3) := by decide +kernel
theorem dX8_ofFit_49 : decode cX8_ofFit 49 = .ok (.goto (-39), 3) := by decide +kernel
theorem dX8_ofFit_52 : decode cX8_ofFit 52 = .ok (.iload_n 1, 1) := by decide +kernel
theorem dX8_ofFit_53 : decode cX8_ofFit 53 = .ok (.ifCond .ne 7, 3) := by decide +kernel
theorem dX8_ofFit_56 : decode cX8_ofFit 56 = .ok (.iload_n 2, 1) := by decide +kernel
theorem dX8_ofFit_57 : decode cX8_ofFit 57 = .ok (.goto 14, 3) := by decide +kernel
theorem dX8_ofFit_60 : decode cX8_ofFit 60 = .ok (.iload_n 1, 1) := by decide +kernel
theorem dX8_ofFit_61 : decode cX8_ofFit 61 = .ok (.iconst 1, 1) := by decide +kernel
theorem dX8_ofFit_62 : decode cX8_ofFit 62 = .ok (.if_icmp .ne 7, 3) := by decide +kernel
theorem dX8_ofFit_65 : decode cX8_ofFit 65 = .ok (.iload_n 3, 1) := by decide +kernel
theorem dX8_ofFit_66 : decode cX8_ofFit 66 = .ok (.goto 5, 3) := by decide +kernel
theorem dX8_ofFit_69 : decode cX8_ofFit 69 = .ok (.iload 4, 2) := by decide +kernel
theorem dX8_ofFit_71 : decode cX8_ofFit 71 = .ok (.ireturn, 1) := by decide +kernel
theorem dX8_rages_0 : decode cX8_rages 0 = .ok (.aload_n 0, 1) := by decide +kernel
theorem dX8_rages_1 : decode cX8_rages 1 = .ok (.iload_n 3, 1) := by decide +kernel
theorem dX8_rages_2 : decode cX8_rages 2 = .ok (.i2l, 1) := by decide +kernel
theorem dX8_rages_3 : decode cX8_rages 3 = .ok (.lconst 0, 1) := by decide +kernel
theorem dX8_rages_4 : decode cX8_rages 4 = .ok (.ldc2_w 190, 3) := by decide +kernel
theorem dX8_rages_7 : decode cX8_rages 7 = .ok (.invokestatic 68, 3) := by decide +kernel
theorem dX8_rages_10 : decode cX8_rages 10 = .ok (.iload_n 1, 1) := by decide +kernel
theorem dX8_rages_11 : decode cX8_rages 11 = .ok (.iload_n 2, 1) := by decide +kernel
theorem dX8_rages_12 : decode cX8_rages 12 = .ok (.invokevirtual 250, 3) := by decide +kernel
theorem dX8_rages_15 : decode cX8_rages 15 = .ok (.istore 4, 2) := by decide +kernel
theorem dX8_rages_17 : decode cX8_rages 17 = .ok (.iload 4, 2) := by decide +kernel
theorem dX8_rages_19 : decode cX8_rages 19 = .ok (.ifCond .ge 10, 3) := by decide +kernel
theorem dX8_rages_22 : decode cX8_rages 22 = .ok (.aload_n 0, 1) := by decide +kernel
theorem dX8_rages_23 : decode cX8_rages 23 = .ok (.iload 4, 2) := by decide +kernel
theorem dX8_rages_25 : decode cX8_rages 25 = .ok (.invokevirtual 90, 3) := by decide +kernel
theorem dX8_rages_28 : decode cX8_rages 28 = .ok (.ireturn, 1) := by decide +kernel
theorem dX8_rages_29 : decode cX8_rages 29 = .ok (.aload_n 0, 1) := by decide +kernel
theorem dX8_rages_30 : decode cX8_rages 30 = .ok (.iload_n 1, 1) := by decide +kernel
theorem dX8_rages_31 : decode cX8_rages 31 = .ok (.iload_n 2, 1) := by decide +kernel
theorem dX8_rages_32 : decode cX8_rages 32 = .ok (.bipush 33, 2) := by decide +kernel
theorem dX8_rages_34 : decode cX8_rages 34 = .ok (.bipush 99, 2) := by decide +kernel
theorem dX8_rages_36 : decode cX8_rages 36 = .ok (.invokevirtual 253, 3) := by decide +kernel
theorem dX8_rages_39 : decode cX8_rages 39 = .ok (.aload_n 0, 1) := by decide +kernel
theorem dX8_rages_40 : decode cX8_rages 40 = .ok (.iload_n 3, 1) := by decide +kernel
theorem dX8_rages_41 : decode cX8_rages 41 = .ok (.invokevirtual 257, 3) := by decide +kernel
theorem dX8_rages_44 : decode cX8_rages 44 = .ok (.ireturn, 1) := by decide +kernel
theorem dX8_nerves_0 : decode cX8_nerves 0 = .ok (.aload_n 0, 1) := by decide +kernel
theorem dX8_nerves_1 : decode cX8_nerves 1 = .ok (.aload_n 0, 1) := by decide +kernel
theorem dX8_nerves_2 : decode cX8_nerves 2 = .ok (.iload_n 3, 1) := by decide +kernel
theorem dX8_nerves_3 : decode cX8_nerves 3 = .ok (.i2l, 1) := by decide +kernel
theorem dX8_nerves_4 : decode cX8_nerves 4 = .ok (.invokevirtual 76, 3) := by decide +kernel
theorem dX8_nerves_7 : decode cX8_nerves 7 = .ok (.ifCond .eq 20, 3) := by decide +kernel
theorem dX8_nerves_10 : decode cX8_nerves 10 = .ok (.iload 4, 2) := by decide +kernel
theorem dX8_nerves_12 : decode cX8_nerves 12 = .ok (.i2l, 1) := by decide +kernel
theorem dX8_nerves_13 : decode cX8_nerves 13 = .ok (.lconst 0, 1) := by decide +kernel
theorem dX8_nerves_14 : decode cX8_nerves 14 = .ok (.ldc2_w 190, 3) := by decide +kernel
theorem dX8_nerves_17 : decode cX8_nerves 17 = .ok (.invokestatic 68, 3) := by decide +kernel
theorem dX8_nerves_20 : decode cX8_nerves 20 = .ok (.ifCond .eq 7, 3) := by decide +kernel
theorem dX8_nerves_23 : decode cX8_nerves 23 = .ok (.iconst 1, 1) := by decide +kernel
theorem dX8_nerves_24 : decode cX8_nerves 24 = .ok (.goto 4, 3) := by decide +kernel
theorem dX8_nerves_27 : decode cX8_nerves 27 = .ok (.iconst 0, 1) := by decide +kernel
theorem dX8_nerves_28 : decode cX8_nerves 28 = .ok (.iload_n 1, 1) := by decide +kernel
theorem dX8_nerves_29 : decode cX8_nerves 29 = .ok (.iload_n 2, 1) := by decide +kernel
theorem dX8_nerves_30 : decode cX8_nerves 30 = .ok (.invokevirtual 250, 3) := by decide +kernel
theorem dX8_nerves_33 : decode cX8_nerves 33 = .ok (.istore 5, 2) := by decide +kernel
theorem dX8_nerves_35 : decode cX8_nerves 35 = .ok (.iload 5, 2) := by decide +kernel
theorem dX8_nerves_37 : decode cX8_nerves 37 = .ok (.ifCond .ge 10, 3) := by decide +kernel
theorem dX8_nerves_40 : decode cX8_nerves 40 = .ok (.aload_n 0, 1) := by decide +kernel
theorem dX8_nerves_41 : decode cX8_nerves 41 = .ok (.iload 5, 2) := by decide +kernel
theorem dX8_nerves_43 : decode cX8_nerves 43 = .ok (.invokevirtual 90, 3) := by decide +kernel
theorem dX8_nerves_46 : decode cX8_nerves 46 = .ok (.ireturn, 1) := by decide +kernel
theorem dX8_nerves_47 : decode cX8_nerves 47 = .ok (.aload_n 0, 1) := by decide +kernel
theorem dX8_nerves_48 : decode cX8_nerves 48 = .ok (.iload_n 1, 1) := by decide +kernel
theorem dX8_nerves_49 : decode cX8_nerves 49 = .ok (.iload_n 2, 1) := by decide +kernel
theorem dX8_nerves_50 : decode cX8_nerves 50 = .ok (.iconst 4, 1) := by decide +kernel
theorem dX8_nerves_51 : decode cX8_nerves 51 = .ok (.iload_n 3, 1) := by decide +kernel
theorem dX8_nerves_52 : decode cX8_nerves 52 = .ok (.imul, 1) := by decide +kernel
theorem dX8_nerves_53 : decode cX8_nerves 53 = .ok (.iconst 2, 1) := by decide +kernel
theorem dX8_nerves_54 : decode cX8_nerves 54 = .ok (.iadd, 1) := by decide +kernel
theorem dX8_nerves_55 : decode cX8_nerves 55 = .ok (.bipush 40, 2) := by decide +kernel
theorem dX8_nerves_57 : decode cX8_nerves 57 = .ok (.invokevirtual 253, 3) := by decide +kernel
theorem dX8_nerves_60 : decode cX8_nerves 60 = .ok (.aload_n 0, 1) := by decide +kernel
theorem dX8_nerves_61 : decode cX8_nerves 61 = .ok (.iload 4, 2) := by decide +kernel
theorem dX8_nerves_63 : decode cX8_nerves 63 = .ok (.invokevirtual 257, 3) := by decide +kernel
theorem dX8_nerves_66 : decode cX8_nerves 66 = .ok (.ireturn, 1) := by decide +kernel
theorem dX8_send_0 : decode cX8_send 0 = .ok (.aload_n 0, 1) := by decide +kernel
theorem dX8_send_1 : decode cX8_send 1 = .ok (.iconst 1, 1) := by decide +kernel
theorem dX8_send_2 : decode cX8_send 2 = .ok (.iload_n 1, 1) := by decide +kernel
theorem dX8_send_3 : decode cX8_send 3 = .ok (.iload_n 2, 1) := by decide +kernel
theorem dX8_send_4 : decode cX8_send 4 = .ok (.invokevirtual 250, 3) := by decide +kernel
theorem dX8_send_7 : decode cX8_send 7 = .ok (.istore_n 3, 1) := by decide +kernel
theorem dX8_send_8 : decode cX8_send 8 = .ok (.iload_n 3, 1) := by decide +kernel
theorem dX8_send_9 : decode cX8_send 9 = .ok (.ifCond .ge 9, 3) := by decide +kernel
theorem dX8_send_12 : decode cX8_send 12 = .ok (.aload_n 0, 1) := by decide +kernel
theorem dX8_send_13 : decode cX8_send 13 = .ok (.iload_n 3, 1) := by decide +kernel
theorem dX8_send_14 : decode cX8_send 14 = .ok (.invokevirtual 90, 3) := by decide +kernel
theorem dX8_send_17 : decode cX8_send 17 = .ok (.ireturn, 1) := by decide +kernel
theorem dX8_send_18 : decode cX8_send 18 = .ok (.aload_n 0, 1) := by decide +kernel
theorem dX8_send_19 : decode cX8_send 19 = .ok (.iload_n 1, 1) := by decide +kernel
theorem dX8_send_20 : decode cX8_send 20 = .ok (.iload_n 2, 1) := by decide +kernel
theorem dX8_send_21 : decode cX8_send 21 = .ok (.bipush 33, 2) := by decide +kernel
theorem dX8_send_23 : decode cX8_send 23 = .ok (.bipush 99, 2) := by decide +kernel
theorem dX8_send_25 : decode cX8_send 25 = .ok (.invokevirtual 253, 3) := by decide +kernel
theorem dX8_send_28 : decode cX8_send 28 = .ok (.aload_n 0, 1) := by decide +kernel
theorem dX8_send_29 : decode cX8_send 29 = .ok (.iconst 0, 1) := by decide +kernel
theorem dX8_send_30 : decode cX8_send 30 = .ok (.invokevirtual 257, 3) := by decide +kernel
theorem dX8_send_33 : decode cX8_send 33 = .ok (.istore 4, 2) := by decide +kernel
theorem dX8_send_35 : decode cX8_send 35 = .ok (.iconst (-1), 1) := by decide +kernel
theorem dX8_send_36 : decode cX8_send 36 = .ok (.istore 5, 2) := by decide +kernel
theorem dX8_send_38 : decode cX8_send 38 = .ok (.bipush 101, 2) := by decide +kernel
theorem dX8_send_40 : decode cX8_send 40 = .ok (.istore 6, 2) := by decide +kernel
theorem dX8_send_42 : decode cX8_send 42 = .ok (.aload_n 0, 1) := by decide +kernel
theorem dX8_send_43 : decode cX8_send 43 = .ok (.getfield 17, 3) := by decide +kernel
theorem dX8_send_46 : decode cX8_send 46 = .ok (.bipush 33, 2) := by decide +kernel
theorem dX8_send_48 : decode cX8_send 48 = .ok (.iaload, 1) := by decide +kernel
theorem dX8_send_49 : decode cX8_send 49 = .ok (.istore 7, 2) := by decide +kernel
theorem dX8_send_51 : decode cX8_send 51 = .ok (.iconst 0, 1) := by decide +kernel
theorem dX8_send_52 : decode cX8_send 52 = .ok (.istore 8, 2) := by decide +kernel
theorem dX8_send_54 : decode cX8_send 54 = .ok (.iload 8, 2) := by decide +kernel
theorem dX8_send_56 : decode cX8_send 56 = .ok (.aload_n 0, 1) := by decide +kernel
theorem dX8_send_57 : decode cX8_send 57 = .ok (.invokevirtual 80, 3) := by decide +kernel
theorem dX8_send_60 : decode cX8_send 60 = .ok (.if_icmp .ge 109, 3) := by decide +kernel
theorem dX8_send_63 : decode cX8_send 63 = .ok (.iload 4, 2) := by decide +kernel
theorem dX8_send_65 : decode cX8_send 65 = .ok (.iconst 1, 1) := by decide +kernel
theorem dX8_send_66 : decode cX8_send 66 = .ok (.if_icmp .le 103, 3) := by decide +kernel
theorem dX8_send_69 : decode cX8_send 69 = .ok (.iconst 0, 1) := by decide +kernel
theorem dX8_send_70 : decode cX8_send 70 = .ok (.istore 9, 2) := by decide +kernel
theorem dX8_send_72 : decode cX8_send 72 = .ok (.iconst 0, 1) := by decide +kernel
theorem dX8_send_73 : decode cX8_send 73 = .ok (.istore 10, 2) := by decide +kernel
theorem dX8_send_75 : decode cX8_send 75 = .ok (.iload 10, 2) := by decide +kernel
theorem dX8_send_77 : decode cX8_send 77 = .ok (.bipush 100, 2) := by decide +kernel
theorem dX8_send_79 : decode cX8_send 79 = .ok (.if_icmp .ge 47, 3) := by decide +kernel
theorem dX8_send_82 : decode cX8_send 82 = .ok (.aload_n 0, 1) := by decide +kernel
theorem dX8_send_83 : decode cX8_send 83 = .ok (.getfield 17, 3) := by decide +kernel
theorem dX8_send_86 : decode cX8_send 86 = .ok (.bipush 33, 2) := by decide +kernel
theorem dX8_send_88 : decode cX8_send 88 = .ok (.iload 10, 2) := by decide +kernel
theorem dX8_send_90 : decode cX8_send 90 = .ok (.iastore, 1) := by decide +kernel
theorem dX8_send_91 : decode cX8_send 91 = .ok (.iload 9, 2) := by decide +kernel
theorem dX8_send_93 : decode cX8_send 93 = .ok (.aload_n 0, 1) := by decide +kernel
theorem dX8_send_94 : decode cX8_send 94 = .ok (.getfield 55, 3) := by decide +kernel
theorem dX8_send_97 : decode cX8_send 97 = .ok (.iload 10, 2) := by decide +kernel
theorem dX8_send_99 : decode cX8_send 99 = .ok (.baload, 1) := by decide +kernel
theorem dX8_send_100 : decode cX8_send 100 = .ok (.ifCond .eq 16, 3) := by decide +kernel
theorem dX8_send_103 : decode cX8_send 103 = .ok (.aload_n 0, 1) := by decide +kernel
theorem dX8_send_104 : decode cX8_send 104 = .ok (.iload 8, 2) := by decide +kernel
theorem dX8_send_106 : decode cX8_send 106 = .ok (.invokevirtual 166, 3) := by decide +kernel
theorem dX8_send_109 : decode cX8_send 109 = .ok (.ifCond .eq 7, 3) := by decide +kernel
theorem dX8_send_112 : decode cX8_send 112 = .ok (.iconst 1, 1) := by decide +kernel
theorem dX8_send_113 : decode cX8_send 113 = .ok (.goto 4, 3) := by decide +kernel
theorem dX8_send_116 : decode cX8_send 116 = .ok (.iconst 0, 1) := by decide +kernel
theorem dX8_send_117 : decode cX8_send 117 = .ok (.iadd, 1) := by decide +kernel
theorem dX8_send_118 : decode cX8_send 118 = .ok (.istore 9, 2) := by decide +kernel
theorem dX8_send_120 : decode cX8_send 120 = .ok (.iinc 10 1, 3) := by decide +kernel
theorem dX8_send_123 : decode cX8_send 123 = .ok (.goto (-48), 3) := by decide +kernel
theorem dX8_send_126 : decode cX8_send 126 = .ok (.iload 9, 2) := by decide +kernel
theorem dX8_send_128 : decode cX8_send 128 = .ok (.iload 4, 2) := by decide +kernel
theorem dX8_send_130 : decode cX8_send 130 = .ok (.iload 9, 2) := by decide +kernel
theorem dX8_send_132 : decode cX8_send 132 = .ok (.isub, 1) := by decide +kernel
theorem dX8_send_133 : decode cX8_send 133 = .ok (.invokestatic 65, 3) := by decide +kernel
theorem dX8_send_136 : decode cX8_send 136 = .ok (.istore 10, 2) := by decide +kernel
theorem dX8_send_138 : decode cX8_send 138 = .ok (.iload 10, 2) := by decide +kernel
theorem dX8_send_140 : decode cX8_send 140 = .ok (.iload 6, 2) := by decide +kernel
theorem dX8_send_142 : decode cX8_send 142 = .ok (.if_icmp .ge 8, 3) := by decide +kernel
theorem dX8_send_145 : decode cX8_send 145 = .ok (.iload 8, 2) := by decide +kernel
theorem dX8_send_147 : decode cX8_send 147 = .ok (.goto 5, 3) := by decide +kernel
theorem dX8_send_150 : decode cX8_send 150 = .ok (.iload 5, 2) := by decide +kernel
theorem dX8_send_152 : decode cX8_send 152 = .ok (.istore 5, 2) := by decide +kernel
theorem dX8_send_154 : decode cX8_send 154 = .ok (.iload 10, 2) := by decide +kernel
theorem dX8_send_156 : decode cX8_send 156 = .ok (.iload 6, 2) := by decide +kernel
theorem dX8_send_158 : decode cX8_send 158 = .ok (.invokestatic 59, 3) := by decide +kernel
theorem dX8_send_161 : decode cX8_send 161 = .ok (.istore 6, 2) := by decide +kernel
theorem dX8_send_163 : decode cX8_send 163 = .ok (.iinc 8 1, 3) := by decide +kernel
theorem dX8_send_166 : decode cX8_send 166 = .ok (.goto (-112), 3) := by decide +kernel
theorem dX8_send_169 : decode cX8_send 169 = .ok (.aload_n 0, 1) := by decide +kernel
theorem dX8_send_170 : decode cX8_send 170 = .ok (.getfield 17, 3) := by decide +kernel
theorem dX8_send_173 : decode cX8_send 173 = .ok (.bipush 33, 2) := by decide +kernel
theorem dX8_send_175 : decode cX8_send 175 = .ok (.iload 7, 2) := by decide +kernel
theorem dX8_send_177 : decode cX8_send 177 = .ok (.iastore, 1) := by decide +kernel
theorem dX8_send_178 : decode cX8_send 178 = .ok (.iload 5, 2) := by decide +kernel
theorem dX8_send_180 : decode cX8_send 180 = .ok (.ireturn, 1) := by decide +kernel
theorem dX8_settles_0 : decode cX8_settles 0 = .ok (.aload_n 0, 1) := by decide +kernel
theorem dX8_settles_1 : decode cX8_settles 1 = .ok (.iload_n 1, 1) := by decide +kernel
theorem dX8_settles_2 : decode cX8_settles 2 = .ok (.i2l, 1) := by decide +kernel
theorem dX8_settles_3 : decode cX8_settles 3 = .ok (.invokevirtual 184, 3) := by decide +kernel
theorem dX8_settles_6 : decode cX8_settles 6 = .ok (.ifCond .ne 10, 3) := by decide +kernel
theorem dX8_settles_9 : decode cX8_settles 9 = .ok (.aload_n 0, 1) := by decide +kernel
theorem dX8_settles_10 : decode cX8_settles 10 = .ok (.bipush (-2), 2) := by decide +kernel
theorem dX8_settles_12 : decode cX8_settles 12 = .ok (.invokevirtual 90, 3) := by decide +kernel
theorem dX8_settles_15 : decode cX8_settles 15 = .ok (.ireturn, 1) := by decide +kernel
theorem dX8_settles_16 : decode cX8_settles 16 = .ok (.aload_n 0, 1) := by decide +kernel
theorem dX8_settles_17 : decode cX8_settles 17 = .ok (.iconst 0, 1) := by decide +kernel
theorem dX8_settles_18 : decode cX8_settles 18 = .ok (.invokevirtual 142, 3) := by decide +kernel
theorem dX8_settles_21 : decode cX8_settles 21 = .ok (.iconst (-1), 1) := by decide +kernel
theorem dX8_settles_22 : decode cX8_settles 22 = .ok (.istore_n 2, 1) := by decide +kernel
theorem dX8_settles_23 : decode cX8_settles 23 = .ok (.iconst 1, 1) := by decide +kernel
theorem dX8_settles_24 : decode cX8_settles 24 = .ok (.istore_n 3, 1) := by decide +kernel
theorem dX8_settles_25 : decode cX8_settles 25 = .ok (.iload_n 3, 1) := by decide +kernel
theorem dX8_settles_26 : decode cX8_settles 26 = .ok (.sipush 200, 3) := by decide +kernel
theorem dX8_settles_29 : decode cX8_settles 29 = .ok (.if_icmp .gt 89, 3) := by decide +kernel
theorem dX8_settles_32 : decode cX8_settles 32 = .ok (.iload_n 2, 1) := by decide +kernel
theorem dX8_settles_33 : decode cX8_settles 33 = .ok (.iconst (-1), 1) := by decide +kernel
theorem dX8_settles_34 : decode cX8_settles 34 = .ok (.if_icmp .ne 84, 3) := by decide +kernel
theorem dX8_settles_37 : decode cX8_settles 37 = .ok (.aload_n 0, 1) := by decide +kernel
theorem dX8_settles_38 : decode cX8_settles 38 = .ok (.getfield 17, 3) := by decide +kernel
theorem dX8_settles_41 : decode cX8_settles 41 = .ok (.bipush 33, 2) := by decide +kernel
theorem dX8_settles_43 : decode cX8_settles 43 = .ok (.iaload, 1) := by decide +kernel
theorem dX8_settles_44 : decode cX8_settles 44 = .ok (.istore 4, 2) := by decide +kernel
theorem dX8_settles_46 : decode cX8_settles 46 = .ok (.aload_n 0, 1) := by decide +kernel
theorem dX8_settles_47 : decode cX8_settles 47 = .ok (.getfield 17, 3) := by decide +kernel
theorem dX8_settles_50 : decode cX8_settles 50 = .ok (.bipush 34, 2) := by decide +kernel
theorem dX8_settles_52 : decode cX8_settles 52 = .ok (.iaload, 1) := by decide +kernel
theorem dX8_settles_53 : decode cX8_settles 53 = .ok (.istore 5, 2) := by decide +kernel
theorem dX8_settles_55 : decode cX8_settles 55 = .ok (.aload_n 0, 1) := by decide +kernel
theorem dX8_settles_56 : decode cX8_settles 56 = .ok (.getfield 17, 3) := by decide +kernel
theorem dX8_settles_59 : decode cX8_settles 59 = .ok (.bipush 35, 2) := by decide +kernel
theorem dX8_settles_61 : decode cX8_settles 61 = .ok (.iaload, 1) := by decide +kernel
theorem dX8_settles_62 : decode cX8_settles 62 = .ok (.istore 6, 2) := by decide +kernel
theorem dX8_settles_64 : decode cX8_settles 64 = .ok (.aload_n 0, 1) := by decide +kernel
theorem dX8_settles_65 : decode cX8_settles 65 = .ok (.iload_n 1, 1) := by decide +kernel
theorem dX8_settles_66 : decode cX8_settles 66 = .ok (.invokevirtual 181, 3) := by decide +kernel
theorem dX8_settles_69 : decode cX8_settles 69 = .ok (.pop, 1) := by decide +kernel
theorem dX8_settles_70 : decode cX8_settles 70 = .ok (.iload 4, 2) := by decide +kernel
theorem dX8_settles_72 : decode cX8_settles 72 = .ok (.aload_n 0, 1) := by decide +kernel
theorem dX8_settles_73 : decode cX8_settles 73 = .ok (.getfield 17, 3) := by decide +kernel
theorem dX8_settles_76 : decode cX8_settles 76 = .ok (.bipush 33, 2) := by decide +kernel
theorem dX8_settles_78 : decode cX8_settles 78 = .ok (.iaload, 1) := by decide +kernel
theorem dX8_settles_79 : decode cX8_settles 79 = .ok (.if_icmp .ne 31, 3) := by decide +kernel
theorem dX8_settles_82 : decode cX8_settles 82 = .ok (.iload 5, 2) := by decide +kernel
theorem dX8_settles_84 : decode cX8_settles 84 = .ok (.aload_n 0, 1) := by decide +kernel
theorem dX8_settles_85 : decode cX8_settles 85 = .ok (.getfield 17, 3) := by decide +kernel
theorem dX8_settles_88 : decode cX8_settles 88 = .ok (.bipush 34, 2) := by decide +kernel
theorem dX8_settles_90 : decode cX8_settles 90 = .ok (.iaload, 1) := by decide +kernel
theorem dX8_settles_91 : decode cX8_settles 91 = .ok (.if_icmp .ne 19, 3) := by decide +kernel
theorem dX8_settles_94 : decode cX8_settles 94 = .ok (.iload 6, 2) := by decide +kernel
theorem dX8_settles_96 : decode cX8_settles 96 = .ok (.aload_n 0, 1) := by decide +kernel
theorem dX8_settles_97 : decode cX8_settles 97 = .ok (.getfield 17, 3) := by decide +kernel
theorem dX8_settles_100 : decode cX8_settles 100 = .ok (.bipush 35, 2) := by decide +kernel
theorem dX8_settles_102 : decode cX8_settles 102 = .ok (.iaload, 1) := by decide +kernel
theorem dX8_settles_103 : decode cX8_settles 103 = .ok (.if_icmp .ne 7, 3) := by decide +kernel
theorem dX8_settles_106 : decode cX8_settles 106 = .ok (.iload_n 3, 1) := by decide +kernel
theorem dX8_settles_107 : decode cX8_settles 107 = .ok (.goto 4, 3) := by decide +kernel
theorem dX8_settles_110 : decode cX8_settles 110 = .ok (.iconst (-1), 1) := by decide +kernel
theorem dX8_settles_111 : decode cX8_settles 111 = .ok (.istore_n 2, 1) := by decide +kernel
theorem dX8_settles_112 : decode cX8_settles 112 = .ok (.iinc 3 1, 3) := by decide +kernel
theorem dX8_settles_115 : decode cX8_settles 115 = .ok (.goto (-90), 3) := by decide +kernel
theorem dX8_settles_118 : decode cX8_settles 118 = .ok (.aload_n 0, 1) := by decide +kernel
theorem dX8_settles_119 : decode cX8_settles 119 = .ok (.iconst 0, 1) := by decide +kernel
theorem dX8_settles_120 : decode cX8_settles 120 = .ok (.invokevirtual 150, 3) := by decide +kernel
theorem dX8_settles_123 : decode cX8_settles 123 = .ok (.iload_n 2, 1) := by decide +kernel
theorem dX8_settles_124 : decode cX8_settles 124 = .ok (.ireturn, 1) := by decide +kernel
theorem dX8_overBy_0 : decode cX8_overBy 0 = .ok (.aload_n 0, 1) := by decide +kernel
theorem dX8_overBy_1 : decode cX8_overBy 1 = .ok (.iconst 0, 1) := by decide +kernel
theorem dX8_overBy_2 : decode cX8_overBy 2 = .ok (.invokevirtual 142, 3) := by decide +kernel
theorem dX8_overBy_5 : decode cX8_overBy 5 = .ok (.aload_n 0, 1) := by decide +kernel
theorem dX8_overBy_6 : decode cX8_overBy 6 = .ok (.getfield 17, 3) := by decide +kernel
theorem dX8_overBy_9 : decode cX8_overBy 9 = .ok (.bipush 33, 2) := by decide +kernel
theorem dX8_overBy_11 : decode cX8_overBy 11 = .ok (.iaload, 1) := by decide +kernel
theorem dX8_overBy_12 : decode cX8_overBy 12 = .ok (.istore_n 3, 1) := by decide +kernel
theorem dX8_overBy_13 : decode cX8_overBy 13 = .ok (.bipush 48, 2) := by decide +kernel
theorem dX8_overBy_15 : decode cX8_overBy 15 = .ok (.istore 4, 2) := by decide +kernel
theorem dX8_overBy_17 : decode cX8_overBy 17 = .ok (.iconst 0, 1) := by decide +kernel
theorem dX8_overBy_18 : decode cX8_overBy 18 = .ok (.istore 5, 2) := by decide +kernel
theorem dX8_overBy_20 : decode cX8_overBy 20 = .ok (.iload 5, 2) := by decide +kernel
theorem dX8_overBy_22 : decode cX8_overBy 22 = .ok (.bipush 48, 2) := by decide +kernel
theorem dX8_overBy_24 : decode cX8_overBy 24 = .ok (.if_icmp .ge 50, 3) := by decide +kernel
theorem dX8_overBy_27 : decode cX8_overBy 27 = .ok (.aload_n 0, 1) := by decide +kernel
theorem dX8_overBy_28 : decode cX8_overBy 28 = .ok (.iload_n 1, 1) := by decide +kernel
theorem dX8_overBy_29 : decode cX8_overBy 29 = .ok (.invokevirtual 181, 3) := by decide +kernel
theorem dX8_overBy_32 : decode cX8_overBy 32 = .ok (.istore 6, 2) := by decide +kernel
theorem dX8_overBy_34 : decode cX8_overBy 34 = .ok (.iload 6, 2) := by decide +kernel
theorem dX8_overBy_36 : decode cX8_overBy 36 = .ok (.iconst 1, 1) := by decide +kernel
theorem dX8_overBy_37 : decode cX8_overBy 37 = .ok (.if_icmp .ne 15, 3) := by decide +kernel
theorem dX8_overBy_40 : decode cX8_overBy 40 = .ok (.iload 4, 2) := by decide +kernel
theorem dX8_overBy_42 : decode cX8_overBy 42 = .ok (.bipush 48, 2) := by decide +kernel
theorem dX8_overBy_44 : decode cX8_overBy 44 = .ok (.if_icmp .ne 8, 3) := by decide +kernel
theorem dX8_overBy_47 : decode cX8_overBy 47 = .ok (.iload 5, 2) := by decide +kernel
theorem dX8_overBy_49 : decode cX8_overBy 49 = .ok (.goto 5, 3) := by decide +kernel
theorem dX8_overBy_52 : decode cX8_overBy 52 = .ok (.iload 4, 2) := by decide +kernel
theorem dX8_overBy_54 : decode cX8_overBy 54 = .ok (.istore 4, 2) := by decide +kernel
theorem dX8_overBy_56 : decode cX8_overBy 56 = .ok (.aload_n 0, 1) := by decide +kernel
theorem dX8_overBy_57 : decode cX8_overBy 57 = .ok (.getfield 17, 3) := by decide +kernel
theorem dX8_overBy_60 : decode cX8_overBy 60 = .ok (.bipush 33, 2) := by decide +kernel
theorem dX8_overBy_62 : decode cX8_overBy 62 = .ok (.iaload, 1) := by decide +kernel
theorem dX8_overBy_63 : decode cX8_overBy 63 = .ok (.iload_n 3, 1) := by decide +kernel
theorem dX8_overBy_64 : decode cX8_overBy 64 = .ok (.invokestatic 59, 3) := by decide +kernel
theorem dX8_overBy_67 : decode cX8_overBy 67 = .ok (.istore_n 3, 1) := by decide +kernel
theorem dX8_overBy_68 : decode cX8_overBy 68 = .ok (.iinc 5 1, 3) := by decide +kernel
theorem dX8_overBy_71 : decode cX8_overBy 71 = .ok (.goto (-51), 3) := by decide +kernel
theorem dX8_overBy_74 : decode cX8_overBy 74 = .ok (.iload_n 2, 1) := by decide +kernel
theorem dX8_overBy_75 : decode cX8_overBy 75 = .ok (.ifCond .ne 7, 3) := by decide +kernel
theorem dX8_overBy_78 : decode cX8_overBy 78 = .ok (.iload_n 3, 1) := by decide +kernel
theorem dX8_overBy_79 : decode cX8_overBy 79 = .ok (.goto 24, 3) := by decide +kernel
theorem dX8_overBy_82 : decode cX8_overBy 82 = .ok (.iload_n 2, 1) := by decide +kernel
theorem dX8_overBy_83 : decode cX8_overBy 83 = .ok (.iconst 1, 1) := by decide +kernel
theorem dX8_overBy_84 : decode cX8_overBy 84 = .ok (.if_icmp .ne 8, 3) := by decide +kernel
theorem dX8_overBy_87 : decode cX8_overBy 87 = .ok (.iload 4, 2) := by decide +kernel
theorem dX8_overBy_89 : decode cX8_overBy 89 = .ok (.goto 14, 3) := by decide +kernel
theorem dX8_overBy_92 : decode cX8_overBy 92 = .ok (.aload_n 0, 1) := by decide +kernel
theorem dX8_overBy_93 : decode cX8_overBy 93 = .ok (.getfield 17, 3) := by decide +kernel
theorem dX8_overBy_96 : decode cX8_overBy 96 = .ok (.bipush 33, 2) := by decide +kernel
theorem dX8_overBy_98 : decode cX8_overBy 98 = .ok (.iload_n 2, 1) := by decide +kernel
theorem dX8_overBy_99 : decode cX8_overBy 99 = .ok (.iadd, 1) := by decide +kernel
theorem dX8_overBy_100 : decode cX8_overBy 100 = .ok (.iconst 2, 1) := by decide +kernel
theorem dX8_overBy_101 : decode cX8_overBy 101 = .ok (.isub, 1) := by decide +kernel
theorem dX8_overBy_102 : decode cX8_overBy 102 = .ok (.iaload, 1) := by decide +kernel
theorem dX8_overBy_103 : decode cX8_overBy 103 = .ok (.istore 5, 2) := by decide +kernel
theorem dX8_overBy_105 : decode cX8_overBy 105 = .ok (.aload_n 0, 1) := by decide +kernel
theorem dX8_overBy_106 : decode cX8_overBy 106 = .ok (.iconst 0, 1) := by decide +kernel
theorem dX8_overBy_107 : decode cX8_overBy 107 = .ok (.invokevirtual 150, 3) := by decide +kernel
theorem dX8_overBy_110 : decode cX8_overBy 110 = .ok (.iload 5, 2) := by decide +kernel
theorem dX8_overBy_112 : decode cX8_overBy 112 = .ok (.ireturn, 1) := by decide +kernel
theorem dX8_over_0 : decode cX8_over 0 = .ok (.aload_n 0, 1) := by decide +kernel
theorem dX8_over_1 : decode cX8_over 1 = .ok (.iload_n 1, 1) := by decide +kernel
theorem dX8_over_2 : decode cX8_over 2 = .ok (.i2l, 1) := by decide +kernel
theorem dX8_over_3 : decode cX8_over 3 = .ok (.invokevirtual 184, 3) := by decide +kernel
theorem dX8_over_6 : decode cX8_over 6 = .ok (.ifCond .eq 24, 3) := by decide +kernel
theorem dX8_over_9 : decode cX8_over 9 = .ok (.iload_n 2, 1) := by decide +kernel
theorem dX8_over_10 : decode cX8_over 10 = .ok (.i2l, 1) := by decide +kernel
theorem dX8_over_11 : decode cX8_over 11 = .ok (.lconst 0, 1) := by decide +kernel
theorem dX8_over_12 : decode cX8_over 12 = .ok (.ldc2_w 101, 3) := by decide +kernel
theorem dX8_over_15 : decode cX8_over 15 = .ok (.invokestatic 68, 3) := by decide +kernel
theorem dX8_over_18 : decode cX8_over 18 = .ok (.ifCond .eq 12, 3) := by decide +kernel
theorem dX8_over_21 : decode cX8_over 21 = .ok (.aload_n 0, 1) := by decide +kernel
theorem dX8_over_22 : decode cX8_over 22 = .ok (.iload_n 1, 1) := by decide +kernel
theorem dX8_over_23 : decode cX8_over 23 = .ok (.iload_n 2, 1) := by decide +kernel
theorem dX8_over_24 : decode cX8_over 24 = .ok (.invokevirtual 260, 3) := by decide +kernel
theorem dX8_over_27 : decode cX8_over 27 = .ok (.goto 9, 3) := by decide +kernel
theorem dX8_over_30 : decode cX8_over 30 = .ok (.aload_n 0, 1) := by decide +kernel
theorem dX8_over_31 : decode cX8_over 31 = .ok (.bipush (-2), 2) := by decide +kernel
theorem dX8_over_33 : decode cX8_over 33 = .ok (.invokevirtual 90, 3) := by decide +kernel
theorem dX8_over_36 : decode cX8_over 36 = .ok (.ireturn, 1) := by decide +kernel
theorem dX8_safest_0 : decode cX8_safest 0 = .ok (.iconst (-1), 1) := by decide +kernel
theorem dX8_safest_1 : decode cX8_safest 1 = .ok (.istore_n 1, 1) := by decide +kernel
theorem dX8_safest_2 : decode cX8_safest 2 = .ok (.iconst (-1), 1) := by decide +kernel
theorem dX8_safest_3 : decode cX8_safest 3 = .ok (.istore_n 2, 1) := by decide +kernel
theorem dX8_safest_4 : decode cX8_safest 4 = .ok (.iconst 0, 1) := by decide +kernel
theorem dX8_safest_5 : decode cX8_safest 5 = .ok (.istore_n 3, 1) := by decide +kernel
theorem dX8_safest_6 : decode cX8_safest 6 = .ok (.iload_n 3, 1) := by decide +kernel
theorem dX8_safest_7 : decode cX8_safest 7 = .ok (.aload_n 0, 1) := by decide +kernel
theorem dX8_safest_8 : decode cX8_safest 8 = .ok (.invokevirtual 80, 3) := by decide +kernel
theorem dX8_safest_11 : decode cX8_safest 11 = .ok (.iconst 2, 1) := by decide +kernel
theorem dX8_safest_12 : decode cX8_safest 12 = .ok (.iadd, 1) := by decide +kernel
theorem dX8_safest_13 : decode cX8_safest 13 = .ok (.if_icmp .ge 44, 3) := by decide +kernel
theorem dX8_safest_16 : decode cX8_safest 16 = .ok (.aload_n 0, 1) := by decide +kernel
theorem dX8_safest_17 : decode cX8_safest 17 = .ok (.aload_n 0, 1) := by decide +kernel
theorem dX8_safest_18 : decode cX8_safest 18 = .ok (.iload_n 3, 1) := by decide +kernel
theorem dX8_safest_19 : decode cX8_safest 19 = .ok (.invokevirtual 195, 3) := by decide +kernel
theorem dX8_safest_22 : decode cX8_safest 22 = .ok (.iconst 1, 1) := by decide +kernel
theorem dX8_safest_23 : decode cX8_safest 23 = .ok (.invokevirtual 260, 3) := by decide +kernel
theorem dX8_safest_26 : decode cX8_safest 26 = .ok (.istore 4, 2) := by decide +kernel
theorem dX8_safest_28 : decode cX8_safest 28 = .ok (.iload 4, 2) := by decide +kernel
theorem dX8_safest_30 : decode cX8_safest 30 = .ok (.iload_n 2, 1) := by decide +kernel
theorem dX8_safest_31 : decode cX8_safest 31 = .ok (.if_icmp .le 11, 3) := by decide +kernel
theorem dX8_safest_34 : decode cX8_safest 34 = .ok (.aload_n 0, 1) := by decide +kernel
theorem dX8_safest_35 : decode cX8_safest 35 = .ok (.iload_n 3, 1) := by decide +kernel
theorem dX8_safest_36 : decode cX8_safest 36 = .ok (.invokevirtual 195, 3) := by decide +kernel
theorem dX8_safest_39 : decode cX8_safest 39 = .ok (.goto 4, 3) := by decide +kernel
theorem dX8_safest_42 : decode cX8_safest 42 = .ok (.iload_n 1, 1) := by decide +kernel
theorem dX8_safest_43 : decode cX8_safest 43 = .ok (.istore_n 1, 1) := by decide +kernel
theorem dX8_safest_44 : decode cX8_safest 44 = .ok (.iload 4, 2) := by decide +kernel
theorem dX8_safest_46 : decode cX8_safest 46 = .ok (.iload_n 2, 1) := by decide +kernel
theorem dX8_safest_47 : decode cX8_safest 47 = .ok (.invokestatic 65, 3) := by decide +kernel
theorem dX8_safest_50 : decode cX8_safest 50 = .ok (.istore_n 2, 1) := by decide +kernel
theorem dX8_safest_51 : decode cX8_safest 51 = .ok (.iinc 3 1, 3) := by decide +kernel
theorem dX8_safest_54 : decode cX8_safest 54 = .ok (.goto (-48), 3) := by decide +kernel
theorem dX8_safest_57 : decode cX8_safest 57 = .ok (.iload_n 1, 1) := by decide +kernel
theorem dX8_safest_58 : decode cX8_safest 58 = .ok (.ireturn, 1) := by decide +kernel
theorem dX8_till_0 : decode cX8_till 0 = .ok (.aload_n 0, 1) := by decide +kernel
theorem dX8_till_1 : decode cX8_till 1 = .ok (.iconst 0, 1) := by decide +kernel
theorem dX8_till_2 : decode cX8_till 2 = .ok (.invokevirtual 142, 3) := by decide +kernel
theorem dX8_till_5 : decode cX8_till 5 = .ok (.iconst 0, 1) := by decide +kernel
theorem dX8_till_6 : decode cX8_till 6 = .ok (.istore 5, 2) := by decide +kernel
theorem dX8_till_8 : decode cX8_till 8 = .ok (.iload 5, 2) := by decide +kernel
theorem dX8_till_10 : decode cX8_till 10 = .ok (.sipush 200, 3) := by decide +kernel
theorem dX8_till_13 : decode cX8_till 13 = .ok (.if_icmp .gt 43, 3) := by decide +kernel
theorem dX8_till_16 : decode cX8_till 16 = .ok (.iload 4, 2) := by decide +kernel
theorem dX8_till_18 : decode cX8_till 18 = .ok (.ifCond .eq 16, 3) := by decide +kernel
theorem dX8_till_21 : decode cX8_till 21 = .ok (.aload_n 0, 1) := by decide +kernel
theorem dX8_till_22 : decode cX8_till 22 = .ok (.getfield 17, 3) := by decide +kernel
theorem dX8_till_25 : decode cX8_till 25 = .ok (.iload_n 2, 1) := by decide +kernel
theorem dX8_till_26 : decode cX8_till 26 = .ok (.iaload, 1) := by decide +kernel
theorem dX8_till_27 : decode cX8_till 27 = .ok (.iload_n 3, 1) := by decide +kernel
theorem dX8_till_28 : decode cX8_till 28 = .ok (.if_icmp .ge 28, 3) := by decide +kernel
theorem dX8_till_31 : decode cX8_till 31 = .ok (.goto 13, 3) := by decide +kernel
theorem dX8_till_34 : decode cX8_till 34 = .ok (.aload_n 0, 1) := by decide +kernel
theorem dX8_till_35 : decode cX8_till 35 = .ok (.getfield 17, 3) := by decide +kernel
theorem dX8_till_38 : decode cX8_till 38 = .ok (.iload_n 2, 1) := by decide +kernel
theorem dX8_till_39 : decode cX8_till 39 = .ok (.iaload, 1) := by decide +kernel
theorem dX8_till_40 : decode cX8_till 40 = .ok (.iload_n 3, 1) := by decide +kernel
theorem dX8_till_41 : decode cX8_till 41 = .ok (.if_icmp .le 15, 3) := by decide +kernel
theorem dX8_till_44 : decode cX8_till 44 = .ok (.aload_n 0, 1) := by decide +kernel
theorem dX8_till_45 : decode cX8_till 45 = .ok (.iload_n 1, 1) := by decide +kernel
theorem dX8_till_46 : decode cX8_till 46 = .ok (.invokevirtual 181, 3) := by decide +kernel
theorem dX8_till_49 : decode cX8_till 49 = .ok (.pop, 1) := by decide +kernel
theorem dX8_till_50 : decode cX8_till 50 = .ok (.iinc 5 1, 3) := by decide +kernel
theorem dX8_till_53 : decode cX8_till 53 = .ok (.goto (-45), 3) := by decide +kernel
theorem dX8_till_56 : decode cX8_till 56 = .ok (.aload_n 0, 1) := by decide +kernel
theorem dX8_till_57 : decode cX8_till 57 = .ok (.iconst 0, 1) := by decide +kernel
theorem dX8_till_58 : decode cX8_till 58 = .ok (.invokevirtual 150, 3) := by decide +kernel
theorem dX8_till_61 : decode cX8_till 61 = .ok (.iload 5, 2) := by decide +kernel
theorem dX8_till_63 : decode cX8_till 63 = .ok (.sipush 200, 3) := by decide +kernel
theorem dX8_till_66 : decode cX8_till 66 = .ok (.if_icmp .le 7, 3) := by decide +kernel
theorem dX8_till_69 : decode cX8_till 69 = .ok (.iconst (-1), 1) := by decide +kernel
theorem dX8_till_70 : decode cX8_till 70 = .ok (.goto 5, 3) := by decide +kernel
theorem dX8_till_73 : decode cX8_till 73 = .ok (.iload 5, 2) := by decide +kernel
theorem dX8_till_75 : decode cX8_till 75 = .ok (.ireturn, 1) := by decide +kernel
theorem dX8_until_0 : decode cX8_until 0 = .ok (.aload_n 0, 1) := by decide +kernel
theorem dX8_until_1 : decode cX8_until 1 = .ok (.iload_n 1, 1) := by decide +kernel
theorem dX8_until_2 : decode cX8_until 2 = .ok (.i2l, 1) := by decide +kernel
theorem dX8_until_3 : decode cX8_until 3 = .ok (.invokevirtual 184, 3) := by decide +kernel
theorem dX8_until_6 : decode cX8_until 6 = .ok (.ifCond .eq 27, 3) := by decide +kernel
theorem dX8_until_9 : decode cX8_until 9 = .ok (.iload_n 2, 1) := by decide +kernel
theorem dX8_until_10 : decode cX8_until 10 = .ok (.i2l, 1) := by decide +kernel
theorem dX8_until_11 : decode cX8_until 11 = .ok (.lconst 0, 1) := by decide +kernel
theorem dX8_until_12 : decode cX8_until 12 = .ok (.ldc2_w 105, 3) := by decide +kernel
theorem dX8_until_15 : decode cX8_until 15 = .ok (.invokestatic 68, 3) := by decide +kernel
theorem dX8_until_18 : decode cX8_until 18 = .ok (.ifCond .eq 15, 3) := by decide +kernel
theorem dX8_until_21 : decode cX8_until 21 = .ok (.aload_n 0, 1) := by decide +kernel
theorem dX8_until_22 : decode cX8_until 22 = .ok (.iload_n 1, 1) := by decide +kernel
theorem dX8_until_23 : decode cX8_until 23 = .ok (.bipush 33, 2) := by decide +kernel
theorem dX8_until_25 : decode cX8_until 25 = .ok (.iload_n 2, 1) := by decide +kernel
theorem dX8_until_26 : decode cX8_until 26 = .ok (.iconst 0, 1) := by decide +kernel
theorem dX8_until_27 : decode cX8_until 27 = .ok (.invokevirtual 263, 3) := by decide +kernel
theorem dX8_until_30 : decode cX8_until 30 = .ok (.goto 9, 3) := by decide +kernel
theorem dX8_until_33 : decode cX8_until 33 = .ok (.aload_n 0, 1) := by decide +kernel
theorem dX8_until_34 : decode cX8_until 34 = .ok (.bipush (-2), 2) := by decide +kernel
theorem dX8_until_36 : decode cX8_until 36 = .ok (.invokevirtual 90, 3) := by decide +kernel
theorem dX8_until_39 : decode cX8_until 39 = .ok (.ireturn, 1) := by decide +kernel
theorem dX8_grown_0 : decode cX8_grown 0 = .ok (.aload_n 0, 1) := by decide +kernel
theorem dX8_grown_1 : decode cX8_grown 1 = .ok (.iload_n 1, 1) := by decide +kernel
theorem dX8_grown_2 : decode cX8_grown 2 = .ok (.i2l, 1) := by decide +kernel
theorem dX8_grown_3 : decode cX8_grown 3 = .ok (.invokevirtual 184, 3) := by decide +kernel
theorem dX8_grown_6 : decode cX8_grown 6 = .ok (.ifCond .eq 16, 3) := by decide +kernel
theorem dX8_grown_9 : decode cX8_grown 9 = .ok (.aload_n 0, 1) := by decide +kernel
theorem dX8_grown_10 : decode cX8_grown 10 = .ok (.iload_n 1, 1) := by decide +kernel
theorem dX8_grown_11 : decode cX8_grown 11 = .ok (.bipush 35, 2) := by decide +kernel
theorem dX8_grown_13 : decode cX8_grown 13 = .ok (.bipush 9, 2) := by decide +kernel
theorem dX8_grown_15 : decode cX8_grown 15 = .ok (.iconst 1, 1) := by decide +kernel
theorem dX8_grown_16 : decode cX8_grown 16 = .ok (.invokevirtual 263, 3) := by decide +kernel
theorem dX8_grown_19 : decode cX8_grown 19 = .ok (.goto 9, 3) := by decide +kernel
theorem dX8_grown_22 : decode cX8_grown 22 = .ok (.aload_n 0, 1) := by decide +kernel
theorem dX8_grown_23 : decode cX8_grown 23 = .ok (.bipush (-2), 2) := by decide +kernel
theorem dX8_grown_25 : decode cX8_grown 25 = .ok (.invokevirtual 90, 3) := by decide +kernel
theorem dX8_grown_28 : decode cX8_grown 28 = .ok (.ireturn, 1) := by decide +kernel
theorem dX8_meetings_0 : decode cX8_meetings 0 = .ok (.aload_n 0, 1) := by decide +kernel
theorem dX8_meetings_1 : decode cX8_meetings 1 = .ok (.iconst 0, 1) := by decide +kernel
theorem dX8_meetings_2 : decode cX8_meetings 2 = .ok (.invokevirtual 142, 3) := by decide +kernel
theorem dX8_meetings_5 : decode cX8_meetings 5 = .ok (.iconst 0, 1) := by decide +kernel
theorem dX8_meetings_6 : decode cX8_meetings 6 = .ok (.istore_n 1, 1) := by decide +kernel
theorem dX8_meetings_7 : decode cX8_meetings 7 = .ok (.iload_n 1, 1) := by decide +kernel
theorem dX8_meetings_8 : decode cX8_meetings 8 = .ok (.sipush 200, 3) := by decide +kernel
theorem dX8_meetings_11 : decode cX8_meetings 11 = .ok (.if_icmp .gt 33, 3) := by decide +kernel
theorem dX8_meetings_14 : decode cX8_meetings 14 = .ok (.aload_n 0, 1) := by decide +kernel
theorem dX8_meetings_15 : decode cX8_meetings 15 = .ok (.getfield 17, 3) := by decide +kernel
theorem dX8_meetings_18 : decode cX8_meetings 18 = .ok (.bipush 33, 2) := by decide +kernel
theorem dX8_meetings_20 : decode cX8_meetings 20 = .ok (.iaload, 1) := by decide +kernel
theorem dX8_meetings_21 : decode cX8_meetings 21 = .ok (.aload_n 0, 1) := by decide +kernel
theorem dX8_meetings_22 : decode cX8_meetings 22 = .ok (.getfield 17, 3) := by decide +kernel
theorem dX8_meetings_25 : decode cX8_meetings 25 = .ok (.bipush 34, 2) := by decide +kernel
theorem dX8_meetings_27 : decode cX8_meetings 27 = .ok (.iaload, 1) := by decide +kernel
theorem dX8_meetings_28 : decode cX8_meetings 28 = .ok (.if_icmp .le 16, 3) := by decide +kernel
theorem dX8_meetings_31 : decode cX8_meetings 31 = .ok (.aload_n 0, 1) := by decide +kernel
theorem dX8_meetings_32 : decode cX8_meetings 32 = .ok (.bipush 10, 2) := by decide +kernel
theorem dX8_meetings_34 : decode cX8_meetings 34 = .ok (.invokevirtual 181, 3) := by decide +kernel
theorem dX8_meetings_37 : decode cX8_meetings 37 = .ok (.pop, 1) := by decide +kernel
theorem dX8_meetings_38 : decode cX8_meetings 38 = .ok (.iinc 1 1, 3) := by decide +kernel
theorem dX8_meetings_41 : decode cX8_meetings 41 = .ok (.goto (-34), 3) := by decide +kernel
theorem dX8_meetings_44 : decode cX8_meetings 44 = .ok (.aload_n 0, 1) := by decide +kernel
theorem dX8_meetings_45 : decode cX8_meetings 45 = .ok (.iconst 0, 1) := by decide +kernel
theorem dX8_meetings_46 : decode cX8_meetings 46 = .ok (.invokevirtual 150, 3) := by decide +kernel
theorem dX8_meetings_49 : decode cX8_meetings 49 = .ok (.iload_n 1, 1) := by decide +kernel
theorem dX8_meetings_50 : decode cX8_meetings 50 = .ok (.sipush 200, 3) := by decide +kernel
theorem dX8_meetings_53 : decode cX8_meetings 53 = .ok (.if_icmp .le 7, 3) := by decide +kernel
theorem dX8_meetings_56 : decode cX8_meetings 56 = .ok (.iconst (-1), 1) := by decide +kernel
theorem dX8_meetings_57 : decode cX8_meetings 57 = .ok (.goto 4, 3) := by decide +kernel
theorem dX8_meetings_60 : decode cX8_meetings 60 = .ok (.iload_n 1, 1) := by decide +kernel
theorem dX8_meetings_61 : decode cX8_meetings 61 = .ok (.ireturn, 1) := by decide +kernel
theorem dX8_chance_0 : decode cX8_chance 0 = .ok (.iload_n 1, 1) := by decide +kernel
theorem dX8_chance_1 : decode cX8_chance 1 = .ok (.iload_n 2, 1) := by decide +kernel
theorem dX8_chance_2 : decode cX8_chance 2 = .ok (.if_icmp .ne 39, 3) := by decide +kernel
theorem dX8_chance_5 : decode cX8_chance 5 = .ok (.aload_n 0, 1) := by decide +kernel
theorem dX8_chance_6 : decode cX8_chance 6 = .ok (.dup, 1) := by decide +kernel
theorem dX8_chance_7 : decode cX8_chance 7 = .ok (.getfield 267, 3) := by decide +kernel
theorem dX8_chance_10 : decode cX8_chance 10 = .ok (.iload_n 3, 1) := by decide +kernel
theorem dX8_chance_11 : decode cX8_chance 11 = .ok (.ifCond .eq 7, 3) := by decide +kernel
theorem dX8_chance_14 : decode cX8_chance 14 = .ok (.lconst 1, 1) := by decide +kernel
theorem dX8_chance_15 : decode cX8_chance 15 = .ok (.goto 4, 3) := by decide +kernel
theorem dX8_chance_18 : decode cX8_chance 18 = .ok (.lconst 0, 1) := by decide +kernel
theorem dX8_chance_19 : decode cX8_chance 19 = .ok (.ladd, 1) := by decide +kernel
theorem dX8_chance_20 : decode cX8_chance 20 = .ok (.putfield 267, 3) := by decide +kernel
theorem dX8_chance_23 : decode cX8_chance 23 = .ok (.aload_n 0, 1) := by decide +kernel
theorem dX8_chance_24 : decode cX8_chance 24 = .ok (.dup, 1) := by decide +kernel
theorem dX8_chance_25 : decode cX8_chance 25 = .ok (.getfield 271, 3) := by decide +kernel
theorem dX8_chance_28 : decode cX8_chance 28 = .ok (.aload_n 0, 1) := by decide +kernel
theorem dX8_chance_29 : decode cX8_chance 29 = .ok (.getfield 17, 3) := by decide +kernel
theorem dX8_chance_32 : decode cX8_chance 32 = .ok (.bipush 33, 2) := by decide +kernel
theorem dX8_chance_34 : decode cX8_chance 34 = .ok (.iaload, 1) := by decide +kernel
theorem dX8_chance_35 : decode cX8_chance 35 = .ok (.i2l, 1) := by decide +kernel
theorem dX8_chance_36 : decode cX8_chance 36 = .ok (.ladd, 1) := by decide +kernel
theorem dX8_chance_37 : decode cX8_chance 37 = .ok (.putfield 271, 3) := by decide +kernel
theorem dX8_chance_40 : decode cX8_chance 40 = .ok (.return_, 1) := by decide +kernel
theorem dX8_chance_41 : decode cX8_chance 41 = .ok (.aload_n 0, 1) := by decide +kernel
theorem dX8_chance_42 : decode cX8_chance 42 = .ok (.iload_n 1, 1) := by decide +kernel
theorem dX8_chance_43 : decode cX8_chance 43 = .ok (.invokevirtual 142, 3) := by decide +kernel
theorem dX8_chance_46 : decode cX8_chance 46 = .ok (.iconst 0, 1) := by decide +kernel
theorem dX8_chance_47 : decode cX8_chance 47 = .ok (.istore 4, 2) := by decide +kernel
theorem dX8_chance_49 : decode cX8_chance 49 = .ok (.iload 4, 2) := by decide +kernel
theorem dX8_chance_51 : decode cX8_chance 51 = .ok (.aload_n 0, 1) := by decide +kernel
theorem dX8_chance_52 : decode cX8_chance 52 = .ok (.invokevirtual 80, 3) := by decide +kernel
theorem dX8_chance_55 : decode cX8_chance 55 = .ok (.if_icmp .ge 45, 3) := by decide +kernel
theorem dX8_chance_58 : decode cX8_chance 58 = .ok (.aload_n 0, 1) := by decide +kernel
theorem dX8_chance_59 : decode cX8_chance 59 = .ok (.iload 4, 2) := by decide +kernel
theorem dX8_chance_61 : decode cX8_chance 61 = .ok (.invokevirtual 181, 3) := by decide +kernel
theorem dX8_chance_64 : decode cX8_chance 64 = .ok (.istore 5, 2) := by decide +kernel
theorem dX8_chance_66 : decode cX8_chance 66 = .ok (.aload_n 0, 1) := by decide +kernel
theorem dX8_chance_67 : decode cX8_chance 67 = .ok (.iload_n 1, 1) := by decide +kernel
theorem dX8_chance_68 : decode cX8_chance 68 = .ok (.iconst 1, 1) := by decide +kernel
theorem dX8_chance_69 : decode cX8_chance 69 = .ok (.iadd, 1) := by decide +kernel
theorem dX8_chance_70 : decode cX8_chance 70 = .ok (.iload_n 2, 1) := by decide +kernel
theorem dX8_chance_71 : decode cX8_chance 71 = .ok (.iload_n 3, 1) := by decide +kernel
theorem dX8_chance_72 : decode cX8_chance 72 = .ok (.ifCond .ne 9, 3) := by decide +kernel
theorem dX8_chance_75 : decode cX8_chance 75 = .ok (.iload 5, 2) := by decide +kernel
theorem dX8_chance_77 : decode cX8_chance 77 = .ok (.iconst 1, 1) := by decide +kernel
theorem dX8_chance_78 : decode cX8_chance 78 = .ok (.if_icmp .ne 7, 3) := by decide +kernel
theorem dX8_chance_81 : decode cX8_chance 81 = .ok (.iconst 1, 1) := by decide +kernel
theorem dX8_chance_82 : decode cX8_chance 82 = .ok (.goto 4, 3) := by decide +kernel
theorem dX8_chance_85 : decode cX8_chance 85 = .ok (.iconst 0, 1) := by decide +kernel
theorem dX8_chance_86 : decode cX8_chance 86 = .ok (.invokevirtual 274, 3) := by decide +kernel
theorem dX8_chance_89 : decode cX8_chance 89 = .ok (.aload_n 0, 1) := by decide +kernel
theorem dX8_chance_90 : decode cX8_chance 90 = .ok (.iload_n 1, 1) := by decide +kernel
theorem dX8_chance_91 : decode cX8_chance 91 = .ok (.invokevirtual 150, 3) := by decide +kernel
theorem dX8_chance_94 : decode cX8_chance 94 = .ok (.iinc 4 1, 3) := by decide +kernel
theorem dX8_chance_97 : decode cX8_chance 97 = .ok (.goto (-48), 3) := by decide +kernel
theorem dX8_chance_100 : decode cX8_chance 100 = .ok (.return_, 1) := by decide +kernel
theorem dX8_odds_0 : decode cX8_odds 0 = .ok (.iload_n 1, 1) := by decide +kernel
theorem dX8_odds_1 : decode cX8_odds 1 = .ok (.i2l, 1) := by decide +kernel
theorem dX8_odds_2 : decode cX8_odds 2 = .ok (.lconst 0, 1) := by decide +kernel
theorem dX8_odds_3 : decode cX8_odds 3 = .ok (.ldc2_w 179, 3) := by decide +kernel
theorem dX8_odds_6 : decode cX8_odds 6 = .ok (.invokestatic 68, 3) := by decide +kernel
theorem dX8_odds_9 : decode cX8_odds 9 = .ok (.ifCond .eq 13, 3) := by decide +kernel
theorem dX8_odds_12 : decode cX8_odds 12 = .ok (.iload_n 2, 1) := by decide +kernel
theorem dX8_odds_13 : decode cX8_odds 13 = .ok (.i2l, 1) := by decide +kernel
theorem dX8_odds_14 : decode cX8_odds 14 = .ok (.lconst 0, 1) := by decide +kernel
theorem dX8_odds_15 : decode cX8_odds 15 = .ok (.lconst 1, 1) := by decide +kernel
theorem dX8_odds_16 : decode cX8_odds 16 = .ok (.invokestatic 68, 3) := by decide +kernel
theorem dX8_odds_19 : decode cX8_odds 19 = .ok (.ifCond .ne 10, 3) := by decide +kernel
theorem dX8_odds_22 : decode cX8_odds 22 = .ok (.aload_n 0, 1) := by decide +kernel
theorem dX8_odds_23 : decode cX8_odds 23 = .ok (.bipush (-2), 2) := by decide +kernel
theorem dX8_odds_25 : decode cX8_odds 25 = .ok (.invokevirtual 90, 3) := by decide +kernel
theorem dX8_odds_28 : decode cX8_odds 28 = .ok (.ireturn, 1) := by decide +kernel
theorem dX8_odds_29 : decode cX8_odds 29 = .ok (.aload_n 0, 1) := by decide +kernel
theorem dX8_odds_30 : decode cX8_odds 30 = .ok (.invokevirtual 80, 3) := by decide +kernel
theorem dX8_odds_33 : decode cX8_odds 33 = .ok (.ifCond .ne 10, 3) := by decide +kernel
theorem dX8_odds_36 : decode cX8_odds 36 = .ok (.aload_n 0, 1) := by decide +kernel
theorem dX8_odds_37 : decode cX8_odds 37 = .ok (.bipush (-5), 2) := by decide +kernel
theorem dX8_odds_39 : decode cX8_odds 39 = .ok (.invokevirtual 90, 3) := by decide +kernel
theorem dX8_odds_42 : decode cX8_odds 42 = .ok (.ireturn, 1) := by decide +kernel
theorem dX8_odds_43 : decode cX8_odds 43 = .ok (.aload_n 0, 1) := by decide +kernel
theorem dX8_odds_44 : decode cX8_odds 44 = .ok (.lconst 0, 1) := by decide +kernel
theorem dX8_odds_45 : decode cX8_odds 45 = .ok (.putfield 267, 3) := by decide +kernel
theorem dX8_odds_48 : decode cX8_odds 48 = .ok (.aload_n 0, 1) := by decide +kernel
theorem dX8_odds_49 : decode cX8_odds 49 = .ok (.lconst 0, 1) := by decide +kernel
theorem dX8_odds_50 : decode cX8_odds 50 = .ok (.putfield 271, 3) := by decide +kernel
theorem dX8_odds_53 : decode cX8_odds 53 = .ok (.aload_n 0, 1) := by decide +kernel
theorem dX8_odds_54 : decode cX8_odds 54 = .ok (.iconst 0, 1) := by decide +kernel
theorem dX8_odds_55 : decode cX8_odds 55 = .ok (.iload_n 1, 1) := by decide +kernel
theorem dX8_odds_56 : decode cX8_odds 56 = .ok (.iconst 0, 1) := by decide +kernel
theorem dX8_odds_57 : decode cX8_odds 57 = .ok (.invokevirtual 274, 3) := by decide +kernel
theorem dX8_odds_60 : decode cX8_odds 60 = .ok (.lconst 1, 1) := by decide +kernel
theorem dX8_odds_61 : decode cX8_odds 61 = .ok (.lstore_n 3, 1) := by decide +kernel
theorem dX8_odds_62 : decode cX8_odds 62 = .ok (.iconst 0, 1) := by decide +kernel
theorem dX8_odds_63 : decode cX8_odds 63 = .ok (.istore 5, 2) := by decide +kernel
theorem dX8_odds_65 : decode cX8_odds 65 = .ok (.iload 5, 2) := by decide +kernel
theorem dX8_odds_67 : decode cX8_odds 67 = .ok (.iload_n 1, 1) := by decide +kernel
theorem dX8_odds_68 : decode cX8_odds 68 = .ok (.if_icmp .ge 17, 3) := by decide +kernel
theorem dX8_odds_71 : decode cX8_odds 71 = .ok (.lload_n 3, 1) := by decide +kernel
theorem dX8_odds_72 : decode cX8_odds 72 = .ok (.aload_n 0, 1) := by decide +kernel
theorem dX8_odds_73 : decode cX8_odds 73 = .ok (.invokevirtual 80, 3) := by decide +kernel
theorem dX8_odds_76 : decode cX8_odds 76 = .ok (.i2l, 1) := by decide +kernel
theorem dX8_odds_77 : decode cX8_odds 77 = .ok (.lmul, 1) := by decide +kernel
theorem dX8_odds_78 : decode cX8_odds 78 = .ok (.lstore_n 3, 1) := by decide +kernel
theorem dX8_odds_79 : decode cX8_odds 79 = .ok (.iinc 5 1, 3) := by decide +kernel
theorem dX8_odds_82 : decode cX8_odds 82 = .ok (.goto (-17), 3) := by decide +kernel
theorem dX8_odds_85 : decode cX8_odds 85 = .ok (.iload_n 2, 1) := by decide +kernel
theorem dX8_odds_86 : decode cX8_odds 86 = .ok (.ifCond .ne 16, 3) := by decide +kernel
theorem dX8_odds_89 : decode cX8_odds 89 = .ok (.aload_n 0, 1) := by decide +kernel
theorem dX8_odds_90 : decode cX8_odds 90 = .ok (.getfield 267, 3) := by decide +kernel
theorem dX8_odds_93 : decode cX8_odds 93 = .ok (.ldc2_w 278, 3) := by decide +kernel
theorem dX8_odds_96 : decode cX8_odds 96 = .ok (.lmul, 1) := by decide +kernel
theorem dX8_odds_97 : decode cX8_odds 97 = .ok (.lload_n 3, 1) := by decide +kernel
theorem dX8_odds_98 : decode cX8_odds 98 = .ok (.ldiv, 1) := by decide +kernel
theorem dX8_odds_99 : decode cX8_odds 99 = .ok (.goto 13, 3) := by decide +kernel
theorem dX8_odds_102 : decode cX8_odds 102 = .ok (.aload_n 0, 1) := by decide +kernel
theorem dX8_odds_103 : decode cX8_odds 103 = .ok (.getfield 271, 3) := by decide +kernel
theorem dX8_odds_106 : decode cX8_odds 106 = .ok (.ldc2_w 280, 3) := by decide +kernel
theorem dX8_odds_109 : decode cX8_odds 109 = .ok (.lmul, 1) := by decide +kernel
theorem dX8_odds_110 : decode cX8_odds 110 = .ok (.lload_n 3, 1) := by decide +kernel
theorem dX8_odds_111 : decode cX8_odds 111 = .ok (.ldiv, 1) := by decide +kernel
theorem dX8_odds_112 : decode cX8_odds 112 = .ok (.l2i, 1) := by decide +kernel
theorem dX8_odds_113 : decode cX8_odds 113 = .ok (.ireturn, 1) := by decide +kernel
theorem dX8_flees_0 : decode cX8_flees 0 = .ok (.aload_n 0, 1) := by decide +kernel
theorem dX8_flees_1 : decode cX8_flees 1 = .ok (.iload_n 1, 1) := by decide +kernel
theorem dX8_flees_2 : decode cX8_flees 2 = .ok (.i2l, 1) := by decide +kernel
theorem dX8_flees_3 : decode cX8_flees 3 = .ok (.invokevirtual 76, 3) := by decide +kernel
theorem dX8_flees_6 : decode cX8_flees 6 = .ok (.ifCond .ne 10, 3) := by decide +kernel
theorem dX8_flees_9 : decode cX8_flees 9 = .ok (.aload_n 0, 1) := by decide +kernel
theorem dX8_flees_10 : decode cX8_flees 10 = .ok (.bipush (-2), 2) := by decide +kernel
theorem dX8_flees_12 : decode cX8_flees 12 = .ok (.invokevirtual 90, 3) := by decide +kernel
theorem dX8_flees_15 : decode cX8_flees 15 = .ok (.ireturn, 1) := by decide +kernel
theorem dX8_flees_16 : decode cX8_flees 16 = .ok (.aload_n 0, 1) := by decide +kernel
theorem dX8_flees_17 : decode cX8_flees 17 = .ok (.getfield 17, 3) := by decide +kernel
theorem dX8_flees_20 : decode cX8_flees 20 = .ok (.bipush 33, 2) := by decide +kernel
theorem dX8_flees_22 : decode cX8_flees 22 = .ok (.iaload, 1) := by decide +kernel
theorem dX8_flees_23 : decode cX8_flees 23 = .ok (.istore_n 2, 1) := by decide +kernel
theorem dX8_flees_24 : decode cX8_flees 24 = .ok (.iconst (-1), 1) := by decide +kernel
theorem dX8_flees_25 : decode cX8_flees 25 = .ok (.istore_n 3, 1) := by decide +kernel
