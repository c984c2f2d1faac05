theorem dX0_init_0 : decode cX0_init 0 = .ok (.aload_n 0, 1) := by decide +kernel
theorem dX0_init_1 : decode cX0_init 1 = .ok (.invokespecial 3, 3) := by decide +kernel
theorem dX0_init_4 : decode cX0_init 4 = .ok (.aload_n 0, 1) := by decide +kernel
theorem dX0_init_5 : decode cX0_init 5 = .ok (.iconst 0, 1) := by decide +kernel
theorem dX0_init_6 : decode cX0_init 6 = .ok (.putfield 9, 3) := by decide +kernel
theorem dX0_init_9 : decode cX0_init 9 = .ok (.aload_n 0, 1) := by decide +kernel
theorem dX0_init_10 : decode cX0_init 10 = .ok (.iconst 0, 1) := by decide +kernel
theorem dX0_init_11 : decode cX0_init 11 = .ok (.putfield 15, 3) := by decide +kernel
theorem dX0_init_14 : decode cX0_init 14 = .ok (.aload_n 0, 1) := by decide +kernel
theorem dX0_init_15 : decode cX0_init 15 = .ok (.iconst 0, 1) := by decide +kernel
theorem dX0_init_16 : decode cX0_init 16 = .ok (.putfield 18, 3) := by decide +kernel
theorem dX0_init_19 : decode cX0_init 19 = .ok (.aload_n 0, 1) := by decide +kernel
theorem dX0_init_20 : decode cX0_init 20 = .ok (.iconst 4, 1) := by decide +kernel
theorem dX0_init_21 : decode cX0_init 21 = .ok (.newarray .int, 2) := by decide +kernel
theorem dX0_init_23 : decode cX0_init 23 = .ok (.putfield 22, 3) := by decide +kernel
theorem dX0_init_26 : decode cX0_init 26 = .ok (.aload_n 0, 1) := by decide +kernel
theorem dX0_init_27 : decode cX0_init 27 = .ok (.iconst 4, 1) := by decide +kernel
theorem dX0_init_28 : decode cX0_init 28 = .ok (.newarray .int, 2) := by decide +kernel
theorem dX0_init_30 : decode cX0_init 30 = .ok (.putfield 26, 3) := by decide +kernel
theorem dX0_init_33 : decode cX0_init 33 = .ok (.aload_n 0, 1) := by decide +kernel
theorem dX0_init_34 : decode cX0_init 34 = .ok (.iconst 5, 1) := by decide +kernel
theorem dX0_init_35 : decode cX0_init 35 = .ok (.anewarray 29, 3) := by decide +kernel
theorem dX0_init_38 : decode cX0_init 38 = .ok (.dup, 1) := by decide +kernel
theorem dX0_init_39 : decode cX0_init 39 = .ok (.iconst 0, 1) := by decide +kernel
theorem dX0_init_40 : decode cX0_init 40 = .ok (.new 29, 3) := by decide +kernel
theorem dX0_init_43 : decode cX0_init 43 = .ok (.dup, 1) := by decide +kernel
theorem dX0_init_44 : decode cX0_init 44 = .ok (.invokespecial 31, 3) := by decide +kernel
theorem dX0_init_47 : decode cX0_init 47 = .ok (.aastore, 1) := by decide +kernel
theorem dX0_init_48 : decode cX0_init 48 = .ok (.dup, 1) := by decide +kernel
theorem dX0_init_49 : decode cX0_init 49 = .ok (.iconst 1, 1) := by decide +kernel
theorem dX0_init_50 : decode cX0_init 50 = .ok (.new 29, 3) := by decide +kernel
theorem dX0_init_53 : decode cX0_init 53 = .ok (.dup, 1) := by decide +kernel
theorem dX0_init_54 : decode cX0_init 54 = .ok (.invokespecial 31, 3) := by decide +kernel
theorem dX0_init_57 : decode cX0_init 57 = .ok (.aastore, 1) := by decide +kernel
theorem dX0_init_58 : decode cX0_init 58 = .ok (.dup, 1) := by decide +kernel
theorem dX0_init_59 : decode cX0_init 59 = .ok (.iconst 2, 1) := by decide +kernel
theorem dX0_init_60 : decode cX0_init 60 = .ok (.new 29, 3) := by decide +kernel
theorem dX0_init_63 : decode cX0_init 63 = .ok (.dup, 1) := by decide +kernel
theorem dX0_init_64 : decode cX0_init 64 = .ok (.invokespecial 31, 3) := by decide +kernel
theorem dX0_init_67 : decode cX0_init 67 = .ok (.aastore, 1) := by decide +kernel
theorem dX0_init_68 : decode cX0_init 68 = .ok (.dup, 1) := by decide +kernel
theorem dX0_init_69 : decode cX0_init 69 = .ok (.iconst 3, 1) := by decide +kernel
theorem dX0_init_70 : decode cX0_init 70 = .ok (.new 29, 3) := by decide +kernel
theorem dX0_init_73 : decode cX0_init 73 = .ok (.dup, 1) := by decide +kernel
theorem dX0_init_74 : decode cX0_init 74 = .ok (.invokespecial 31, 3) := by decide +kernel
theorem dX0_init_77 : decode cX0_init 77 = .ok (.aastore, 1) := by decide +kernel
theorem dX0_init_78 : decode cX0_init 78 = .ok (.dup, 1) := by decide +kernel
theorem dX0_init_79 : decode cX0_init 79 = .ok (.iconst 4, 1) := by decide +kernel
theorem dX0_init_80 : decode cX0_init 80 = .ok (.new 29, 3) := by decide +kernel
theorem dX0_init_83 : decode cX0_init 83 = .ok (.dup, 1) := by decide +kernel
theorem dX0_init_84 : decode cX0_init 84 = .ok (.invokespecial 31, 3) := by decide +kernel
theorem dX0_init_87 : decode cX0_init 87 = .ok (.aastore, 1) := by decide +kernel
theorem dX0_init_88 : decode cX0_init 88 = .ok (.putfield 32, 3) := by decide +kernel
theorem dX0_init_91 : decode cX0_init 91 = .ok (.return_, 1) := by decide +kernel
theorem dX0_run_0 : decode cX0_run 0 = .ok (.aload_n 0, 1) := by decide +kernel
theorem dX0_run_1 : decode cX0_run 1 = .ok (.iconst 0, 1) := by decide +kernel
theorem dX0_run_2 : decode cX0_run 2 = .ok (.putfield 18, 3) := by decide +kernel
theorem dX0_run_5 : decode cX0_run 5 = .ok (.aload_n 0, 1) := by decide +kernel
theorem dX0_run_6 : decode cX0_run 6 = .ok (.getfield 32, 3) := by decide +kernel
theorem dX0_run_9 : decode cX0_run 9 = .ok (.iconst 0, 1) := by decide +kernel
theorem dX0_run_10 : decode cX0_run 10 = .ok (.aaload, 1) := by decide +kernel
theorem dX0_run_11 : decode cX0_run 11 = .ok (.aload_n 2, 1) := by decide +kernel
theorem dX0_run_12 : decode cX0_run 12 = .ok (.invokevirtual 36, 3) := by decide +kernel
theorem dX0_run_15 : decode cX0_run 15 = .ok (.aload_n 0, 1) := by decide +kernel
theorem dX0_run_16 : decode cX0_run 16 = .ok (.iconst 0, 1) := by decide +kernel
theorem dX0_run_17 : decode cX0_run 17 = .ok (.iload_n 1, 1) := by decide +kernel
theorem dX0_run_18 : decode cX0_run 18 = .ok (.iconst 0, 1) := by decide +kernel
theorem dX0_run_19 : decode cX0_run 19 = .ok (.aload_n 3, 1) := by decide +kernel
theorem dX0_run_20 : decode cX0_run 20 = .ok (.invokevirtual 40, 3) := by decide +kernel
theorem dX0_run_23 : decode cX0_run 23 = .ok (.return_, 1) := by decide +kernel
theorem dX0_orderOf_0 : decode cX0_orderOf 0 = .ok (.iload_n 1, 1) := by decide +kernel
theorem dX0_orderOf_1 : decode cX0_orderOf 1 = .ok (.ifCond .lt 17, 3) := by decide +kernel
theorem dX0_orderOf_4 : decode cX0_orderOf 4 = .ok (.iload_n 1, 1) := by decide +kernel
theorem dX0_orderOf_5 : decode cX0_orderOf 5 = .ok (.iconst 4, 1) := by decide +kernel
theorem dX0_orderOf_6 : decode cX0_orderOf 6 = .ok (.if_icmp .ge 12, 3) := by decide +kernel
theorem dX0_orderOf_9 : decode cX0_orderOf 9 = .ok (.aload_n 0, 1) := by decide +kernel
theorem dX0_orderOf_10 : decode cX0_orderOf 10 = .ok (.getfield 26, 3) := by decide +kernel
theorem dX0_orderOf_13 : decode cX0_orderOf 13 = .ok (.iload_n 1, 1) := by decide +kernel
theorem dX0_orderOf_14 : decode cX0_orderOf 14 = .ok (.iaload, 1) := by decide +kernel
theorem dX0_orderOf_15 : decode cX0_orderOf 15 = .ok (.goto 4, 3) := by decide +kernel
theorem dX0_orderOf_18 : decode cX0_orderOf 18 = .ok (.iconst (-1), 1) := by decide +kernel
theorem dX0_orderOf_19 : decode cX0_orderOf 19 = .ok (.ireturn, 1) := by decide +kernel
theorem dX0_explore_0 : decode cX0_explore 0 = .ok (.aload_n 0, 1) := by decide +kernel
theorem dX0_explore_1 : decode cX0_explore 1 = .ok (.getfield 18, 3) := by decide +kernel
theorem dX0_explore_4 : decode cX0_explore 4 = .ok (.ifCond .eq 12, 3) := by decide +kernel
theorem dX0_explore_7 : decode cX0_explore 7 = .ok (.iload_n 3, 1) := by decide +kernel
theorem dX0_explore_8 : decode cX0_explore 8 = .ok (.aload_n 0, 1) := by decide +kernel
theorem dX0_explore_9 : decode cX0_explore 9 = .ok (.getfield 9, 3) := by decide +kernel
theorem dX0_explore_12 : decode cX0_explore 12 = .ok (.if_icmp .le 4, 3) := by decide +kernel
theorem dX0_explore_15 : decode cX0_explore 15 = .ok (.return_, 1) := by decide +kernel
theorem dX0_explore_16 : decode cX0_explore 16 = .ok (.iload_n 1, 1) := by decide +kernel
theorem dX0_explore_17 : decode cX0_explore 17 = .ok (.iload_n 2, 1) := by decide +kernel
theorem dX0_explore_18 : decode cX0_explore 18 = .ok (.if_icmp .lt 11, 3) := by decide +kernel
theorem dX0_explore_21 : decode cX0_explore 21 = .ok (.aload_n 0, 1) := by decide +kernel
theorem dX0_explore_22 : decode cX0_explore 22 = .ok (.iload_n 2, 1) := by decide +kernel
theorem dX0_explore_23 : decode cX0_explore 23 = .ok (.iload_n 3, 1) := by decide +kernel
theorem dX0_explore_24 : decode cX0_explore 24 = .ok (.iload_n 1, 1) := by decide +kernel
theorem dX0_explore_25 : decode cX0_explore 25 = .ok (.invokevirtual 44, 3) := by decide +kernel
theorem dX0_explore_28 : decode cX0_explore 28 = .ok (.return_, 1) := by decide +kernel
theorem dX0_explore_29 : decode cX0_explore 29 = .ok (.iconst 0, 1) := by decide +kernel
theorem dX0_explore_30 : decode cX0_explore 30 = .ok (.istore 5, 2) := by decide +kernel
theorem dX0_explore_32 : decode cX0_explore 32 = .ok (.iload 5, 2) := by decide +kernel
theorem dX0_explore_34 : decode cX0_explore 34 = .ok (.aload 4, 2) := by decide +kernel
theorem dX0_explore_36 : decode cX0_explore 36 = .ok (.getfield 48, 3) := by decide +kernel
theorem dX0_explore_39 : decode cX0_explore 39 = .ok (.iconst 2, 1) := by decide +kernel
theorem dX0_explore_40 : decode cX0_explore 40 = .ok (.iadd, 1) := by decide +kernel
theorem dX0_explore_41 : decode cX0_explore 41 = .ok (.if_icmp .ge 25, 3) := by decide +kernel
theorem dX0_explore_44 : decode cX0_explore 44 = .ok (.aload_n 0, 1) := by decide +kernel
theorem dX0_explore_45 : decode cX0_explore 45 = .ok (.aload 4, 2) := by decide +kernel
theorem dX0_explore_47 : decode cX0_explore 47 = .ok (.iload 5, 2) := by decide +kernel
theorem dX0_explore_49 : decode cX0_explore 49 = .ok (.invokevirtual 53, 3) := by decide +kernel
theorem dX0_explore_52 : decode cX0_explore 52 = .ok (.iload_n 1, 1) := by decide +kernel
theorem dX0_explore_53 : decode cX0_explore 53 = .ok (.iload_n 2, 1) := by decide +kernel
theorem dX0_explore_54 : decode cX0_explore 54 = .ok (.iload_n 3, 1) := by decide +kernel
theorem dX0_explore_55 : decode cX0_explore 55 = .ok (.aload 4, 2) := by decide +kernel
theorem dX0_explore_57 : decode cX0_explore 57 = .ok (.invokevirtual 57, 3) := by decide +kernel
theorem dX0_explore_60 : decode cX0_explore 60 = .ok (.iinc 5 1, 3) := by decide +kernel
theorem dX0_explore_63 : decode cX0_explore 63 = .ok (.goto (-31), 3) := by decide +kernel
theorem dX0_explore_66 : decode cX0_explore 66 = .ok (.return_, 1) := by decide +kernel
theorem dX0_exploreBy_0 : decode cX0_exploreBy 0 = .ok (.iload_n 2, 1) := by decide +kernel
theorem dX0_exploreBy_1 : decode cX0_exploreBy 1 = .ok (.ifCond .lt 8, 3) := by decide +kernel
theorem dX0_exploreBy_4 : decode cX0_exploreBy 4 = .ok (.iload_n 2, 1) := by decide +kernel
theorem dX0_exploreBy_5 : decode cX0_exploreBy 5 = .ok (.iconst 4, 1) := by decide +kernel
theorem dX0_exploreBy_6 : decode cX0_exploreBy 6 = .ok (.if_icmp .lt 4, 3) := by decide +kernel
theorem dX0_exploreBy_9 : decode cX0_exploreBy 9 = .ok (.return_, 1) := by decide +kernel
theorem dX0_exploreBy_10 : decode cX0_exploreBy 10 = .ok (.aload_n 0, 1) := by decide +kernel
theorem dX0_exploreBy_11 : decode cX0_exploreBy 11 = .ok (.getfield 32, 3) := by decide +kernel
theorem dX0_exploreBy_14 : decode cX0_exploreBy 14 = .ok (.iload_n 2, 1) := by decide +kernel
theorem dX0_exploreBy_15 : decode cX0_exploreBy 15 = .ok (.iconst 1, 1) := by decide +kernel
theorem dX0_exploreBy_16 : decode cX0_exploreBy 16 = .ok (.iadd, 1) := by decide +kernel
theorem dX0_exploreBy_17 : decode cX0_exploreBy 17 = .ok (.aaload, 1) := by decide +kernel
theorem dX0_exploreBy_18 : decode cX0_exploreBy 18 = .ok (.astore 6, 2) := by decide +kernel
theorem dX0_exploreBy_20 : decode cX0_exploreBy 20 = .ok (.aload_n 0, 1) := by decide +kernel
theorem dX0_exploreBy_21 : decode cX0_exploreBy 21 = .ok (.getfield 22, 3) := by decide +kernel
theorem dX0_exploreBy_24 : decode cX0_exploreBy 24 = .ok (.iload_n 2, 1) := by decide +kernel
theorem dX0_exploreBy_25 : decode cX0_exploreBy 25 = .ok (.iload_n 1, 1) := by decide +kernel
theorem dX0_exploreBy_26 : decode cX0_exploreBy 26 = .ok (.iastore, 1) := by decide +kernel
theorem dX0_exploreBy_27 : decode cX0_exploreBy 27 = .ok (.aload 6, 2) := by decide +kernel
theorem dX0_exploreBy_29 : decode cX0_exploreBy 29 = .ok (.aload_n 0, 1) := by decide +kernel
theorem dX0_exploreBy_30 : decode cX0_exploreBy 30 = .ok (.getfield 32, 3) := by decide +kernel
theorem dX0_exploreBy_33 : decode cX0_exploreBy 33 = .ok (.iload_n 2, 1) := by decide +kernel
theorem dX0_exploreBy_34 : decode cX0_exploreBy 34 = .ok (.aaload, 1) := by decide +kernel
theorem dX0_exploreBy_35 : decode cX0_exploreBy 35 = .ok (.invokevirtual 36, 3) := by decide +kernel
theorem dX0_exploreBy_38 : decode cX0_exploreBy 38 = .ok (.aload 6, 2) := by decide +kernel
theorem dX0_exploreBy_40 : decode cX0_exploreBy 40 = .ok (.iload_n 1, 1) := by decide +kernel
theorem dX0_exploreBy_41 : decode cX0_exploreBy 41 = .ok (.aload 5, 2) := by decide +kernel
theorem dX0_exploreBy_43 : decode cX0_exploreBy 43 = .ok (.invokevirtual 61, 3) := by decide +kernel
theorem dX0_exploreBy_46 : decode cX0_exploreBy 46 = .ok (.aload 6, 2) := by decide +kernel
theorem dX0_exploreBy_48 : decode cX0_exploreBy 48 = .ok (.getfield 65, 3) := by decide +kernel
theorem dX0_exploreBy_51 : decode cX0_exploreBy 51 = .ok (.iconst (-1), 1) := by decide +kernel
theorem dX0_exploreBy_52 : decode cX0_exploreBy 52 = .ok (.if_icmp .ne 30, 3) := by decide +kernel
theorem dX0_exploreBy_55 : decode cX0_exploreBy 55 = .ok (.aload_n 0, 1) := by decide +kernel
theorem dX0_exploreBy_56 : decode cX0_exploreBy 56 = .ok (.iload_n 2, 1) := by decide +kernel
theorem dX0_exploreBy_57 : decode cX0_exploreBy 57 = .ok (.iconst 1, 1) := by decide +kernel
theorem dX0_exploreBy_58 : decode cX0_exploreBy 58 = .ok (.iadd, 1) := by decide +kernel
theorem dX0_exploreBy_59 : decode cX0_exploreBy 59 = .ok (.iload_n 3, 1) := by decide +kernel
theorem dX0_exploreBy_60 : decode cX0_exploreBy 60 = .ok (.aload 6, 2) := by decide +kernel
theorem dX0_exploreBy_62 : decode cX0_exploreBy 62 = .ok (.getfield 68, 3) := by decide +kernel
theorem dX0_exploreBy_65 : decode cX0_exploreBy 65 = .ok (.ifCond .eq 10, 3) := by decide +kernel
theorem dX0_exploreBy_68 : decode cX0_exploreBy 68 = .ok (.iload 4, 2) := by decide +kernel
theorem dX0_exploreBy_70 : decode cX0_exploreBy 70 = .ok (.iconst 1, 1) := by decide +kernel
theorem dX0_exploreBy_71 : decode cX0_exploreBy 71 = .ok (.iadd, 1) := by decide +kernel
theorem dX0_exploreBy_72 : decode cX0_exploreBy 72 = .ok (.goto 5, 3) := by decide +kernel
theorem dX0_exploreBy_75 : decode cX0_exploreBy 75 = .ok (.iload 4, 2) := by decide +kernel
theorem dX0_exploreBy_77 : decode cX0_exploreBy 77 = .ok (.aload 5, 2) := by decide +kernel
theorem dX0_exploreBy_79 : decode cX0_exploreBy 79 = .ok (.invokevirtual 40, 3) := by decide +kernel
theorem dX0_exploreBy_82 : decode cX0_exploreBy 82 = .ok (.return_, 1) := by decide +kernel
theorem dX0_compare_0 : decode cX0_compare 0 = .ok (.iload_n 3, 1) := by decide +kernel
theorem dX0_compare_1 : decode cX0_compare 1 = .ok (.ifCond .lt 24, 3) := by decide +kernel
theorem dX0_compare_4 : decode cX0_compare 4 = .ok (.iload_n 3, 1) := by decide +kernel
theorem dX0_compare_5 : decode cX0_compare 5 = .ok (.aload_n 0, 1) := by decide +kernel
theorem dX0_compare_6 : decode cX0_compare 6 = .ok (.getfield 32, 3) := by decide +kernel
theorem dX0_compare_9 : decode cX0_compare 9 = .ok (.arraylength, 1) := by decide +kernel
theorem dX0_compare_10 : decode cX0_compare 10 = .ok (.if_icmp .ge 15, 3) := by decide +kernel
theorem dX0_compare_13 : decode cX0_compare 13 = .ok (.aload_n 0, 1) := by decide +kernel
theorem dX0_compare_14 : decode cX0_compare 14 = .ok (.getfield 32, 3) := by decide +kernel
theorem dX0_compare_17 : decode cX0_compare 17 = .ok (.iload_n 3, 1) := by decide +kernel
theorem dX0_compare_18 : decode cX0_compare 18 = .ok (.aaload, 1) := by decide +kernel
theorem dX0_compare_19 : decode cX0_compare 19 = .ok (.getfield 71, 3) := by decide +kernel
theorem dX0_compare_22 : decode cX0_compare 22 = .ok (.goto 5, 3) := by decide +kernel
theorem dX0_compare_25 : decode cX0_compare 25 = .ok (.bipush 99, 2) := by decide +kernel
theorem dX0_compare_27 : decode cX0_compare 27 = .ok (.istore 4, 2) := by decide +kernel
theorem dX0_compare_29 : decode cX0_compare 29 = .ok (.aload_n 0, 1) := by decide +kernel
theorem dX0_compare_30 : decode cX0_compare 30 = .ok (.getfield 18, 3) := by decide +kernel
theorem dX0_compare_33 : decode cX0_compare 33 = .ok (.ifCond .eq 29, 3) := by decide +kernel
theorem dX0_compare_36 : decode cX0_compare 36 = .ok (.iload_n 2, 1) := by decide +kernel
theorem dX0_compare_37 : decode cX0_compare 37 = .ok (.aload_n 0, 1) := by decide +kernel
theorem dX0_compare_38 : decode cX0_compare 38 = .ok (.getfield 9, 3) := by decide +kernel
theorem dX0_compare_41 : decode cX0_compare 41 = .ok (.if_icmp .gt 20, 3) := by decide +kernel
theorem dX0_compare_44 : decode cX0_compare 44 = .ok (.iload_n 2, 1) := by decide +kernel
theorem dX0_compare_45 : decode cX0_compare 45 = .ok (.aload_n 0, 1) := by decide +kernel
theorem dX0_compare_46 : decode cX0_compare 46 = .ok (.getfield 9, 3) := by decide +kernel
theorem dX0_compare_49 : decode cX0_compare 49 = .ok (.if_icmp .ne 13, 3) := by decide +kernel
theorem dX0_compare_52 : decode cX0_compare 52 = .ok (.iload 4, 2) := by decide +kernel
theorem dX0_compare_54 : decode cX0_compare 54 = .ok (.aload_n 0, 1) := by decide +kernel
theorem dX0_compare_55 : decode cX0_compare 55 = .ok (.getfield 15, 3) := by decide +kernel
theorem dX0_compare_58 : decode cX0_compare 58 = .ok (.if_icmp .lt 4, 3) := by decide +kernel
theorem dX0_compare_61 : decode cX0_compare 61 = .ok (.return_, 1) := by decide +kernel
theorem dX0_compare_62 : decode cX0_compare 62 = .ok (.aload_n 0, 1) := by decide +kernel
theorem dX0_compare_63 : decode cX0_compare 63 = .ok (.iconst 1, 1) := by decide +kernel
theorem dX0_compare_64 : decode cX0_compare 64 = .ok (.putfield 18, 3) := by decide +kernel
theorem dX0_compare_67 : decode cX0_compare 67 = .ok (.aload_n 0, 1) := by decide +kernel
theorem dX0_compare_68 : decode cX0_compare 68 = .ok (.iload_n 2, 1) := by decide +kernel
theorem dX0_compare_69 : decode cX0_compare 69 = .ok (.putfield 9, 3) := by decide +kernel
theorem dX0_compare_72 : decode cX0_compare 72 = .ok (.aload_n 0, 1) := by decide +kernel
theorem dX0_compare_73 : decode cX0_compare 73 = .ok (.iload 4, 2) := by decide +kernel
theorem dX0_compare_75 : decode cX0_compare 75 = .ok (.putfield 15, 3) := by decide +kernel
theorem dX0_compare_78 : decode cX0_compare 78 = .ok (.iconst 0, 1) := by decide +kernel
theorem dX0_compare_79 : decode cX0_compare 79 = .ok (.istore 5, 2) := by decide +kernel
theorem dX0_compare_81 : decode cX0_compare 81 = .ok (.iload 5, 2) := by decide +kernel
theorem dX0_compare_83 : decode cX0_compare 83 = .ok (.iload_n 1, 1) := by decide +kernel
theorem dX0_compare_84 : decode cX0_compare 84 = .ok (.if_icmp .ge 29, 3) := by decide +kernel
theorem dX0_compare_87 : decode cX0_compare 87 = .ok (.iload 5, 2) := by decide +kernel
theorem dX0_compare_89 : decode cX0_compare 89 = .ok (.iconst 4, 1) := by decide +kernel
theorem dX0_compare_90 : decode cX0_compare 90 = .ok (.if_icmp .ge 23, 3) := by decide +kernel
theorem dX0_compare_93 : decode cX0_compare 93 = .ok (.aload_n 0, 1) := by decide +kernel
theorem dX0_compare_94 : decode cX0_compare 94 = .ok (.getfield 26, 3) := by decide +kernel
theorem dX0_compare_97 : decode cX0_compare 97 = .ok (.iload 5, 2) := by decide +kernel
theorem dX0_compare_99 : decode cX0_compare 99 = .ok (.aload_n 0, 1) := by decide +kernel
theorem dX0_compare_100 : decode cX0_compare 100 = .ok (.getfield 22, 3) := by decide +kernel
theorem dX0_compare_103 : decode cX0_compare 103 = .ok (.iload 5, 2) := by decide +kernel
theorem dX0_compare_105 : decode cX0_compare 105 = .ok (.iaload, 1) := by decide +kernel
theorem dX0_compare_106 : decode cX0_compare 106 = .ok (.iastore, 1) := by decide +kernel
theorem dX0_compare_107 : decode cX0_compare 107 = .ok (.iinc 5 1, 3) := by decide +kernel
theorem dX0_compare_110 : decode cX0_compare 110 = .ok (.goto (-29), 3) := by decide +kernel
theorem dX0_compare_113 : decode cX0_compare 113 = .ok (.return_, 1) := by decide +kernel
theorem dX1_init_0 : decode cX1_init 0 = .ok (.aload_n 0, 1) := by decide +kernel
theorem dX1_init_1 : decode cX1_init 1 = .ok (.invokespecial 3, 3) := by decide +kernel
theorem dX1_init_4 : decode cX1_init 4 = .ok (.aload_n 0, 1) := by decide +kernel
theorem dX1_init_5 : decode cX1_init 5 = .ok (.bipush 8, 2) := by decide +kernel
theorem dX1_init_7 : decode cX1_init 7 = .ok (.newarray .int, 2) := by decide +kernel
theorem dX1_init_9 : decode cX1_init 9 = .ok (.dup, 1) := by decide +kernel
theorem dX1_init_10 : decode cX1_init 10 = .ok (.iconst 0, 1) := by decide +kernel
theorem dX1_init_11 : decode cX1_init 11 = .ok (.iconst (-1), 1) := by decide +kernel
theorem dX1_init_12 : decode cX1_init 12 = .ok (.iastore, 1) := by decide +kernel
theorem dX1_init_13 : decode cX1_init 13 = .ok (.dup, 1) := by decide +kernel
theorem dX1_init_14 : decode cX1_init 14 = .ok (.iconst 1, 1) := by decide +kernel
theorem dX1_init_15 : decode cX1_init 15 = .ok (.iconst (-1), 1) := by decide +kernel
theorem dX1_init_16 : decode cX1_init 16 = .ok (.iastore, 1) := by decide +kernel
theorem dX1_init_17 : decode cX1_init 17 = .ok (.dup, 1) := by decide +kernel
theorem dX1_init_18 : decode cX1_init 18 = .ok (.iconst 2, 1) := by decide +kernel
theorem dX1_init_19 : decode cX1_init 19 = .ok (.iconst (-1), 1) := by decide +kernel
theorem dX1_init_20 : decode cX1_init 20 = .ok (.iastore, 1) := by decide +kernel
theorem dX1_init_21 : decode cX1_init 21 = .ok (.dup, 1) := by decide +kernel
theorem dX1_init_22 : decode cX1_init 22 = .ok (.iconst 3, 1) := by decide +kernel
theorem dX1_init_23 : decode cX1_init 23 = .ok (.iconst (-1), 1) := by decide +kernel
theorem dX1_init_24 : decode cX1_init 24 = .ok (.iastore, 1) := by decide +kernel
theorem dX1_init_25 : decode cX1_init 25 = .ok (.dup, 1) := by decide +kernel
theorem dX1_init_26 : decode cX1_init 26 = .ok (.iconst 4, 1) := by decide +kernel
theorem dX1_init_27 : decode cX1_init 27 = .ok (.iconst (-1), 1) := by decide +kernel
theorem dX1_init_28 : decode cX1_init 28 = .ok (.iastore, 1) := by decide +kernel
theorem dX1_init_29 : decode cX1_init 29 = .ok (.dup, 1) := by decide +kernel
theorem dX1_init_30 : decode cX1_init 30 = .ok (.iconst 5, 1) := by decide +kernel
theorem dX1_init_31 : decode cX1_init 31 = .ok (.iconst (-1), 1) := by decide +kernel
theorem dX1_init_32 : decode cX1_init 32 = .ok (.iastore, 1) := by decide +kernel
theorem dX1_init_33 : decode cX1_init 33 = .ok (.dup, 1) := by decide +kernel
theorem dX1_init_34 : decode cX1_init 34 = .ok (.bipush 6, 2) := by decide +kernel
theorem dX1_init_36 : decode cX1_init 36 = .ok (.iconst (-1), 1) := by decide +kernel
theorem dX1_init_37 : decode cX1_init 37 = .ok (.iastore, 1) := by decide +kernel
theorem dX1_init_38 : decode cX1_init 38 = .ok (.dup, 1) := by decide +kernel
theorem dX1_init_39 : decode cX1_init 39 = .ok (.bipush 7, 2) := by decide +kernel
theorem dX1_init_41 : decode cX1_init 41 = .ok (.iconst (-1), 1) := by decide +kernel
theorem dX1_init_42 : decode cX1_init 42 = .ok (.iastore, 1) := by decide +kernel
theorem dX1_init_43 : decode cX1_init 43 = .ok (.putfield 9, 3) := by decide +kernel
theorem dX1_init_46 : decode cX1_init 46 = .ok (.aload_n 0, 1) := by decide +kernel
theorem dX1_init_47 : decode cX1_init 47 = .ok (.bipush 8, 2) := by decide +kernel
theorem dX1_init_49 : decode cX1_init 49 = .ok (.newarray .int, 2) := by decide +kernel
theorem dX1_init_51 : decode cX1_init 51 = .ok (.putfield 15, 3) := by decide +kernel
theorem dX1_init_54 : decode cX1_init 54 = .ok (.aload_n 0, 1) := by decide +kernel
theorem dX1_init_55 : decode cX1_init 55 = .ok (.bipush 8, 2) := by decide +kernel
theorem dX1_init_57 : decode cX1_init 57 = .ok (.bipush 40, 2) := by decide +kernel
theorem dX1_init_59 : decode cX1_init 59 = .ok (.multianewarray 18 2, 4) := by decide +kernel
theorem dX1_init_63 : decode cX1_init 63 = .ok (.putfield 20, 3) := by decide +kernel
theorem dX1_init_66 : decode cX1_init 66 = .ok (.return_, 1) := by decide +kernel
theorem dX1_contentOf_0 : decode cX1_contentOf 0 = .ok (.iload_n 1, 1) := by decide +kernel
theorem dX1_contentOf_1 : decode cX1_contentOf 1 = .ok (.ifCond .lt 18, 3) := by decide +kernel
theorem dX1_contentOf_4 : decode cX1_contentOf 4 = .ok (.iload_n 1, 1) := by decide +kernel
theorem dX1_contentOf_5 : decode cX1_contentOf 5 = .ok (.bipush 8, 2) := by decide +kernel
theorem dX1_contentOf_7 : decode cX1_contentOf 7 = .ok (.if_icmp .ge 12, 3) := by decide +kernel
theorem dX1_contentOf_10 : decode cX1_contentOf 10 = .ok (.aload_n 0, 1) := by decide +kernel
theorem dX1_contentOf_11 : decode cX1_contentOf 11 = .ok (.getfield 9, 3) := by decide +kernel
theorem dX1_contentOf_14 : decode cX1_contentOf 14 = .ok (.iload_n 1, 1) := by decide +kernel
theorem dX1_contentOf_15 : decode cX1_contentOf 15 = .ok (.iaload, 1) := by decide +kernel
theorem dX1_contentOf_16 : decode cX1_contentOf 16 = .ok (.goto 4, 3) := by decide +kernel
theorem dX1_contentOf_19 : decode cX1_contentOf 19 = .ok (.iconst (-1), 1) := by decide +kernel
theorem dX1_contentOf_20 : decode cX1_contentOf 20 = .ok (.ireturn, 1) := by decide +kernel
theorem dX1_holdsRow_0 : decode cX1_holdsRow 0 = .ok (.aload_n 0, 1) := by decide +kernel
theorem dX1_holdsRow_1 : decode cX1_holdsRow 1 = .ok (.iload_n 1, 1) := by decide +kernel
theorem dX1_holdsRow_2 : decode cX1_holdsRow 2 = .ok (.invokevirtual 23, 3) := by decide +kernel
theorem dX1_holdsRow_5 : decode cX1_holdsRow 5 = .ok (.iconst 0, 1) := by decide +kernel
theorem dX1_holdsRow_6 : decode cX1_holdsRow 6 = .ok (.iconst 4, 1) := by decide +kernel
theorem dX1_holdsRow_7 : decode cX1_holdsRow 7 = .ok (.invokestatic 27, 3) := by decide +kernel
theorem dX1_holdsRow_10 : decode cX1_holdsRow 10 = .ok (.ireturn, 1) := by decide +kernel
theorem dX1_holdsKeeper_0 : decode cX1_holdsKeeper 0 = .ok (.aload_n 0, 1) := by decide +kernel
theorem dX1_holdsKeeper_1 : decode cX1_holdsKeeper 1 = .ok (.iload_n 1, 1) := by decide +kernel
theorem dX1_holdsKeeper_2 : decode cX1_holdsKeeper 2 = .ok (.invokevirtual 23, 3) := by decide +kernel
theorem dX1_holdsKeeper_5 : decode cX1_holdsKeeper 5 = .ok (.bipush 10, 2) := by decide +kernel
theorem dX1_holdsKeeper_7 : decode cX1_holdsKeeper 7 = .ok (.if_icmp .lt 7, 3) := by decide +kernel
theorem dX1_holdsKeeper_10 : decode cX1_holdsKeeper 10 = .ok (.iconst 1, 1) := by decide +kernel
theorem dX1_holdsKeeper_11 : decode cX1_holdsKeeper 11 = .ok (.goto 4, 3) := by decide +kernel
theorem dX1_holdsKeeper_14 : decode cX1_holdsKeeper 14 = .ok (.iconst 0, 1) := by decide +kernel
theorem dX1_holdsKeeper_15 : decode cX1_holdsKeeper 15 = .ok (.ireturn, 1) := by decide +kernel
theorem dX1_areOfTwoSorts_0 : decode cX1_areOfTwoSorts 0 = .ok (.aload_n 0, 1) := by decide +kernel
theorem dX1_areOfTwoSorts_1 : decode cX1_areOfTwoSorts 1 = .ok (.iload_n 1, 1) := by decide +kernel
theorem dX1_areOfTwoSorts_2 : decode cX1_areOfTwoSorts 2 = .ok (.invokevirtual 31, 3) := by decide +kernel
theorem dX1_areOfTwoSorts_5 : decode cX1_areOfTwoSorts 5 = .ok (.ifCond .eq 28, 3) := by decide +kernel
theorem dX1_areOfTwoSorts_8 : decode cX1_areOfTwoSorts 8 = .ok (.aload_n 0, 1) := by decide +kernel
theorem dX1_areOfTwoSorts_9 : decode cX1_areOfTwoSorts 9 = .ok (.iload_n 2, 1) := by decide +kernel
theorem dX1_areOfTwoSorts_10 : decode cX1_areOfTwoSorts 10 = .ok (.invokevirtual 31, 3) := by decide +kernel
theorem dX1_areOfTwoSorts_13 : decode cX1_areOfTwoSorts 13 = .ok (.ifCond .eq 20, 3) := by decide +kernel
theorem dX1_areOfTwoSorts_16 : decode cX1_areOfTwoSorts 16 = .ok (.aload_n 0, 1) := by decide +kernel
theorem dX1_areOfTwoSorts_17 : decode cX1_areOfTwoSorts 17 = .ok (.iload_n 1, 1) := by decide +kernel
theorem dX1_areOfTwoSorts_18 : decode cX1_areOfTwoSorts 18 = .ok (.invokevirtual 23, 3) := by decide +kernel
theorem dX1_areOfTwoSorts_21 : decode cX1_areOfTwoSorts 21 = .ok (.aload_n 0, 1) := by decide +kernel
theorem dX1_areOfTwoSorts_22 : decode cX1_areOfTwoSorts 22 = .ok (.iload_n 2, 1) := by decide +kernel
theorem dX1_areOfTwoSorts_23 : decode cX1_areOfTwoSorts 23 = .ok (.invokevirtual 23, 3) := by decide +kernel
theorem dX1_areOfTwoSorts_26 : decode cX1_areOfTwoSorts 26 = .ok (.if_icmp .eq 7, 3) := by decide +kernel
theorem dX1_areOfTwoSorts_29 : decode cX1_areOfTwoSorts 29 = .ok (.iconst 1, 1) := by decide +kernel
theorem dX1_areOfTwoSorts_30 : decode cX1_areOfTwoSorts 30 = .ok (.goto 4, 3) := by decide +kernel
theorem dX1_areOfTwoSorts_33 : decode cX1_areOfTwoSorts 33 = .ok (.iconst 0, 1) := by decide +kernel
theorem dX1_areOfTwoSorts_34 : decode cX1_areOfTwoSorts 34 = .ok (.ireturn, 1) := by decide +kernel
theorem dX1_countHeld_0 : decode cX1_countHeld 0 = .ok (.iconst 0, 1) := by decide +kernel
theorem dX1_countHeld_1 : decode cX1_countHeld 1 = .ok (.istore_n 1, 1) := by decide +kernel
theorem dX1_countHeld_2 : decode cX1_countHeld 2 = .ok (.iconst 0, 1) := by decide +kernel
theorem dX1_countHeld_3 : decode cX1_countHeld 3 = .ok (.istore_n 2, 1) := by decide +kernel
theorem dX1_countHeld_4 : decode cX1_countHeld 4 = .ok (.iload_n 2, 1) := by decide +kernel
theorem dX1_countHeld_5 : decode cX1_countHeld 5 = .ok (.bipush 8, 2) := by decide +kernel
theorem dX1_countHeld_7 : decode cX1_countHeld 7 = .ok (.if_icmp .ge 22, 3) := by decide +kernel
theorem dX1_countHeld_10 : decode cX1_countHeld 10 = .ok (.aload_n 0, 1) := by decide +kernel
theorem dX1_countHeld_11 : decode cX1_countHeld 11 = .ok (.getfield 9, 3) := by decide +kernel
theorem dX1_countHeld_14 : decode cX1_countHeld 14 = .ok (.iload_n 2, 1) := by decide +kernel
theorem dX1_countHeld_15 : decode cX1_countHeld 15 = .ok (.iaload, 1) := by decide +kernel
theorem dX1_countHeld_16 : decode cX1_countHeld 16 = .ok (.iconst (-1), 1) := by decide +kernel
theorem dX1_countHeld_17 : decode cX1_countHeld 17 = .ok (.if_icmp .eq 6, 3) := by decide +kernel
theorem dX1_countHeld_20 : decode cX1_countHeld 20 = .ok (.iinc 1 1, 3) := by decide +kernel
theorem dX1_countHeld_23 : decode cX1_countHeld 23 = .ok (.iinc 2 1, 3) := by decide +kernel
theorem dX1_countHeld_26 : decode cX1_countHeld 26 = .ok (.goto (-22), 3) := by decide +kernel
theorem dX1_countHeld_29 : decode cX1_countHeld 29 = .ok (.iload_n 1, 1) := by decide +kernel
theorem dX1_countHeld_30 : decode cX1_countHeld 30 = .ok (.ireturn, 1) := by decide +kernel
theorem dX1_placeRow_0 : decode cX1_placeRow 0 = .ok (.iload_n 1, 1) := by decide +kernel
theorem dX1_placeRow_1 : decode cX1_placeRow 1 = .ok (.invokestatic 35, 3) := by decide +kernel
theorem dX1_placeRow_4 : decode cX1_placeRow 4 = .ok (.ifCond .eq 13, 3) := by decide +kernel
theorem dX1_placeRow_7 : decode cX1_placeRow 7 = .ok (.iload_n 3, 1) := by decide +kernel
theorem dX1_placeRow_8 : decode cX1_placeRow 8 = .ok (.iconst 0, 1) := by decide +kernel
theorem dX1_placeRow_9 : decode cX1_placeRow 9 = .ok (.bipush 40, 2) := by decide +kernel
theorem dX1_placeRow_11 : decode cX1_placeRow 11 = .ok (.invokestatic 27, 3) := by decide +kernel
theorem dX1_placeRow_14 : decode cX1_placeRow 14 = .ok (.ifCond .ne 4, 3) := by decide +kernel
theorem dX1_placeRow_17 : decode cX1_placeRow 17 = .ok (.return_, 1) := by decide +kernel
theorem dX1_placeRow_18 : decode cX1_placeRow 18 = .ok (.aload_n 0, 1) := by decide +kernel
theorem dX1_placeRow_19 : decode cX1_placeRow 19 = .ok (.getfield 9, 3) := by decide +kernel
theorem dX1_placeRow_22 : decode cX1_placeRow 22 = .ok (.iload_n 1, 1) := by decide +kernel
theorem dX1_placeRow_23 : decode cX1_placeRow 23 = .ok (.iload_n 2, 1) := by decide +kernel
theorem dX1_placeRow_24 : decode cX1_placeRow 24 = .ok (.iastore, 1) := by decide +kernel
theorem dX1_placeRow_25 : decode cX1_placeRow 25 = .ok (.aload_n 0, 1) := by decide +kernel
theorem dX1_placeRow_26 : decode cX1_placeRow 26 = .ok (.getfield 15, 3) := by decide +kernel
theorem dX1_placeRow_29 : decode cX1_placeRow 29 = .ok (.iload_n 1, 1) := by decide +kernel
theorem dX1_placeRow_30 : decode cX1_placeRow 30 = .ok (.iload_n 3, 1) := by decide +kernel
theorem dX1_placeRow_31 : decode cX1_placeRow 31 = .ok (.iastore, 1) := by decide +kernel
theorem dX1_placeRow_32 : decode cX1_placeRow 32 = .ok (.iconst 0, 1) := by decide +kernel
theorem dX1_placeRow_33 : decode cX1_placeRow 33 = .ok (.istore 4, 2) := by decide +kernel
theorem dX1_placeRow_35 : decode cX1_placeRow 35 = .ok (.iload 4, 2) := by decide +kernel
theorem dX1_placeRow_37 : decode cX1_placeRow 37 = .ok (.bipush 40, 2) := by decide +kernel
theorem dX1_placeRow_39 : decode cX1_placeRow 39 = .ok (.if_icmp .ge 19, 3) := by decide +kernel
theorem dX1_placeRow_42 : decode cX1_placeRow 42 = .ok (.aload_n 0, 1) := by decide +kernel
theorem dX1_placeRow_43 : decode cX1_placeRow 43 = .ok (.getfield 20, 3) := by decide +kernel
theorem dX1_placeRow_46 : decode cX1_placeRow 46 = .ok (.iload_n 1, 1) := by decide +kernel
theorem dX1_placeRow_47 : decode cX1_placeRow 47 = .ok (.aaload, 1) := by decide +kernel
theorem dX1_placeRow_48 : decode cX1_placeRow 48 = .ok (.iload 4, 2) := by decide +kernel
theorem dX1_placeRow_50 : decode cX1_placeRow 50 = .ok (.lconst 0, 1) := by decide +kernel
theorem dX1_placeRow_51 : decode cX1_placeRow 51 = .ok (.lastore, 1) := by decide +kernel
theorem dX1_placeRow_52 : decode cX1_placeRow 52 = .ok (.iinc 4 1, 3) := by decide +kernel
theorem dX1_placeRow_55 : decode cX1_placeRow 55 = .ok (.goto (-20), 3) := by decide +kernel
theorem dX1_placeRow_58 : decode cX1_placeRow 58 = .ok (.return_, 1) := by decide +kernel
theorem dX1_placeKeeper_0 : decode cX1_placeKeeper 0 = .ok (.iload_n 1, 1) := by decide +kernel
theorem dX1_placeKeeper_1 : decode cX1_placeKeeper 1 = .ok (.invokestatic 35, 3) := by decide +kernel
theorem dX1_placeKeeper_4 : decode cX1_placeKeeper 4 = .ok (.ifCond .eq 22, 3) := by decide +kernel
theorem dX1_placeKeeper_7 : decode cX1_placeKeeper 7 = .ok (.aload_n 0, 1) := by decide +kernel
theorem dX1_placeKeeper_8 : decode cX1_placeKeeper 8 = .ok (.getfield 9, 3) := by decide +kernel
theorem dX1_placeKeeper_11 : decode cX1_placeKeeper 11 = .ok (.iload_n 1, 1) := by decide +kernel
theorem dX1_placeKeeper_12 : decode cX1_placeKeeper 12 = .ok (.iload_n 2, 1) := by decide +kernel
theorem dX1_placeKeeper_13 : decode cX1_placeKeeper 13 = .ok (.iconst (-1), 1) := by decide +kernel
theorem dX1_placeKeeper_14 : decode cX1_placeKeeper 14 = .ok (.if_icmp .ne 7, 3) := by decide +kernel
theorem dX1_placeKeeper_17 : decode cX1_placeKeeper 17 = .ok (.iconst (-1), 1) := by decide +kernel
theorem dX1_placeKeeper_18 : decode cX1_placeKeeper 18 = .ok (.goto 7, 3) := by decide +kernel
theorem dX1_placeKeeper_21 : decode cX1_placeKeeper 21 = .ok (.bipush 10, 2) := by decide +kernel
theorem dX1_placeKeeper_23 : decode cX1_placeKeeper 23 = .ok (.iload_n 2, 1) := by decide +kernel
theorem dX1_placeKeeper_24 : decode cX1_placeKeeper 24 = .ok (.iadd, 1) := by decide +kernel
theorem dX1_placeKeeper_25 : decode cX1_placeKeeper 25 = .ok (.iastore, 1) := by decide +kernel
theorem dX1_placeKeeper_26 : decode cX1_placeKeeper 26 = .ok (.return_, 1) := by decide +kernel
theorem dX1_dropKeepersFrom_0 : decode cX1_dropKeepersFrom 0 = .ok (.iconst 0, 1) := by decide +kernel
theorem dX1_dropKeepersFrom_1 : decode cX1_dropKeepersFrom 1 = .ok (.istore_n 2, 1) := by decide +kernel
theorem dX1_dropKeepersFrom_2 : decode cX1_dropKeepersFrom 2 = .ok (.iload_n 2, 1) := by decide +kernel
theorem dX1_dropKeepersFrom_3 : decode cX1_dropKeepersFrom 3 = .ok (.bipush 8, 2) := by decide +kernel
theorem dX1_dropKeepersFrom_5 : decode cX1_dropKeepersFrom 5 = .ok (.if_icmp .ge 29, 3) := by decide +kernel
theorem dX1_dropKeepersFrom_8 : decode cX1_dropKeepersFrom 8 = .ok (.aload_n 0, 1) := by decide +kernel
theorem dX1_dropKeepersFrom_9 : decode cX1_dropKeepersFrom 9 = .ok (.getfield 9, 3) := by decide +kernel
theorem dX1_dropKeepersFrom_12 : decode cX1_dropKeepersFrom 12 = .ok (.iload_n 2, 1) := by decide +kernel
theorem dX1_dropKeepersFrom_13 : decode cX1_dropKeepersFrom 13 = .ok (.iaload, 1) := by decide +kernel
theorem dX1_dropKeepersFrom_14 : decode cX1_dropKeepersFrom 14 = .ok (.bipush 10, 2) := by decide +kernel
theorem dX1_dropKeepersFrom_16 : decode cX1_dropKeepersFrom 16 = .ok (.iload_n 1, 1) := by decide +kernel
theorem dX1_dropKeepersFrom_17 : decode cX1_dropKeepersFrom 17 = .ok (.iadd, 1) := by decide +kernel
theorem dX1_dropKeepersFrom_18 : decode cX1_dropKeepersFrom 18 = .ok (.if_icmp .lt 10, 3) := by decide +kernel
theorem dX1_dropKeepersFrom_21 : decode cX1_dropKeepersFrom 21 = .ok (.aload_n 0, 1) := by decide +kernel
theorem dX1_dropKeepersFrom_22 : decode cX1_dropKeepersFrom 22 = .ok (.getfield 9, 3) := by decide +kernel
theorem dX1_dropKeepersFrom_25 : decode cX1_dropKeepersFrom 25 = .ok (.iload_n 2, 1) := by decide +kernel
theorem dX1_dropKeepersFrom_26 : decode cX1_dropKeepersFrom 26 = .ok (.iconst (-1), 1) := by decide +kernel
theorem dX1_dropKeepersFrom_27 : decode cX1_dropKeepersFrom 27 = .ok (.iastore, 1) := by decide +kernel
theorem dX1_dropKeepersFrom_28 : decode cX1_dropKeepersFrom 28 = .ok (.iinc 2 1, 3) := by decide +kernel
theorem dX1_dropKeepersFrom_31 : decode cX1_dropKeepersFrom 31 = .ok (.goto (-29), 3) := by decide +kernel
theorem dX1_dropKeepersFrom_34 : decode cX1_dropKeepersFrom 34 = .ok (.return_, 1) := by decide +kernel
theorem dX1_hasElement_0 : decode cX1_hasElement 0 = .ok (.aload_n 0, 1) := by decide +kernel
theorem dX1_hasElement_1 : decode cX1_hasElement 1 = .ok (.iload_n 1, 1) := by decide +kernel
theorem dX1_hasElement_2 : decode cX1_hasElement 2 = .ok (.invokevirtual 31, 3) := by decide +kernel
theorem dX1_hasElement_5 : decode cX1_hasElement 5 = .ok (.ifCond .eq 27, 3) := by decide +kernel
theorem dX1_hasElement_8 : decode cX1_hasElement 8 = .ok (.iload_n 2, 1) := by decide +kernel
theorem dX1_hasElement_9 : decode cX1_hasElement 9 = .ok (.ifCond .lt 23, 3) := by decide +kernel
theorem dX1_hasElement_12 : decode cX1_hasElement 12 = .ok (.iload_n 2, 1) := by decide +kernel
theorem dX1_hasElement_13 : decode cX1_hasElement 13 = .ok (.aload_n 0, 1) := by decide +kernel
theorem dX1_hasElement_14 : decode cX1_hasElement 14 = .ok (.getfield 15, 3) := by decide +kernel
theorem dX1_hasElement_17 : decode cX1_hasElement 17 = .ok (.iload_n 1, 1) := by decide +kernel
theorem dX1_hasElement_18 : decode cX1_hasElement 18 = .ok (.iaload, 1) := by decide +kernel
theorem dX1_hasElement_19 : decode cX1_hasElement 19 = .ok (.if_icmp .ge 13, 3) := by decide +kernel
theorem dX1_hasElement_22 : decode cX1_hasElement 22 = .ok (.iload_n 2, 1) := by decide +kernel
theorem dX1_hasElement_23 : decode cX1_hasElement 23 = .ok (.bipush 40, 2) := by decide +kernel
theorem dX1_hasElement_25 : decode cX1_hasElement 25 = .ok (.if_icmp .ge 7, 3) := by decide +kernel
theorem dX1_hasElement_28 : decode cX1_hasElement 28 = .ok (.iconst 1, 1) := by decide +kernel
theorem dX1_hasElement_29 : decode cX1_hasElement 29 = .ok (.goto 4, 3) := by decide +kernel
theorem dX1_hasElement_32 : decode cX1_hasElement 32 = .ok (.iconst 0, 1) := by decide +kernel
theorem dX1_hasElement_33 : decode cX1_hasElement 33 = .ok (.ireturn, 1) := by decide +kernel
theorem dX1_hasStretch_0 : decode cX1_hasStretch 0 = .ok (.aload_n 0, 1) := by decide +kernel
theorem dX1_hasStretch_1 : decode cX1_hasStretch 1 = .ok (.iload_n 1, 1) := by decide +kernel
theorem dX1_hasStretch_2 : decode cX1_hasStretch 2 = .ok (.invokevirtual 31, 3) := by decide +kernel
theorem dX1_hasStretch_5 : decode cX1_hasStretch 5 = .ok (.ifCond .eq 37, 3) := by decide +kernel
theorem dX1_hasStretch_8 : decode cX1_hasStretch 8 = .ok (.iload_n 3, 1) := by decide +kernel
theorem dX1_hasStretch_9 : decode cX1_hasStretch 9 = .ok (.ifCond .lt 33, 3) := by decide +kernel
theorem dX1_hasStretch_12 : decode cX1_hasStretch 12 = .ok (.iload_n 2, 1) := by decide +kernel
theorem dX1_hasStretch_13 : decode cX1_hasStretch 13 = .ok (.ifCond .lt 29, 3) := by decide +kernel
theorem dX1_hasStretch_16 : decode cX1_hasStretch 16 = .ok (.iload_n 2, 1) := by decide +kernel
theorem dX1_hasStretch_17 : decode cX1_hasStretch 17 = .ok (.aload_n 0, 1) := by decide +kernel
theorem dX1_hasStretch_18 : decode cX1_hasStretch 18 = .ok (.getfield 15, 3) := by decide +kernel
theorem dX1_hasStretch_21 : decode cX1_hasStretch 21 = .ok (.iload_n 1, 1) := by decide +kernel
theorem dX1_hasStretch_22 : decode cX1_hasStretch 22 = .ok (.iaload, 1) := by decide +kernel
theorem dX1_hasStretch_23 : decode cX1_hasStretch 23 = .ok (.if_icmp .gt 19, 3) := by decide +kernel
theorem dX1_hasStretch_26 : decode cX1_hasStretch 26 = .ok (.iload_n 3, 1) := by decide +kernel
theorem dX1_hasStretch_27 : decode cX1_hasStretch 27 = .ok (.aload_n 0, 1) := by decide +kernel
theorem dX1_hasStretch_28 : decode cX1_hasStretch 28 = .ok (.getfield 15, 3) := by decide +kernel
theorem dX1_hasStretch_31 : decode cX1_hasStretch 31 = .ok (.iload_n 1, 1) := by decide +kernel
theorem dX1_hasStretch_32 : decode cX1_hasStretch 32 = .ok (.iaload, 1) := by decide +kernel
theorem dX1_hasStretch_33 : decode cX1_hasStretch 33 = .ok (.iload_n 2, 1) := by decide +kernel
theorem dX1_hasStretch_34 : decode cX1_hasStretch 34 = .ok (.isub, 1) := by decide +kernel
theorem dX1_hasStretch_35 : decode cX1_hasStretch 35 = .ok (.if_icmp .gt 7, 3) := by decide +kernel
theorem dX1_hasStretch_38 : decode cX1_hasStretch 38 = .ok (.iconst 1, 1) := by decide +kernel
theorem dX1_hasStretch_39 : decode cX1_hasStretch 39 = .ok (.goto 4, 3) := by decide +kernel
theorem dX1_hasStretch_42 : decode cX1_hasStretch 42 = .ok (.iconst 0, 1) := by decide +kernel
theorem dX1_hasStretch_43 : decode cX1_hasStretch 43 = .ok (.ireturn, 1) := by decide +kernel
theorem dX1_elementAt_0 : decode cX1_elementAt 0 = .ok (.aload_n 0, 1) := by decide +kernel
theorem dX1_elementAt_1 : decode cX1_elementAt 1 = .ok (.iload_n 1, 1) := by decide +kernel
theorem dX1_elementAt_2 : decode cX1_elementAt 2 = .ok (.iload_n 2, 1) := by decide +kernel
theorem dX1_elementAt_3 : decode cX1_elementAt 3 = .ok (.invokevirtual 38, 3) := by decide +kernel
theorem dX1_elementAt_6 : decode cX1_elementAt 6 = .ok (.ifCond .eq 14, 3) := by decide +kernel
theorem dX1_elementAt_9 : decode cX1_elementAt 9 = .ok (.aload_n 0, 1) := by decide +kernel
theorem dX1_elementAt_10 : decode cX1_elementAt 10 = .ok (.getfield 20, 3) := by decide +kernel
theorem dX1_elementAt_13 : decode cX1_elementAt 13 = .ok (.iload_n 1, 1) := by decide +kernel
theorem dX1_elementAt_14 : decode cX1_elementAt 14 = .ok (.aaload, 1) := by decide +kernel
theorem dX1_elementAt_15 : decode cX1_elementAt 15 = .ok (.iload_n 2, 1) := by decide +kernel
theorem dX1_elementAt_16 : decode cX1_elementAt 16 = .ok (.laload, 1) := by decide +kernel
theorem dX1_elementAt_17 : decode cX1_elementAt 17 = .ok (.goto 4, 3) := by decide +kernel
theorem dX1_elementAt_20 : decode cX1_elementAt 20 = .ok (.lconst 0, 1) := by decide +kernel
theorem dX1_elementAt_21 : decode cX1_elementAt 21 = .ok (.lreturn, 1) := by decide +kernel
theorem dX1_putElement_0 : decode cX1_putElement 0 = .ok (.aload_n 0, 1) := by decide +kernel
theorem dX1_putElement_1 : decode cX1_putElement 1 = .ok (.iload_n 1, 1) := by decide +kernel
theorem dX1_putElement_2 : decode cX1_putElement 2 = .ok (.iload_n 2, 1) := by decide +kernel
theorem dX1_putElement_3 : decode cX1_putElement 3 = .ok (.invokevirtual 38, 3) := by decide +kernel
theorem dX1_putElement_6 : decode cX1_putElement 6 = .ok (.ifCond .eq 21, 3) := by decide +kernel
theorem dX1_putElement_9 : decode cX1_putElement 9 = .ok (.aload_n 0, 1) := by decide +kernel
theorem dX1_putElement_10 : decode cX1_putElement 10 = .ok (.getfield 20, 3) := by decide +kernel
theorem dX1_putElement_13 : decode cX1_putElement 13 = .ok (.iload_n 1, 1) := by decide +kernel
theorem dX1_putElement_14 : decode cX1_putElement 14 = .ok (.aaload, 1) := by decide +kernel
theorem dX1_putElement_15 : decode cX1_putElement 15 = .ok (.iload_n 2, 1) := by decide +kernel
theorem dX1_putElement_16 : decode cX1_putElement 16 = .ok (.aload_n 0, 1) := by decide +kernel
theorem dX1_putElement_17 : decode cX1_putElement 17 = .ok (.getfield 9, 3) := by decide +kernel
theorem dX1_putElement_20 : decode cX1_putElement 20 = .ok (.iload_n 1, 1) := by decide +kernel
theorem dX1_putElement_21 : decode cX1_putElement 21 = .ok (.iaload, 1) := by decide +kernel
theorem dX1_putElement_22 : decode cX1_putElement 22 = .ok (.lload_n 3, 1) := by decide +kernel
theorem dX1_putElement_23 : decode cX1_putElement 23 = .ok (.invokestatic 42, 3) := by decide +kernel
theorem dX1_putElement_26 : decode cX1_putElement 26 = .ok (.lastore, 1) := by decide +kernel
theorem dX1_putElement_27 : decode cX1_putElement 27 = .ok (.return_, 1) := by decide +kernel
theorem dX1_moveStretch_0 : decode cX1_moveStretch 0 = .ok (.aload_n 0, 1) := by decide +kernel
theorem dX1_moveStretch_1 : decode cX1_moveStretch 1 = .ok (.iload_n 1, 1) := by decide +kernel
theorem dX1_moveStretch_2 : decode cX1_moveStretch 2 = .ok (.iload_n 3, 1) := by decide +kernel
theorem dX1_moveStretch_3 : decode cX1_moveStretch 3 = .ok (.iload 5, 2) := by decide +kernel
theorem dX1_moveStretch_5 : decode cX1_moveStretch 5 = .ok (.invokevirtual 46, 3) := by decide +kernel
theorem dX1_moveStretch_8 : decode cX1_moveStretch 8 = .ok (.ifCond .eq 35, 3) := by decide +kernel
theorem dX1_moveStretch_11 : decode cX1_moveStretch 11 = .ok (.aload_n 0, 1) := by decide +kernel
theorem dX1_moveStretch_12 : decode cX1_moveStretch 12 = .ok (.iload_n 2, 1) := by decide +kernel
theorem dX1_moveStretch_13 : decode cX1_moveStretch 13 = .ok (.iload 4, 2) := by decide +kernel
theorem dX1_moveStretch_15 : decode cX1_moveStretch 15 = .ok (.iload 5, 2) := by decide +kernel
theorem dX1_moveStretch_17 : decode cX1_moveStretch 17 = .ok (.invokevirtual 46, 3) := by decide +kernel
theorem dX1_moveStretch_20 : decode cX1_moveStretch 20 = .ok (.ifCond .eq 23, 3) := by decide +kernel
theorem dX1_moveStretch_23 : decode cX1_moveStretch 23 = .ok (.aload_n 0, 1) := by decide +kernel
theorem dX1_moveStretch_24 : decode cX1_moveStretch 24 = .ok (.getfield 20, 3) := by decide +kernel
theorem dX1_moveStretch_27 : decode cX1_moveStretch 27 = .ok (.iload_n 1, 1) := by decide +kernel
theorem dX1_moveStretch_28 : decode cX1_moveStretch 28 = .ok (.aaload, 1) := by decide +kernel
theorem dX1_moveStretch_29 : decode cX1_moveStretch 29 = .ok (.iload_n 3, 1) := by decide +kernel
theorem dX1_moveStretch_30 : decode cX1_moveStretch 30 = .ok (.aload_n 0, 1) := by decide +kernel
theorem dX1_moveStretch_31 : decode cX1_moveStretch 31 = .ok (.getfield 20, 3) := by decide +kernel
theorem dX1_moveStretch_34 : decode cX1_moveStretch 34 = .ok (.iload_n 2, 1) := by decide +kernel
theorem dX1_moveStretch_35 : decode cX1_moveStretch 35 = .ok (.aaload, 1) := by decide +kernel
theorem dX1_moveStretch_36 : decode cX1_moveStretch 36 = .ok (.iload 4, 2) := by decide +kernel
theorem dX1_moveStretch_38 : decode cX1_moveStretch 38 = .ok (.iload 5, 2) := by decide +kernel
theorem dX1_moveStretch_40 : decode cX1_moveStretch 40 = .ok (.invokestatic 49, 3) := by decide +kernel
theorem dX1_moveStretch_43 : decode cX1_moveStretch 43 = .ok (.return_, 1) := by decide +kernel
theorem dX1_cutTo_0 : decode cX1_cutTo 0 = .ok (.iload_n 0, 1) := by decide +kernel
theorem dX1_cutTo_1 : decode cX1_cutTo 1 = .ok (.tableswitch 61 0 4 #[35, 40, 45, 61, 49], 35) := by decide +kernel
theorem dX1_cutTo_36 : decode cX1_cutTo 36 = .ok (.lload_n 1, 1) := by decide +kernel
theorem dX1_cutTo_37 : decode cX1_cutTo 37 = .ok (.l2i, 1) := by decide +kernel
theorem dX1_cutTo_38 : decode cX1_cutTo 38 = .ok (.i2b, 1) := by decide +kernel
theorem dX1_cutTo_39 : decode cX1_cutTo 39 = .ok (.i2l, 1) := by decide +kernel
theorem dX1_cutTo_40 : decode cX1_cutTo 40 = .ok (.lreturn, 1) := by decide +kernel
theorem dX1_cutTo_41 : decode cX1_cutTo 41 = .ok (.lload_n 1, 1) := by decide +kernel
theorem dX1_cutTo_42 : decode cX1_cutTo 42 = .ok (.l2i, 1) := by decide +kernel
theorem dX1_cutTo_43 : decode cX1_cutTo 43 = .ok (.i2s, 1) := by decide +kernel
theorem dX1_cutTo_44 : decode cX1_cutTo 44 = .ok (.i2l, 1) := by decide +kernel
theorem dX1_cutTo_45 : decode cX1_cutTo 45 = .ok (.lreturn, 1) := by decide +kernel
theorem dX1_cutTo_46 : decode cX1_cutTo 46 = .ok (.lload_n 1, 1) := by decide +kernel
theorem dX1_cutTo_47 : decode cX1_cutTo 47 = .ok (.l2i, 1) := by decide +kernel
theorem dX1_cutTo_48 : decode cX1_cutTo 48 = .ok (.i2l, 1) := by decide +kernel
theorem dX1_cutTo_49 : decode cX1_cutTo 49 = .ok (.lreturn, 1) := by decide +kernel
theorem dX1_cutTo_50 : decode cX1_cutTo 50 = .ok (.lload_n 1, 1) := by decide +kernel
theorem dX1_cutTo_51 : decode cX1_cutTo 51 = .ok (.lconst 0, 1) := by decide +kernel
theorem dX1_cutTo_52 : decode cX1_cutTo 52 = .ok (.lcmp, 1) := by decide +kernel
theorem dX1_cutTo_53 : decode cX1_cutTo 53 = .ok (.ifCond .eq 7, 3) := by decide +kernel
theorem dX1_cutTo_56 : decode cX1_cutTo 56 = .ok (.lconst 1, 1) := by decide +kernel
theorem dX1_cutTo_57 : decode cX1_cutTo 57 = .ok (.goto 4, 3) := by decide +kernel
theorem dX1_cutTo_60 : decode cX1_cutTo 60 = .ok (.lconst 0, 1) := by decide +kernel
theorem dX1_cutTo_61 : decode cX1_cutTo 61 = .ok (.lreturn, 1) := by decide +kernel
theorem dX1_cutTo_62 : decode cX1_cutTo 62 = .ok (.lload_n 1, 1) := by decide +kernel
theorem dX1_cutTo_63 : decode cX1_cutTo 63 = .ok (.lreturn, 1) := by decide +kernel
theorem dX2_init_0 : decode cX2_init 0 = .ok (.aload_n 0, 1) := by decide +kernel
theorem dX2_init_1 : decode cX2_init 1 = .ok (.invokespecial 3, 3) := by decide +kernel
theorem dX2_init_4 : decode cX2_init 4 = .ok (.aload_n 0, 1) := by decide +kernel
theorem dX2_init_5 : decode cX2_init 5 = .ok (.iconst 0, 1) := by decide +kernel
theorem dX2_init_6 : decode cX2_init 6 = .ok (.putfield 9, 3) := by decide +kernel
theorem dX2_init_9 : decode cX2_init 9 = .ok (.aload_n 0, 1) := by decide +kernel
theorem dX2_init_10 : decode cX2_init 10 = .ok (.bipush 8, 2) := by decide +kernel
theorem dX2_init_12 : decode cX2_init 12 = .ok (.newarray .int, 2) := by decide +kernel
theorem dX2_init_14 : decode cX2_init 14 = .ok (.putfield 15, 3) := by decide +kernel
theorem dX2_init_17 : decode cX2_init 17 = .ok (.aload_n 0, 1) := by decide +kernel
theorem dX2_init_18 : decode cX2_init 18 = .ok (.bipush 8, 2) := by decide +kernel
theorem dX2_init_20 : decode cX2_init 20 = .ok (.newarray .int, 2) := by decide +kernel
theorem dX2_init_22 : decode cX2_init 22 = .ok (.putfield 19, 3) := by decide +kernel
theorem dX2_init_25 : decode cX2_init 25 = .ok (.aload_n 0, 1) := by decide +kernel
theorem dX2_init_26 : decode cX2_init 26 = .ok (.bipush 8, 2) := by decide +kernel
theorem dX2_init_28 : decode cX2_init 28 = .ok (.newarray .int, 2) := by decide +kernel
theorem dX2_init_30 : decode cX2_init 30 = .ok (.putfield 22, 3) := by decide +kernel
theorem dX2_init_33 : decode cX2_init 33 = .ok (.aload_n 0, 1) := by decide +kernel
theorem dX2_init_34 : decode cX2_init 34 = .ok (.bipush 8, 2) := by decide +kernel
theorem dX2_init_36 : decode cX2_init 36 = .ok (.newarray .int, 2) := by decide +kernel
theorem dX2_init_38 : decode cX2_init 38 = .ok (.putfield 25, 3) := by decide +kernel
theorem dX2_init_41 : decode cX2_init 41 = .ok (.return_, 1) := by decide +kernel
theorem dX2_become_0 : decode cX2_become 0 = .ok (.aload_n 0, 1) := by decide +kernel
theorem dX2_become_1 : decode cX2_become 1 = .ok (.aload_n 1, 1) := by decide +kernel
theorem dX2_become_2 : decode cX2_become 2 = .ok (.getfield 9, 3) := by decide +kernel
theorem dX2_become_5 : decode cX2_become 5 = .ok (.putfield 9, 3) := by decide +kernel
theorem dX2_become_8 : decode cX2_become 8 = .ok (.iconst 0, 1) := by decide +kernel
theorem dX2_become_9 : decode cX2_become 9 = .ok (.istore_n 2, 1) := by decide +kernel
theorem dX2_become_10 : decode cX2_become 10 = .ok (.iload_n 2, 1) := by decide +kernel
theorem dX2_become_11 : decode cX2_become 11 = .ok (.bipush 8, 2) := by decide +kernel
theorem dX2_become_13 : decode cX2_become 13 = .ok (.if_icmp .ge 57, 3) := by decide +kernel
theorem dX2_become_16 : decode cX2_become 16 = .ok (.aload_n 0, 1) := by decide +kernel
theorem dX2_become_17 : decode cX2_become 17 = .ok (.getfield 15, 3) := by decide +kernel
theorem dX2_become_20 : decode cX2_become 20 = .ok (.iload_n 2, 1) := by decide +kernel
theorem dX2_become_21 : decode cX2_become 21 = .ok (.aload_n 1, 1) := by decide +kernel
theorem dX2_become_22 : decode cX2_become 22 = .ok (.getfield 15, 3) := by decide +kernel
theorem dX2_become_25 : decode cX2_become 25 = .ok (.iload_n 2, 1) := by decide +kernel
theorem dX2_become_26 : decode cX2_become 26 = .ok (.iaload, 1) := by decide +kernel
theorem dX2_become_27 : decode cX2_become 27 = .ok (.iastore, 1) := by decide +kernel
theorem dX2_become_28 : decode cX2_become 28 = .ok (.aload_n 0, 1) := by decide +kernel
theorem dX2_become_29 : decode cX2_become 29 = .ok (.getfield 19, 3) := by decide +kernel
theorem dX2_become_32 : decode cX2_become 32 = .ok (.iload_n 2, 1) := by decide +kernel
theorem dX2_become_33 : decode cX2_become 33 = .ok (.aload_n 1, 1) := by decide +kernel
theorem dX2_become_34 : decode cX2_become 34 = .ok (.getfield 19, 3) := by decide +kernel
theorem dX2_become_37 : decode cX2_become 37 = .ok (.iload_n 2, 1) := by decide +kernel
theorem dX2_become_38 : decode cX2_become 38 = .ok (.iaload, 1) := by decide +kernel
theorem dX2_become_39 : decode cX2_become 39 = .ok (.iastore, 1) := by decide +kernel
theorem dX2_become_40 : decode cX2_become 40 = .ok (.aload_n 0, 1) := by decide +kernel
theorem dX2_become_41 : decode cX2_become 41 = .ok (.getfield 22, 3) := by decide +kernel
theorem dX2_become_44 : decode cX2_become 44 = .ok (.iload_n 2, 1) := by decide +kernel
theorem dX2_become_45 : decode cX2_become 45 = .ok (.aload_n 1, 1) := by decide +kernel
theorem dX2_become_46 : decode cX2_become 46 = .ok (.getfield 22, 3) := by decide +kernel
theorem dX2_become_49 : decode cX2_become 49 = .ok (.iload_n 2, 1) := by decide +kernel
theorem dX2_become_50 : decode cX2_become 50 = .ok (.iaload, 1) := by decide +kernel
theorem dX2_become_51 : decode cX2_become 51 = .ok (.iastore, 1) := by decide +kernel
theorem dX2_become_52 : decode cX2_become 52 = .ok (.aload_n 0, 1) := by decide +kernel
theorem dX2_become_53 : decode cX2_become 53 = .ok (.getfield 25, 3) := by decide +kernel
theorem dX2_become_56 : decode cX2_become 56 = .ok (.iload_n 2, 1) := by decide +kernel
theorem dX2_become_57 : decode cX2_become 57 = .ok (.aload_n 1, 1) := by decide +kernel
theorem dX2_become_58 : decode cX2_become 58 = .ok (.getfield 25, 3) := by decide +kernel
theorem dX2_become_61 : decode cX2_become 61 = .ok (.iload_n 2, 1) := by decide +kernel
theorem dX2_become_62 : decode cX2_become 62 = .ok (.iaload, 1) := by decide +kernel
theorem dX2_become_63 : decode cX2_become 63 = .ok (.iastore, 1) := by decide +kernel
theorem dX2_become_64 : decode cX2_become 64 = .ok (.iinc 2 1, 3) := by decide +kernel
theorem dX2_become_67 : decode cX2_become 67 = .ok (.goto (-57), 3) := by decide +kernel
theorem dX2_become_70 : decode cX2_become 70 = .ok (.return_, 1) := by decide +kernel
theorem dX2_has_0 : decode cX2_has 0 = .ok (.iload_n 1, 1) := by decide +kernel
theorem dX2_has_1 : decode cX2_has 1 = .ok (.ifCond .lt 21, 3) := by decide +kernel
theorem dX2_has_4 : decode cX2_has 4 = .ok (.iload_n 1, 1) := by decide +kernel
theorem dX2_has_5 : decode cX2_has 5 = .ok (.aload_n 0, 1) := by decide +kernel
theorem dX2_has_6 : decode cX2_has 6 = .ok (.getfield 9, 3) := by decide +kernel
theorem dX2_has_9 : decode cX2_has 9 = .ok (.if_icmp .ge 13, 3) := by decide +kernel
theorem dX2_has_12 : decode cX2_has 12 = .ok (.iload_n 1, 1) := by decide +kernel
theorem dX2_has_13 : decode cX2_has 13 = .ok (.bipush 8, 2) := by decide +kernel
theorem dX2_has_15 : decode cX2_has 15 = .ok (.if_icmp .ge 7, 3) := by decide +kernel
theorem dX2_has_18 : decode cX2_has 18 = .ok (.iconst 1, 1) := by decide +kernel
theorem dX2_has_19 : decode cX2_has 19 = .ok (.goto 4, 3) := by decide +kernel
theorem dX2_has_22 : decode cX2_has 22 = .ok (.iconst 0, 1) := by decide +kernel
theorem dX2_has_23 : decode cX2_has 23 = .ok (.ireturn, 1) := by decide +kernel
theorem dX2_isFull_0 : decode cX2_isFull 0 = .ok (.aload_n 0, 1) := by decide +kernel
theorem dX2_isFull_1 : decode cX2_isFull 1 = .ok (.getfield 9, 3) := by decide +kernel
theorem dX2_isFull_4 : decode cX2_isFull 4 = .ok (.bipush 8, 2) := by decide +kernel
theorem dX2_isFull_6 : decode cX2_isFull 6 = .ok (.if_icmp .lt 7, 3) := by decide +kernel
theorem dX2_isFull_9 : decode cX2_isFull 9 = .ok (.iconst 1, 1) := by decide +kernel
theorem dX2_isFull_10 : decode cX2_isFull 10 = .ok (.goto 4, 3) := by decide +kernel
theorem dX2_isFull_13 : decode cX2_isFull 13 = .ok (.iconst 0, 1) := by decide +kernel
theorem dX2_isFull_14 : decode cX2_isFull 14 = .ok (.ireturn, 1) := by decide +kernel
theorem dX2_add_0 : decode cX2_add 0 = .ok (.aload_n 0, 1) := by decide +kernel
theorem dX2_add_1 : decode cX2_add 1 = .ok (.getfield 9, 3) := by decide +kernel
theorem dX2_add_4 : decode cX2_add 4 = .ok (.ifCond .lt 12, 3) := by decide +kernel
theorem dX2_add_7 : decode cX2_add 7 = .ok (.aload_n 0, 1) := by decide +kernel
theorem dX2_add_8 : decode cX2_add 8 = .ok (.getfield 9, 3) := by decide +kernel
theorem dX2_add_11 : decode cX2_add 11 = .ok (.bipush 8, 2) := by decide +kernel
theorem dX2_add_13 : decode cX2_add 13 = .ok (.if_icmp .lt 5, 3) := by decide +kernel
theorem dX2_add_16 : decode cX2_add 16 = .ok (.iconst (-1), 1) := by decide +kernel
theorem dX2_add_17 : decode cX2_add 17 = .ok (.ireturn, 1) := by decide +kernel
theorem dX2_add_18 : decode cX2_add 18 = .ok (.aload_n 0, 1) := by decide +kernel
theorem dX2_add_19 : decode cX2_add 19 = .ok (.getfield 15, 3) := by decide +kernel
theorem dX2_add_22 : decode cX2_add 22 = .ok (.aload_n 0, 1) := by decide +kernel
theorem dX2_add_23 : decode cX2_add 23 = .ok (.getfield 9, 3) := by decide +kernel
theorem dX2_add_26 : decode cX2_add 26 = .ok (.iload_n 1, 1) := by decide +kernel
theorem dX2_add_27 : decode cX2_add 27 = .ok (.iastore, 1) := by decide +kernel
theorem dX2_add_28 : decode cX2_add 28 = .ok (.aload_n 0, 1) := by decide +kernel
theorem dX2_add_29 : decode cX2_add 29 = .ok (.getfield 19, 3) := by decide +kernel
theorem dX2_add_32 : decode cX2_add 32 = .ok (.aload_n 0, 1) := by decide +kernel
theorem dX2_add_33 : decode cX2_add 33 = .ok (.getfield 9, 3) := by decide +kernel
theorem dX2_add_36 : decode cX2_add 36 = .ok (.iload_n 2, 1) := by decide +kernel
theorem dX2_add_37 : decode cX2_add 37 = .ok (.iastore, 1) := by decide +kernel
theorem dX2_add_38 : decode cX2_add 38 = .ok (.aload_n 0, 1) := by decide +kernel
theorem dX2_add_39 : decode cX2_add 39 = .ok (.getfield 22, 3) := by decide +kernel
theorem dX2_add_42 : decode cX2_add 42 = .ok (.aload_n 0, 1) := by decide +kernel
theorem dX2_add_43 : decode cX2_add 43 = .ok (.getfield 9, 3) := by decide +kernel
theorem dX2_add_46 : decode cX2_add 46 = .ok (.iload_n 3, 1) := by decide +kernel
theorem dX2_add_47 : decode cX2_add 47 = .ok (.iastore, 1) := by decide +kernel
theorem dX2_add_48 : decode cX2_add 48 = .ok (.aload_n 0, 1) := by decide +kernel
theorem dX2_add_49 : decode cX2_add 49 = .ok (.getfield 25, 3) := by decide +kernel
theorem dX2_add_52 : decode cX2_add 52 = .ok (.aload_n 0, 1) := by decide +kernel
theorem dX2_add_53 : decode cX2_add 53 = .ok (.getfield 9, 3) := by decide +kernel
theorem dX2_add_56 : decode cX2_add 56 = .ok (.iconst 0, 1) := by decide +kernel
theorem dX2_add_57 : decode cX2_add 57 = .ok (.iastore, 1) := by decide +kernel
theorem dX2_add_58 : decode cX2_add 58 = .ok (.aload_n 0, 1) := by decide +kernel
theorem dX2_add_59 : decode cX2_add 59 = .ok (.dup, 1) := by decide +kernel
theorem dX2_add_60 : decode cX2_add 60 = .ok (.getfield 9, 3) := by decide +kernel
theorem dX2_add_63 : decode cX2_add 63 = .ok (.iconst 1, 1) := by decide +kernel
theorem dX2_add_64 : decode cX2_add 64 = .ok (.iadd, 1) := by decide +kernel
theorem dX2_add_65 : decode cX2_add 65 = .ok (.putfield 9, 3) := by decide +kernel
theorem dX2_add_68 : decode cX2_add 68 = .ok (.aload_n 0, 1) := by decide +kernel
theorem dX2_add_69 : decode cX2_add 69 = .ok (.getfield 9, 3) := by decide +kernel
theorem dX2_add_72 : decode cX2_add 72 = .ok (.iconst 1, 1) := by decide +kernel
theorem dX2_add_73 : decode cX2_add 73 = .ok (.isub, 1) := by decide +kernel
theorem dX2_add_74 : decode cX2_add 74 = .ok (.ireturn, 1) := by decide +kernel
theorem dX2_kindOf_0 : decode cX2_kindOf 0 = .ok (.aload_n 0, 1) := by decide +kernel
theorem dX2_kindOf_1 : decode cX2_kindOf 1 = .ok (.iload_n 1, 1) := by decide +kernel
theorem dX2_kindOf_2 : decode cX2_kindOf 2 = .ok (.invokevirtual 28, 3) := by decide +kernel
theorem dX2_kindOf_5 : decode cX2_kindOf 5 = .ok (.ifCond .eq 12, 3) := by decide +kernel
theorem dX2_kindOf_8 : decode cX2_kindOf 8 = .ok (.aload_n 0, 1) := by decide +kernel
theorem dX2_kindOf_9 : decode cX2_kindOf 9 = .ok (.getfield 15, 3) := by decide +kernel
theorem dX2_kindOf_12 : decode cX2_kindOf 12 = .ok (.iload_n 1, 1) := by decide +kernel
theorem dX2_kindOf_13 : decode cX2_kindOf 13 = .ok (.iaload, 1) := by decide +kernel
theorem dX2_kindOf_14 : decode cX2_kindOf 14 = .ok (.goto 4, 3) := by decide +kernel
theorem dX2_kindOf_17 : decode cX2_kindOf 17 = .ok (.iconst (-1), 1) := by decide +kernel
theorem dX2_kindOf_18 : decode cX2_kindOf 18 = .ok (.ireturn, 1) := by decide +kernel
theorem dX2_skillOf_0 : decode cX2_skillOf 0 = .ok (.aload_n 0, 1) := by decide +kernel
theorem dX2_skillOf_1 : decode cX2_skillOf 1 = .ok (.iload_n 1, 1) := by decide +kernel
theorem dX2_skillOf_2 : decode cX2_skillOf 2 = .ok (.invokevirtual 28, 3) := by decide +kernel
theorem dX2_skillOf_5 : decode cX2_skillOf 5 = .ok (.ifCond .eq 12, 3) := by decide +kernel
theorem dX2_skillOf_8 : decode cX2_skillOf 8 = .ok (.aload_n 0, 1) := by decide +kernel
theorem dX2_skillOf_9 : decode cX2_skillOf 9 = .ok (.getfield 19, 3) := by decide +kernel
theorem dX2_skillOf_12 : decode cX2_skillOf 12 = .ok (.iload_n 1, 1) := by decide +kernel
theorem dX2_skillOf_13 : decode cX2_skillOf 13 = .ok (.iaload, 1) := by decide +kernel
theorem dX2_skillOf_14 : decode cX2_skillOf 14 = .ok (.goto 4, 3) := by decide +kernel
theorem dX2_skillOf_17 : decode cX2_skillOf 17 = .ok (.iconst 0, 1) := by decide +kernel
theorem dX2_skillOf_18 : decode cX2_skillOf 18 = .ok (.ireturn, 1) := by decide +kernel
theorem dX2_nerveOf_0 : decode cX2_nerveOf 0 = .ok (.aload_n 0, 1) := by decide +kernel
theorem dX2_nerveOf_1 : decode cX2_nerveOf 1 = .ok (.iload_n 1, 1) := by decide +kernel
theorem dX2_nerveOf_2 : decode cX2_nerveOf 2 = .ok (.invokevirtual 28, 3) := by decide +kernel
theorem dX2_nerveOf_5 : decode cX2_nerveOf 5 = .ok (.ifCond .eq 12, 3) := by decide +kernel
theorem dX2_nerveOf_8 : decode cX2_nerveOf 8 = .ok (.aload_n 0, 1) := by decide +kernel
theorem dX2_nerveOf_9 : decode cX2_nerveOf 9 = .ok (.getfield 22, 3) := by decide +kernel
theorem dX2_nerveOf_12 : decode cX2_nerveOf 12 = .ok (.iload_n 1, 1) := by decide +kernel
theorem dX2_nerveOf_13 : decode cX2_nerveOf 13 = .ok (.iaload, 1) := by decide +kernel
theorem dX2_nerveOf_14 : decode cX2_nerveOf 14 = .ok (.goto 4, 3) := by decide +kernel
theorem dX2_nerveOf_17 : decode cX2_nerveOf 17 = .ok (.iconst 0, 1) := by decide +kernel
theorem dX2_nerveOf_18 : decode cX2_nerveOf 18 = .ok (.ireturn, 1) := by decide +kernel
theorem dX2_fledOf_0 : decode cX2_fledOf 0 = .ok (.aload_n 0, 1) := by decide +kernel
theorem dX2_fledOf_1 : decode cX2_fledOf 1 = .ok (.iload_n 1, 1) := by decide +kernel
theorem dX2_fledOf_2 : decode cX2_fledOf 2 = .ok (.invokevirtual 28, 3) := by decide +kernel
theorem dX2_fledOf_5 : decode cX2_fledOf 5 = .ok (.ifCond .eq 12, 3) := by decide +kernel
theorem dX2_fledOf_8 : decode cX2_fledOf 8 = .ok (.aload_n 0, 1) := by decide +kernel
theorem dX2_fledOf_9 : decode cX2_fledOf 9 = .ok (.getfield 25, 3) := by decide +kernel
theorem dX2_fledOf_12 : decode cX2_fledOf 12 = .ok (.iload_n 1, 1) := by decide +kernel
theorem dX2_fledOf_13 : decode cX2_fledOf 13 = .ok (.iaload, 1) := by decide +kernel
theorem dX2_fledOf_14 : decode cX2_fledOf 14 = .ok (.goto 4, 3) := by decide +kernel
theorem dX2_fledOf_17 : decode cX2_fledOf 17 = .ok (.iconst 0, 1) := by decide +kernel
theorem dX2_fledOf_18 : decode cX2_fledOf 18 = .ok (.ireturn, 1) := by decide +kernel
theorem dX2_putNerve_0 : decode cX2_putNerve 0 = .ok (.aload_n 0, 1) := by decide +kernel
theorem dX2_putNerve_1 : decode cX2_putNerve 1 = .ok (.iload_n 1, 1) := by decide +kernel
theorem dX2_putNerve_2 : decode cX2_putNerve 2 = .ok (.invokevirtual 28, 3) := by decide +kernel
theorem dX2_putNerve_5 : decode cX2_putNerve 5 = .ok (.ifCond .eq 10, 3) := by decide +kernel
theorem dX2_putNerve_8 : decode cX2_putNerve 8 = .ok (.aload_n 0, 1) := by decide +kernel
theorem dX2_putNerve_9 : decode cX2_putNerve 9 = .ok (.getfield 22, 3) := by decide +kernel
theorem dX2_putNerve_12 : decode cX2_putNerve 12 = .ok (.iload_n 1, 1) := by decide +kernel
theorem dX2_putNerve_13 : decode cX2_putNerve 13 = .ok (.iload_n 2, 1) := by decide +kernel
theorem dX2_putNerve_14 : decode cX2_putNerve 14 = .ok (.iastore, 1) := by decide +kernel
theorem dX2_putNerve_15 : decode cX2_putNerve 15 = .ok (.return_, 1) := by decide +kernel
theorem dX2_noteFled_0 : decode cX2_noteFled 0 = .ok (.aload_n 0, 1) := by decide +kernel
theorem dX2_noteFled_1 : decode cX2_noteFled 1 = .ok (.iload_n 1, 1) := by decide +kernel
theorem dX2_noteFled_2 : decode cX2_noteFled 2 = .ok (.invokevirtual 28, 3) := by decide +kernel
theorem dX2_noteFled_5 : decode cX2_noteFled 5 = .ok (.ifCond .eq 13, 3) := by decide +kernel
theorem dX2_noteFled_8 : decode cX2_noteFled 8 = .ok (.aload_n 0, 1) := by decide +kernel
theorem dX2_noteFled_9 : decode cX2_noteFled 9 = .ok (.getfield 25, 3) := by decide +kernel
theorem dX2_noteFled_12 : decode cX2_noteFled 12 = .ok (.iload_n 1, 1) := by decide +kernel
theorem dX2_noteFled_13 : decode cX2_noteFled 13 = .ok (.dup2, 1) := by decide +kernel
theorem dX2_noteFled_14 : decode cX2_noteFled 14 = .ok (.iaload, 1) := by decide +kernel
theorem dX2_noteFled_15 : decode cX2_noteFled 15 = .ok (.iconst 1, 1) := by decide +kernel
theorem dX2_noteFled_16 : decode cX2_noteFled 16 = .ok (.iadd, 1) := by decide +kernel
theorem dX2_noteFled_17 : decode cX2_noteFled 17 = .ok (.iastore, 1) := by decide +kernel
theorem dX2_noteFled_18 : decode cX2_noteFled 18 = .ok (.return_, 1) := by decide +kernel
theorem dX2_allFled_0 : decode cX2_allFled 0 = .ok (.iconst 0, 1) := by decide +kernel
theorem dX2_allFled_1 : decode cX2_allFled 1 = .ok (.istore_n 1, 1) := by decide +kernel
theorem dX2_allFled_2 : decode cX2_allFled 2 = .ok (.iconst 0, 1) := by decide +kernel
theorem dX2_allFled_3 : decode cX2_allFled 3 = .ok (.istore_n 2, 1) := by decide +kernel
theorem dX2_allFled_4 : decode cX2_allFled 4 = .ok (.iload_n 2, 1) := by decide +kernel
theorem dX2_allFled_5 : decode cX2_allFled 5 = .ok (.aload_n 0, 1) := by decide +kernel
theorem dX2_allFled_6 : decode cX2_allFled 6 = .ok (.getfield 9, 3) := by decide +kernel
theorem dX2_allFled_9 : decode cX2_allFled 9 = .ok (.if_icmp .ge 17, 3) := by decide +kernel
theorem dX2_allFled_12 : decode cX2_allFled 12 = .ok (.iload_n 1, 1) := by decide +kernel
theorem dX2_allFled_13 : decode cX2_allFled 13 = .ok (.aload_n 0, 1) := by decide +kernel
theorem dX2_allFled_14 : decode cX2_allFled 14 = .ok (.iload_n 2, 1) := by decide +kernel
theorem dX2_allFled_15 : decode cX2_allFled 15 = .ok (.invokevirtual 32, 3) := by decide +kernel
theorem dX2_allFled_18 : decode cX2_allFled 18 = .ok (.iadd, 1) := by decide +kernel
theorem dX2_allFled_19 : decode cX2_allFled 19 = .ok (.istore_n 1, 1) := by decide +kernel
theorem dX2_allFled_20 : decode cX2_allFled 20 = .ok (.iinc 2 1, 3) := by decide +kernel
theorem dX2_allFled_23 : decode cX2_allFled 23 = .ok (.goto (-19), 3) := by decide +kernel
theorem dX2_allFled_26 : decode cX2_allFled 26 = .ok (.iload_n 1, 1) := by decide +kernel
theorem dX2_allFled_27 : decode cX2_allFled 27 = .ok (.ireturn, 1) := by decide +kernel
theorem dX2_orderAt_0 : decode cX2_orderAt 0 = .ok (.iload_n 1, 1) := by decide +kernel
theorem dX2_orderAt_1 : decode cX2_orderAt 1 = .ok (.aload_n 0, 1) := by decide +kernel
theorem dX2_orderAt_2 : decode cX2_orderAt 2 = .ok (.getfield 9, 3) := by decide +kernel
theorem dX2_orderAt_5 : decode cX2_orderAt 5 = .ok (.if_icmp .gt 9, 3) := by decide +kernel
theorem dX2_orderAt_8 : decode cX2_orderAt 8 = .ok (.iload_n 1, 1) := by decide +kernel
theorem dX2_orderAt_9 : decode cX2_orderAt 9 = .ok (.iconst 1, 1) := by decide +kernel
theorem dX2_orderAt_10 : decode cX2_orderAt 10 = .ok (.isub, 1) := by decide +kernel
theorem dX2_orderAt_11 : decode cX2_orderAt 11 = .ok (.goto 5, 3) := by decide +kernel
theorem dX2_orderAt_14 : decode cX2_orderAt 14 = .ok (.bipush 10, 2) := by decide +kernel
theorem dX2_orderAt_16 : decode cX2_orderAt 16 = .ok (.ireturn, 1) := by decide +kernel
theorem dX2_remains_0 : decode cX2_remains 0 = .ok (.aload_n 0, 1) := by decide +kernel
theorem dX2_remains_1 : decode cX2_remains 1 = .ok (.iload_n 1, 1) := by decide +kernel
theorem dX2_remains_2 : decode cX2_remains 2 = .ok (.invokevirtual 28, 3) := by decide +kernel
theorem dX2_remains_5 : decode cX2_remains 5 = .ok (.ifCond .ne 5, 3) := by decide +kernel
theorem dX2_remains_8 : decode cX2_remains 8 = .ok (.iconst 0, 1) := by decide +kernel
theorem dX2_remains_9 : decode cX2_remains 9 = .ok (.ireturn, 1) := by decide +kernel
theorem dX2_remains_10 : decode cX2_remains 10 = .ok (.aload_n 2, 1) := by decide +kernel
theorem dX2_remains_11 : decode cX2_remains 11 = .ok (.invokevirtual 36, 3) := by decide +kernel
theorem dX2_remains_14 : decode cX2_remains 14 = .ok (.istore_n 3, 1) := by decide +kernel
theorem dX2_remains_15 : decode cX2_remains 15 = .ok (.aload_n 0, 1) := by decide +kernel
theorem dX2_remains_16 : decode cX2_remains 16 = .ok (.getfield 15, 3) := by decide +kernel
theorem dX2_remains_19 : decode cX2_remains 19 = .ok (.iload_n 1, 1) := by decide +kernel
theorem dX2_remains_20 : decode cX2_remains 20 = .ok (.iaload, 1) := by decide +kernel
theorem dX2_remains_21 : decode cX2_remains 21 = .ok (.tableswitch 105 1 5 #[35, 105, 58, 60, 78], 35) := by decide +kernel
theorem dX2_remains_56 : decode cX2_remains 56 = .ok (.aload_n 0, 1) := by decide +kernel
theorem dX2_remains_57 : decode cX2_remains 57 = .ok (.getfield 22, 3) := by decide +kernel
theorem dX2_remains_60 : decode cX2_remains 60 = .ok (.iload_n 1, 1) := by decide +kernel
theorem dX2_remains_61 : decode cX2_remains 61 = .ok (.iaload, 1) := by decide +kernel
theorem dX2_remains_62 : decode cX2_remains 62 = .ok (.aload_n 0, 1) := by decide +kernel
theorem dX2_remains_63 : decode cX2_remains 63 = .ok (.getfield 19, 3) := by decide +kernel
theorem dX2_remains_66 : decode cX2_remains 66 = .ok (.iload_n 1, 1) := by decide +kernel
theorem dX2_remains_67 : decode cX2_remains 67 = .ok (.iaload, 1) := by decide +kernel
theorem dX2_remains_68 : decode cX2_remains 68 = .ok (.iadd, 1) := by decide +kernel
theorem dX2_remains_69 : decode cX2_remains 69 = .ok (.iload_n 3, 1) := by decide +kernel
theorem dX2_remains_70 : decode cX2_remains 70 = .ok (.if_icmp .lt 7, 3) := by decide +kernel
theorem dX2_remains_73 : decode cX2_remains 73 = .ok (.iconst 1, 1) := by decide +kernel
theorem dX2_remains_74 : decode cX2_remains 74 = .ok (.goto 4, 3) := by decide +kernel
theorem dX2_remains_77 : decode cX2_remains 77 = .ok (.iconst 0, 1) := by decide +kernel
theorem dX2_remains_78 : decode cX2_remains 78 = .ok (.ireturn, 1) := by decide +kernel
theorem dX2_remains_79 : decode cX2_remains 79 = .ok (.iconst 1, 1) := by decide +kernel
theorem dX2_remains_80 : decode cX2_remains 80 = .ok (.ireturn, 1) := by decide +kernel
theorem dX2_remains_81 : decode cX2_remains 81 = .ok (.iconst 2, 1) := by decide +kernel
theorem dX2_remains_82 : decode cX2_remains 82 = .ok (.aload_n 0, 1) := by decide +kernel
theorem dX2_remains_83 : decode cX2_remains 83 = .ok (.getfield 22, 3) := by decide +kernel
theorem dX2_remains_86 : decode cX2_remains 86 = .ok (.iload_n 1, 1) := by decide +kernel
theorem dX2_remains_87 : decode cX2_remains 87 = .ok (.iaload, 1) := by decide +kernel
theorem dX2_remains_88 : decode cX2_remains 88 = .ok (.imul, 1) := by decide +kernel
theorem dX2_remains_89 : decode cX2_remains 89 = .ok (.iload_n 3, 1) := by decide +kernel
theorem dX2_remains_90 : decode cX2_remains 90 = .ok (.if_icmp .lt 7, 3) := by decide +kernel
theorem dX2_remains_93 : decode cX2_remains 93 = .ok (.iconst 1, 1) := by decide +kernel
theorem dX2_remains_94 : decode cX2_remains 94 = .ok (.goto 4, 3) := by decide +kernel
theorem dX2_remains_97 : decode cX2_remains 97 = .ok (.iconst 0, 1) := by decide +kernel
theorem dX2_remains_98 : decode cX2_remains 98 = .ok (.ireturn, 1) := by decide +kernel
theorem dX2_remains_99 : decode cX2_remains 99 = .ok (.aload_n 0, 1) := by decide +kernel
theorem dX2_remains_100 : decode cX2_remains 100 = .ok (.getfield 22, 3) := by decide +kernel
theorem dX2_remains_103 : decode cX2_remains 103 = .ok (.iload_n 1, 1) := by decide +kernel
theorem dX2_remains_104 : decode cX2_remains 104 = .ok (.iaload, 1) := by decide +kernel
theorem dX2_remains_105 : decode cX2_remains 105 = .ok (.iload_n 3, 1) := by decide +kernel
theorem dX2_remains_106 : decode cX2_remains 106 = .ok (.if_icmp .lt 18, 3) := by decide +kernel
theorem dX2_remains_109 : decode cX2_remains 109 = .ok (.aload_n 2, 1) := by decide +kernel
theorem dX2_remains_110 : decode cX2_remains 110 = .ok (.getfield 42, 3) := by decide +kernel
theorem dX2_remains_113 : decode cX2_remains 113 = .ok (.aload_n 2, 1) := by decide +kernel
theorem dX2_remains_114 : decode cX2_remains 114 = .ok (.getfield 45, 3) := by decide +kernel
theorem dX2_remains_117 : decode cX2_remains 117 = .ok (.if_icmp .ge 7, 3) := by decide +kernel
theorem dX2_remains_120 : decode cX2_remains 120 = .ok (.iconst 1, 1) := by decide +kernel
theorem dX2_remains_121 : decode cX2_remains 121 = .ok (.goto 4, 3) := by decide +kernel
theorem dX2_remains_124 : decode cX2_remains 124 = .ok (.iconst 0, 1) := by decide +kernel
theorem dX2_remains_125 : decode cX2_remains 125 = .ok (.ireturn, 1) := by decide +kernel
theorem dX2_remains_126 : decode cX2_remains 126 = .ok (.aload_n 0, 1) := by decide +kernel
theorem dX2_remains_127 : decode cX2_remains 127 = .ok (.getfield 22, 3) := by decide +kernel
theorem dX2_remains_130 : decode cX2_remains 130 = .ok (.iload_n 1, 1) := by decide +kernel
theorem dX2_remains_131 : decode cX2_remains 131 = .ok (.iaload, 1) := by decide +kernel
theorem dX2_remains_132 : decode cX2_remains 132 = .ok (.iload_n 3, 1) := by decide +kernel
theorem dX2_remains_133 : decode cX2_remains 133 = .ok (.if_icmp .lt 7, 3) := by decide +kernel
theorem dX2_remains_136 : decode cX2_remains 136 = .ok (.iconst 1, 1) := by decide +kernel
theorem dX2_remains_137 : decode cX2_remains 137 = .ok (.goto 4, 3) := by decide +kernel
theorem dX2_remains_140 : decode cX2_remains 140 = .ok (.iconst 0, 1) := by decide +kernel
theorem dX2_remains_141 : decode cX2_remains 141 = .ok (.ireturn, 1) := by decide +kernel
theorem dX2_bitsRemaining_0 : decode cX2_bitsRemaining 0 = .ok (.iconst 0, 1) := by decide +kernel
theorem dX2_bitsRemaining_1 : decode cX2_bitsRemaining 1 = .ok (.istore_n 2, 1) := by decide +kernel
theorem dX2_bitsRemaining_2 : decode cX2_bitsRemaining 2 = .ok (.iconst 0, 1) := by decide +kernel
theorem dX2_bitsRemaining_3 : decode cX2_bitsRemaining 3 = .ok (.istore_n 3, 1) := by decide +kernel
theorem dX2_bitsRemaining_4 : decode cX2_bitsRemaining 4 = .ok (.iload_n 3, 1) := by decide +kernel
theorem dX2_bitsRemaining_5 : decode cX2_bitsRemaining 5 = .ok (.aload_n 0, 1) := by decide +kernel
theorem dX2_bitsRemaining_6 : decode cX2_bitsRemaining 6 = .ok (.getfield 9, 3) := by decide +kernel
theorem dX2_bitsRemaining_9 : decode cX2_bitsRemaining 9 = .ok (.if_icmp .ge 24, 3) := by decide +kernel
theorem dX2_bitsRemaining_12 : decode cX2_bitsRemaining 12 = .ok (.aload_n 0, 1) := by decide +kernel
theorem dX2_bitsRemaining_13 : decode cX2_bitsRemaining 13 = .ok (.iload_n 3, 1) := by decide +kernel
theorem dX2_bitsRemaining_14 : decode cX2_bitsRemaining 14 = .ok (.aload_n 1, 1) := by decide +kernel
theorem dX2_bitsRemaining_15 : decode cX2_bitsRemaining 15 = .ok (.invokevirtual 48, 3) := by decide +kernel
theorem dX2_bitsRemaining_18 : decode cX2_bitsRemaining 18 = .ok (.ifCond .eq 9, 3) := by decide +kernel
theorem dX2_bitsRemaining_21 : decode cX2_bitsRemaining 21 = .ok (.iload_n 2, 1) := by decide +kernel
theorem dX2_bitsRemaining_22 : decode cX2_bitsRemaining 22 = .ok (.iconst 1, 1) := by decide +kernel
theorem dX2_bitsRemaining_23 : decode cX2_bitsRemaining 23 = .ok (.iload_n 3, 1) := by decide +kernel
theorem dX2_bitsRemaining_24 : decode cX2_bitsRemaining 24 = .ok (.ishl, 1) := by decide +kernel
theorem dX2_bitsRemaining_25 : decode cX2_bitsRemaining 25 = .ok (.ior, 1) := by decide +kernel
theorem dX2_bitsRemaining_26 : decode cX2_bitsRemaining 26 = .ok (.istore_n 2, 1) := by decide +kernel
theorem dX2_bitsRemaining_27 : decode cX2_bitsRemaining 27 = .ok (.iinc 3 1, 3) := by decide +kernel
theorem dX2_bitsRemaining_30 : decode cX2_bitsRemaining 30 = .ok (.goto (-26), 3) := by decide +kernel
theorem dX2_bitsRemaining_33 : decode cX2_bitsRemaining 33 = .ok (.iload_n 2, 1) := by decide +kernel
theorem dX2_bitsRemaining_34 : decode cX2_bitsRemaining 34 = .ok (.ireturn, 1) := by decide +kernel
theorem dX2_feeds_0 : decode cX2_feeds 0 = .ok (.aload_n 0, 1) := by decide +kernel
theorem dX2_feeds_1 : decode cX2_feeds 1 = .ok (.iload_n 1, 1) := by decide +kernel
theorem dX2_feeds_2 : decode cX2_feeds 2 = .ok (.invokevirtual 28, 3) := by decide +kernel
theorem dX2_feeds_5 : decode cX2_feeds 5 = .ok (.ifCond .eq 20, 3) := by decide +kernel
theorem dX2_feeds_8 : decode cX2_feeds 8 = .ok (.aload_n 0, 1) := by decide +kernel
theorem dX2_feeds_9 : decode cX2_feeds 9 = .ok (.getfield 15, 3) := by decide +kernel
theorem dX2_feeds_12 : decode cX2_feeds 12 = .ok (.iload_n 1, 1) := by decide +kernel
theorem dX2_feeds_13 : decode cX2_feeds 13 = .ok (.iaload, 1) := by decide +kernel
theorem dX2_feeds_14 : decode cX2_feeds 14 = .ok (.iconst 2, 1) := by decide +kernel
theorem dX2_feeds_15 : decode cX2_feeds 15 = .ok (.invokestatic 52, 3) := by decide +kernel
theorem dX2_feeds_18 : decode cX2_feeds 18 = .ok (.ifCond .eq 7, 3) := by decide +kernel
theorem dX2_feeds_21 : decode cX2_feeds 21 = .ok (.iconst 1, 1) := by decide +kernel
theorem dX2_feeds_22 : decode cX2_feeds 22 = .ok (.goto 4, 3) := by decide +kernel
theorem dX2_feeds_25 : decode cX2_feeds 25 = .ok (.iconst 0, 1) := by decide +kernel
theorem dX2_feeds_26 : decode cX2_feeds 26 = .ok (.ireturn, 1) := by decide +kernel
theorem dX2_soothed_0 : decode cX2_soothed 0 = .ok (.aload_n 0, 1) := by decide +kernel
theorem dX2_soothed_1 : decode cX2_soothed 1 = .ok (.iload_n 1, 1) := by decide +kernel
theorem dX2_soothed_2 : decode cX2_soothed 2 = .ok (.invokevirtual 28, 3) := by decide +kernel
theorem dX2_soothed_5 : decode cX2_soothed 5 = .ok (.ifCond .ne 8, 3) := by decide +kernel
theorem dX2_soothed_8 : decode cX2_soothed 8 = .ok (.aload_n 2, 1) := by decide +kernel
theorem dX2_soothed_9 : decode cX2_soothed 9 = .ok (.getfield 42, 3) := by decide +kernel
theorem dX2_soothed_12 : decode cX2_soothed 12 = .ok (.ireturn, 1) := by decide +kernel
theorem dX2_soothed_13 : decode cX2_soothed 13 = .ok (.aload_n 2, 1) := by decide +kernel
theorem dX2_soothed_14 : decode cX2_soothed 14 = .ok (.getfield 42, 3) := by decide +kernel
theorem dX2_soothed_17 : decode cX2_soothed 17 = .ok (.aload_n 0, 1) := by decide +kernel
theorem dX2_soothed_18 : decode cX2_soothed 18 = .ok (.getfield 15, 3) := by decide +kernel
theorem dX2_soothed_21 : decode cX2_soothed 21 = .ok (.iload_n 1, 1) := by decide +kernel
theorem dX2_soothed_22 : decode cX2_soothed 22 = .ok (.iaload, 1) := by decide +kernel
theorem dX2_soothed_23 : decode cX2_soothed 23 = .ok (.aload_n 0, 1) := by decide +kernel
theorem dX2_soothed_24 : decode cX2_soothed 24 = .ok (.getfield 19, 3) := by decide +kernel
theorem dX2_soothed_27 : decode cX2_soothed 27 = .ok (.iload_n 1, 1) := by decide +kernel
theorem dX2_soothed_28 : decode cX2_soothed 28 = .ok (.iaload, 1) := by decide +kernel
theorem dX2_soothed_29 : decode cX2_soothed 29 = .ok (.aload_n 2, 1) := by decide +kernel
theorem dX2_soothed_30 : decode cX2_soothed 30 = .ok (.invokestatic 56, 3) := by decide +kernel
theorem dX2_soothed_33 : decode cX2_soothed 33 = .ok (.isub, 1) := by decide +kernel
theorem dX2_soothed_34 : decode cX2_soothed 34 = .ok (.istore_n 3, 1) := by decide +kernel
theorem dX2_soothed_35 : decode cX2_soothed 35 = .ok (.iconst 0, 1) := by decide +kernel
theorem dX2_soothed_36 : decode cX2_soothed 36 = .ok (.bipush 99, 2) := by decide +kernel
theorem dX2_soothed_38 : decode cX2_soothed 38 = .ok (.iload_n 3, 1) := by decide +kernel
theorem dX2_soothed_39 : decode cX2_soothed 39 = .ok (.invokestatic 60, 3) := by decide +kernel
theorem dX2_soothed_42 : decode cX2_soothed 42 = .ok (.invokestatic 66, 3) := by decide +kernel
theorem dX2_soothed_45 : decode cX2_soothed 45 = .ok (.ireturn, 1) := by decide +kernel
theorem dX2_soothing_0 : decode cX2_soothing 0 = .ok (.aload_n 2, 1) := by decide +kernel
theorem dX2_soothing_1 : decode cX2_soothing 1 = .ok (.getfield 42, 3) := by decide +kernel
theorem dX2_soothing_4 : decode cX2_soothing 4 = .ok (.iconst 2, 1) := by decide +kernel
theorem dX2_soothing_5 : decode cX2_soothing 5 = .ok (.irem, 1) := by decide +kernel
theorem dX2_soothing_6 : decode cX2_soothing 6 = .ok (.ifCond .ne 9, 3) := by decide +kernel
theorem dX2_soothing_9 : decode cX2_soothing 9 = .ok (.iload_n 1, 1) := by decide +kernel
theorem dX2_soothing_10 : decode cX2_soothing 10 = .ok (.iconst 3, 1) := by decide +kernel
theorem dX2_soothing_11 : decode cX2_soothing 11 = .ok (.iadd, 1) := by decide +kernel
theorem dX2_soothing_12 : decode cX2_soothing 12 = .ok (.goto 4, 3) := by decide +kernel
theorem dX2_soothing_15 : decode cX2_soothing 15 = .ok (.iload_n 1, 1) := by decide +kernel
theorem dX2_soothing_16 : decode cX2_soothing 16 = .ok (.istore_n 3, 1) := by decide +kernel
theorem dX2_soothing_17 : decode cX2_soothing 17 = .ok (.iload_n 0, 1) := by decide +kernel
theorem dX2_soothing_18 : decode cX2_soothing 18 = .ok (.tableswitch 68 0 5 #[38, 40, 49, 42, 56, 65], 38) := by decide +kernel
theorem dX2_soothing_56 : decode cX2_soothing 56 = .ok (.iload_n 1, 1) := by decide +kernel
theorem dX2_soothing_57 : decode cX2_soothing 57 = .ok (.ireturn, 1) := by decide +kernel
theorem dX2_soothing_58 : decode cX2_soothing 58 = .ok (.iload_n 3, 1) := by decide +kernel
theorem dX2_soothing_59 : decode cX2_soothing 59 = .ok (.ireturn, 1) := by decide +kernel
theorem dX2_soothing_60 : decode cX2_soothing 60 = .ok (.iload_n 3, 1) := by decide +kernel
theorem dX2_soothing_61 : decode cX2_soothing 61 = .ok (.aload_n 2, 1) := by decide +kernel
theorem dX2_soothing_62 : decode cX2_soothing 62 = .ok (.getfield 69, 3) := by decide +kernel
theorem dX2_soothing_65 : decode cX2_soothing 65 = .ok (.iadd, 1) := by decide +kernel
theorem dX2_soothing_66 : decode cX2_soothing 66 = .ok (.ireturn, 1) := by decide +kernel
theorem dX2_soothing_67 : decode cX2_soothing 67 = .ok (.aload_n 2, 1) := by decide +kernel
theorem dX2_soothing_68 : decode cX2_soothing 68 = .ok (.getfield 42, 3) := by decide +kernel
theorem dX2_soothing_71 : decode cX2_soothing 71 = .ok (.iconst 4, 1) := by decide +kernel
theorem dX2_soothing_72 : decode cX2_soothing 72 = .ok (.idiv, 1) := by decide +kernel
theorem dX2_soothing_73 : decode cX2_soothing 73 = .ok (.ireturn, 1) := by decide +kernel
theorem dX2_soothing_74 : decode cX2_soothing 74 = .ok (.aload_n 2, 1) := by decide +kernel
theorem dX2_soothing_75 : decode cX2_soothing 75 = .ok (.getfield 42, 3) := by decide +kernel
theorem dX2_soothing_78 : decode cX2_soothing 78 = .ok (.iconst 4, 1) := by decide +kernel
theorem dX2_soothing_79 : decode cX2_soothing 79 = .ok (.idiv, 1) := by decide +kernel
theorem dX2_soothing_80 : decode cX2_soothing 80 = .ok (.iload_n 1, 1) := by decide +kernel
theorem dX2_soothing_81 : decode cX2_soothing 81 = .ok (.iadd, 1) := by decide +kernel
theorem dX2_soothing_82 : decode cX2_soothing 82 = .ok (.ireturn, 1) := by decide +kernel
theorem dX2_soothing_83 : decode cX2_soothing 83 = .ok (.iload_n 1, 1) := by decide +kernel
theorem dX2_soothing_84 : decode cX2_soothing 84 = .ok (.ineg, 1) := by decide +kernel
theorem dX2_soothing_85 : decode cX2_soothing 85 = .ok (.ireturn, 1) := by decide +kernel
theorem dX2_soothing_86 : decode cX2_soothing 86 = .ok (.iconst 0, 1) := by decide +kernel
theorem dX2_soothing_87 : decode cX2_soothing 87 = .ok (.ireturn, 1) := by decide +kernel
theorem dX3_init_0 : decode cX3_init 0 = .ok (.aload_n 0, 1) := by decide +kernel
theorem dX3_init_1 : decode cX3_init 1 = .ok (.invokespecial 3, 3) := by decide +kernel
theorem dX3_init_4 : decode cX3_init 4 = .ok (.aload_n 0, 1) := by decide +kernel
theorem dX3_init_5 : decode cX3_init 5 = .ok (.iconst 0, 1) := by decide +kernel
theorem dX3_init_6 : decode cX3_init 6 = .ok (.putfield 9, 3) := by decide +kernel
theorem dX3_init_9 : decode cX3_init 9 = .ok (.aload_n 0, 1) := by decide +kernel
theorem dX3_init_10 : decode cX3_init 10 = .ok (.iconst (-1), 1) := by decide +kernel
theorem dX3_init_11 : decode cX3_init 11 = .ok (.putfield 15, 3) := by decide +kernel
theorem dX3_init_14 : decode cX3_init 14 = .ok (.aload_n 0, 1) := by decide +kernel
theorem dX3_init_15 : decode cX3_init 15 = .ok (.iconst (-1), 1) := by decide +kernel
theorem dX3_init_16 : decode cX3_init 16 = .ok (.putfield 18, 3) := by decide +kernel
theorem dX3_init_19 : decode cX3_init 19 = .ok (.return_, 1) := by decide +kernel
theorem dX3_clear_0 : decode cX3_clear 0 = .ok (.aload_n 0, 1) := by decide +kernel
theorem dX3_clear_1 : decode cX3_clear 1 = .ok (.iconst 0, 1) := by decide +kernel
theorem dX3_clear_2 : decode cX3_clear 2 = .ok (.putfield 9, 3) := by decide +kernel
theorem dX3_clear_5 : decode cX3_clear 5 = .ok (.aload_n 0, 1) := by decide +kernel
theorem dX3_clear_6 : decode cX3_clear 6 = .ok (.iconst (-1), 1) := by decide +kernel
theorem dX3_clear_7 : decode cX3_clear 7 = .ok (.putfield 15, 3) := by decide +kernel
theorem dX3_clear_10 : decode cX3_clear 10 = .ok (.aload_n 0, 1) := by decide +kernel
theorem dX3_clear_11 : decode cX3_clear 11 = .ok (.iconst (-1), 1) := by decide +kernel
theorem dX3_clear_12 : decode cX3_clear 12 = .ok (.putfield 18, 3) := by decide +kernel
theorem dX3_clear_15 : decode cX3_clear 15 = .ok (.return_, 1) := by decide +kernel
theorem dX3_add_0 : decode cX3_add 0 = .ok (.aload_n 0, 1) := by decide +kernel
theorem dX3_add_1 : decode cX3_add 1 = .ok (.getfield 9, 3) := by decide +kernel
theorem dX3_add_4 : decode cX3_add 4 = .ok (.ifCond .ne 8, 3) := by decide +kernel
theorem dX3_add_7 : decode cX3_add 7 = .ok (.aload_n 0, 1) := by decide +kernel
theorem dX3_add_8 : decode cX3_add 8 = .ok (.iload_n 1, 1) := by decide +kernel
theorem dX3_add_9 : decode cX3_add 9 = .ok (.putfield 15, 3) := by decide +kernel
theorem dX3_add_12 : decode cX3_add 12 = .ok (.aload_n 0, 1) := by decide +kernel
theorem dX3_add_13 : decode cX3_add 13 = .ok (.iload_n 1, 1) := by decide +kernel
theorem dX3_add_14 : decode cX3_add 14 = .ok (.putfield 18, 3) := by decide +kernel
theorem dX3_add_17 : decode cX3_add 17 = .ok (.aload_n 0, 1) := by decide +kernel
theorem dX3_add_18 : decode cX3_add 18 = .ok (.dup, 1) := by decide +kernel
theorem dX3_add_19 : decode cX3_add 19 = .ok (.getfield 9, 3) := by decide +kernel
theorem dX3_add_22 : decode cX3_add 22 = .ok (.iconst 1, 1) := by decide +kernel
theorem dX3_add_23 : decode cX3_add 23 = .ok (.iadd, 1) := by decide +kernel
theorem dX3_add_24 : decode cX3_add 24 = .ok (.putfield 9, 3) := by decide +kernel
theorem dX3_add_27 : decode cX3_add 27 = .ok (.return_, 1) := by decide +kernel
theorem dX3_told_0 : decode cX3_told 0 = .ok (.iload_n 1, 1) := by decide +kernel
theorem dX3_told_1 : decode cX3_told 1 = .ok (.lookupswitch 37 #[(0, 27), (1, 32)], 27) := by decide +kernel
theorem dX3_told_28 : decode cX3_told 28 = .ok (.aload_n 0, 1) := by decide +kernel
theorem dX3_told_29 : decode cX3_told 29 = .ok (.getfield 9, 3) := by decide +kernel
theorem dX3_told_32 : decode cX3_told 32 = .ok (.ireturn, 1) := by decide +kernel
theorem dX3_told_33 : decode cX3_told 33 = .ok (.aload_n 0, 1) := by decide +kernel
theorem dX3_told_34 : decode cX3_told 34 = .ok (.getfield 15, 3) := by decide +kernel
theorem dX3_told_37 : decode cX3_told 37 = .ok (.ireturn, 1) := by decide +kernel
theorem dX3_told_38 : decode cX3_told 38 = .ok (.aload_n 0, 1) := by decide +kernel
theorem dX3_told_39 : decode cX3_told 39 = .ok (.getfield 18, 3) := by decide +kernel
theorem dX3_told_42 : decode cX3_told 42 = .ok (.ireturn, 1) := by decide +kernel
theorem dX4_init_0 : decode cX4_init 0 = .ok (.aload_n 0, 1) := by decide +kernel
theorem dX4_init_1 : decode cX4_init 1 = .ok (.invokespecial 3, 3) := by decide +kernel
theorem dX4_init_4 : decode cX4_init 4 = .ok (.aload_n 0, 1) := by decide +kernel
theorem dX4_init_5 : decode cX4_init 5 = .ok (.iconst 0, 1) := by decide +kernel
theorem dX4_init_6 : decode cX4_init 6 = .ok (.putfield 9, 3) := by decide +kernel
theorem dX4_init_9 : decode cX4_init 9 = .ok (.aload_n 0, 1) := by decide +kernel
theorem dX4_init_10 : decode cX4_init 10 = .ok (.sipush 250, 3) := by decide +kernel
theorem dX4_init_13 : decode cX4_init 13 = .ok (.newarray .int, 2) := by decide +kernel
theorem dX4_init_15 : decode cX4_init 15 = .ok (.putfield 15, 3) := by decide +kernel
theorem dX4_init_18 : decode cX4_init 18 = .ok (.aload_n 0, 1) := by decide +kernel
theorem dX4_init_19 : decode cX4_init 19 = .ok (.iconst 0, 1) := by decide +kernel
theorem dX4_init_20 : decode cX4_init 20 = .ok (.putfield 19, 3) := by decide +kernel
theorem dX4_init_23 : decode cX4_init 23 = .ok (.aload_n 0, 1) := by decide +kernel
theorem dX4_init_24 : decode cX4_init 24 = .ok (.iconst 0, 1) := by decide +kernel
theorem dX4_init_25 : decode cX4_init 25 = .ok (.putfield 22, 3) := by decide +kernel
theorem dX4_init_28 : decode cX4_init 28 = .ok (.aload_n 0, 1) := by decide +kernel
theorem dX4_init_29 : decode cX4_init 29 = .ok (.iconst 0, 1) := by decide +kernel
theorem dX4_init_30 : decode cX4_init 30 = .ok (.putfield 25, 3) := by decide +kernel
theorem dX4_init_33 : decode cX4_init 33 = .ok (.aload_n 0, 1) := by decide +kernel
theorem dX4_init_34 : decode cX4_init 34 = .ok (.iconst 0, 1) := by decide +kernel
theorem dX4_init_35 : decode cX4_init 35 = .ok (.putfield 28, 3) := by decide +kernel
theorem dX4_init_38 : decode cX4_init 38 = .ok (.return_, 1) := by decide +kernel
theorem dX4_isFull_0 : decode cX4_isFull 0 = .ok (.aload_n 0, 1) := by decide +kernel
theorem dX4_isFull_1 : decode cX4_isFull 1 = .ok (.getfield 9, 3) := by decide +kernel
theorem dX4_isFull_4 : decode cX4_isFull 4 = .ok (.sipush 250, 3) := by decide +kernel
theorem dX4_isFull_7 : decode cX4_isFull 7 = .ok (.if_icmp .lt 7, 3) := by decide +kernel
theorem dX4_isFull_10 : decode cX4_isFull 10 = .ok (.iconst 1, 1) := by decide +kernel
theorem dX4_isFull_11 : decode cX4_isFull 11 = .ok (.goto 4, 3) := by decide +kernel
theorem dX4_isFull_14 : decode cX4_isFull 14 = .ok (.iconst 0, 1) := by decide +kernel
theorem dX4_isFull_15 : decode cX4_isFull 15 = .ok (.ireturn, 1) := by decide +kernel
theorem dX4_add_0 : decode cX4_add 0 = .ok (.aload_n 0, 1) := by decide +kernel
theorem dX4_add_1 : decode cX4_add 1 = .ok (.getfield 9, 3) := by decide +kernel
theorem dX4_add_4 : decode cX4_add 4 = .ok (.ifCond .lt 33, 3) := by decide +kernel
theorem dX4_add_7 : decode cX4_add 7 = .ok (.aload_n 0, 1) := by decide +kernel
theorem dX4_add_8 : decode cX4_add 8 = .ok (.getfield 9, 3) := by decide +kernel
theorem dX4_add_11 : decode cX4_add 11 = .ok (.sipush 250, 3) := by decide +kernel
theorem dX4_add_14 : decode cX4_add 14 = .ok (.if_icmp .ge 23, 3) := by decide +kernel
theorem dX4_add_17 : decode cX4_add 17 = .ok (.aload_n 0, 1) := by decide +kernel
theorem dX4_add_18 : decode cX4_add 18 = .ok (.getfield 15, 3) := by decide +kernel
theorem dX4_add_21 : decode cX4_add 21 = .ok (.aload_n 0, 1) := by decide +kernel
theorem dX4_add_22 : decode cX4_add 22 = .ok (.getfield 9, 3) := by decide +kernel
theorem dX4_add_25 : decode cX4_add 25 = .ok (.iload_n 1, 1) := by decide +kernel
theorem dX4_add_26 : decode cX4_add 26 = .ok (.iastore, 1) := by decide +kernel
theorem dX4_add_27 : decode cX4_add 27 = .ok (.aload_n 0, 1) := by decide +kernel
theorem dX4_add_28 : decode cX4_add 28 = .ok (.dup, 1) := by decide +kernel
theorem dX4_add_29 : decode cX4_add 29 = .ok (.getfield 9, 3) := by decide +kernel
theorem dX4_add_32 : decode cX4_add 32 = .ok (.iconst 1, 1) := by decide +kernel
theorem dX4_add_33 : decode cX4_add 33 = .ok (.iadd, 1) := by decide +kernel
theorem dX4_add_34 : decode cX4_add 34 = .ok (.putfield 9, 3) := by decide +kernel
theorem dX4_add_37 : decode cX4_add 37 = .ok (.aload_n 0, 1) := by decide +kernel
theorem dX4_add_38 : decode cX4_add 38 = .ok (.getfield 9, 3) := by decide +kernel
theorem dX4_add_41 : decode cX4_add 41 = .ok (.ireturn, 1) := by decide +kernel
theorem dX4_clear_0 : decode cX4_clear 0 = .ok (.aload_n 0, 1) := by decide +kernel
theorem dX4_clear_1 : decode cX4_clear 1 = .ok (.getfield 9, 3) := by decide +kernel
theorem dX4_clear_4 : decode cX4_clear 4 = .ok (.istore_n 1, 1) := by decide +kernel
theorem dX4_clear_5 : decode cX4_clear 5 = .ok (.aload_n 0, 1) := by decide +kernel
theorem dX4_clear_6 : decode cX4_clear 6 = .ok (.iconst 0, 1) := by decide +kernel
theorem dX4_clear_7 : decode cX4_clear 7 = .ok (.putfield 9, 3) := by decide +kernel
theorem dX4_clear_10 : decode cX4_clear 10 = .ok (.iload_n 1, 1) := by decide +kernel
theorem dX4_clear_11 : decode cX4_clear 11 = .ok (.ireturn, 1) := by decide +kernel
theorem dX4_read_0 : decode cX4_read 0 = .ok (.aload_n 0, 1) := by decide +kernel
theorem dX4_read_1 : decode cX4_read 1 = .ok (.iconst 0, 1) := by decide +kernel
theorem dX4_read_2 : decode cX4_read 2 = .ok (.putfield 25, 3) := by decide +kernel
theorem dX4_read_5 : decode cX4_read 5 = .ok (.iconst 1, 1) := by decide +kernel
theorem dX4_read_6 : decode cX4_read 6 = .ok (.istore_n 3, 1) := by decide +kernel
theorem dX4_read_7 : decode cX4_read 7 = .ok (.iload_n 3, 1) := by decide +kernel
theorem dX4_read_8 : decode cX4_read 8 = .ok (.sipush 250, 3) := by decide +kernel
theorem dX4_read_11 : decode cX4_read 11 = .ok (.if_icmp .gt 59, 3) := by decide +kernel
theorem dX4_read_14 : decode cX4_read 14 = .ok (.aload_n 0, 1) := by decide +kernel
theorem dX4_read_15 : decode cX4_read 15 = .ok (.invokevirtual 31, 3) := by decide +kernel
theorem dX4_read_18 : decode cX4_read 18 = .ok (.aload_n 0, 1) := by decide +kernel
theorem dX4_read_19 : decode cX4_read 19 = .ok (.aload_n 1, 1) := by decide +kernel
theorem dX4_read_20 : decode cX4_read 20 = .ok (.aload_n 2, 1) := by decide +kernel
theorem dX4_read_21 : decode cX4_read 21 = .ok (.invokevirtual 34, 3) := by decide +kernel
theorem dX4_read_24 : decode cX4_read 24 = .ok (.ifCond .ne 11, 3) := by decide +kernel
theorem dX4_read_27 : decode cX4_read 27 = .ok (.bipush (-20), 2) := by decide +kernel
theorem dX4_read_29 : decode cX4_read 29 = .ok (.aload_n 0, 1) := by decide +kernel
theorem dX4_read_30 : decode cX4_read 30 = .ok (.getfield 22, 3) := by decide +kernel
theorem dX4_read_33 : decode cX4_read 33 = .ok (.isub, 1) := by decide +kernel
theorem dX4_read_34 : decode cX4_read 34 = .ok (.ireturn, 1) := by decide +kernel
theorem dX4_read_35 : decode cX4_read 35 = .ok (.aload_n 0, 1) := by decide +kernel
theorem dX4_read_36 : decode cX4_read 36 = .ok (.invokevirtual 31, 3) := by decide +kernel
theorem dX4_read_39 : decode cX4_read 39 = .ok (.aload_n 0, 1) := by decide +kernel
theorem dX4_read_40 : decode cX4_read 40 = .ok (.getfield 19, 3) := by decide +kernel
theorem dX4_read_43 : decode cX4_read 43 = .ok (.ifCond .ne 5, 3) := by decide +kernel
theorem dX4_read_46 : decode cX4_read 46 = .ok (.iload_n 3, 1) := by decide +kernel
theorem dX4_read_47 : decode cX4_read 47 = .ok (.ireturn, 1) := by decide +kernel
theorem dX4_read_48 : decode cX4_read 48 = .ok (.aload_n 0, 1) := by decide +kernel
theorem dX4_read_49 : decode cX4_read 49 = .ok (.getfield 19, 3) := by decide +kernel
theorem dX4_read_52 : decode cX4_read 52 = .ok (.iconst 3, 1) := by decide +kernel
theorem dX4_read_53 : decode cX4_read 53 = .ok (.if_icmp .eq 11, 3) := by decide +kernel
theorem dX4_read_56 : decode cX4_read 56 = .ok (.bipush (-20), 2) := by decide +kernel
theorem dX4_read_58 : decode cX4_read 58 = .ok (.aload_n 0, 1) := by decide +kernel
theorem dX4_read_59 : decode cX4_read 59 = .ok (.getfield 22, 3) := by decide +kernel
theorem dX4_read_62 : decode cX4_read 62 = .ok (.isub, 1) := by decide +kernel
theorem dX4_read_63 : decode cX4_read 63 = .ok (.ireturn, 1) := by decide +kernel
theorem dX4_read_64 : decode cX4_read 64 = .ok (.iinc 3 1, 3) := by decide +kernel
theorem dX4_read_67 : decode cX4_read 67 = .ok (.goto (-60), 3) := by decide +kernel
theorem dX4_read_70 : decode cX4_read 70 = .ok (.bipush (-20), 2) := by decide +kernel
theorem dX4_read_72 : decode cX4_read 72 = .ok (.aload_n 0, 1) := by decide +kernel
theorem dX4_read_73 : decode cX4_read 73 = .ok (.getfield 22, 3) := by decide +kernel
theorem dX4_read_76 : decode cX4_read 76 = .ok (.isub, 1) := by decide +kernel
theorem dX4_read_77 : decode cX4_read 77 = .ok (.ireturn, 1) := by decide +kernel
theorem dX4_readStatement_0 : decode cX4_readStatement 0 = .ok (.aload_n 0, 1) := by decide +kernel
theorem dX4_readStatement_1 : decode cX4_readStatement 1 = .ok (.getfield 19, 3) := by decide +kernel
theorem dX4_readStatement_4 : decode cX4_readStatement 4 = .ok (.iconst 1, 1) := by decide +kernel
theorem dX4_readStatement_5 : decode cX4_readStatement 5 = .ok (.if_icmp .eq 5, 3) := by decide +kernel
theorem dX4_readStatement_8 : decode cX4_readStatement 8 = .ok (.iconst 0, 1) := by decide +kernel
theorem dX4_readStatement_9 : decode cX4_readStatement 9 = .ok (.ireturn, 1) := by decide +kernel
theorem dX4_readStatement_10 : decode cX4_readStatement 10 = .ok (.aload_n 0, 1) := by decide +kernel
theorem dX4_readStatement_11 : decode cX4_readStatement 11 = .ok (.ldc 38, 2) := by decide +kernel
theorem dX4_readStatement_13 : decode cX4_readStatement 13 = .ok (.invokevirtual 40, 3) := by decide +kernel
theorem dX4_readStatement_16 : decode cX4_readStatement 16 = .ok (.ifCond .eq 9, 3) := by decide +kernel
theorem dX4_readStatement_19 : decode cX4_readStatement 19 = .ok (.aload_n 0, 1) := by decide +kernel
theorem dX4_readStatement_20 : decode cX4_readStatement 20 = .ok (.aload_n 2, 1) := by decide +kernel
theorem dX4_readStatement_21 : decode cX4_readStatement 21 = .ok (.invokevirtual 44, 3) := by decide +kernel
theorem dX4_readStatement_24 : decode cX4_readStatement 24 = .ok (.ireturn, 1) := by decide +kernel
theorem dX4_readStatement_25 : decode cX4_readStatement 25 = .ok (.aload_n 0, 1) := by decide +kernel
theorem dX4_readStatement_26 : decode cX4_readStatement 26 = .ok (.ldc 48, 2) := by decide +kernel
theorem dX4_readStatement_28 : decode cX4_readStatement 28 = .ok (.invokevirtual 40, 3) := by decide +kernel
theorem dX4_readStatement_31 : decode cX4_readStatement 31 = .ok (.ifCond .eq 9, 3) := by decide +kernel
theorem dX4_readStatement_34 : decode cX4_readStatement 34 = .ok (.aload_n 0, 1) := by decide +kernel
theorem dX4_readStatement_35 : decode cX4_readStatement 35 = .ok (.aload_n 2, 1) := by decide +kernel
theorem dX4_readStatement_36 : decode cX4_readStatement 36 = .ok (.invokevirtual 50, 3) := by decide +kernel
theorem dX4_readStatement_39 : decode cX4_readStatement 39 = .ok (.ireturn, 1) := by decide +kernel
theorem dX4_readStatement_40 : decode cX4_readStatement 40 = .ok (.aload_n 0, 1) := by decide +kernel
theorem dX4_readStatement_41 : decode cX4_readStatement 41 = .ok (.aload_n 1, 1) := by decide +kernel
theorem dX4_readStatement_42 : decode cX4_readStatement 42 = .ok (.aload_n 0, 1) := by decide +kernel
theorem dX4_readStatement_43 : decode cX4_readStatement 43 = .ok (.invokevirtual 53, 3) := by decide +kernel
theorem dX4_readStatement_46 : decode cX4_readStatement 46 = .ok (.invokevirtual 57, 3) := by decide +kernel
theorem dX4_readStatement_49 : decode cX4_readStatement 49 = .ok (.ireturn, 1) := by decide +kernel
theorem dX4_readKeeper_0 : decode cX4_readKeeper 0 = .ok (.aload_n 1, 1) := by decide +kernel
theorem dX4_readKeeper_1 : decode cX4_readKeeper 1 = .ok (.invokevirtual 61, 3) := by decide +kernel
theorem dX4_readKeeper_4 : decode cX4_readKeeper 4 = .ok (.ifCond .ne 12, 3) := by decide +kernel
theorem dX4_readKeeper_7 : decode cX4_readKeeper 7 = .ok (.aload_n 0, 1) := by decide +kernel
theorem dX4_readKeeper_8 : decode cX4_readKeeper 8 = .ok (.iconst 0, 1) := by decide +kernel
theorem dX4_readKeeper_9 : decode cX4_readKeeper 9 = .ok (.iconst 5, 1) := by decide +kernel
theorem dX4_readKeeper_10 : decode cX4_readKeeper 10 = .ok (.invokevirtual 67, 3) := by decide +kernel
theorem dX4_readKeeper_13 : decode cX4_readKeeper 13 = .ok (.ifCond .ne 5, 3) := by decide +kernel
theorem dX4_readKeeper_16 : decode cX4_readKeeper 16 = .ok (.iconst 0, 1) := by decide +kernel
theorem dX4_readKeeper_17 : decode cX4_readKeeper 17 = .ok (.ireturn, 1) := by decide +kernel
theorem dX4_readKeeper_18 : decode cX4_readKeeper 18 = .ok (.aload_n 0, 1) := by decide +kernel
theorem dX4_readKeeper_19 : decode cX4_readKeeper 19 = .ok (.getfield 28, 3) := by decide +kernel
theorem dX4_readKeeper_22 : decode cX4_readKeeper 22 = .ok (.istore_n 2, 1) := by decide +kernel
theorem dX4_readKeeper_23 : decode cX4_readKeeper 23 = .ok (.aload_n 0, 1) := by decide +kernel
theorem dX4_readKeeper_24 : decode cX4_readKeeper 24 = .ok (.iconst 0, 1) := by decide +kernel
theorem dX4_readKeeper_25 : decode cX4_readKeeper 25 = .ok (.bipush 9, 2) := by decide +kernel
theorem dX4_readKeeper_27 : decode cX4_readKeeper 27 = .ok (.invokevirtual 67, 3) := by decide +kernel
theorem dX4_readKeeper_30 : decode cX4_readKeeper 30 = .ok (.ifCond .ne 5, 3) := by decide +kernel
theorem dX4_readKeeper_33 : decode cX4_readKeeper 33 = .ok (.iconst 0, 1) := by decide +kernel
theorem dX4_readKeeper_34 : decode cX4_readKeeper 34 = .ok (.ireturn, 1) := by decide +kernel
theorem dX4_readKeeper_35 : decode cX4_readKeeper 35 = .ok (.aload_n 0, 1) := by decide +kernel
theorem dX4_readKeeper_36 : decode cX4_readKeeper 36 = .ok (.getfield 28, 3) := by decide +kernel
theorem dX4_readKeeper_39 : decode cX4_readKeeper 39 = .ok (.istore_n 3, 1) := by decide +kernel
theorem dX4_readKeeper_40 : decode cX4_readKeeper 40 = .ok (.aload_n 0, 1) := by decide +kernel
theorem dX4_readKeeper_41 : decode cX4_readKeeper 41 = .ok (.iconst 0, 1) := by decide +kernel
theorem dX4_readKeeper_42 : decode cX4_readKeeper 42 = .ok (.bipush 40, 2) := by decide +kernel
theorem dX4_readKeeper_44 : decode cX4_readKeeper 44 = .ok (.invokevirtual 67, 3) := by decide +kernel
theorem dX4_readKeeper_47 : decode cX4_readKeeper 47 = .ok (.ifCond .ne 5, 3) := by decide +kernel
theorem dX4_readKeeper_50 : decode cX4_readKeeper 50 = .ok (.iconst 0, 1) := by decide +kernel
theorem dX4_readKeeper_51 : decode cX4_readKeeper 51 = .ok (.ireturn, 1) := by decide +kernel
theorem dX4_readKeeper_52 : decode cX4_readKeeper 52 = .ok (.aload_n 1, 1) := by decide +kernel
theorem dX4_readKeeper_53 : decode cX4_readKeeper 53 = .ok (.iload_n 2, 1) := by decide +kernel
theorem dX4_readKeeper_54 : decode cX4_readKeeper 54 = .ok (.iload_n 3, 1) := by decide +kernel
theorem dX4_readKeeper_55 : decode cX4_readKeeper 55 = .ok (.aload_n 0, 1) := by decide +kernel
theorem dX4_readKeeper_56 : decode cX4_readKeeper 56 = .ok (.getfield 28, 3) := by decide +kernel
theorem dX4_readKeeper_59 : decode cX4_readKeeper 59 = .ok (.invokevirtual 71, 3) := by decide +kernel
theorem dX4_readKeeper_62 : decode cX4_readKeeper 62 = .ok (.pop, 1) := by decide +kernel
theorem dX4_readKeeper_63 : decode cX4_readKeeper 63 = .ok (.iconst 1, 1) := by decide +kernel
theorem dX4_readKeeper_64 : decode cX4_readKeeper 64 = .ok (.ireturn, 1) := by decide +kernel
theorem dX4_readNerve_0 : decode cX4_readNerve 0 = .ok (.aload_n 0, 1) := by decide +kernel
theorem dX4_readNerve_1 : decode cX4_readNerve 1 = .ok (.iconst 0, 1) := by decide +kernel
theorem dX4_readNerve_2 : decode cX4_readNerve 2 = .ok (.aload_n 1, 1) := by decide +kernel
theorem dX4_readNerve_3 : decode cX4_readNerve 3 = .ok (.getfield 75, 3) := by decide +kernel
theorem dX4_readNerve_6 : decode cX4_readNerve 6 = .ok (.iconst 1, 1) := by decide +kernel
theorem dX4_readNerve_7 : decode cX4_readNerve 7 = .ok (.isub, 1) := by decide +kernel
theorem dX4_readNerve_8 : decode cX4_readNerve 8 = .ok (.invokevirtual 67, 3) := by decide +kernel
theorem dX4_readNerve_11 : decode cX4_readNerve 11 = .ok (.ifCond .ne 5, 3) := by decide +kernel
theorem dX4_readNerve_14 : decode cX4_readNerve 14 = .ok (.iconst 0, 1) := by decide +kernel
theorem dX4_readNerve_15 : decode cX4_readNerve 15 = .ok (.ireturn, 1) := by decide +kernel
theorem dX4_readNerve_16 : decode cX4_readNerve 16 = .ok (.aload_n 0, 1) := by decide +kernel
theorem dX4_readNerve_17 : decode cX4_readNerve 17 = .ok (.getfield 28, 3) := by decide +kernel
theorem dX4_readNerve_20 : decode cX4_readNerve 20 = .ok (.istore_n 2, 1) := by decide +kernel
theorem dX4_readNerve_21 : decode cX4_readNerve 21 = .ok (.aload_n 0, 1) := by decide +kernel
theorem dX4_readNerve_22 : decode cX4_readNerve 22 = .ok (.iconst 0, 1) := by decide +kernel
theorem dX4_readNerve_23 : decode cX4_readNerve 23 = .ok (.bipush 40, 2) := by decide +kernel
theorem dX4_readNerve_25 : decode cX4_readNerve 25 = .ok (.invokevirtual 67, 3) := by decide +kernel
theorem dX4_readNerve_28 : decode cX4_readNerve 28 = .ok (.ifCond .ne 5, 3) := by decide +kernel
theorem dX4_readNerve_31 : decode cX4_readNerve 31 = .ok (.iconst 0, 1) := by decide +kernel
theorem dX4_readNerve_32 : decode cX4_readNerve 32 = .ok (.ireturn, 1) := by decide +kernel
theorem dX4_readNerve_33 : decode cX4_readNerve 33 = .ok (.aload_n 1, 1) := by decide +kernel
theorem dX4_readNerve_34 : decode cX4_readNerve 34 = .ok (.iload_n 2, 1) := by decide +kernel
theorem dX4_readNerve_35 : decode cX4_readNerve 35 = .ok (.aload_n 0, 1) := by decide +kernel
theorem dX4_readNerve_36 : decode cX4_readNerve 36 = .ok (.getfield 28, 3) := by decide +kernel
theorem dX4_readNerve_39 : decode cX4_readNerve 39 = .ok (.invokevirtual 78, 3) := by decide +kernel
theorem dX4_readNerve_42 : decode cX4_readNerve 42 = .ok (.iconst 1, 1) := by decide +kernel
theorem dX4_readNerve_43 : decode cX4_readNerve 43 = .ok (.ireturn, 1) := by decide +kernel
theorem dX4_readMeasure_0 : decode cX4_readMeasure 0 = .ok (.iload_n 2, 1) := by decide +kernel
theorem dX4_readMeasure_1 : decode cX4_readMeasure 1 = .ok (.iconst 0, 1) := by decide +kernel
theorem dX4_readMeasure_2 : decode cX4_readMeasure 2 = .ok (.iconst 4, 1) := by decide +kernel
theorem dX4_readMeasure_3 : decode cX4_readMeasure 3 = .ok (.invokestatic 82, 3) := by decide +kernel
theorem dX4_readMeasure_6 : decode cX4_readMeasure 6 = .ok (.ifCond .ne 5, 3) := by decide +kernel
theorem dX4_readMeasure_9 : decode cX4_readMeasure 9 = .ok (.iconst 0, 1) := by decide +kernel
theorem dX4_readMeasure_10 : decode cX4_readMeasure 10 = .ok (.ireturn, 1) := by decide +kernel
theorem dX4_readMeasure_11 : decode cX4_readMeasure 11 = .ok (.iload_n 2, 1) := by decide +kernel
theorem dX4_readMeasure_12 : decode cX4_readMeasure 12 = .ok (.iconst 4, 1) := by decide +kernel
theorem dX4_readMeasure_13 : decode cX4_readMeasure 13 = .ok (.if_icmp .ne 9, 3) := by decide +kernel
theorem dX4_readMeasure_16 : decode cX4_readMeasure 16 = .ok (.sipush 999, 3) := by decide +kernel
theorem dX4_readMeasure_19 : decode cX4_readMeasure 19 = .ok (.goto 8, 3) := by decide +kernel
theorem dX4_readMeasure_22 : decode cX4_readMeasure 22 = .ok (.getstatic 86, 3) := by decide +kernel
theorem dX4_readMeasure_25 : decode cX4_readMeasure 25 = .ok (.iload_n 2, 1) := by decide +kernel
theorem dX4_readMeasure_26 : decode cX4_readMeasure 26 = .ok (.iaload, 1) := by decide +kernel
theorem dX4_readMeasure_27 : decode cX4_readMeasure 27 = .ok (.istore_n 3, 1) := by decide +kernel
theorem dX4_readMeasure_28 : decode cX4_readMeasure 28 = .ok (.aload_n 0, 1) := by decide +kernel
theorem dX4_readMeasure_29 : decode cX4_readMeasure 29 = .ok (.getstatic 89, 3) := by decide +kernel
theorem dX4_readMeasure_32 : decode cX4_readMeasure 32 = .ok (.iload_n 2, 1) := by decide +kernel
theorem dX4_readMeasure_33 : decode cX4_readMeasure 33 = .ok (.iaload, 1) := by decide +kernel
theorem dX4_readMeasure_34 : decode cX4_readMeasure 34 = .ok (.iload_n 3, 1) := by decide +kernel
theorem dX4_readMeasure_35 : decode cX4_readMeasure 35 = .ok (.invokevirtual 67, 3) := by decide +kernel
theorem dX4_readMeasure_38 : decode cX4_readMeasure 38 = .ok (.ifCond .ne 5, 3) := by decide +kernel
theorem dX4_readMeasure_41 : decode cX4_readMeasure 41 = .ok (.iconst 0, 1) := by decide +kernel
theorem dX4_readMeasure_42 : decode cX4_readMeasure 42 = .ok (.ireturn, 1) := by decide +kernel
theorem dX4_readMeasure_43 : decode cX4_readMeasure 43 = .ok (.aload_n 1, 1) := by decide +kernel
theorem dX4_readMeasure_44 : decode cX4_readMeasure 44 = .ok (.iload_n 2, 1) := by decide +kernel
theorem dX4_readMeasure_45 : decode cX4_readMeasure 45 = .ok (.aload_n 0, 1) := by decide +kernel
theorem dX4_readMeasure_46 : decode cX4_readMeasure 46 = .ok (.getfield 28, 3) := by decide +kernel
theorem dX4_readMeasure_49 : decode cX4_readMeasure 49 = .ok (.invokevirtual 92, 3) := by decide +kernel
theorem dX4_readMeasure_52 : decode cX4_readMeasure 52 = .ok (.iconst 1, 1) := by decide +kernel
theorem dX4_readMeasure_53 : decode cX4_readMeasure 53 = .ok (.ireturn, 1) := by decide +kernel
theorem dX4_spelledMeasure_0 : decode cX4_spelledMeasure 0 = .ok (.aload_n 0, 1) := by decide +kernel
theorem dX4_spelledMeasure_1 : decode cX4_spelledMeasure 1 = .ok (.ldc 97, 2) := by decide +kernel
theorem dX4_spelledMeasure_3 : decode cX4_spelledMeasure 3 = .ok (.invokevirtual 40, 3) := by decide +kernel
theorem dX4_spelledMeasure_6 : decode cX4_spelledMeasure 6 = .ok (.ifCond .eq 5, 3) := by decide +kernel
theorem dX4_spelledMeasure_9 : decode cX4_spelledMeasure 9 = .ok (.iconst 0, 1) := by decide +kernel
theorem dX4_spelledMeasure_10 : decode cX4_spelledMeasure 10 = .ok (.ireturn, 1) := by decide +kernel
theorem dX4_spelledMeasure_11 : decode cX4_spelledMeasure 11 = .ok (.aload_n 0, 1) := by decide +kernel
theorem dX4_spelledMeasure_12 : decode cX4_spelledMeasure 12 = .ok (.ldc 99, 2) := by decide +kernel
theorem dX4_spelledMeasure_14 : decode cX4_spelledMeasure 14 = .ok (.invokevirtual 40, 3) := by decide +kernel
theorem dX4_spelledMeasure_17 : decode cX4_spelledMeasure 17 = .ok (.ifCond .eq 5, 3) := by decide +kernel
theorem dX4_spelledMeasure_20 : decode cX4_spelledMeasure 20 = .ok (.iconst 1, 1) := by decide +kernel
theorem dX4_spelledMeasure_21 : decode cX4_spelledMeasure 21 = .ok (.ireturn, 1) := by decide +kernel
theorem dX4_spelledMeasure_22 : decode cX4_spelledMeasure 22 = .ok (.aload_n 0, 1) := by decide +kernel
theorem dX4_spelledMeasure_23 : decode cX4_spelledMeasure 23 = .ok (.ldc 101, 2) := by decide +kernel
theorem dX4_spelledMeasure_25 : decode cX4_spelledMeasure 25 = .ok (.invokevirtual 40, 3) := by decide +kernel
theorem dX4_spelledMeasure_28 : decode cX4_spelledMeasure 28 = .ok (.ifCond .eq 5, 3) := by decide +kernel
theorem dX4_spelledMeasure_31 : decode cX4_spelledMeasure 31 = .ok (.iconst 2, 1) := by decide +kernel
theorem dX4_spelledMeasure_32 : decode cX4_spelledMeasure 32 = .ok (.ireturn, 1) := by decide +kernel
theorem dX4_spelledMeasure_33 : decode cX4_spelledMeasure 33 = .ok (.aload_n 0, 1) := by decide +kernel
theorem dX4_spelledMeasure_34 : decode cX4_spelledMeasure 34 = .ok (.ldc 103, 2) := by decide +kernel
theorem dX4_spelledMeasure_36 : decode cX4_spelledMeasure 36 = .ok (.invokevirtual 40, 3) := by decide +kernel
theorem dX4_spelledMeasure_39 : decode cX4_spelledMeasure 39 = .ok (.ifCond .eq 5, 3) := by decide +kernel
theorem dX4_spelledMeasure_42 : decode cX4_spelledMeasure 42 = .ok (.iconst 3, 1) := by decide +kernel
theorem dX4_spelledMeasure_43 : decode cX4_spelledMeasure 43 = .ok (.ireturn, 1) := by decide +kernel
theorem dX4_spelledMeasure_44 : decode cX4_spelledMeasure 44 = .ok (.aload_n 0, 1) := by decide +kernel
theorem dX4_spelledMeasure_45 : decode cX4_spelledMeasure 45 = .ok (.ldc 105, 2) := by decide +kernel
theorem dX4_spelledMeasure_47 : decode cX4_spelledMeasure 47 = .ok (.invokevirtual 40, 3) := by decide +kernel
theorem dX4_spelledMeasure_50 : decode cX4_spelledMeasure 50 = .ok (.ifCond .eq 7, 3) := by decide +kernel
theorem dX4_spelledMeasure_53 : decode cX4_spelledMeasure 53 = .ok (.iconst 4, 1) := by decide +kernel
theorem dX4_spelledMeasure_54 : decode cX4_spelledMeasure 54 = .ok (.goto 4, 3) := by decide +kernel
theorem dX4_spelledMeasure_57 : decode cX4_spelledMeasure 57 = .ok (.iconst (-1), 1) := by decide +kernel
theorem dX4_spelledMeasure_58 : decode cX4_spelledMeasure 58 = .ok (.ireturn, 1) := by decide +kernel
theorem dX4_spells_0 : decode cX4_spells 0 = .ok (.aload_n 0, 1) := by decide +kernel
theorem dX4_spells_1 : decode cX4_spells 1 = .ok (.getfield 25, 3) := by decide +kernel
theorem dX4_spells_4 : decode cX4_spells 4 = .ok (.aload_n 0, 1) := by decide +kernel
theorem dX4_spells_5 : decode cX4_spells 5 = .ok (.getfield 22, 3) := by decide +kernel
theorem dX4_spells_8 : decode cX4_spells 8 = .ok (.isub, 1) := by decide +kernel
theorem dX4_spells_9 : decode cX4_spells 9 = .ok (.aload_n 1, 1) := by decide +kernel
theorem dX4_spells_10 : decode cX4_spells 10 = .ok (.invokevirtual 107, 3) := by decide +kernel
theorem dX4_spells_13 : decode cX4_spells 13 = .ok (.if_icmp .eq 5, 3) := by decide +kernel
theorem dX4_spells_16 : decode cX4_spells 16 = .ok (.iconst 0, 1) := by decide +kernel
theorem dX4_spells_17 : decode cX4_spells 17 = .ok (.ireturn, 1) := by decide +kernel
theorem dX4_spells_18 : decode cX4_spells 18 = .ok (.iconst 0, 1) := by decide +kernel
theorem dX4_spells_19 : decode cX4_spells 19 = .ok (.istore_n 2, 1) := by decide +kernel
theorem dX4_spells_20 : decode cX4_spells 20 = .ok (.iload_n 2, 1) := by decide +kernel
theorem dX4_spells_21 : decode cX4_spells 21 = .ok (.aload_n 1, 1) := by decide +kernel
theorem dX4_spells_22 : decode cX4_spells 22 = .ok (.invokevirtual 107, 3) := by decide +kernel
theorem dX4_spells_25 : decode cX4_spells 25 = .ok (.if_icmp .ge 29, 3) := by decide +kernel
theorem dX4_spells_28 : decode cX4_spells 28 = .ok (.aload_n 0, 1) := by decide +kernel
theorem dX4_spells_29 : decode cX4_spells 29 = .ok (.aload_n 0, 1) := by decide +kernel
theorem dX4_spells_30 : decode cX4_spells 30 = .ok (.getfield 22, 3) := by decide +kernel
theorem dX4_spells_33 : decode cX4_spells 33 = .ok (.iload_n 2, 1) := by decide +kernel
theorem dX4_spells_34 : decode cX4_spells 34 = .ok (.iadd, 1) := by decide +kernel
theorem dX4_spells_35 : decode cX4_spells 35 = .ok (.invokevirtual 112, 3) := by decide +kernel
theorem dX4_spells_38 : decode cX4_spells 38 = .ok (.aload_n 1, 1) := by decide +kernel
theorem dX4_spells_39 : decode cX4_spells 39 = .ok (.iload_n 2, 1) := by decide +kernel
theorem dX4_spells_40 : decode cX4_spells 40 = .ok (.invokevirtual 116, 3) := by decide +kernel
theorem dX4_spells_43 : decode cX4_spells 43 = .ok (.if_icmp .eq 5, 3) := by decide +kernel
theorem dX4_spells_46 : decode cX4_spells 46 = .ok (.iconst 0, 1) := by decide +kernel
theorem dX4_spells_47 : decode cX4_spells 47 = .ok (.ireturn, 1) := by decide +kernel
theorem dX4_spells_48 : decode cX4_spells 48 = .ok (.iinc 2 1, 3) := by decide +kernel
theorem dX4_spells_51 : decode cX4_spells 51 = .ok (.goto (-31), 3) := by decide +kernel
theorem dX4_spells_54 : decode cX4_spells 54 = .ok (.iconst 1, 1) := by decide +kernel
theorem dX4_spells_55 : decode cX4_spells 55 = .ok (.ireturn, 1) := by decide +kernel
theorem dX4_readNumber_0 : decode cX4_readNumber 0 = .ok (.aload_n 0, 1) := by decide +kernel
theorem dX4_readNumber_1 : decode cX4_readNumber 1 = .ok (.invokevirtual 31, 3) := by decide +kernel
theorem dX4_readNumber_4 : decode cX4_readNumber 4 = .ok (.aload_n 0, 1) := by decide +kernel
theorem dX4_readNumber_5 : decode cX4_readNumber 5 = .ok (.getfield 19, 3) := by decide +kernel
theorem dX4_readNumber_8 : decode cX4_readNumber 8 = .ok (.iconst 2, 1) := by decide +kernel
theorem dX4_readNumber_9 : decode cX4_readNumber 9 = .ok (.if_icmp .ne 16, 3) := by decide +kernel
theorem dX4_readNumber_12 : decode cX4_readNumber 12 = .ok (.aload_n 0, 1) := by decide +kernel
theorem dX4_readNumber_13 : decode cX4_readNumber 13 = .ok (.getfield 25, 3) := by decide +kernel
theorem dX4_readNumber_16 : decode cX4_readNumber 16 = .ok (.aload_n 0, 1) := by decide +kernel
theorem dX4_readNumber_17 : decode cX4_readNumber 17 = .ok (.getfield 22, 3) := by decide +kernel
theorem dX4_readNumber_20 : decode cX4_readNumber 20 = .ok (.isub, 1) := by decide +kernel
theorem dX4_readNumber_21 : decode cX4_readNumber 21 = .ok (.iconst 3, 1) := by decide +kernel
theorem dX4_readNumber_22 : decode cX4_readNumber 22 = .ok (.if_icmp .le 5, 3) := by decide +kernel
theorem dX4_readNumber_25 : decode cX4_readNumber 25 = .ok (.iconst 0, 1) := by decide +kernel
theorem dX4_readNumber_26 : decode cX4_readNumber 26 = .ok (.ireturn, 1) := by decide +kernel
theorem dX4_readNumber_27 : decode cX4_readNumber 27 = .ok (.aload_n 0, 1) := by decide +kernel
theorem dX4_readNumber_28 : decode cX4_readNumber 28 = .ok (.iconst 0, 1) := by decide +kernel
theorem dX4_readNumber_29 : decode cX4_readNumber 29 = .ok (.putfield 28, 3) := by decide +kernel
theorem dX4_readNumber_32 : decode cX4_readNumber 32 = .ok (.aload_n 0, 1) := by decide +kernel
theorem dX4_readNumber_33 : decode cX4_readNumber 33 = .ok (.getfield 22, 3) := by decide +kernel
theorem dX4_readNumber_36 : decode cX4_readNumber 36 = .ok (.istore_n 3, 1) := by decide +kernel
theorem dX4_readNumber_37 : decode cX4_readNumber 37 = .ok (.iload_n 3, 1) := by decide +kernel
theorem dX4_readNumber_38 : decode cX4_readNumber 38 = .ok (.aload_n 0, 1) := by decide +kernel
theorem dX4_readNumber_39 : decode cX4_readNumber 39 = .ok (.getfield 25, 3) := by decide +kernel
theorem dX4_readNumber_42 : decode cX4_readNumber 42 = .ok (.if_icmp .ge 29, 3) := by decide +kernel
theorem dX4_readNumber_45 : decode cX4_readNumber 45 = .ok (.aload_n 0, 1) := by decide +kernel
theorem dX4_readNumber_46 : decode cX4_readNumber 46 = .ok (.aload_n 0, 1) := by decide +kernel
theorem dX4_readNumber_47 : decode cX4_readNumber 47 = .ok (.getfield 28, 3) := by decide +kernel
theorem dX4_readNumber_50 : decode cX4_readNumber 50 = .ok (.bipush 10, 2) := by decide +kernel
theorem dX4_readNumber_52 : decode cX4_readNumber 52 = .ok (.imul, 1) := by decide +kernel
theorem dX4_readNumber_53 : decode cX4_readNumber 53 = .ok (.aload_n 0, 1) := by decide +kernel
theorem dX4_readNumber_54 : decode cX4_readNumber 54 = .ok (.iload_n 3, 1) := by decide +kernel
theorem dX4_readNumber_55 : decode cX4_readNumber 55 = .ok (.invokevirtual 112, 3) := by decide +kernel
theorem dX4_readNumber_58 : decode cX4_readNumber 58 = .ok (.iadd, 1) := by decide +kernel
theorem dX4_readNumber_59 : decode cX4_readNumber 59 = .ok (.bipush 48, 2) := by decide +kernel
theorem dX4_readNumber_61 : decode cX4_readNumber 61 = .ok (.isub, 1) := by decide +kernel
theorem dX4_readNumber_62 : decode cX4_readNumber 62 = .ok (.putfield 28, 3) := by decide +kernel
theorem dX4_readNumber_65 : decode cX4_readNumber 65 = .ok (.iinc 3 1, 3) := by decide +kernel
theorem dX4_readNumber_68 : decode cX4_readNumber 68 = .ok (.goto (-31), 3) := by decide +kernel
theorem dX4_readNumber_71 : decode cX4_readNumber 71 = .ok (.aload_n 0, 1) := by decide +kernel
theorem dX4_readNumber_72 : decode cX4_readNumber 72 = .ok (.getfield 28, 3) := by decide +kernel
theorem dX4_readNumber_75 : decode cX4_readNumber 75 = .ok (.iload_n 1, 1) := by decide +kernel
theorem dX4_readNumber_76 : decode cX4_readNumber 76 = .ok (.iload_n 2, 1) := by decide +kernel
theorem dX4_readNumber_77 : decode cX4_readNumber 77 = .ok (.invokestatic 82, 3) := by decide +kernel
theorem dX4_readNumber_80 : decode cX4_readNumber 80 = .ok (.ireturn, 1) := by decide +kernel
theorem dX4_takeToken_0 : decode cX4_takeToken 0 = .ok (.aload_n 0, 1) := by decide +kernel
theorem dX4_takeToken_1 : decode cX4_takeToken 1 = .ok (.aload_n 0, 1) := by decide +kernel
theorem dX4_takeToken_2 : decode cX4_takeToken 2 = .ok (.getfield 25, 3) := by decide +kernel
theorem dX4_takeToken_5 : decode cX4_takeToken 5 = .ok (.putfield 22, 3) := by decide +kernel
theorem dX4_takeToken_8 : decode cX4_takeToken 8 = .ok (.aload_n 0, 1) := by decide +kernel
theorem dX4_takeToken_9 : decode cX4_takeToken 9 = .ok (.getfield 22, 3) := by decide +kernel
theorem dX4_takeToken_12 : decode cX4_takeToken 12 = .ok (.aload_n 0, 1) := by decide +kernel
theorem dX4_takeToken_13 : decode cX4_takeToken 13 = .ok (.getfield 9, 3) := by decide +kernel
theorem dX4_takeToken_16 : decode cX4_takeToken 16 = .ok (.if_icmp .ge 29, 3) := by decide +kernel
theorem dX4_takeToken_19 : decode cX4_takeToken 19 = .ok (.aload_n 0, 1) := by decide +kernel
theorem dX4_takeToken_20 : decode cX4_takeToken 20 = .ok (.aload_n 0, 1) := by decide +kernel
theorem dX4_takeToken_21 : decode cX4_takeToken 21 = .ok (.getfield 22, 3) := by decide +kernel
theorem dX4_takeToken_24 : decode cX4_takeToken 24 = .ok (.invokevirtual 112, 3) := by decide +kernel
theorem dX4_takeToken_27 : decode cX4_takeToken 27 = .ok (.bipush 32, 2) := by decide +kernel
theorem dX4_takeToken_29 : decode cX4_takeToken 29 = .ok (.if_icmp .ne 16, 3) := by decide +kernel
theorem dX4_takeToken_32 : decode cX4_takeToken 32 = .ok (.aload_n 0, 1) := by decide +kernel
theorem dX4_takeToken_33 : decode cX4_takeToken 33 = .ok (.dup, 1) := by decide +kernel
theorem dX4_takeToken_34 : decode cX4_takeToken 34 = .ok (.getfield 22, 3) := by decide +kernel
theorem dX4_takeToken_37 : decode cX4_takeToken 37 = .ok (.iconst 1, 1) := by decide +kernel
theorem dX4_takeToken_38 : decode cX4_takeToken 38 = .ok (.iadd, 1) := by decide +kernel
theorem dX4_takeToken_39 : decode cX4_takeToken 39 = .ok (.putfield 22, 3) := by decide +kernel
theorem dX4_takeToken_42 : decode cX4_takeToken 42 = .ok (.goto (-34), 3) := by decide +kernel
theorem dX4_takeToken_45 : decode cX4_takeToken 45 = .ok (.aload_n 0, 1) := by decide +kernel
theorem dX4_takeToken_46 : decode cX4_takeToken 46 = .ok (.aload_n 0, 1) := by decide +kernel
theorem dX4_takeToken_47 : decode cX4_takeToken 47 = .ok (.aload_n 0, 1) := by decide +kernel
theorem dX4_takeToken_48 : decode cX4_takeToken 48 = .ok (.getfield 22, 3) := by decide +kernel
theorem dX4_takeToken_51 : decode cX4_takeToken 51 = .ok (.invokevirtual 112, 3) := by decide +kernel
theorem dX4_takeToken_54 : decode cX4_takeToken 54 = .ok (.invokestatic 120, 3) := by decide +kernel
theorem dX4_takeToken_57 : decode cX4_takeToken 57 = .ok (.putfield 19, 3) := by decide +kernel
theorem dX4_takeToken_60 : decode cX4_takeToken 60 = .ok (.aload_n 0, 1) := by decide +kernel
theorem dX4_takeToken_61 : decode cX4_takeToken 61 = .ok (.aload_n 0, 1) := by decide +kernel
theorem dX4_takeToken_62 : decode cX4_takeToken 62 = .ok (.getfield 19, 3) := by decide +kernel
theorem dX4_takeToken_65 : decode cX4_takeToken 65 = .ok (.ifCond .ne 10, 3) := by decide +kernel
theorem dX4_takeToken_68 : decode cX4_takeToken 68 = .ok (.aload_n 0, 1) := by decide +kernel
theorem dX4_takeToken_69 : decode cX4_takeToken 69 = .ok (.getfield 22, 3) := by decide +kernel
theorem dX4_takeToken_72 : decode cX4_takeToken 72 = .ok (.goto 9, 3) := by decide +kernel
theorem dX4_takeToken_75 : decode cX4_takeToken 75 = .ok (.aload_n 0, 1) := by decide +kernel
theorem dX4_takeToken_76 : decode cX4_takeToken 76 = .ok (.getfield 22, 3) := by decide +kernel
theorem dX4_takeToken_79 : decode cX4_takeToken 79 = .ok (.iconst 1, 1) := by decide +kernel
theorem dX4_takeToken_80 : decode cX4_takeToken 80 = .ok (.iadd, 1) := by decide +kernel
theorem dX4_takeToken_81 : decode cX4_takeToken 81 = .ok (.putfield 25, 3) := by decide +kernel
theorem dX4_takeToken_84 : decode cX4_takeToken 84 = .ok (.aload_n 0, 1) := by decide +kernel
theorem dX4_takeToken_85 : decode cX4_takeToken 85 = .ok (.getfield 19, 3) := by decide +kernel
theorem dX4_takeToken_88 : decode cX4_takeToken 88 = .ok (.iconst 1, 1) := by decide +kernel
theorem dX4_takeToken_89 : decode cX4_takeToken 89 = .ok (.if_icmp .eq 11, 3) := by decide +kernel
theorem dX4_takeToken_92 : decode cX4_takeToken 92 = .ok (.aload_n 0, 1) := by decide +kernel
theorem dX4_takeToken_93 : decode cX4_takeToken 93 = .ok (.getfield 19, 3) := by decide +kernel
theorem dX4_takeToken_96 : decode cX4_takeToken 96 = .ok (.iconst 2, 1) := by decide +kernel
theorem dX4_takeToken_97 : decode cX4_takeToken 97 = .ok (.if_icmp .ne 45, 3) := by decide +kernel
theorem dX4_takeToken_100 : decode cX4_takeToken 100 = .ok (.aload_n 0, 1) := by decide +kernel
theorem dX4_takeToken_101 : decode cX4_takeToken 101 = .ok (.getfield 25, 3) := by decide +kernel
theorem dX4_takeToken_104 : decode cX4_takeToken 104 = .ok (.aload_n 0, 1) := by decide +kernel
theorem dX4_takeToken_105 : decode cX4_takeToken 105 = .ok (.getfield 9, 3) := by decide +kernel
theorem dX4_takeToken_108 : decode cX4_takeToken 108 = .ok (.if_icmp .ge 34, 3) := by decide +kernel
theorem dX4_takeToken_111 : decode cX4_takeToken 111 = .ok (.aload_n 0, 1) := by decide +kernel
theorem dX4_takeToken_112 : decode cX4_takeToken 112 = .ok (.aload_n 0, 1) := by decide +kernel
theorem dX4_takeToken_113 : decode cX4_takeToken 113 = .ok (.getfield 25, 3) := by decide +kernel
theorem dX4_takeToken_116 : decode cX4_takeToken 116 = .ok (.invokevirtual 112, 3) := by decide +kernel
theorem dX4_takeToken_119 : decode cX4_takeToken 119 = .ok (.invokestatic 120, 3) := by decide +kernel
theorem dX4_takeToken_122 : decode cX4_takeToken 122 = .ok (.aload_n 0, 1) := by decide +kernel
theorem dX4_takeToken_123 : decode cX4_takeToken 123 = .ok (.getfield 19, 3) := by decide +kernel
theorem dX4_takeToken_126 : decode cX4_takeToken 126 = .ok (.if_icmp .ne 16, 3) := by decide +kernel
theorem dX4_takeToken_129 : decode cX4_takeToken 129 = .ok (.aload_n 0, 1) := by decide +kernel
theorem dX4_takeToken_130 : decode cX4_takeToken 130 = .ok (.dup, 1) := by decide +kernel
theorem dX4_takeToken_131 : decode cX4_takeToken 131 = .ok (.getfield 25, 3) := by decide +kernel
theorem dX4_takeToken_134 : decode cX4_takeToken 134 = .ok (.iconst 1, 1) := by decide +kernel
theorem dX4_takeToken_135 : decode cX4_takeToken 135 = .ok (.iadd, 1) := by decide +kernel
theorem dX4_takeToken_136 : decode cX4_takeToken 136 = .ok (.putfield 25, 3) := by decide +kernel
theorem dX4_takeToken_139 : decode cX4_takeToken 139 = .ok (.goto (-39), 3) := by decide +kernel
theorem dX4_takeToken_142 : decode cX4_takeToken 142 = .ok (.return_, 1) := by decide +kernel
theorem dX4_sortOf_0 : decode cX4_sortOf 0 = .ok (.iload_n 0, 1) := by decide +kernel
theorem dX4_sortOf_1 : decode cX4_sortOf 1 = .ok (.iconst (-1), 1) := by decide +kernel
theorem dX4_sortOf_2 : decode cX4_sortOf 2 = .ok (.if_icmp .ne 5, 3) := by decide +kernel
theorem dX4_sortOf_5 : decode cX4_sortOf 5 = .ok (.iconst 0, 1) := by decide +kernel
theorem dX4_sortOf_6 : decode cX4_sortOf 6 = .ok (.ireturn, 1) := by decide +kernel
theorem dX4_sortOf_7 : decode cX4_sortOf 7 = .ok (.iload_n 0, 1) := by decide +kernel
theorem dX4_sortOf_8 : decode cX4_sortOf 8 = .ok (.bipush 97, 2) := by decide +kernel
theorem dX4_sortOf_10 : decode cX4_sortOf 10 = .ok (.if_icmp .lt 11, 3) := by decide +kernel
theorem dX4_sortOf_13 : decode cX4_sortOf 13 = .ok (.iload_n 0, 1) := by decide +kernel
theorem dX4_sortOf_14 : decode cX4_sortOf 14 = .ok (.bipush 122, 2) := by decide +kernel
theorem dX4_sortOf_16 : decode cX4_sortOf 16 = .ok (.if_icmp .gt 5, 3) := by decide +kernel
theorem dX4_sortOf_19 : decode cX4_sortOf 19 = .ok (.iconst 1, 1) := by decide +kernel
theorem dX4_sortOf_20 : decode cX4_sortOf 20 = .ok (.ireturn, 1) := by decide +kernel
theorem dX4_sortOf_21 : decode cX4_sortOf 21 = .ok (.iload_n 0, 1) := by decide +kernel
theorem dX4_sortOf_22 : decode cX4_sortOf 22 = .ok (.bipush 48, 2) := by decide +kernel
theorem dX4_sortOf_24 : decode cX4_sortOf 24 = .ok (.if_icmp .lt 11, 3) := by decide +kernel
theorem dX4_sortOf_27 : decode cX4_sortOf 27 = .ok (.iload_n 0, 1) := by decide +kernel
theorem dX4_sortOf_28 : decode cX4_sortOf 28 = .ok (.bipush 57, 2) := by decide +kernel
theorem dX4_sortOf_30 : decode cX4_sortOf 30 = .ok (.if_icmp .gt 5, 3) := by decide +kernel
theorem dX4_sortOf_33 : decode cX4_sortOf 33 = .ok (.iconst 2, 1) := by decide +kernel
theorem dX4_sortOf_34 : decode cX4_sortOf 34 = .ok (.ireturn, 1) := by decide +kernel
theorem dX4_sortOf_35 : decode cX4_sortOf 35 = .ok (.iload_n 0, 1) := by decide +kernel
theorem dX4_sortOf_36 : decode cX4_sortOf 36 = .ok (.bipush 59, 2) := by decide +kernel
theorem dX4_sortOf_38 : decode cX4_sortOf 38 = .ok (.if_icmp .ne 7, 3) := by decide +kernel
theorem dX4_sortOf_41 : decode cX4_sortOf 41 = .ok (.iconst 3, 1) := by decide +kernel
theorem dX4_sortOf_42 : decode cX4_sortOf 42 = .ok (.goto 4, 3) := by decide +kernel
theorem dX4_sortOf_45 : decode cX4_sortOf 45 = .ok (.iconst 4, 1) := by decide +kernel
theorem dX4_sortOf_46 : decode cX4_sortOf 46 = .ok (.ireturn, 1) := by decide +kernel
theorem dX4_letterAt_0 : decode cX4_letterAt 0 = .ok (.iload_n 1, 1) := by decide +kernel
theorem dX4_letterAt_1 : decode cX4_letterAt 1 = .ok (.ifCond .lt 27, 3) := by decide +kernel
theorem dX4_letterAt_4 : decode cX4_letterAt 4 = .ok (.iload_n 1, 1) := by decide +kernel
theorem dX4_letterAt_5 : decode cX4_letterAt 5 = .ok (.aload_n 0, 1) := by decide +kernel
theorem dX4_letterAt_6 : decode cX4_letterAt 6 = .ok (.getfield 9, 3) := by decide +kernel
theorem dX4_letterAt_9 : decode cX4_letterAt 9 = .ok (.if_icmp .ge 19, 3) := by decide +kernel
theorem dX4_letterAt_12 : decode cX4_letterAt 12 = .ok (.iload_n 1, 1) := by decide +kernel
theorem dX4_letterAt_13 : decode cX4_letterAt 13 = .ok (.sipush 250, 3) := by decide +kernel
theorem dX4_letterAt_16 : decode cX4_letterAt 16 = .ok (.if_icmp .ge 12, 3) := by decide +kernel
theorem dX4_letterAt_19 : decode cX4_letterAt 19 = .ok (.aload_n 0, 1) := by decide +kernel
theorem dX4_letterAt_20 : decode cX4_letterAt 20 = .ok (.getfield 15, 3) := by decide +kernel
theorem dX4_letterAt_23 : decode cX4_letterAt 23 = .ok (.iload_n 1, 1) := by decide +kernel
theorem dX4_letterAt_24 : decode cX4_letterAt 24 = .ok (.iaload, 1) := by decide +kernel
theorem dX4_letterAt_25 : decode cX4_letterAt 25 = .ok (.goto 4, 3) := by decide +kernel
theorem dX4_letterAt_28 : decode cX4_letterAt 28 = .ok (.iconst (-1), 1) := by decide +kernel
theorem dX4_letterAt_29 : decode cX4_letterAt 29 = .ok (.ireturn, 1) := by decide +kernel
theorem dX5_init_0 : decode cX5_init 0 = .ok (.aload_n 0, 1) := by decide +kernel
theorem dX5_init_1 : decode cX5_init 1 = .ok (.invokespecial 3, 3) := by decide +kernel
theorem dX5_init_4 : decode cX5_init 4 = .ok (.aload_n 0, 1) := by decide +kernel
theorem dX5_init_5 : decode cX5_init 5 = .ok (.bipush 20, 2) := by decide +kernel
theorem dX5_init_7 : decode cX5_init 7 = .ok (.putfield 9, 3) := by decide +kernel
theorem dX5_init_10 : decode cX5_init 10 = .ok (.aload_n 0, 1) := by decide +kernel
theorem dX5_init_11 : decode cX5_init 11 = .ok (.bipush 60, 2) := by decide +kernel
theorem dX5_init_13 : decode cX5_init 13 = .ok (.putfield 15, 3) := by decide +kernel
theorem dX5_init_16 : decode cX5_init 16 = .ok (.aload_n 0, 1) := by decide +kernel
theorem dX5_init_17 : decode cX5_init 17 = .ok (.iconst 1, 1) := by decide +kernel
theorem dX5_init_18 : decode cX5_init 18 = .ok (.putfield 18, 3) := by decide +kernel
theorem dX5_init_21 : decode cX5_init 21 = .ok (.aload_n 0, 1) := by decide +kernel
theorem dX5_init_22 : decode cX5_init 22 = .ok (.bipush 50, 2) := by decide +kernel
theorem dX5_init_24 : decode cX5_init 24 = .ok (.putfield 21, 3) := by decide +kernel
theorem dX5_init_27 : decode cX5_init 27 = .ok (.aload_n 0, 1) := by decide +kernel
theorem dX5_init_28 : decode cX5_init 28 = .ok (.iconst 0, 1) := by decide +kernel
theorem dX5_init_29 : decode cX5_init 29 = .ok (.putfield 24, 3) := by decide +kernel
theorem dX5_init_32 : decode cX5_init 32 = .ok (.aload_n 0, 1) := by decide +kernel
theorem dX5_init_33 : decode cX5_init 33 = .ok (.iconst 0, 1) := by decide +kernel
theorem dX5_init_34 : decode cX5_init 34 = .ok (.putfield 27, 3) := by decide +kernel
theorem dX5_init_37 : decode cX5_init 37 = .ok (.aload_n 0, 1) := by decide +kernel
theorem dX5_init_38 : decode cX5_init 38 = .ok (.iconst (-1), 1) := by decide +kernel
theorem dX5_init_39 : decode cX5_init 39 = .ok (.putfield 31, 3) := by decide +kernel
theorem dX5_init_42 : decode cX5_init 42 = .ok (.return_, 1) := by decide +kernel
theorem dX5_become_0 : decode cX5_become 0 = .ok (.aload_n 0, 1) := by decide +kernel
theorem dX5_become_1 : decode cX5_become 1 = .ok (.aload_n 1, 1) := by decide +kernel
theorem dX5_become_2 : decode cX5_become 2 = .ok (.getfield 9, 3) := by decide +kernel
theorem dX5_become_5 : decode cX5_become 5 = .ok (.putfield 9, 3) := by decide +kernel
theorem dX5_become_8 : decode cX5_become 8 = .ok (.aload_n 0, 1) := by decide +kernel
theorem dX5_become_9 : decode cX5_become 9 = .ok (.aload_n 1, 1) := by decide +kernel
theorem dX5_become_10 : decode cX5_become 10 = .ok (.getfield 15, 3) := by decide +kernel
theorem dX5_become_13 : decode cX5_become 13 = .ok (.putfield 15, 3) := by decide +kernel
theorem dX5_become_16 : decode cX5_become 16 = .ok (.aload_n 0, 1) := by decide +kernel
theorem dX5_become_17 : decode cX5_become 17 = .ok (.aload_n 1, 1) := by decide +kernel
theorem dX5_become_18 : decode cX5_become 18 = .ok (.getfield 18, 3) := by decide +kernel
theorem dX5_become_21 : decode cX5_become 21 = .ok (.putfield 18, 3) := by decide +kernel
theorem dX5_become_24 : decode cX5_become 24 = .ok (.aload_n 0, 1) := by decide +kernel
theorem dX5_become_25 : decode cX5_become 25 = .ok (.aload_n 1, 1) := by decide +kernel
theorem dX5_become_26 : decode cX5_become 26 = .ok (.getfield 21, 3) := by decide +kernel
theorem dX5_become_29 : decode cX5_become 29 = .ok (.putfield 21, 3) := by decide +kernel
theorem dX5_become_32 : decode cX5_become 32 = .ok (.aload_n 0, 1) := by decide +kernel
theorem dX5_become_33 : decode cX5_become 33 = .ok (.aload_n 1, 1) := by decide +kernel
theorem dX5_become_34 : decode cX5_become 34 = .ok (.getfield 24, 3) := by decide +kernel
theorem dX5_become_37 : decode cX5_become 37 = .ok (.putfield 24, 3) := by decide +kernel
theorem dX5_become_40 : decode cX5_become 40 = .ok (.return_, 1) := by decide +kernel
theorem dX5_isLike_0 : decode cX5_isLike 0 = .ok (.aload_n 0, 1) := by decide +kernel
theorem dX5_isLike_1 : decode cX5_isLike 1 = .ok (.getfield 9, 3) := by decide +kernel
theorem dX5_isLike_4 : decode cX5_isLike 4 = .ok (.aload_n 1, 1) := by decide +kernel
theorem dX5_isLike_5 : decode cX5_isLike 5 = .ok (.getfield 9, 3) := by decide +kernel
theorem dX5_isLike_8 : decode cX5_isLike 8 = .ok (.if_icmp .ne 29, 3) := by decide +kernel
theorem dX5_isLike_11 : decode cX5_isLike 11 = .ok (.aload_n 0, 1) := by decide +kernel
theorem dX5_isLike_12 : decode cX5_isLike 12 = .ok (.getfield 18, 3) := by decide +kernel
theorem dX5_isLike_15 : decode cX5_isLike 15 = .ok (.aload_n 1, 1) := by decide +kernel
theorem dX5_isLike_16 : decode cX5_isLike 16 = .ok (.getfield 18, 3) := by decide +kernel
theorem dX5_isLike_19 : decode cX5_isLike 19 = .ok (.if_icmp .ne 18, 3) := by decide +kernel
theorem dX5_isLike_22 : decode cX5_isLike 22 = .ok (.aload_n 0, 1) := by decide +kernel
theorem dX5_isLike_23 : decode cX5_isLike 23 = .ok (.getfield 15, 3) := by decide +kernel
theorem dX5_isLike_26 : decode cX5_isLike 26 = .ok (.aload_n 1, 1) := by decide +kernel
theorem dX5_isLike_27 : decode cX5_isLike 27 = .ok (.getfield 15, 3) := by decide +kernel
theorem dX5_isLike_30 : decode cX5_isLike 30 = .ok (.if_icmp .ne 7, 3) := by decide +kernel
theorem dX5_isLike_33 : decode cX5_isLike 33 = .ok (.iconst 1, 1) := by decide +kernel
theorem dX5_isLike_34 : decode cX5_isLike 34 = .ok (.goto 4, 3) := by decide +kernel
theorem dX5_isLike_37 : decode cX5_isLike 37 = .ok (.iconst 0, 1) := by decide +kernel
theorem dX5_isLike_38 : decode cX5_isLike 38 = .ok (.ireturn, 1) := by decide +kernel
theorem dX5_measure_0 : decode cX5_measure 0 = .ok (.iload_n 1, 1) := by decide +kernel
theorem dX5_measure_1 : decode cX5_measure 1 = .ok (.tableswitch 51 0 3 #[31, 36, 41, 46], 31) := by decide +kernel
theorem dX5_measure_32 : decode cX5_measure 32 = .ok (.aload_n 0, 1) := by decide +kernel
theorem dX5_measure_33 : decode cX5_measure 33 = .ok (.getfield 9, 3) := by decide +kernel
theorem dX5_measure_36 : decode cX5_measure 36 = .ok (.ireturn, 1) := by decide +kernel
theorem dX5_measure_37 : decode cX5_measure 37 = .ok (.aload_n 0, 1) := by decide +kernel
theorem dX5_measure_38 : decode cX5_measure 38 = .ok (.getfield 15, 3) := by decide +kernel
theorem dX5_measure_41 : decode cX5_measure 41 = .ok (.ireturn, 1) := by decide +kernel
theorem dX5_measure_42 : decode cX5_measure 42 = .ok (.aload_n 0, 1) := by decide +kernel
theorem dX5_measure_43 : decode cX5_measure 43 = .ok (.getfield 18, 3) := by decide +kernel
theorem dX5_measure_46 : decode cX5_measure 46 = .ok (.ireturn, 1) := by decide +kernel
theorem dX5_measure_47 : decode cX5_measure 47 = .ok (.aload_n 0, 1) := by decide +kernel
theorem dX5_measure_48 : decode cX5_measure 48 = .ok (.getfield 21, 3) := by decide +kernel
theorem dX5_measure_51 : decode cX5_measure 51 = .ok (.ireturn, 1) := by decide +kernel
theorem dX5_measure_52 : decode cX5_measure 52 = .ok (.aload_n 0, 1) := by decide +kernel
theorem dX5_measure_53 : decode cX5_measure 53 = .ok (.getfield 24, 3) := by decide +kernel
theorem dX5_measure_56 : decode cX5_measure 56 = .ok (.ireturn, 1) := by decide +kernel
theorem dX5_putMeasure_0 : decode cX5_putMeasure 0 = .ok (.iload_n 1, 1) := by decide +kernel
theorem dX5_putMeasure_1 : decode cX5_putMeasure 1 = .ok (.tableswitch 63 0 3 #[31, 39, 47, 55], 31) := by decide +kernel
theorem dX5_putMeasure_32 : decode cX5_putMeasure 32 = .ok (.aload_n 0, 1) := by decide +kernel
theorem dX5_putMeasure_33 : decode cX5_putMeasure 33 = .ok (.iload_n 2, 1) := by decide +kernel
theorem dX5_putMeasure_34 : decode cX5_putMeasure 34 = .ok (.putfield 9, 3) := by decide +kernel
theorem dX5_putMeasure_37 : decode cX5_putMeasure 37 = .ok (.goto 32, 3) := by decide +kernel
theorem dX5_putMeasure_40 : decode cX5_putMeasure 40 = .ok (.aload_n 0, 1) := by decide +kernel
theorem dX5_putMeasure_41 : decode cX5_putMeasure 41 = .ok (.iload_n 2, 1) := by decide +kernel
theorem dX5_putMeasure_42 : decode cX5_putMeasure 42 = .ok (.putfield 15, 3) := by decide +kernel
theorem dX5_putMeasure_45 : decode cX5_putMeasure 45 = .ok (.goto 24, 3) := by decide +kernel
theorem dX5_putMeasure_48 : decode cX5_putMeasure 48 = .ok (.aload_n 0, 1) := by decide +kernel
theorem dX5_putMeasure_49 : decode cX5_putMeasure 49 = .ok (.iload_n 2, 1) := by decide +kernel
theorem dX5_putMeasure_50 : decode cX5_putMeasure 50 = .ok (.putfield 18, 3) := by decide +kernel
theorem dX5_putMeasure_53 : decode cX5_putMeasure 53 = .ok (.goto 16, 3) := by decide +kernel
theorem dX5_putMeasure_56 : decode cX5_putMeasure 56 = .ok (.aload_n 0, 1) := by decide +kernel
theorem dX5_putMeasure_57 : decode cX5_putMeasure 57 = .ok (.iload_n 2, 1) := by decide +kernel
theorem dX5_putMeasure_58 : decode cX5_putMeasure 58 = .ok (.putfield 21, 3) := by decide +kernel
theorem dX5_putMeasure_61 : decode cX5_putMeasure 61 = .ok (.goto 8, 3) := by decide +kernel
theorem dX5_putMeasure_64 : decode cX5_putMeasure 64 = .ok (.aload_n 0, 1) := by decide +kernel
theorem dX5_putMeasure_65 : decode cX5_putMeasure 65 = .ok (.iload_n 2, 1) := by decide +kernel
theorem dX5_putMeasure_66 : decode cX5_putMeasure 66 = .ok (.putfield 24, 3) := by decide +kernel
theorem dX5_putMeasure_69 : decode cX5_putMeasure 69 = .ok (.return_, 1) := by decide +kernel
theorem dX5_alarm_0 : decode cX5_alarm 0 = .ok (.aload_n 0, 1) := by decide +kernel
theorem dX5_alarm_1 : decode cX5_alarm 1 = .ok (.getfield 9, 3) := by decide +kernel
theorem dX5_alarm_4 : decode cX5_alarm 4 = .ok (.iconst 3, 1) := by decide +kernel
theorem dX5_alarm_5 : decode cX5_alarm 5 = .ok (.idiv, 1) := by decide +kernel
theorem dX5_alarm_6 : decode cX5_alarm 6 = .ok (.aload_n 0, 1) := by decide +kernel
theorem dX5_alarm_7 : decode cX5_alarm 7 = .ok (.getfield 18, 3) := by decide +kernel
theorem dX5_alarm_10 : decode cX5_alarm 10 = .ok (.iadd, 1) := by decide +kernel
theorem dX5_alarm_11 : decode cX5_alarm 11 = .ok (.ireturn, 1) := by decide +kernel
theorem dX5_pass_0 : decode cX5_pass 0 = .ok (.aload_n 0, 1) := by decide +kernel
theorem dX5_pass_1 : decode cX5_pass 1 = .ok (.iconst (-1), 1) := by decide +kernel
theorem dX5_pass_2 : decode cX5_pass 2 = .ok (.putfield 31, 3) := by decide +kernel
theorem dX5_pass_5 : decode cX5_pass 5 = .ok (.iload_n 1, 1) := by decide +kernel
theorem dX5_pass_6 : decode cX5_pass 6 = .ok (.bipush 10, 2) := by decide +kernel
theorem dX5_pass_8 : decode cX5_pass 8 = .ok (.if_icmp .ne 10, 3) := by decide +kernel
theorem dX5_pass_11 : decode cX5_pass 11 = .ok (.aload_n 0, 1) := by decide +kernel
theorem dX5_pass_12 : decode cX5_pass 12 = .ok (.invokevirtual 34, 3) := by decide +kernel
theorem dX5_pass_15 : decode cX5_pass 15 = .ok (.goto 95, 3) := by decide +kernel
theorem dX5_pass_18 : decode cX5_pass 18 = .ok (.aload_n 2, 1) := by decide +kernel
theorem dX5_pass_19 : decode cX5_pass 19 = .ok (.iload_n 1, 1) := by decide +kernel
theorem dX5_pass_20 : decode cX5_pass 20 = .ok (.aload_n 0, 1) := by decide +kernel
theorem dX5_pass_21 : decode cX5_pass 21 = .ok (.invokevirtual 37, 3) := by decide +kernel
theorem dX5_pass_24 : decode cX5_pass 24 = .ok (.ifCond .eq 42, 3) := by decide +kernel
theorem dX5_pass_27 : decode cX5_pass 27 = .ok (.aload_n 0, 1) := by decide +kernel
theorem dX5_pass_28 : decode cX5_pass 28 = .ok (.aload_n 2, 1) := by decide +kernel
theorem dX5_pass_29 : decode cX5_pass 29 = .ok (.iload_n 1, 1) := by decide +kernel
theorem dX5_pass_30 : decode cX5_pass 30 = .ok (.aload_n 0, 1) := by decide +kernel
theorem dX5_pass_31 : decode cX5_pass 31 = .ok (.invokevirtual 43, 3) := by decide +kernel
theorem dX5_pass_34 : decode cX5_pass 34 = .ok (.putfield 9, 3) := by decide +kernel
theorem dX5_pass_37 : decode cX5_pass 37 = .ok (.aload_n 0, 1) := by decide +kernel
theorem dX5_pass_38 : decode cX5_pass 38 = .ok (.aload_n 2, 1) := by decide +kernel
theorem dX5_pass_39 : decode cX5_pass 39 = .ok (.iload_n 1, 1) := by decide +kernel
theorem dX5_pass_40 : decode cX5_pass 40 = .ok (.invokevirtual 47, 3) := by decide +kernel
theorem dX5_pass_43 : decode cX5_pass 43 = .ok (.ifCond .eq 16, 3) := by decide +kernel
theorem dX5_pass_46 : decode cX5_pass 46 = .ok (.aload_n 0, 1) := by decide +kernel
theorem dX5_pass_47 : decode cX5_pass 47 = .ok (.getfield 24, 3) := by decide +kernel
theorem dX5_pass_50 : decode cX5_pass 50 = .ok (.iconst 4, 1) := by decide +kernel
theorem dX5_pass_51 : decode cX5_pass 51 = .ok (.irem, 1) := by decide +kernel
theorem dX5_pass_52 : decode cX5_pass 52 = .ok (.ifCond .ne 7, 3) := by decide +kernel
theorem dX5_pass_55 : decode cX5_pass 55 = .ok (.iconst 1, 1) := by decide +kernel
theorem dX5_pass_56 : decode cX5_pass 56 = .ok (.goto 4, 3) := by decide +kernel
theorem dX5_pass_59 : decode cX5_pass 59 = .ok (.iconst 0, 1) := by decide +kernel
theorem dX5_pass_60 : decode cX5_pass 60 = .ok (.invokevirtual 51, 3) := by decide +kernel
theorem dX5_pass_63 : decode cX5_pass 63 = .ok (.goto 47, 3) := by decide +kernel
theorem dX5_pass_66 : decode cX5_pass 66 = .ok (.aload_n 0, 1) := by decide +kernel
theorem dX5_pass_67 : decode cX5_pass 67 = .ok (.iload_n 1, 1) := by decide +kernel
theorem dX5_pass_68 : decode cX5_pass 68 = .ok (.putfield 31, 3) := by decide +kernel
theorem dX5_pass_71 : decode cX5_pass 71 = .ok (.aload_n 0, 1) := by decide +kernel
theorem dX5_pass_72 : decode cX5_pass 72 = .ok (.bipush 99, 2) := by decide +kernel
theorem dX5_pass_74 : decode cX5_pass 74 = .ok (.aload_n 0, 1) := by decide +kernel
theorem dX5_pass_75 : decode cX5_pass 75 = .ok (.getfield 9, 3) := by decide +kernel
theorem dX5_pass_78 : decode cX5_pass 78 = .ok (.iconst 2, 1) := by decide +kernel
theorem dX5_pass_79 : decode cX5_pass 79 = .ok (.aload_n 0, 1) := by decide +kernel
theorem dX5_pass_80 : decode cX5_pass 80 = .ok (.getfield 18, 3) := by decide +kernel
theorem dX5_pass_83 : decode cX5_pass 83 = .ok (.imul, 1) := by decide +kernel
theorem dX5_pass_84 : decode cX5_pass 84 = .ok (.iadd, 1) := by decide +kernel
theorem dX5_pass_85 : decode cX5_pass 85 = .ok (.invokestatic 55, 3) := by decide +kernel
theorem dX5_pass_88 : decode cX5_pass 88 = .ok (.putfield 9, 3) := by decide +kernel
theorem dX5_pass_91 : decode cX5_pass 91 = .ok (.aload_n 0, 1) := by decide +kernel
theorem dX5_pass_92 : decode cX5_pass 92 = .ok (.aload_n 0, 1) := by decide +kernel
theorem dX5_pass_93 : decode cX5_pass 93 = .ok (.getfield 24, 3) := by decide +kernel
theorem dX5_pass_96 : decode cX5_pass 96 = .ok (.bipush 12, 2) := by decide +kernel
theorem dX5_pass_98 : decode cX5_pass 98 = .ok (.irem, 1) := by decide +kernel
theorem dX5_pass_99 : decode cX5_pass 99 = .ok (.ifCond .ne 7, 3) := by decide +kernel
theorem dX5_pass_102 : decode cX5_pass 102 = .ok (.iconst 1, 1) := by decide +kernel
theorem dX5_pass_103 : decode cX5_pass 103 = .ok (.goto 4, 3) := by decide +kernel
theorem dX5_pass_106 : decode cX5_pass 106 = .ok (.iconst 0, 1) := by decide +kernel
theorem dX5_pass_107 : decode cX5_pass 107 = .ok (.invokevirtual 51, 3) := by decide +kernel
theorem dX5_pass_110 : decode cX5_pass 110 = .ok (.aload_n 0, 1) := by decide +kernel
theorem dX5_pass_111 : decode cX5_pass 111 = .ok (.aload_n 0, 1) := by decide +kernel
theorem dX5_pass_112 : decode cX5_pass 112 = .ok (.getfield 9, 3) := by decide +kernel
theorem dX5_pass_115 : decode cX5_pass 115 = .ok (.aload_n 0, 1) := by decide +kernel
theorem dX5_pass_116 : decode cX5_pass 116 = .ok (.getfield 21, 3) := by decide +kernel
theorem dX5_pass_119 : decode cX5_pass 119 = .ok (.if_icmp .lt 7, 3) := by decide +kernel
theorem dX5_pass_122 : decode cX5_pass 122 = .ok (.iconst 1, 1) := by decide +kernel
theorem dX5_pass_123 : decode cX5_pass 123 = .ok (.goto 4, 3) := by decide +kernel
theorem dX5_pass_126 : decode cX5_pass 126 = .ok (.iconst 0, 1) := by decide +kernel
theorem dX5_pass_127 : decode cX5_pass 127 = .ok (.putfield 27, 3) := by decide +kernel
theorem dX5_pass_130 : decode cX5_pass 130 = .ok (.aload_n 0, 1) := by decide +kernel
theorem dX5_pass_131 : decode cX5_pass 131 = .ok (.getfield 27, 3) := by decide +kernel
theorem dX5_pass_134 : decode cX5_pass 134 = .ok (.ifCond .eq 17, 3) := by decide +kernel
theorem dX5_pass_137 : decode cX5_pass 137 = .ok (.aload_n 0, 1) := by decide +kernel
theorem dX5_pass_138 : decode cX5_pass 138 = .ok (.iconst 0, 1) := by decide +kernel
theorem dX5_pass_139 : decode cX5_pass 139 = .ok (.aload_n 0, 1) := by decide +kernel
theorem dX5_pass_140 : decode cX5_pass 140 = .ok (.getfield 15, 3) := by decide +kernel
theorem dX5_pass_143 : decode cX5_pass 143 = .ok (.iconst 1, 1) := by decide +kernel
theorem dX5_pass_144 : decode cX5_pass 144 = .ok (.isub, 1) := by decide +kernel
theorem dX5_pass_145 : decode cX5_pass 145 = .ok (.invokestatic 61, 3) := by decide +kernel
theorem dX5_pass_148 : decode cX5_pass 148 = .ok (.putfield 15, 3) := by decide +kernel
theorem dX5_pass_151 : decode cX5_pass 151 = .ok (.aload_n 0, 1) := by decide +kernel
theorem dX5_pass_152 : decode cX5_pass 152 = .ok (.sipush 9999, 3) := by decide +kernel
theorem dX5_pass_155 : decode cX5_pass 155 = .ok (.aload_n 0, 1) := by decide +kernel
theorem dX5_pass_156 : decode cX5_pass 156 = .ok (.getfield 24, 3) := by decide +kernel
theorem dX5_pass_159 : decode cX5_pass 159 = .ok (.iconst 1, 1) := by decide +kernel
theorem dX5_pass_160 : decode cX5_pass 160 = .ok (.iadd, 1) := by decide +kernel
theorem dX5_pass_161 : decode cX5_pass 161 = .ok (.invokestatic 55, 3) := by decide +kernel
theorem dX5_pass_164 : decode cX5_pass 164 = .ok (.putfield 24, 3) := by decide +kernel
theorem dX5_pass_167 : decode cX5_pass 167 = .ok (.return_, 1) := by decide +kernel
theorem dX5_mix_0 : decode cX5_mix 0 = .ok (.aload_n 0, 1) := by decide +kernel
theorem dX5_mix_1 : decode cX5_mix 1 = .ok (.getfield 9, 3) := by decide +kernel
theorem dX5_mix_4 : decode cX5_mix 4 = .ok (.aload_n 0, 1) := by decide +kernel
theorem dX5_mix_5 : decode cX5_mix 5 = .ok (.getfield 15, 3) := by decide +kernel
theorem dX5_mix_8 : decode cX5_mix 8 = .ok (.isub, 1) := by decide +kernel
theorem dX5_mix_9 : decode cX5_mix 9 = .ok (.iconst 4, 1) := by decide +kernel
theorem dX5_mix_10 : decode cX5_mix 10 = .ok (.idiv, 1) := by decide +kernel
theorem dX5_mix_11 : decode cX5_mix 11 = .ok (.istore_n 1, 1) := by decide +kernel
theorem dX5_mix_12 : decode cX5_mix 12 = .ok (.aload_n 0, 1) := by decide +kernel
theorem dX5_mix_13 : decode cX5_mix 13 = .ok (.dup, 1) := by decide +kernel
theorem dX5_mix_14 : decode cX5_mix 14 = .ok (.getfield 9, 3) := by decide +kernel
theorem dX5_mix_17 : decode cX5_mix 17 = .ok (.iload_n 1, 1) := by decide +kernel
theorem dX5_mix_18 : decode cX5_mix 18 = .ok (.isub, 1) := by decide +kernel
theorem dX5_mix_19 : decode cX5_mix 19 = .ok (.putfield 9, 3) := by decide +kernel
theorem dX5_mix_22 : decode cX5_mix 22 = .ok (.aload_n 0, 1) := by decide +kernel
theorem dX5_mix_23 : decode cX5_mix 23 = .ok (.dup, 1) := by decide +kernel
theorem dX5_mix_24 : decode cX5_mix 24 = .ok (.getfield 15, 3) := by decide +kernel
theorem dX5_mix_27 : decode cX5_mix 27 = .ok (.iload_n 1, 1) := by decide +kernel
theorem dX5_mix_28 : decode cX5_mix 28 = .ok (.iadd, 1) := by decide +kernel
theorem dX5_mix_29 : decode cX5_mix 29 = .ok (.putfield 15, 3) := by decide +kernel
theorem dX5_mix_32 : decode cX5_mix 32 = .ok (.return_, 1) := by decide +kernel
theorem dX5_growIf_0 : decode cX5_growIf 0 = .ok (.iload_n 1, 1) := by decide +kernel
theorem dX5_growIf_1 : decode cX5_growIf 1 = .ok (.ifCond .eq 18, 3) := by decide +kernel
theorem dX5_growIf_4 : decode cX5_growIf 4 = .ok (.aload_n 0, 1) := by decide +kernel
theorem dX5_growIf_5 : decode cX5_growIf 5 = .ok (.bipush 9, 2) := by decide +kernel
theorem dX5_growIf_7 : decode cX5_growIf 7 = .ok (.aload_n 0, 1) := by decide +kernel
theorem dX5_growIf_8 : decode cX5_growIf 8 = .ok (.getfield 18, 3) := by decide +kernel
theorem dX5_growIf_11 : decode cX5_growIf 11 = .ok (.iconst 1, 1) := by decide +kernel
theorem dX5_growIf_12 : decode cX5_growIf 12 = .ok (.iadd, 1) := by decide +kernel
theorem dX5_growIf_13 : decode cX5_growIf 13 = .ok (.invokestatic 55, 3) := by decide +kernel
theorem dX5_growIf_16 : decode cX5_growIf 16 = .ok (.putfield 18, 3) := by decide +kernel
theorem dX5_growIf_19 : decode cX5_growIf 19 = .ok (.return_, 1) := by decide +kernel
theorem dX6_init_0 : decode cX6_init 0 = .ok (.aload_n 0, 1) := by decide +kernel
theorem dX6_init_1 : decode cX6_init 1 = .ok (.invokespecial 3, 3) := by decide +kernel
theorem dX6_init_4 : decode cX6_init 4 = .ok (.aload_n 0, 1) := by decide +kernel
theorem dX6_init_5 : decode cX6_init 5 = .ok (.new 9, 3) := by decide +kernel
theorem dX6_init_8 : decode cX6_init 8 = .ok (.dup, 1) := by decide +kernel
theorem dX6_init_9 : decode cX6_init 9 = .ok (.invokespecial 11, 3) := by decide +kernel
theorem dX6_init_12 : decode cX6_init 12 = .ok (.putfield 12, 3) := by decide +kernel
theorem dX6_init_15 : decode cX6_init 15 = .ok (.aload_n 0, 1) := by decide +kernel
theorem dX6_init_16 : decode cX6_init 16 = .ok (.iconst 0, 1) := by decide +kernel
theorem dX6_init_17 : decode cX6_init 17 = .ok (.putfield 18, 3) := by decide +kernel
theorem dX6_init_20 : decode cX6_init 20 = .ok (.aload_n 0, 1) := by decide +kernel
theorem dX6_init_21 : decode cX6_init 21 = .ok (.iconst 0, 1) := by decide +kernel
theorem dX6_init_22 : decode cX6_init 22 = .ok (.putfield 22, 3) := by decide +kernel
theorem dX6_init_25 : decode cX6_init 25 = .ok (.aload_n 0, 1) := by decide +kernel
theorem dX6_init_26 : decode cX6_init 26 = .ok (.iconst (-1), 1) := by decide +kernel
theorem dX6_init_27 : decode cX6_init 27 = .ok (.putfield 25, 3) := by decide +kernel
theorem dX6_init_30 : decode cX6_init 30 = .ok (.aload_n 0, 1) := by decide +kernel
theorem dX6_init_31 : decode cX6_init 31 = .ok (.iconst 0, 1) := by decide +kernel
theorem dX6_init_32 : decode cX6_init 32 = .ok (.putfield 28, 3) := by decide +kernel
theorem dX6_init_35 : decode cX6_init 35 = .ok (.aload_n 0, 1) := by decide +kernel
theorem dX6_init_36 : decode cX6_init 36 = .ok (.iconst 0, 1) := by decide +kernel
theorem dX6_init_37 : decode cX6_init 37 = .ok (.putfield 31, 3) := by decide +kernel
theorem dX6_init_40 : decode cX6_init 40 = .ok (.aload_n 0, 1) := by decide +kernel
theorem dX6_init_41 : decode cX6_init 41 = .ok (.iconst 0, 1) := by decide +kernel
theorem dX6_init_42 : decode cX6_init 42 = .ok (.putfield 34, 3) := by decide +kernel
theorem dX6_init_45 : decode cX6_init 45 = .ok (.aload_n 0, 1) := by decide +kernel
theorem dX6_init_46 : decode cX6_init 46 = .ok (.iconst 0, 1) := by decide +kernel
theorem dX6_init_47 : decode cX6_init 47 = .ok (.putfield 37, 3) := by decide +kernel
theorem dX6_init_50 : decode cX6_init 50 = .ok (.aload_n 0, 1) := by decide +kernel
theorem dX6_init_51 : decode cX6_init 51 = .ok (.iconst 0, 1) := by decide +kernel
theorem dX6_init_52 : decode cX6_init 52 = .ok (.putfield 40, 3) := by decide +kernel
theorem dX6_init_55 : decode cX6_init 55 = .ok (.return_, 1) := by decide +kernel
theorem dX6_along_0 : decode cX6_along 0 = .ok (.aload_n 0, 1) := by decide +kernel
theorem dX6_along_1 : decode cX6_along 1 = .ok (.aload_n 3, 1) := by decide +kernel
theorem dX6_along_2 : decode cX6_along 2 = .ok (.invokevirtual 43, 3) := by decide +kernel
theorem dX6_along_5 : decode cX6_along 5 = .ok (.iconst 0, 1) := by decide +kernel
theorem dX6_along_6 : decode cX6_along 6 = .ok (.istore 5, 2) := by decide +kernel
theorem dX6_along_8 : decode cX6_along 8 = .ok (.iload 5, 2) := by decide +kernel
theorem dX6_along_10 : decode cX6_along 10 = .ok (.iload_n 2, 1) := by decide +kernel
theorem dX6_along_11 : decode cX6_along 11 = .ok (.if_icmp .ge 35, 3) := by decide +kernel
theorem dX6_along_14 : decode cX6_along 14 = .ok (.iload 5, 2) := by decide +kernel
theorem dX6_along_16 : decode cX6_along 16 = .ok (.aload_n 1, 1) := by decide +kernel
theorem dX6_along_17 : decode cX6_along 17 = .ok (.arraylength, 1) := by decide +kernel
theorem dX6_along_18 : decode cX6_along 18 = .ok (.if_icmp .ge 28, 3) := by decide +kernel
theorem dX6_along_21 : decode cX6_along 21 = .ok (.aload_n 0, 1) := by decide +kernel
theorem dX6_along_22 : decode cX6_along 22 = .ok (.getfield 12, 3) := by decide +kernel
theorem dX6_along_25 : decode cX6_along 25 = .ok (.aload_n 1, 1) := by decide +kernel
theorem dX6_along_26 : decode cX6_along 26 = .ok (.iload 5, 2) := by decide +kernel
theorem dX6_along_28 : decode cX6_along 28 = .ok (.iaload, 1) := by decide +kernel
theorem dX6_along_29 : decode cX6_along 29 = .ok (.aload 4, 2) := by decide +kernel
theorem dX6_along_31 : decode cX6_along 31 = .ok (.invokevirtual 47, 3) := by decide +kernel
theorem dX6_along_34 : decode cX6_along 34 = .ok (.aload_n 0, 1) := by decide +kernel
theorem dX6_along_35 : decode cX6_along 35 = .ok (.iload 5, 2) := by decide +kernel
theorem dX6_along_37 : decode cX6_along 37 = .ok (.invokevirtual 51, 3) := by decide +kernel
theorem dX6_along_40 : decode cX6_along 40 = .ok (.iinc 5 1, 3) := by decide +kernel
theorem dX6_along_43 : decode cX6_along 43 = .ok (.goto (-35), 3) := by decide +kernel
theorem dX6_along_46 : decode cX6_along 46 = .ok (.return_, 1) := by decide +kernel
theorem dX6_begin_0 : decode cX6_begin 0 = .ok (.aload_n 0, 1) := by decide +kernel
theorem dX6_begin_1 : decode cX6_begin 1 = .ok (.getfield 12, 3) := by decide +kernel
theorem dX6_begin_4 : decode cX6_begin 4 = .ok (.aload_n 1, 1) := by decide +kernel
theorem dX6_begin_5 : decode cX6_begin 5 = .ok (.invokevirtual 55, 3) := by decide +kernel
theorem dX6_begin_8 : decode cX6_begin 8 = .ok (.aload_n 0, 1) := by decide +kernel
theorem dX6_begin_9 : decode cX6_begin 9 = .ok (.iconst 0, 1) := by decide +kernel
theorem dX6_begin_10 : decode cX6_begin 10 = .ok (.putfield 18, 3) := by decide +kernel
theorem dX6_begin_13 : decode cX6_begin 13 = .ok (.aload_n 0, 1) := by decide +kernel
theorem dX6_begin_14 : decode cX6_begin 14 = .ok (.iconst 0, 1) := by decide +kernel
theorem dX6_begin_15 : decode cX6_begin 15 = .ok (.putfield 22, 3) := by decide +kernel
theorem dX6_begin_18 : decode cX6_begin 18 = .ok (.aload_n 0, 1) := by decide +kernel
theorem dX6_begin_19 : decode cX6_begin 19 = .ok (.iconst (-1), 1) := by decide +kernel
theorem dX6_begin_20 : decode cX6_begin 20 = .ok (.putfield 25, 3) := by decide +kernel
theorem dX6_begin_23 : decode cX6_begin 23 = .ok (.aload_n 0, 1) := by decide +kernel
theorem dX6_begin_24 : decode cX6_begin 24 = .ok (.iconst 0, 1) := by decide +kernel
theorem dX6_begin_25 : decode cX6_begin 25 = .ok (.putfield 28, 3) := by decide +kernel
theorem dX6_begin_28 : decode cX6_begin 28 = .ok (.aload_n 0, 1) := by decide +kernel
theorem dX6_begin_29 : decode cX6_begin 29 = .ok (.aload_n 1, 1) := by decide +kernel
theorem dX6_begin_30 : decode cX6_begin 30 = .ok (.getfield 58, 3) := by decide +kernel
theorem dX6_begin_33 : decode cX6_begin 33 = .ok (.putfield 31, 3) := by decide +kernel
theorem dX6_begin_36 : decode cX6_begin 36 = .ok (.aload_n 0, 1) := by decide +kernel
theorem dX6_begin_37 : decode cX6_begin 37 = .ok (.aload_n 1, 1) := by decide +kernel
theorem dX6_begin_38 : decode cX6_begin 38 = .ok (.getfield 58, 3) := by decide +kernel
theorem dX6_begin_41 : decode cX6_begin 41 = .ok (.putfield 34, 3) := by decide +kernel
theorem dX6_begin_44 : decode cX6_begin 44 = .ok (.aload_n 0, 1) := by decide +kernel
theorem dX6_begin_45 : decode cX6_begin 45 = .ok (.iconst 0, 1) := by decide +kernel
theorem dX6_begin_46 : decode cX6_begin 46 = .ok (.putfield 37, 3) := by decide +kernel
theorem dX6_begin_49 : decode cX6_begin 49 = .ok (.aload_n 0, 1) := by decide +kernel
theorem dX6_begin_50 : decode cX6_begin 50 = .ok (.aload_n 1, 1) := by decide +kernel
theorem dX6_begin_51 : decode cX6_begin 51 = .ok (.getfield 61, 3) := by decide +kernel
theorem dX6_begin_54 : decode cX6_begin 54 = .ok (.putfield 40, 3) := by decide +kernel
theorem dX6_begin_57 : decode cX6_begin 57 = .ok (.return_, 1) := by decide +kernel
theorem dX6_noteHour_0 : decode cX6_noteHour 0 = .ok (.aload_n 0, 1) := by decide +kernel
theorem dX6_noteHour_1 : decode cX6_noteHour 1 = .ok (.getfield 12, 3) := by decide +kernel
theorem dX6_noteHour_4 : decode cX6_noteHour 4 = .ok (.getfield 64, 3) := by decide +kernel
theorem dX6_noteHour_7 : decode cX6_noteHour 7 = .ok (.iconst (-1), 1) := by decide +kernel
theorem dX6_noteHour_8 : decode cX6_noteHour 8 = .ok (.if_icmp .eq 25, 3) := by decide +kernel
theorem dX6_noteHour_11 : decode cX6_noteHour 11 = .ok (.aload_n 0, 1) := by decide +kernel
theorem dX6_noteHour_12 : decode cX6_noteHour 12 = .ok (.getfield 22, 3) := by decide +kernel
theorem dX6_noteHour_15 : decode cX6_noteHour 15 = .ok (.ifCond .ne 8, 3) := by decide +kernel
theorem dX6_noteHour_18 : decode cX6_noteHour 18 = .ok (.aload_n 0, 1) := by decide +kernel
theorem dX6_noteHour_19 : decode cX6_noteHour 19 = .ok (.iload_n 1, 1) := by decide +kernel
theorem dX6_noteHour_20 : decode cX6_noteHour 20 = .ok (.putfield 25, 3) := by decide +kernel
theorem dX6_noteHour_23 : decode cX6_noteHour 23 = .ok (.aload_n 0, 1) := by decide +kernel
theorem dX6_noteHour_24 : decode cX6_noteHour 24 = .ok (.dup, 1) := by decide +kernel
theorem dX6_noteHour_25 : decode cX6_noteHour 25 = .ok (.getfield 22, 3) := by decide +kernel
theorem dX6_noteHour_28 : decode cX6_noteHour 28 = .ok (.iconst 1, 1) := by decide +kernel
theorem dX6_noteHour_29 : decode cX6_noteHour 29 = .ok (.iadd, 1) := by decide +kernel
theorem dX6_noteHour_30 : decode cX6_noteHour 30 = .ok (.putfield 22, 3) := by decide +kernel
theorem dX6_noteHour_33 : decode cX6_noteHour 33 = .ok (.aload_n 0, 1) := by decide +kernel
theorem dX6_noteHour_34 : decode cX6_noteHour 34 = .ok (.getfield 12, 3) := by decide +kernel
theorem dX6_noteHour_37 : decode cX6_noteHour 37 = .ok (.getfield 67, 3) := by decide +kernel
theorem dX6_noteHour_40 : decode cX6_noteHour 40 = .ok (.ifCond .eq 13, 3) := by decide +kernel
theorem dX6_noteHour_43 : decode cX6_noteHour 43 = .ok (.aload_n 0, 1) := by decide +kernel
theorem dX6_noteHour_44 : decode cX6_noteHour 44 = .ok (.dup, 1) := by decide +kernel
theorem dX6_noteHour_45 : decode cX6_noteHour 45 = .ok (.getfield 18, 3) := by decide +kernel
theorem dX6_noteHour_48 : decode cX6_noteHour 48 = .ok (.iconst 1, 1) := by decide +kernel
theorem dX6_noteHour_49 : decode cX6_noteHour 49 = .ok (.iadd, 1) := by decide +kernel
theorem dX6_noteHour_50 : decode cX6_noteHour 50 = .ok (.putfield 18, 3) := by decide +kernel
theorem dX6_noteHour_53 : decode cX6_noteHour 53 = .ok (.aload_n 0, 1) := by decide +kernel
theorem dX6_noteHour_54 : decode cX6_noteHour 54 = .ok (.getfield 18, 3) := by decide +kernel
theorem dX6_noteHour_57 : decode cX6_noteHour 57 = .ok (.ifCond .ne 13, 3) := by decide +kernel
theorem dX6_noteHour_60 : decode cX6_noteHour 60 = .ok (.aload_n 0, 1) := by decide +kernel
theorem dX6_noteHour_61 : decode cX6_noteHour 61 = .ok (.dup, 1) := by decide +kernel
theorem dX6_noteHour_62 : decode cX6_noteHour 62 = .ok (.getfield 28, 3) := by decide +kernel
theorem dX6_noteHour_65 : decode cX6_noteHour 65 = .ok (.iconst 1, 1) := by decide +kernel
theorem dX6_noteHour_66 : decode cX6_noteHour 66 = .ok (.iadd, 1) := by decide +kernel
theorem dX6_noteHour_67 : decode cX6_noteHour 67 = .ok (.putfield 28, 3) := by decide +kernel
theorem dX6_noteHour_70 : decode cX6_noteHour 70 = .ok (.aload_n 0, 1) := by decide +kernel
theorem dX6_noteHour_71 : decode cX6_noteHour 71 = .ok (.getfield 12, 3) := by decide +kernel
theorem dX6_noteHour_74 : decode cX6_noteHour 74 = .ok (.getfield 58, 3) := by decide +kernel
theorem dX6_noteHour_77 : decode cX6_noteHour 77 = .ok (.aload_n 0, 1) := by decide +kernel
theorem dX6_noteHour_78 : decode cX6_noteHour 78 = .ok (.getfield 34, 3) := by decide +kernel
theorem dX6_noteHour_81 : decode cX6_noteHour 81 = .ok (.if_icmp .le 21, 3) := by decide +kernel
theorem dX6_noteHour_84 : decode cX6_noteHour 84 = .ok (.aload_n 0, 1) := by decide +kernel
theorem dX6_noteHour_85 : decode cX6_noteHour 85 = .ok (.aload_n 0, 1) := by decide +kernel
theorem dX6_noteHour_86 : decode cX6_noteHour 86 = .ok (.getfield 12, 3) := by decide +kernel
theorem dX6_noteHour_89 : decode cX6_noteHour 89 = .ok (.getfield 58, 3) := by decide +kernel
theorem dX6_noteHour_92 : decode cX6_noteHour 92 = .ok (.putfield 34, 3) := by decide +kernel
theorem dX6_noteHour_95 : decode cX6_noteHour 95 = .ok (.aload_n 0, 1) := by decide +kernel
theorem dX6_noteHour_96 : decode cX6_noteHour 96 = .ok (.iload_n 1, 1) := by decide +kernel
theorem dX6_noteHour_97 : decode cX6_noteHour 97 = .ok (.iconst 1, 1) := by decide +kernel
theorem dX6_noteHour_98 : decode cX6_noteHour 98 = .ok (.iadd, 1) := by decide +kernel
theorem dX6_noteHour_99 : decode cX6_noteHour 99 = .ok (.putfield 37, 3) := by decide +kernel
theorem dX6_noteHour_102 : decode cX6_noteHour 102 = .ok (.aload_n 0, 1) := by decide +kernel
theorem dX6_noteHour_103 : decode cX6_noteHour 103 = .ok (.aload_n 0, 1) := by decide +kernel
theorem dX6_noteHour_104 : decode cX6_noteHour 104 = .ok (.getfield 31, 3) := by decide +kernel
theorem dX6_noteHour_107 : decode cX6_noteHour 107 = .ok (.aload_n 0, 1) := by decide +kernel
theorem dX6_noteHour_108 : decode cX6_noteHour 108 = .ok (.getfield 12, 3) := by decide +kernel
theorem dX6_noteHour_111 : decode cX6_noteHour 111 = .ok (.getfield 58, 3) := by decide +kernel
theorem dX6_noteHour_114 : decode cX6_noteHour 114 = .ok (.invokestatic 71, 3) := by decide +kernel
theorem dX6_noteHour_117 : decode cX6_noteHour 117 = .ok (.putfield 31, 3) := by decide +kernel
theorem dX6_noteHour_120 : decode cX6_noteHour 120 = .ok (.aload_n 0, 1) := by decide +kernel
theorem dX6_noteHour_121 : decode cX6_noteHour 121 = .ok (.aload_n 0, 1) := by decide +kernel
theorem dX6_noteHour_122 : decode cX6_noteHour 122 = .ok (.getfield 40, 3) := by decide +kernel
theorem dX6_noteHour_125 : decode cX6_noteHour 125 = .ok (.aload_n 0, 1) := by decide +kernel
theorem dX6_noteHour_126 : decode cX6_noteHour 126 = .ok (.getfield 12, 3) := by decide +kernel
theorem dX6_noteHour_129 : decode cX6_noteHour 129 = .ok (.getfield 61, 3) := by decide +kernel
theorem dX6_noteHour_132 : decode cX6_noteHour 132 = .ok (.invokestatic 71, 3) := by decide +kernel
theorem dX6_noteHour_135 : decode cX6_noteHour 135 = .ok (.putfield 40, 3) := by decide +kernel
theorem dX6_noteHour_138 : decode cX6_noteHour 138 = .ok (.return_, 1) := by decide +kernel
theorem dX7_init_0 : decode cX7_init 0 = .ok (.aload_n 0, 1) := by decide +kernel
theorem dX7_init_1 : decode cX7_init 1 = .ok (.invokespecial 1, 3) := by decide +kernel
theorem dX7_init_4 : decode cX7_init 4 = .ok (.aload_n 0, 1) := by decide +kernel
theorem dX7_init_5 : decode cX7_init 5 = .ok (.new 7, 3) := by decide +kernel
theorem dX7_init_8 : decode cX7_init 8 = .ok (.dup, 1) := by decide +kernel
theorem dX7_init_9 : decode cX7_init 9 = .ok (.invokespecial 9, 3) := by decide +kernel
theorem dX7_init_12 : decode cX7_init 12 = .ok (.putfield 10, 3) := by decide +kernel
theorem dX7_init_15 : decode cX7_init 15 = .ok (.aload_n 0, 1) := by decide +kernel
theorem dX7_init_16 : decode cX7_init 16 = .ok (.new 7, 3) := by decide +kernel
theorem dX7_init_19 : decode cX7_init 19 = .ok (.dup, 1) := by decide +kernel
theorem dX7_init_20 : decode cX7_init 20 = .ok (.invokespecial 9, 3) := by decide +kernel
theorem dX7_init_23 : decode cX7_init 23 = .ok (.putfield 16, 3) := by decide +kernel
theorem dX7_init_26 : decode cX7_init 26 = .ok (.aload_n 0, 1) := by decide +kernel
theorem dX7_init_27 : decode cX7_init 27 = .ok (.new 7, 3) := by decide +kernel
theorem dX7_init_30 : decode cX7_init 30 = .ok (.dup, 1) := by decide +kernel
theorem dX7_init_31 : decode cX7_init 31 = .ok (.invokespecial 9, 3) := by decide +kernel
theorem dX7_init_34 : decode cX7_init 34 = .ok (.putfield 19, 3) := by decide +kernel
theorem dX7_init_37 : decode cX7_init 37 = .ok (.aload_n 0, 1) := by decide +kernel
theorem dX7_init_38 : decode cX7_init 38 = .ok (.new 7, 3) := by decide +kernel
theorem dX7_init_41 : decode cX7_init 41 = .ok (.dup, 1) := by decide +kernel
theorem dX7_init_42 : decode cX7_init 42 = .ok (.invokespecial 9, 3) := by decide +kernel
theorem dX7_init_45 : decode cX7_init 45 = .ok (.putfield 22, 3) := by decide +kernel
theorem dX7_init_48 : decode cX7_init 48 = .ok (.aload_n 0, 1) := by decide +kernel
theorem dX7_init_49 : decode cX7_init 49 = .ok (.new 25, 3) := by decide +kernel
theorem dX7_init_52 : decode cX7_init 52 = .ok (.dup, 1) := by decide +kernel
theorem dX7_init_53 : decode cX7_init 53 = .ok (.invokespecial 27, 3) := by decide +kernel
theorem dX7_init_56 : decode cX7_init 56 = .ok (.putfield 28, 3) := by decide +kernel
theorem dX7_init_59 : decode cX7_init 59 = .ok (.aload_n 0, 1) := by decide +kernel
theorem dX7_init_60 : decode cX7_init 60 = .ok (.new 25, 3) := by decide +kernel
theorem dX7_init_63 : decode cX7_init 63 = .ok (.dup, 1) := by decide +kernel
theorem dX7_init_64 : decode cX7_init 64 = .ok (.invokespecial 27, 3) := by decide +kernel
theorem dX7_init_67 : decode cX7_init 67 = .ok (.putfield 32, 3) := by decide +kernel
theorem dX7_init_70 : decode cX7_init 70 = .ok (.aload_n 0, 1) := by decide +kernel
theorem dX7_init_71 : decode cX7_init 71 = .ok (.new 25, 3) := by decide +kernel
theorem dX7_init_74 : decode cX7_init 74 = .ok (.dup, 1) := by decide +kernel
theorem dX7_init_75 : decode cX7_init 75 = .ok (.invokespecial 27, 3) := by decide +kernel
theorem dX7_init_78 : decode cX7_init 78 = .ok (.putfield 35, 3) := by decide +kernel
theorem dX7_init_81 : decode cX7_init 81 = .ok (.aload_n 0, 1) := by decide +kernel
theorem dX7_init_82 : decode cX7_init 82 = .ok (.new 38, 3) := by decide +kernel
theorem dX7_init_85 : decode cX7_init 85 = .ok (.dup, 1) := by decide +kernel
theorem dX7_init_86 : decode cX7_init 86 = .ok (.invokespecial 40, 3) := by decide +kernel
theorem dX7_init_89 : decode cX7_init 89 = .ok (.putfield 41, 3) := by decide +kernel
theorem dX7_init_92 : decode cX7_init 92 = .ok (.aload_n 0, 1) := by decide +kernel
theorem dX7_init_93 : decode cX7_init 93 = .ok (.new 45, 3) := by decide +kernel
theorem dX7_init_96 : decode cX7_init 96 = .ok (.dup, 1) := by decide +kernel
theorem dX7_init_97 : decode cX7_init 97 = .ok (.invokespecial 47, 3) := by decide +kernel
theorem dX7_init_100 : decode cX7_init 100 = .ok (.putfield 48, 3) := by decide +kernel
theorem dX7_init_103 : decode cX7_init 103 = .ok (.aload_n 0, 1) := by decide +kernel
theorem dX7_init_104 : decode cX7_init 104 = .ok (.new 52, 3) := by decide +kernel
theorem dX7_init_107 : decode cX7_init 107 = .ok (.dup, 1) := by decide +kernel
theorem dX7_init_108 : decode cX7_init 108 = .ok (.invokespecial 54, 3) := by decide +kernel
theorem dX7_init_111 : decode cX7_init 111 = .ok (.putfield 55, 3) := by decide +kernel
theorem dX7_init_114 : decode cX7_init 114 = .ok (.aload_n 0, 1) := by decide +kernel
theorem dX7_init_115 : decode cX7_init 115 = .ok (.new 59, 3) := by decide +kernel
theorem dX7_init_118 : decode cX7_init 118 = .ok (.dup, 1) := by decide +kernel
theorem dX7_init_119 : decode cX7_init 119 = .ok (.invokespecial 61, 3) := by decide +kernel
theorem dX7_init_122 : decode cX7_init 122 = .ok (.putfield 62, 3) := by decide +kernel
theorem dX7_init_125 : decode cX7_init 125 = .ok (.aload_n 0, 1) := by decide +kernel
theorem dX7_init_126 : decode cX7_init 126 = .ok (.new 66, 3) := by decide +kernel
theorem dX7_init_129 : decode cX7_init 129 = .ok (.dup, 1) := by decide +kernel
theorem dX7_init_130 : decode cX7_init 130 = .ok (.invokespecial 68, 3) := by decide +kernel
theorem dX7_init_133 : decode cX7_init 133 = .ok (.putfield 69, 3) := by decide +kernel
theorem dX7_init_136 : decode cX7_init 136 = .ok (.aload_n 0, 1) := by decide +kernel
theorem dX7_init_137 : decode cX7_init 137 = .ok (.bipush 48, 2) := by decide +kernel
theorem dX7_init_139 : decode cX7_init 139 = .ok (.newarray .int, 2) := by decide +kernel
theorem dX7_init_141 : decode cX7_init 141 = .ok (.putfield 73, 3) := by decide +kernel
theorem dX7_init_144 : decode cX7_init 144 = .ok (.aload_n 0, 1) := by decide +kernel
theorem dX7_init_145 : decode cX7_init 145 = .ok (.bipush 100, 2) := by decide +kernel
theorem dX7_init_147 : decode cX7_init 147 = .ok (.newarray .boolean, 2) := by decide +kernel
theorem dX7_init_149 : decode cX7_init 149 = .ok (.putfield 77, 3) := by decide +kernel
theorem dX7_init_152 : decode cX7_init 152 = .ok (.aload_n 0, 1) := by decide +kernel
theorem dX7_init_153 : decode cX7_init 153 = .ok (.iconst 5, 1) := by decide +kernel
theorem dX7_init_154 : decode cX7_init 154 = .ok (.newarray .int, 2) := by decide +kernel
theorem dX7_init_156 : decode cX7_init 156 = .ok (.putfield 81, 3) := by decide +kernel
theorem dX7_init_159 : decode cX7_init 159 = .ok (.aload_n 0, 1) := by decide +kernel
theorem dX7_init_160 : decode cX7_init 160 = .ok (.iconst 1, 1) := by decide +kernel
theorem dX7_init_161 : decode cX7_init 161 = .ok (.putfield 84, 3) := by decide +kernel
theorem dX7_init_164 : decode cX7_init 164 = .ok (.aload_n 0, 1) := by decide +kernel
theorem dX7_init_165 : decode cX7_init 165 = .ok (.iconst 1, 1) := by decide +kernel
theorem dX7_init_166 : decode cX7_init 166 = .ok (.putfield 88, 3) := by decide +kernel
theorem dX7_init_169 : decode cX7_init 169 = .ok (.aload_n 0, 1) := by decide +kernel
theorem dX7_init_170 : decode cX7_init 170 = .ok (.iconst 0, 1) := by decide +kernel
theorem dX7_init_171 : decode cX7_init 171 = .ok (.putfield 91, 3) := by decide +kernel
theorem dX7_init_174 : decode cX7_init 174 = .ok (.return_, 1) := by decide +kernel
theorem dX7_row_0 : decode cX7_row 0 = .ok (.iload_n 1, 1) := by decide +kernel
theorem dX7_row_1 : decode cX7_row 1 = .ok (.invokestatic 95, 3) := by decide +kernel
theorem dX7_row_4 : decode cX7_row 4 = .ok (.ifCond .eq 22, 3) := by decide +kernel
theorem dX7_row_7 : decode cX7_row 7 = .ok (.iload_n 2, 1) := by decide +kernel
theorem dX7_row_8 : decode cX7_row 8 = .ok (.iconst 0, 1) := by decide +kernel
theorem dX7_row_9 : decode cX7_row 9 = .ok (.iconst 4, 1) := by decide +kernel
theorem dX7_row_10 : decode cX7_row 10 = .ok (.invokestatic 99, 3) := by decide +kernel
theorem dX7_row_13 : decode cX7_row 13 = .ok (.ifCond .eq 13, 3) := by decide +kernel
theorem dX7_row_16 : decode cX7_row 16 = .ok (.iload_n 3, 1) := by decide +kernel
theorem dX7_row_17 : decode cX7_row 17 = .ok (.iconst 0, 1) := by decide +kernel
theorem dX7_row_18 : decode cX7_row 18 = .ok (.bipush 40, 2) := by decide +kernel
theorem dX7_row_20 : decode cX7_row 20 = .ok (.invokestatic 99, 3) := by decide +kernel
theorem dX7_row_23 : decode cX7_row 23 = .ok (.ifCond .ne 10, 3) := by decide +kernel
theorem dX7_row_26 : decode cX7_row 26 = .ok (.aload_n 0, 1) := by decide +kernel
theorem dX7_row_27 : decode cX7_row 27 = .ok (.bipush (-2), 2) := by decide +kernel
theorem dX7_row_29 : decode cX7_row 29 = .ok (.invokevirtual 103, 3) := by decide +kernel
theorem dX7_row_32 : decode cX7_row 32 = .ok (.ireturn, 1) := by decide +kernel
theorem dX7_row_33 : decode cX7_row 33 = .ok (.aload_n 0, 1) := by decide +kernel
theorem dX7_row_34 : decode cX7_row 34 = .ok (.getfield 41, 3) := by decide +kernel
theorem dX7_row_37 : decode cX7_row 37 = .ok (.iload_n 1, 1) := by decide +kernel
theorem dX7_row_38 : decode cX7_row 38 = .ok (.iload_n 2, 1) := by decide +kernel
theorem dX7_row_39 : decode cX7_row 39 = .ok (.iload_n 3, 1) := by decide +kernel
theorem dX7_row_40 : decode cX7_row 40 = .ok (.invokevirtual 107, 3) := by decide +kernel
theorem dX7_row_43 : decode cX7_row 43 = .ok (.iconst 1, 1) := by decide +kernel
theorem dX7_row_44 : decode cX7_row 44 = .ok (.ireturn, 1) := by decide +kernel
theorem dX7_set_0 : decode cX7_set 0 = .ok (.aload_n 0, 1) := by decide +kernel
theorem dX7_set_1 : decode cX7_set 1 = .ok (.iload_n 1, 1) := by decide +kernel
theorem dX7_set_2 : decode cX7_set 2 = .ok (.iconst 1, 1) := by decide +kernel
theorem dX7_set_3 : decode cX7_set 3 = .ok (.invokevirtual 111, 3) := by decide +kernel
theorem dX7_set_6 : decode cX7_set 6 = .ok (.istore 5, 2) := by decide +kernel
theorem dX7_set_8 : decode cX7_set 8 = .ok (.iload 5, 2) := by decide +kernel
theorem dX7_set_10 : decode cX7_set 10 = .ok (.ifCond .eq 10, 3) := by decide +kernel
theorem dX7_set_13 : decode cX7_set 13 = .ok (.aload_n 0, 1) := by decide +kernel
theorem dX7_set_14 : decode cX7_set 14 = .ok (.iload 5, 2) := by decide +kernel
theorem dX7_set_16 : decode cX7_set 16 = .ok (.invokevirtual 103, 3) := by decide +kernel
theorem dX7_set_19 : decode cX7_set 19 = .ok (.ireturn, 1) := by decide +kernel
theorem dX7_set_20 : decode cX7_set 20 = .ok (.aload_n 0, 1) := by decide +kernel
theorem dX7_set_21 : decode cX7_set 21 = .ok (.getfield 41, 3) := by decide +kernel
theorem dX7_set_24 : decode cX7_set 24 = .ok (.iload_n 1, 1) := by decide +kernel
theorem dX7_set_25 : decode cX7_set 25 = .ok (.iload_n 2, 1) := by decide +kernel
theorem dX7_set_26 : decode cX7_set 26 = .ok (.invokevirtual 115, 3) := by decide +kernel
theorem dX7_set_29 : decode cX7_set 29 = .ok (.ifCond .ne 10, 3) := by decide +kernel
theorem dX7_set_32 : decode cX7_set 32 = .ok (.aload_n 0, 1) := by decide +kernel
theorem dX7_set_33 : decode cX7_set 33 = .ok (.bipush (-2), 2) := by decide +kernel
theorem dX7_set_35 : decode cX7_set 35 = .ok (.invokevirtual 103, 3) := by decide +kernel
theorem dX7_set_38 : decode cX7_set 38 = .ok (.ireturn, 1) := by decide +kernel
theorem dX7_set_39 : decode cX7_set 39 = .ok (.aload_n 0, 1) := by decide +kernel
theorem dX7_set_40 : decode cX7_set 40 = .ok (.getfield 41, 3) := by decide +kernel
theorem dX7_set_43 : decode cX7_set 43 = .ok (.iload_n 1, 1) := by decide +kernel
theorem dX7_set_44 : decode cX7_set 44 = .ok (.iload_n 2, 1) := by decide +kernel
theorem dX7_set_45 : decode cX7_set 45 = .ok (.lload_n 3, 1) := by decide +kernel
theorem dX7_set_46 : decode cX7_set 46 = .ok (.invokevirtual 119, 3) := by decide +kernel
theorem dX7_set_49 : decode cX7_set 49 = .ok (.iconst 1, 1) := by decide +kernel
theorem dX7_set_50 : decode cX7_set 50 = .ok (.ireturn, 1) := by decide +kernel
theorem dX7_copy_0 : decode cX7_copy 0 = .ok (.iload_n 1, 1) := by decide +kernel
theorem dX7_copy_1 : decode cX7_copy 1 = .ok (.invokestatic 95, 3) := by decide +kernel
theorem dX7_copy_4 : decode cX7_copy 4 = .ok (.ifCond .eq 10, 3) := by decide +kernel
theorem dX7_copy_7 : decode cX7_copy 7 = .ok (.iload_n 2, 1) := by decide +kernel
theorem dX7_copy_8 : decode cX7_copy 8 = .ok (.invokestatic 95, 3) := by decide +kernel
theorem dX7_copy_11 : decode cX7_copy 11 = .ok (.ifCond .ne 10, 3) := by decide +kernel
theorem dX7_copy_14 : decode cX7_copy 14 = .ok (.aload_n 0, 1) := by decide +kernel
theorem dX7_copy_15 : decode cX7_copy 15 = .ok (.bipush (-2), 2) := by decide +kernel
theorem dX7_copy_17 : decode cX7_copy 17 = .ok (.invokevirtual 103, 3) := by decide +kernel
theorem dX7_copy_20 : decode cX7_copy 20 = .ok (.ireturn, 1) := by decide +kernel
theorem dX7_copy_21 : decode cX7_copy 21 = .ok (.aload_n 0, 1) := by decide +kernel
theorem dX7_copy_22 : decode cX7_copy 22 = .ok (.getfield 41, 3) := by decide +kernel
theorem dX7_copy_25 : decode cX7_copy 25 = .ok (.iload_n 1, 1) := by decide +kernel
theorem dX7_copy_26 : decode cX7_copy 26 = .ok (.invokevirtual 123, 3) := by decide +kernel
theorem dX7_copy_29 : decode cX7_copy 29 = .ok (.ifCond .ne 26, 3) := by decide +kernel
theorem dX7_copy_32 : decode cX7_copy 32 = .ok (.aload_n 0, 1) := by decide +kernel
theorem dX7_copy_33 : decode cX7_copy 33 = .ok (.getfield 41, 3) := by decide +kernel
theorem dX7_copy_36 : decode cX7_copy 36 = .ok (.iload_n 2, 1) := by decide +kernel
theorem dX7_copy_37 : decode cX7_copy 37 = .ok (.invokevirtual 123, 3) := by decide +kernel
theorem dX7_copy_40 : decode cX7_copy 40 = .ok (.ifCond .ne 15, 3) := by decide +kernel
theorem dX7_copy_43 : decode cX7_copy 43 = .ok (.aload_n 0, 1) := by decide +kernel
theorem dX7_copy_44 : decode cX7_copy 44 = .ok (.getfield 41, 3) := by decide +kernel
theorem dX7_copy_47 : decode cX7_copy 47 = .ok (.iload_n 1, 1) := by decide +kernel
theorem dX7_copy_48 : decode cX7_copy 48 = .ok (.iload_n 2, 1) := by decide +kernel
theorem dX7_copy_49 : decode cX7_copy 49 = .ok (.invokevirtual 126, 3) := by decide +kernel
theorem dX7_copy_52 : decode cX7_copy 52 = .ok (.ifCond .eq 10, 3) := by decide +kernel
theorem dX7_copy_55 : decode cX7_copy 55 = .ok (.aload_n 0, 1) := by decide +kernel
theorem dX7_copy_56 : decode cX7_copy 56 = .ok (.bipush (-3), 2) := by decide +kernel
theorem dX7_copy_58 : decode cX7_copy 58 = .ok (.invokevirtual 103, 3) := by decide +kernel
theorem dX7_copy_61 : decode cX7_copy 61 = .ok (.ireturn, 1) := by decide +kernel
theorem dX7_copy_62 : decode cX7_copy 62 = .ok (.aload_n 0, 1) := by decide +kernel
theorem dX7_copy_63 : decode cX7_copy 63 = .ok (.getfield 41, 3) := by decide +kernel
theorem dX7_copy_66 : decode cX7_copy 66 = .ok (.iload_n 1, 1) := by decide +kernel
theorem dX7_copy_67 : decode cX7_copy 67 = .ok (.invokevirtual 129, 3) := by decide +kernel
theorem dX7_copy_70 : decode cX7_copy 70 = .ok (.ifCond .eq 14, 3) := by decide +kernel
theorem dX7_copy_73 : decode cX7_copy 73 = .ok (.aload_n 0, 1) := by decide +kernel
theorem dX7_copy_74 : decode cX7_copy 74 = .ok (.getfield 41, 3) := by decide +kernel
theorem dX7_copy_77 : decode cX7_copy 77 = .ok (.iload_n 2, 1) := by decide +kernel
theorem dX7_copy_78 : decode cX7_copy 78 = .ok (.invokevirtual 129, 3) := by decide +kernel
theorem dX7_copy_81 : decode cX7_copy 81 = .ok (.ifCond .ne 10, 3) := by decide +kernel
theorem dX7_copy_84 : decode cX7_copy 84 = .ok (.aload_n 0, 1) := by decide +kernel
theorem dX7_copy_85 : decode cX7_copy 85 = .ok (.bipush (-4), 2) := by decide +kernel
theorem dX7_copy_87 : decode cX7_copy 87 = .ok (.invokevirtual 103, 3) := by decide +kernel
theorem dX7_copy_90 : decode cX7_copy 90 = .ok (.ireturn, 1) := by decide +kernel
theorem dX7_copy_91 : decode cX7_copy 91 = .ok (.aload_n 0, 1) := by decide +kernel
theorem dX7_copy_92 : decode cX7_copy 92 = .ok (.getfield 41, 3) := by decide +kernel
theorem dX7_copy_95 : decode cX7_copy 95 = .ok (.iload_n 1, 1) := by decide +kernel
theorem dX7_copy_96 : decode cX7_copy 96 = .ok (.iload_n 3, 1) := by decide +kernel
theorem dX7_copy_97 : decode cX7_copy 97 = .ok (.iload 5, 2) := by decide +kernel
theorem dX7_copy_99 : decode cX7_copy 99 = .ok (.invokevirtual 132, 3) := by decide +kernel
theorem dX7_copy_102 : decode cX7_copy 102 = .ok (.ifCond .eq 18, 3) := by decide +kernel
theorem dX7_copy_105 : decode cX7_copy 105 = .ok (.aload_n 0, 1) := by decide +kernel
theorem dX7_copy_106 : decode cX7_copy 106 = .ok (.getfield 41, 3) := by decide +kernel
theorem dX7_copy_109 : decode cX7_copy 109 = .ok (.iload_n 2, 1) := by decide +kernel
theorem dX7_copy_110 : decode cX7_copy 110 = .ok (.iload 4, 2) := by decide +kernel
theorem dX7_copy_112 : decode cX7_copy 112 = .ok (.iload 5, 2) := by decide +kernel
theorem dX7_copy_114 : decode cX7_copy 114 = .ok (.invokevirtual 132, 3) := by decide +kernel
theorem dX7_copy_117 : decode cX7_copy 117 = .ok (.ifCond .ne 10, 3) := by decide +kernel
theorem dX7_copy_120 : decode cX7_copy 120 = .ok (.aload_n 0, 1) := by decide +kernel
theorem dX7_copy_121 : decode cX7_copy 121 = .ok (.bipush (-2), 2) := by decide +kernel
theorem dX7_copy_123 : decode cX7_copy 123 = .ok (.invokevirtual 103, 3) := by decide +kernel
theorem dX7_copy_126 : decode cX7_copy 126 = .ok (.ireturn, 1) := by decide +kernel
theorem dX7_copy_127 : decode cX7_copy 127 = .ok (.aload_n 0, 1) := by decide +kernel
theorem dX7_copy_128 : decode cX7_copy 128 = .ok (.getfield 41, 3) := by decide +kernel
theorem dX7_copy_131 : decode cX7_copy 131 = .ok (.iload_n 1, 1) := by decide +kernel
theorem dX7_copy_132 : decode cX7_copy 132 = .ok (.iload_n 2, 1) := by decide +kernel
theorem dX7_copy_133 : decode cX7_copy 133 = .ok (.iload_n 3, 1) := by decide +kernel
theorem dX7_copy_134 : decode cX7_copy 134 = .ok (.iload 4, 2) := by decide +kernel
theorem dX7_copy_136 : decode cX7_copy 136 = .ok (.iload 5, 2) := by decide +kernel
theorem dX7_copy_138 : decode cX7_copy 138 = .ok (.invokevirtual 135, 3) := by decide +kernel
theorem dX7_copy_141 : decode cX7_copy 141 = .ok (.iload 5, 2) := by decide +kernel
theorem dX7_copy_143 : decode cX7_copy 143 = .ok (.ireturn, 1) := by decide +kernel
theorem dX7_element_0 : decode cX7_element 0 = .ok (.aload_n 0, 1) := by decide +kernel
theorem dX7_element_1 : decode cX7_element 1 = .ok (.getfield 41, 3) := by decide +kernel
theorem dX7_element_4 : decode cX7_element 4 = .ok (.iload_n 1, 1) := by decide +kernel
theorem dX7_element_5 : decode cX7_element 5 = .ok (.iload_n 2, 1) := by decide +kernel
theorem dX7_element_6 : decode cX7_element 6 = .ok (.invokevirtual 139, 3) := by decide +kernel
theorem dX7_element_9 : decode cX7_element 9 = .ok (.lreturn, 1) := by decide +kernel
theorem dX7_holds_0 : decode cX7_holds 0 = .ok (.aload_n 0, 1) := by decide +kernel
theorem dX7_holds_1 : decode cX7_holds 1 = .ok (.getfield 41, 3) := by decide +kernel
theorem dX7_holds_4 : decode cX7_holds 4 = .ok (.iload_n 1, 1) := by decide +kernel
theorem dX7_holds_5 : decode cX7_holds 5 = .ok (.invokevirtual 143, 3) := by decide +kernel
theorem dX7_holds_8 : decode cX7_holds 8 = .ok (.ireturn, 1) := by decide +kernel
theorem dX7_show_0 : decode cX7_show 0 = .ok (.iload_n 1, 1) := by decide +kernel
theorem dX7_show_1 : decode cX7_show 1 = .ok (.invokestatic 95, 3) := by decide +kernel
theorem dX7_show_4 : decode cX7_show 4 = .ok (.ifCond .eq 19, 3) := by decide +kernel
theorem dX7_show_7 : decode cX7_show 7 = .ok (.iload_n 2, 1) := by decide +kernel
theorem dX7_show_8 : decode cX7_show 8 = .ok (.iconst (-1), 1) := by decide +kernel
theorem dX7_show_9 : decode cX7_show 9 = .ok (.if_icmp .eq 21, 3) := by decide +kernel
theorem dX7_show_12 : decode cX7_show 12 = .ok (.aload_n 0, 1) := by decide +kernel
theorem dX7_show_13 : decode cX7_show 13 = .ok (.getfield 28, 3) := by decide +kernel
theorem dX7_show_16 : decode cX7_show 16 = .ok (.iload_n 2, 1) := by decide +kernel
theorem dX7_show_17 : decode cX7_show 17 = .ok (.invokevirtual 146, 3) := by decide +kernel
theorem dX7_show_20 : decode cX7_show 20 = .ok (.ifCond .ne 10, 3) := by decide +kernel
theorem dX7_show_23 : decode cX7_show 23 = .ok (.aload_n 0, 1) := by decide +kernel
theorem dX7_show_24 : decode cX7_show 24 = .ok (.bipush (-2), 2) := by decide +kernel
theorem dX7_show_26 : decode cX7_show 26 = .ok (.invokevirtual 103, 3) := by decide +kernel
theorem dX7_show_29 : decode cX7_show 29 = .ok (.ireturn, 1) := by decide +kernel
theorem dX7_show_30 : decode cX7_show 30 = .ok (.aload_n 0, 1) := by decide +kernel
theorem dX7_show_31 : decode cX7_show 31 = .ok (.getfield 41, 3) := by decide +kernel
theorem dX7_show_34 : decode cX7_show 34 = .ok (.iload_n 1, 1) := by decide +kernel
theorem dX7_show_35 : decode cX7_show 35 = .ok (.iload_n 2, 1) := by decide +kernel
theorem dX7_show_36 : decode cX7_show 36 = .ok (.invokevirtual 149, 3) := by decide +kernel
theorem dX7_show_39 : decode cX7_show 39 = .ok (.iconst 1, 1) := by decide +kernel
theorem dX7_show_40 : decode cX7_show 40 = .ok (.ireturn, 1) := by decide +kernel
theorem dX7_says_0 : decode cX7_says 0 = .ok (.iload_n 1, 1) := by decide +kernel
theorem dX7_says_1 : decode cX7_says 1 = .ok (.invokestatic 95, 3) := by decide +kernel
theorem dX7_says_4 : decode cX7_says 4 = .ok (.ifCond .eq 12, 3) := by decide +kernel
theorem dX7_says_7 : decode cX7_says 7 = .ok (.iload_n 2, 1) := by decide +kernel
theorem dX7_says_8 : decode cX7_says 8 = .ok (.iconst 0, 1) := by decide +kernel
theorem dX7_says_9 : decode cX7_says 9 = .ok (.iconst 5, 1) := by decide +kernel
theorem dX7_says_10 : decode cX7_says 10 = .ok (.invokestatic 99, 3) := by decide +kernel
theorem dX7_says_13 : decode cX7_says 13 = .ok (.ifCond .ne 10, 3) := by decide +kernel
theorem dX7_says_16 : decode cX7_says 16 = .ok (.aload_n 0, 1) := by decide +kernel
theorem dX7_says_17 : decode cX7_says 17 = .ok (.bipush (-2), 2) := by decide +kernel
theorem dX7_says_19 : decode cX7_says 19 = .ok (.invokevirtual 103, 3) := by decide +kernel
theorem dX7_says_22 : decode cX7_says 22 = .ok (.ireturn, 1) := by decide +kernel
theorem dX7_says_23 : decode cX7_says 23 = .ok (.aload_n 0, 1) := by decide +kernel
theorem dX7_says_24 : decode cX7_says 24 = .ok (.getfield 41, 3) := by decide +kernel
theorem dX7_says_27 : decode cX7_says 27 = .ok (.iload_n 1, 1) := by decide +kernel
theorem dX7_says_28 : decode cX7_says 28 = .ok (.invokevirtual 129, 3) := by decide +kernel
theorem dX7_says_31 : decode cX7_says 31 = .ok (.ifCond .eq 10, 3) := by decide +kernel
theorem dX7_says_34 : decode cX7_says 34 = .ok (.aload_n 0, 1) := by decide +kernel
theorem dX7_says_35 : decode cX7_says 35 = .ok (.bipush (-3), 2) := by decide +kernel
theorem dX7_says_37 : decode cX7_says 37 = .ok (.invokevirtual 103, 3) := by decide +kernel
theorem dX7_says_40 : decode cX7_says 40 = .ok (.ireturn, 1) := by decide +kernel
theorem dX7_says_41 : decode cX7_says 41 = .ok (.aload_n 0, 1) := by decide +kernel
theorem dX7_says_42 : decode cX7_says 42 = .ok (.getfield 41, 3) := by decide +kernel
theorem dX7_says_45 : decode cX7_says 45 = .ok (.iload_n 1, 1) := by decide +kernel
theorem dX7_says_46 : decode cX7_says 46 = .ok (.invokevirtual 123, 3) := by decide +kernel
theorem dX7_says_49 : decode cX7_says 49 = .ok (.ifCond .ne 10, 3) := by decide +kernel
theorem dX7_says_52 : decode cX7_says 52 = .ok (.aload_n 0, 1) := by decide +kernel
theorem dX7_says_53 : decode cX7_says 53 = .ok (.bipush (-4), 2) := by decide +kernel
theorem dX7_says_55 : decode cX7_says 55 = .ok (.invokevirtual 103, 3) := by decide +kernel
theorem dX7_says_58 : decode cX7_says 58 = .ok (.ireturn, 1) := by decide +kernel
theorem dX7_says_59 : decode cX7_says 59 = .ok (.aload_n 0, 1) := by decide +kernel
theorem dX7_says_60 : decode cX7_says 60 = .ok (.getfield 41, 3) := by decide +kernel
theorem dX7_says_63 : decode cX7_says 63 = .ok (.iload_n 1, 1) := by decide +kernel
theorem dX7_says_64 : decode cX7_says 64 = .ok (.invokevirtual 143, 3) := by decide +kernel
theorem dX7_says_67 : decode cX7_says 67 = .ok (.bipush 10, 2) := by decide +kernel
theorem dX7_says_69 : decode cX7_says 69 = .ok (.isub, 1) := by decide +kernel
theorem dX7_says_70 : decode cX7_says 70 = .ok (.istore_n 3, 1) := by decide +kernel
theorem dX7_says_71 : decode cX7_says 71 = .ok (.aload_n 0, 1) := by decide +kernel
theorem dX7_says_72 : decode cX7_says 72 = .ok (.getfield 28, 3) := by decide +kernel
theorem dX7_says_75 : decode cX7_says 75 = .ok (.iload_n 3, 1) := by decide +kernel
theorem dX7_says_76 : decode cX7_says 76 = .ok (.invokevirtual 153, 3) := by decide +kernel
theorem dX7_says_79 : decode cX7_says 79 = .ok (.iload_n 2, 1) := by decide +kernel
theorem dX7_says_80 : decode cX7_says 80 = .ok (.invokestatic 156, 3) := by decide +kernel
theorem dX7_says_83 : decode cX7_says 83 = .ok (.ifCond .ne 10, 3) := by decide +kernel
theorem dX7_says_86 : decode cX7_says 86 = .ok (.aload_n 0, 1) := by decide +kernel
theorem dX7_says_87 : decode cX7_says 87 = .ok (.bipush (-3), 2) := by decide +kernel
theorem dX7_says_89 : decode cX7_says 89 = .ok (.invokevirtual 103, 3) := by decide +kernel
theorem dX7_says_92 : decode cX7_says 92 = .ok (.ireturn, 1) := by decide +kernel
theorem dX7_says_93 : decode cX7_says 93 = .ok (.iload_n 2, 1) := by decide +kernel
theorem dX7_says_94 : decode cX7_says 94 = .ok (.ifCond .ne 14, 3) := by decide +kernel
theorem dX7_says_97 : decode cX7_says 97 = .ok (.aload_n 0, 1) := by decide +kernel
theorem dX7_says_98 : decode cX7_says 98 = .ok (.getfield 28, 3) := by decide +kernel
theorem dX7_says_101 : decode cX7_says 101 = .ok (.iload_n 3, 1) := by decide +kernel
theorem dX7_says_102 : decode cX7_says 102 = .ok (.invokevirtual 159, 3) := by decide +kernel
theorem dX7_says_105 : decode cX7_says 105 = .ok (.goto 15, 3) := by decide +kernel
theorem dX7_says_108 : decode cX7_says 108 = .ok (.aload_n 0, 1) := by decide +kernel
theorem dX7_says_109 : decode cX7_says 109 = .ok (.getfield 28, 3) := by decide +kernel
theorem dX7_says_112 : decode cX7_says 112 = .ok (.iload_n 3, 1) := by decide +kernel
theorem dX7_says_113 : decode cX7_says 113 = .ok (.aload_n 0, 1) := by decide +kernel
theorem dX7_says_114 : decode cX7_says 114 = .ok (.getfield 10, 3) := by decide +kernel
theorem dX7_says_117 : decode cX7_says 117 = .ok (.invokevirtual 162, 3) := by decide +kernel
theorem dX7_says_120 : decode cX7_says 120 = .ok (.ireturn, 1) := by decide +kernel
theorem dX7_keeper_0 : decode cX7_keeper 0 = .ok (.iload_n 1, 1) := by decide +kernel
theorem dX7_keeper_1 : decode cX7_keeper 1 = .ok (.iconst 0, 1) := by decide +kernel
theorem dX7_keeper_2 : decode cX7_keeper 2 = .ok (.iconst 5, 1) := by decide +kernel
theorem dX7_keeper_3 : decode cX7_keeper 3 = .ok (.invokestatic 99, 3) := by decide +kernel
theorem dX7_keeper_6 : decode cX7_keeper 6 = .ok (.ifCond .eq 23, 3) := by decide +kernel
theorem dX7_keeper_9 : decode cX7_keeper 9 = .ok (.iload_n 2, 1) := by decide +kernel
theorem dX7_keeper_10 : decode cX7_keeper 10 = .ok (.iconst 0, 1) := by decide +kernel
theorem dX7_keeper_11 : decode cX7_keeper 11 = .ok (.bipush 9, 2) := by decide +kernel
theorem dX7_keeper_13 : decode cX7_keeper 13 = .ok (.invokestatic 99, 3) := by decide +kernel
theorem dX7_keeper_16 : decode cX7_keeper 16 = .ok (.ifCond .eq 13, 3) := by decide +kernel
theorem dX7_keeper_19 : decode cX7_keeper 19 = .ok (.iload_n 3, 1) := by decide +kernel
theorem dX7_keeper_20 : decode cX7_keeper 20 = .ok (.iconst 0, 1) := by decide +kernel
theorem dX7_keeper_21 : decode cX7_keeper 21 = .ok (.bipush 40, 2) := by decide +kernel
theorem dX7_keeper_23 : decode cX7_keeper 23 = .ok (.invokestatic 99, 3) := by decide +kernel
theorem dX7_keeper_26 : decode cX7_keeper 26 = .ok (.ifCond .ne 10, 3) := by decide +kernel
theorem dX7_keeper_29 : decode cX7_keeper 29 = .ok (.aload_n 0, 1) := by decide +kernel
theorem dX7_keeper_30 : decode cX7_keeper 30 = .ok (.bipush (-2), 2) := by decide +kernel
theorem dX7_keeper_32 : decode cX7_keeper 32 = .ok (.invokevirtual 103, 3) := by decide +kernel
theorem dX7_keeper_35 : decode cX7_keeper 35 = .ok (.ireturn, 1) := by decide +kernel
theorem dX7_keeper_36 : decode cX7_keeper 36 = .ok (.aload_n 0, 1) := by decide +kernel
theorem dX7_keeper_37 : decode cX7_keeper 37 = .ok (.getfield 28, 3) := by decide +kernel
theorem dX7_keeper_40 : decode cX7_keeper 40 = .ok (.invokevirtual 166, 3) := by decide +kernel
theorem dX7_keeper_43 : decode cX7_keeper 43 = .ok (.ifCond .eq 10, 3) := by decide +kernel
theorem dX7_keeper_46 : decode cX7_keeper 46 = .ok (.aload_n 0, 1) := by decide +kernel
theorem dX7_keeper_47 : decode cX7_keeper 47 = .ok (.bipush (-6), 2) := by decide +kernel
theorem dX7_keeper_49 : decode cX7_keeper 49 = .ok (.invokevirtual 103, 3) := by decide +kernel
theorem dX7_keeper_52 : decode cX7_keeper 52 = .ok (.ireturn, 1) := by decide +kernel
theorem dX7_keeper_53 : decode cX7_keeper 53 = .ok (.aload_n 0, 1) := by decide +kernel
theorem dX7_keeper_54 : decode cX7_keeper 54 = .ok (.getfield 28, 3) := by decide +kernel
theorem dX7_keeper_57 : decode cX7_keeper 57 = .ok (.iload_n 1, 1) := by decide +kernel
theorem dX7_keeper_58 : decode cX7_keeper 58 = .ok (.iload_n 2, 1) := by decide +kernel
theorem dX7_keeper_59 : decode cX7_keeper 59 = .ok (.iload_n 3, 1) := by decide +kernel
theorem dX7_keeper_60 : decode cX7_keeper 60 = .ok (.invokevirtual 170, 3) := by decide +kernel
theorem dX7_keeper_63 : decode cX7_keeper 63 = .ok (.ireturn, 1) := by decide +kernel
theorem dX7_nerve_0 : decode cX7_nerve 0 = .ok (.aload_n 0, 1) := by decide +kernel
theorem dX7_nerve_1 : decode cX7_nerve 1 = .ok (.getfield 28, 3) := by decide +kernel
theorem dX7_nerve_4 : decode cX7_nerve 4 = .ok (.iload_n 1, 1) := by decide +kernel
theorem dX7_nerve_5 : decode cX7_nerve 5 = .ok (.invokevirtual 146, 3) := by decide +kernel
theorem dX7_nerve_8 : decode cX7_nerve 8 = .ok (.ifCond .eq 13, 3) := by decide +kernel
theorem dX7_nerve_11 : decode cX7_nerve 11 = .ok (.iload_n 2, 1) := by decide +kernel
theorem dX7_nerve_12 : decode cX7_nerve 12 = .ok (.iconst 0, 1) := by decide +kernel
theorem dX7_nerve_13 : decode cX7_nerve 13 = .ok (.bipush 40, 2) := by decide +kernel
theorem dX7_nerve_15 : decode cX7_nerve 15 = .ok (.invokestatic 99, 3) := by decide +kernel
theorem dX7_nerve_18 : decode cX7_nerve 18 = .ok (.ifCond .ne 10, 3) := by decide +kernel
theorem dX7_nerve_21 : decode cX7_nerve 21 = .ok (.aload_n 0, 1) := by decide +kernel
theorem dX7_nerve_22 : decode cX7_nerve 22 = .ok (.bipush (-2), 2) := by decide +kernel
theorem dX7_nerve_24 : decode cX7_nerve 24 = .ok (.invokevirtual 103, 3) := by decide +kernel
theorem dX7_nerve_27 : decode cX7_nerve 27 = .ok (.ireturn, 1) := by decide +kernel
theorem dX7_nerve_28 : decode cX7_nerve 28 = .ok (.aload_n 0, 1) := by decide +kernel
theorem dX7_nerve_29 : decode cX7_nerve 29 = .ok (.getfield 28, 3) := by decide +kernel
theorem dX7_nerve_32 : decode cX7_nerve 32 = .ok (.iload_n 1, 1) := by decide +kernel
theorem dX7_nerve_33 : decode cX7_nerve 33 = .ok (.invokevirtual 159, 3) := by decide +kernel
theorem dX7_nerve_36 : decode cX7_nerve 36 = .ok (.istore_n 3, 1) := by decide +kernel
theorem dX7_nerve_37 : decode cX7_nerve 37 = .ok (.aload_n 0, 1) := by decide +kernel
theorem dX7_nerve_38 : decode cX7_nerve 38 = .ok (.getfield 28, 3) := by decide +kernel
theorem dX7_nerve_41 : decode cX7_nerve 41 = .ok (.iload_n 1, 1) := by decide +kernel
theorem dX7_nerve_42 : decode cX7_nerve 42 = .ok (.iload_n 2, 1) := by decide +kernel
theorem dX7_nerve_43 : decode cX7_nerve 43 = .ok (.invokevirtual 174, 3) := by decide +kernel
theorem dX7_nerve_46 : decode cX7_nerve 46 = .ok (.iload_n 3, 1) := by decide +kernel
theorem dX7_nerve_47 : decode cX7_nerve 47 = .ok (.ireturn, 1) := by decide +kernel
theorem dX7_tell_0 : decode cX7_tell 0 = .ok (.iload_n 1, 1) := by decide +kernel
theorem dX7_tell_1 : decode cX7_tell 1 = .ok (.iload_n 2, 1) := by decide +kernel
theorem dX7_tell_2 : decode cX7_tell 2 = .ok (.invokestatic 177, 3) := by decide +kernel
theorem dX7_tell_5 : decode cX7_tell 5 = .ok (.ifCond .ne 10, 3) := by decide +kernel
theorem dX7_tell_8 : decode cX7_tell 8 = .ok (.aload_n 0, 1) := by decide +kernel
theorem dX7_tell_9 : decode cX7_tell 9 = .ok (.bipush (-2), 2) := by decide +kernel
theorem dX7_tell_11 : decode cX7_tell 11 = .ok (.invokevirtual 103, 3) := by decide +kernel
theorem dX7_tell_14 : decode cX7_tell 14 = .ok (.ireturn, 1) := by decide +kernel
theorem dX7_tell_15 : decode cX7_tell 15 = .ok (.aload_n 0, 1) := by decide +kernel
theorem dX7_tell_16 : decode cX7_tell 16 = .ok (.getfield 10, 3) := by decide +kernel
theorem dX7_tell_19 : decode cX7_tell 19 = .ok (.iload_n 1, 1) := by decide +kernel
theorem dX7_tell_20 : decode cX7_tell 20 = .ok (.invokevirtual 180, 3) := by decide +kernel
theorem dX7_tell_23 : decode cX7_tell 23 = .ok (.istore_n 3, 1) := by decide +kernel
theorem dX7_tell_24 : decode cX7_tell 24 = .ok (.aload_n 0, 1) := by decide +kernel
theorem dX7_tell_25 : decode cX7_tell 25 = .ok (.getfield 10, 3) := by decide +kernel
theorem dX7_tell_28 : decode cX7_tell 28 = .ok (.iload_n 1, 1) := by decide +kernel
theorem dX7_tell_29 : decode cX7_tell 29 = .ok (.iload_n 2, 1) := by decide +kernel
theorem dX7_tell_30 : decode cX7_tell 30 = .ok (.invokevirtual 183, 3) := by decide +kernel
theorem dX7_tell_33 : decode cX7_tell 33 = .ok (.iload_n 3, 1) := by decide +kernel
theorem dX7_tell_34 : decode cX7_tell 34 = .ok (.ireturn, 1) := by decide +kernel
theorem dX7_feed_0 : decode cX7_feed 0 = .ok (.iload_n 1, 1) := by decide +kernel
theorem dX7_feed_1 : decode cX7_feed 1 = .ok (.iconst 0, 1) := by decide +kernel
theorem dX7_feed_2 : decode cX7_feed 2 = .ok (.sipush 255, 3) := by decide +kernel
theorem dX7_feed_5 : decode cX7_feed 5 = .ok (.invokestatic 99, 3) := by decide +kernel
theorem dX7_feed_8 : decode cX7_feed 8 = .ok (.ifCond .ne 10, 3) := by decide +kernel
theorem dX7_feed_11 : decode cX7_feed 11 = .ok (.aload_n 0, 1) := by decide +kernel
theorem dX7_feed_12 : decode cX7_feed 12 = .ok (.bipush (-2), 2) := by decide +kernel
theorem dX7_feed_14 : decode cX7_feed 14 = .ok (.invokevirtual 103, 3) := by decide +kernel
theorem dX7_feed_17 : decode cX7_feed 17 = .ok (.ireturn, 1) := by decide +kernel
theorem dX7_feed_18 : decode cX7_feed 18 = .ok (.aload_n 0, 1) := by decide +kernel
theorem dX7_feed_19 : decode cX7_feed 19 = .ok (.getfield 48, 3) := by decide +kernel
theorem dX7_feed_22 : decode cX7_feed 22 = .ok (.invokevirtual 186, 3) := by decide +kernel
theorem dX7_feed_25 : decode cX7_feed 25 = .ok (.ifCond .eq 10, 3) := by decide +kernel
theorem dX7_feed_28 : decode cX7_feed 28 = .ok (.aload_n 0, 1) := by decide +kernel
theorem dX7_feed_29 : decode cX7_feed 29 = .ok (.bipush (-6), 2) := by decide +kernel
theorem dX7_feed_31 : decode cX7_feed 31 = .ok (.invokevirtual 103, 3) := by decide +kernel
theorem dX7_feed_34 : decode cX7_feed 34 = .ok (.ireturn, 1) := by decide +kernel
theorem dX7_feed_35 : decode cX7_feed 35 = .ok (.aload_n 0, 1) := by decide +kernel
theorem dX7_feed_36 : decode cX7_feed 36 = .ok (.getfield 48, 3) := by decide +kernel
theorem dX7_feed_39 : decode cX7_feed 39 = .ok (.iload_n 1, 1) := by decide +kernel
theorem dX7_feed_40 : decode cX7_feed 40 = .ok (.invokevirtual 187, 3) := by decide +kernel
theorem dX7_feed_43 : decode cX7_feed 43 = .ok (.ireturn, 1) := by decide +kernel
theorem dX7_wipe_0 : decode cX7_wipe 0 = .ok (.aload_n 0, 1) := by decide +kernel
theorem dX7_wipe_1 : decode cX7_wipe 1 = .ok (.getfield 48, 3) := by decide +kernel
theorem dX7_wipe_4 : decode cX7_wipe 4 = .ok (.invokevirtual 189, 3) := by decide +kernel
theorem dX7_wipe_7 : decode cX7_wipe 7 = .ok (.ireturn, 1) := by decide +kernel
theorem dX7_house_0 : decode cX7_house 0 = .ok (.aload_n 0, 1) := by decide +kernel
theorem dX7_house_1 : decode cX7_house 1 = .ok (.getfield 16, 3) := by decide +kernel
theorem dX7_house_4 : decode cX7_house 4 = .ok (.aload_n 0, 1) := by decide +kernel
theorem dX7_house_5 : decode cX7_house 5 = .ok (.getfield 10, 3) := by decide +kernel
theorem dX7_house_8 : decode cX7_house 8 = .ok (.invokevirtual 193, 3) := by decide +kernel
theorem dX7_house_11 : decode cX7_house 11 = .ok (.aload_n 0, 1) := by decide +kernel
theorem dX7_house_12 : decode cX7_house 12 = .ok (.getfield 32, 3) := by decide +kernel
theorem dX7_house_15 : decode cX7_house 15 = .ok (.aload_n 0, 1) := by decide +kernel
theorem dX7_house_16 : decode cX7_house 16 = .ok (.getfield 28, 3) := by decide +kernel
theorem dX7_house_19 : decode cX7_house 19 = .ok (.invokevirtual 197, 3) := by decide +kernel
theorem dX7_house_22 : decode cX7_house 22 = .ok (.aload_n 0, 1) := by decide +kernel
theorem dX7_house_23 : decode cX7_house 23 = .ok (.getfield 48, 3) := by decide +kernel
theorem dX7_house_26 : decode cX7_house 26 = .ok (.aload_n 0, 1) := by decide +kernel
theorem dX7_house_27 : decode cX7_house 27 = .ok (.getfield 16, 3) := by decide +kernel
theorem dX7_house_30 : decode cX7_house 30 = .ok (.aload_n 0, 1) := by decide +kernel
theorem dX7_house_31 : decode cX7_house 31 = .ok (.getfield 32, 3) := by decide +kernel
theorem dX7_house_34 : decode cX7_house 34 = .ok (.invokevirtual 200, 3) := by decide +kernel
theorem dX7_house_37 : decode cX7_house 37 = .ok (.istore_n 1, 1) := by decide +kernel
theorem dX7_house_38 : decode cX7_house 38 = .ok (.aload_n 0, 1) := by decide +kernel
theorem dX7_house_39 : decode cX7_house 39 = .ok (.getfield 48, 3) := by decide +kernel
theorem dX7_house_42 : decode cX7_house 42 = .ok (.invokevirtual 189, 3) := by decide +kernel
theorem dX7_house_45 : decode cX7_house 45 = .ok (.pop, 1) := by decide +kernel
theorem dX7_house_46 : decode cX7_house 46 = .ok (.iload_n 1, 1) := by decide +kernel
theorem dX7_house_47 : decode cX7_house 47 = .ok (.ifCond .ge 12, 3) := by decide +kernel
theorem dX7_house_50 : decode cX7_house 50 = .ok (.aload_n 0, 1) := by decide +kernel
theorem dX7_house_51 : decode cX7_house 51 = .ok (.bipush (-2), 2) := by decide +kernel
theorem dX7_house_53 : decode cX7_house 53 = .ok (.invokevirtual 103, 3) := by decide +kernel
theorem dX7_house_56 : decode cX7_house 56 = .ok (.pop, 1) := by decide +kernel
theorem dX7_house_57 : decode cX7_house 57 = .ok (.iload_n 1, 1) := by decide +kernel
theorem dX7_house_58 : decode cX7_house 58 = .ok (.ireturn, 1) := by decide +kernel
theorem dX7_house_59 : decode cX7_house 59 = .ok (.aload_n 0, 1) := by decide +kernel
theorem dX7_house_60 : decode cX7_house 60 = .ok (.getfield 10, 3) := by decide +kernel
theorem dX7_house_63 : decode cX7_house 63 = .ok (.aload_n 0, 1) := by decide +kernel
theorem dX7_house_64 : decode cX7_house 64 = .ok (.getfield 16, 3) := by decide +kernel
theorem dX7_house_67 : decode cX7_house 67 = .ok (.invokevirtual 193, 3) := by decide +kernel
theorem dX7_house_70 : decode cX7_house 70 = .ok (.aload_n 0, 1) := by decide +kernel
theorem dX7_house_71 : decode cX7_house 71 = .ok (.getfield 28, 3) := by decide +kernel
theorem dX7_house_74 : decode cX7_house 74 = .ok (.aload_n 0, 1) := by decide +kernel
theorem dX7_house_75 : decode cX7_house 75 = .ok (.getfield 32, 3) := by decide +kernel
theorem dX7_house_78 : decode cX7_house 78 = .ok (.invokevirtual 197, 3) := by decide +kernel
theorem dX7_house_81 : decode cX7_house 81 = .ok (.iload_n 1, 1) := by decide +kernel
theorem dX7_house_82 : decode cX7_house 82 = .ok (.ireturn, 1) := by decide +kernel
theorem dX7_keeperOf_0 : decode cX7_keeperOf 0 = .ok (.aload_n 0, 1) := by decide +kernel
theorem dX7_keeperOf_1 : decode cX7_keeperOf 1 = .ok (.getfield 28, 3) := by decide +kernel
theorem dX7_keeperOf_4 : decode cX7_keeperOf 4 = .ok (.iload_n 1, 1) := by decide +kernel
theorem dX7_keeperOf_5 : decode cX7_keeperOf 5 = .ok (.invokevirtual 146, 3) := by decide +kernel
theorem dX7_keeperOf_8 : decode cX7_keeperOf 8 = .ok (.ifCond .eq 12, 3) := by decide +kernel
theorem dX7_keeperOf_11 : decode cX7_keeperOf 11 = .ok (.iload_n 2, 1) := by decide +kernel
theorem dX7_keeperOf_12 : decode cX7_keeperOf 12 = .ok (.iconst 0, 1) := by decide +kernel
theorem dX7_keeperOf_13 : decode cX7_keeperOf 13 = .ok (.iconst 3, 1) := by decide +kernel
theorem dX7_keeperOf_14 : decode cX7_keeperOf 14 = .ok (.invokestatic 99, 3) := by decide +kernel
theorem dX7_keeperOf_17 : decode cX7_keeperOf 17 = .ok (.ifCond .ne 10, 3) := by decide +kernel
theorem dX7_keeperOf_20 : decode cX7_keeperOf 20 = .ok (.aload_n 0, 1) := by decide +kernel
theorem dX7_keeperOf_21 : decode cX7_keeperOf 21 = .ok (.bipush (-2), 2) := by decide +kernel
theorem dX7_keeperOf_23 : decode cX7_keeperOf 23 = .ok (.invokevirtual 103, 3) := by decide +kernel
theorem dX7_keeperOf_26 : decode cX7_keeperOf 26 = .ok (.ireturn, 1) := by decide +kernel
theorem dX7_keeperOf_27 : decode cX7_keeperOf 27 = .ok (.iload_n 2, 1) := by decide +kernel
theorem dX7_keeperOf_28 : decode cX7_keeperOf 28 = .ok (.tableswitch 55 0 2 #[28, 37, 46], 28) := by decide +kernel
theorem dX7_keeperOf_56 : decode cX7_keeperOf 56 = .ok (.aload_n 0, 1) := by decide +kernel
theorem dX7_keeperOf_57 : decode cX7_keeperOf 57 = .ok (.getfield 28, 3) := by decide +kernel
theorem dX7_keeperOf_60 : decode cX7_keeperOf 60 = .ok (.iload_n 1, 1) := by decide +kernel
theorem dX7_keeperOf_61 : decode cX7_keeperOf 61 = .ok (.invokevirtual 153, 3) := by decide +kernel
theorem dX7_keeperOf_64 : decode cX7_keeperOf 64 = .ok (.ireturn, 1) := by decide +kernel
theorem dX7_keeperOf_65 : decode cX7_keeperOf 65 = .ok (.aload_n 0, 1) := by decide +kernel
theorem dX7_keeperOf_66 : decode cX7_keeperOf 66 = .ok (.getfield 28, 3) := by decide +kernel
theorem dX7_keeperOf_69 : decode cX7_keeperOf 69 = .ok (.iload_n 1, 1) := by decide +kernel
theorem dX7_keeperOf_70 : decode cX7_keeperOf 70 = .ok (.invokevirtual 204, 3) := by decide +kernel
theorem dX7_keeperOf_73 : decode cX7_keeperOf 73 = .ok (.ireturn, 1) := by decide +kernel
theorem dX7_keeperOf_74 : decode cX7_keeperOf 74 = .ok (.aload_n 0, 1) := by decide +kernel
theorem dX7_keeperOf_75 : decode cX7_keeperOf 75 = .ok (.getfield 28, 3) := by decide +kernel
theorem dX7_keeperOf_78 : decode cX7_keeperOf 78 = .ok (.iload_n 1, 1) := by decide +kernel
theorem dX7_keeperOf_79 : decode cX7_keeperOf 79 = .ok (.invokevirtual 159, 3) := by decide +kernel
theorem dX7_keeperOf_82 : decode cX7_keeperOf 82 = .ok (.ireturn, 1) := by decide +kernel
theorem dX7_keeperOf_83 : decode cX7_keeperOf 83 = .ok (.aload_n 0, 1) := by decide +kernel
theorem dX7_keeperOf_84 : decode cX7_keeperOf 84 = .ok (.getfield 28, 3) := by decide +kernel
theorem dX7_keeperOf_87 : decode cX7_keeperOf 87 = .ok (.iload_n 1, 1) := by decide +kernel
theorem dX7_keeperOf_88 : decode cX7_keeperOf 88 = .ok (.invokevirtual 207, 3) := by decide +kernel
theorem dX7_keeperOf_91 : decode cX7_keeperOf 91 = .ok (.ireturn, 1) := by decide +kernel
theorem dX7_fright_0 : decode cX7_fright 0 = .ok (.aload_n 0, 1) := by decide +kernel
theorem dX7_fright_1 : decode cX7_fright 1 = .ok (.getfield 10, 3) := by decide +kernel
theorem dX7_fright_4 : decode cX7_fright 4 = .ok (.invokevirtual 210, 3) := by decide +kernel
theorem dX7_fright_7 : decode cX7_fright 7 = .ok (.ireturn, 1) := by decide +kernel
theorem dX7_stays_0 : decode cX7_stays 0 = .ok (.aload_n 0, 1) := by decide +kernel
theorem dX7_stays_1 : decode cX7_stays 1 = .ok (.getfield 28, 3) := by decide +kernel
theorem dX7_stays_4 : decode cX7_stays 4 = .ok (.iload_n 1, 1) := by decide +kernel
theorem dX7_stays_5 : decode cX7_stays 5 = .ok (.invokevirtual 146, 3) := by decide +kernel
theorem dX7_stays_8 : decode cX7_stays 8 = .ok (.ifCond .ne 10, 3) := by decide +kernel
theorem dX7_stays_11 : decode cX7_stays 11 = .ok (.aload_n 0, 1) := by decide +kernel
theorem dX7_stays_12 : decode cX7_stays 12 = .ok (.bipush (-2), 2) := by decide +kernel
theorem dX7_stays_14 : decode cX7_stays 14 = .ok (.invokevirtual 103, 3) := by decide +kernel
theorem dX7_stays_17 : decode cX7_stays 17 = .ok (.ireturn, 1) := by decide +kernel
theorem dX7_stays_18 : decode cX7_stays 18 = .ok (.aload_n 0, 1) := by decide +kernel
theorem dX7_stays_19 : decode cX7_stays 19 = .ok (.getfield 28, 3) := by decide +kernel
theorem dX7_stays_22 : decode cX7_stays 22 = .ok (.iload_n 1, 1) := by decide +kernel
theorem dX7_stays_23 : decode cX7_stays 23 = .ok (.aload_n 0, 1) := by decide +kernel
theorem dX7_stays_24 : decode cX7_stays 24 = .ok (.getfield 10, 3) := by decide +kernel
theorem dX7_stays_27 : decode cX7_stays 27 = .ok (.invokevirtual 213, 3) := by decide +kernel
theorem dX7_stays_30 : decode cX7_stays 30 = .ok (.ifCond .eq 7, 3) := by decide +kernel
theorem dX7_stays_33 : decode cX7_stays 33 = .ok (.iconst 1, 1) := by decide +kernel
theorem dX7_stays_34 : decode cX7_stays 34 = .ok (.goto 4, 3) := by decide +kernel
theorem dX7_stays_37 : decode cX7_stays 37 = .ok (.iconst 0, 1) := by decide +kernel
theorem dX7_stays_38 : decode cX7_stays 38 = .ok (.ireturn, 1) := by decide +kernel
theorem dX7_staying_0 : decode cX7_staying 0 = .ok (.aload_n 0, 1) := by decide +kernel
theorem dX7_staying_1 : decode cX7_staying 1 = .ok (.getfield 28, 3) := by decide +kernel
theorem dX7_staying_4 : decode cX7_staying 4 = .ok (.aload_n 0, 1) := by decide +kernel
theorem dX7_staying_5 : decode cX7_staying 5 = .ok (.getfield 10, 3) := by decide +kernel
theorem dX7_staying_8 : decode cX7_staying 8 = .ok (.invokevirtual 217, 3) := by decide +kernel
theorem dX7_staying_11 : decode cX7_staying 11 = .ok (.ireturn, 1) := by decide +kernel
theorem dX7_after_0 : decode cX7_after 0 = .ok (.aload_n 0, 1) := by decide +kernel
theorem dX7_after_1 : decode cX7_after 1 = .ok (.iload_n 1, 1) := by decide +kernel
theorem dX7_after_2 : decode cX7_after 2 = .ok (.i2l, 1) := by decide +kernel
theorem dX7_after_3 : decode cX7_after 3 = .ok (.invokevirtual 221, 3) := by decide +kernel
theorem dX7_after_6 : decode cX7_after 6 = .ok (.ifCond .eq 12, 3) := by decide +kernel
theorem dX7_after_9 : decode cX7_after 9 = .ok (.iload_n 2, 1) := by decide +kernel
theorem dX7_after_10 : decode cX7_after 10 = .ok (.iconst 0, 1) := by decide +kernel
theorem dX7_after_11 : decode cX7_after 11 = .ok (.iconst 3, 1) := by decide +kernel
theorem dX7_after_12 : decode cX7_after 12 = .ok (.invokestatic 99, 3) := by decide +kernel
theorem dX7_after_15 : decode cX7_after 15 = .ok (.ifCond .ne 10, 3) := by decide +kernel
theorem dX7_after_18 : decode cX7_after 18 = .ok (.aload_n 0, 1) := by decide +kernel
theorem dX7_after_19 : decode cX7_after 19 = .ok (.bipush (-2), 2) := by decide +kernel
theorem dX7_after_21 : decode cX7_after 21 = .ok (.invokevirtual 103, 3) := by decide +kernel
theorem dX7_after_24 : decode cX7_after 24 = .ok (.ireturn, 1) := by decide +kernel
theorem dX7_after_25 : decode cX7_after 25 = .ok (.aload_n 0, 1) := by decide +kernel
theorem dX7_after_26 : decode cX7_after 26 = .ok (.iload_n 1, 1) := by decide +kernel
theorem dX7_after_27 : decode cX7_after 27 = .ok (.invokevirtual 225, 3) := by decide +kernel
theorem dX7_after_30 : decode cX7_after 30 = .ok (.iload_n 2, 1) := by decide +kernel
theorem dX7_after_31 : decode cX7_after 31 = .ok (.iconst 3, 1) := by decide +kernel
theorem dX7_after_32 : decode cX7_after 32 = .ok (.if_icmp .ne 19, 3) := by decide +kernel
theorem dX7_after_35 : decode cX7_after 35 = .ok (.aload_n 0, 1) := by decide +kernel
theorem dX7_after_36 : decode cX7_after 36 = .ok (.getfield 16, 3) := by decide +kernel
theorem dX7_after_39 : decode cX7_after 39 = .ok (.getfield 229, 3) := by decide +kernel
theorem dX7_after_42 : decode cX7_after 42 = .ok (.ifCond .eq 7, 3) := by decide +kernel
theorem dX7_after_45 : decode cX7_after 45 = .ok (.iconst 1, 1) := by decide +kernel
theorem dX7_after_46 : decode cX7_after 46 = .ok (.goto 4, 3) := by decide +kernel
theorem dX7_after_49 : decode cX7_after 49 = .ok (.iconst 0, 1) := by decide +kernel
theorem dX7_after_50 : decode cX7_after 50 = .ok (.ireturn, 1) := by decide +kernel
theorem dX7_after_51 : decode cX7_after 51 = .ok (.aload_n 0, 1) := by decide +kernel
theorem dX7_after_52 : decode cX7_after 52 = .ok (.getfield 16, 3) := by decide +kernel
theorem dX7_after_55 : decode cX7_after 55 = .ok (.iload_n 2, 1) := by decide +kernel
theorem dX7_after_56 : decode cX7_after 56 = .ok (.invokevirtual 180, 3) := by decide +kernel
theorem dX7_after_59 : decode cX7_after 59 = .ok (.ireturn, 1) := by decide +kernel
theorem dX7_bestNow_0 : decode cX7_bestNow 0 = .ok (.iload_n 1, 1) := by decide +kernel
theorem dX7_bestNow_1 : decode cX7_bestNow 1 = .ok (.iconst 0, 1) := by decide +kernel
theorem dX7_bestNow_2 : decode cX7_bestNow 2 = .ok (.iconst 2, 1) := by decide +kernel
theorem dX7_bestNow_3 : decode cX7_bestNow 3 = .ok (.invokestatic 99, 3) := by decide +kernel
theorem dX7_bestNow_6 : decode cX7_bestNow 6 = .ok (.ifCond .ne 10, 3) := by decide +kernel
theorem dX7_bestNow_9 : decode cX7_bestNow 9 = .ok (.aload_n 0, 1) := by decide +kernel
theorem dX7_bestNow_10 : decode cX7_bestNow 10 = .ok (.bipush (-2), 2) := by decide +kernel
theorem dX7_bestNow_12 : decode cX7_bestNow 12 = .ok (.invokevirtual 103, 3) := by decide +kernel
theorem dX7_bestNow_15 : decode cX7_bestNow 15 = .ok (.ireturn, 1) := by decide +kernel
theorem dX7_bestNow_16 : decode cX7_bestNow 16 = .ok (.iconst (-1), 1) := by decide +kernel
theorem dX7_bestNow_17 : decode cX7_bestNow 17 = .ok (.istore_n 2, 1) := by decide +kernel
theorem dX7_bestNow_18 : decode cX7_bestNow 18 = .ok (.ldc 232, 2) := by decide +kernel
theorem dX7_bestNow_20 : decode cX7_bestNow 20 = .ok (.istore_n 3, 1) := by decide +kernel
theorem dX7_bestNow_21 : decode cX7_bestNow 21 = .ok (.iconst 0, 1) := by decide +kernel
theorem dX7_bestNow_22 : decode cX7_bestNow 22 = .ok (.istore 4, 2) := by decide +kernel
theorem dX7_bestNow_24 : decode cX7_bestNow 24 = .ok (.iload 4, 2) := by decide +kernel
theorem dX7_bestNow_26 : decode cX7_bestNow 26 = .ok (.aload_n 0, 1) := by decide +kernel
theorem dX7_bestNow_27 : decode cX7_bestNow 27 = .ok (.invokevirtual 233, 3) := by decide +kernel
theorem dX7_bestNow_30 : decode cX7_bestNow 30 = .ok (.if_icmp .ge 67, 3) := by decide +kernel
theorem dX7_bestNow_33 : decode cX7_bestNow 33 = .ok (.aload_n 0, 1) := by decide +kernel
theorem dX7_bestNow_34 : decode cX7_bestNow 34 = .ok (.aload_n 0, 1) := by decide +kernel
theorem dX7_bestNow_35 : decode cX7_bestNow 35 = .ok (.getfield 28, 3) := by decide +kernel
theorem dX7_bestNow_38 : decode cX7_bestNow 38 = .ok (.iload 4, 2) := by decide +kernel
theorem dX7_bestNow_40 : decode cX7_bestNow 40 = .ok (.invokevirtual 236, 3) := by decide +kernel
theorem dX7_bestNow_43 : decode cX7_bestNow 43 = .ok (.invokevirtual 225, 3) := by decide +kernel
theorem dX7_bestNow_46 : decode cX7_bestNow 46 = .ok (.iload_n 1, 1) := by decide +kernel
theorem dX7_bestNow_47 : decode cX7_bestNow 47 = .ok (.iconst 1, 1) := by decide +kernel
theorem dX7_bestNow_48 : decode cX7_bestNow 48 = .ok (.if_icmp .ne 14, 3) := by decide +kernel
theorem dX7_bestNow_51 : decode cX7_bestNow 51 = .ok (.aload_n 0, 1) := by decide +kernel
theorem dX7_bestNow_52 : decode cX7_bestNow 52 = .ok (.getfield 16, 3) := by decide +kernel
theorem dX7_bestNow_55 : decode cX7_bestNow 55 = .ok (.getfield 239, 3) := by decide +kernel
theorem dX7_bestNow_58 : decode cX7_bestNow 58 = .ok (.ineg, 1) := by decide +kernel
theorem dX7_bestNow_59 : decode cX7_bestNow 59 = .ok (.goto 11, 3) := by decide +kernel
theorem dX7_bestNow_62 : decode cX7_bestNow 62 = .ok (.aload_n 0, 1) := by decide +kernel
theorem dX7_bestNow_63 : decode cX7_bestNow 63 = .ok (.getfield 16, 3) := by decide +kernel
theorem dX7_bestNow_66 : decode cX7_bestNow 66 = .ok (.iload_n 1, 1) := by decide +kernel
theorem dX7_bestNow_67 : decode cX7_bestNow 67 = .ok (.invokevirtual 180, 3) := by decide +kernel
theorem dX7_bestNow_70 : decode cX7_bestNow 70 = .ok (.istore 5, 2) := by decide +kernel
theorem dX7_bestNow_72 : decode cX7_bestNow 72 = .ok (.iload 5, 2) := by decide +kernel
theorem dX7_bestNow_74 : decode cX7_bestNow 74 = .ok (.iload_n 3, 1) := by decide +kernel
theorem dX7_bestNow_75 : decode cX7_bestNow 75 = .ok (.if_icmp .ge 16, 3) := by decide +kernel
theorem dX7_bestNow_78 : decode cX7_bestNow 78 = .ok (.iload 5, 2) := by decide +kernel
theorem dX7_bestNow_80 : decode cX7_bestNow 80 = .ok (.istore_n 3, 1) := by decide +kernel
theorem dX7_bestNow_81 : decode cX7_bestNow 81 = .ok (.aload_n 0, 1) := by decide +kernel
theorem dX7_bestNow_82 : decode cX7_bestNow 82 = .ok (.getfield 28, 3) := by decide +kernel
theorem dX7_bestNow_85 : decode cX7_bestNow 85 = .ok (.iload 4, 2) := by decide +kernel
theorem dX7_bestNow_87 : decode cX7_bestNow 87 = .ok (.invokevirtual 236, 3) := by decide +kernel
theorem dX7_bestNow_90 : decode cX7_bestNow 90 = .ok (.istore_n 2, 1) := by decide +kernel
theorem dX7_bestNow_91 : decode cX7_bestNow 91 = .ok (.iinc 4 1, 3) := by decide +kernel
theorem dX7_bestNow_94 : decode cX7_bestNow 94 = .ok (.goto (-70), 3) := by decide +kernel
theorem dX7_bestNow_97 : decode cX7_bestNow 97 = .ok (.iload_n 2, 1) := by decide +kernel
theorem dX7_bestNow_98 : decode cX7_bestNow 98 = .ok (.ireturn, 1) := by decide +kernel
theorem dX7_behind_0 : decode cX7_behind 0 = .ok (.aload_n 0, 1) := by decide +kernel
theorem dX7_behind_1 : decode cX7_behind 1 = .ok (.iload_n 1, 1) := by decide +kernel
theorem dX7_behind_2 : decode cX7_behind 2 = .ok (.iload_n 2, 1) := by decide +kernel
theorem dX7_behind_3 : decode cX7_behind 3 = .ok (.iload_n 3, 1) := by decide +kernel
theorem dX7_behind_4 : decode cX7_behind 4 = .ok (.iconst 0, 1) := by decide +kernel
theorem dX7_behind_5 : decode cX7_behind 5 = .ok (.iconst 4, 1) := by decide +kernel
theorem dX7_behind_6 : decode cX7_behind 6 = .ok (.invokestatic 99, 3) := by decide +kernel
theorem dX7_behind_9 : decode cX7_behind 9 = .ok (.invokevirtual 242, 3) := by decide +kernel
theorem dX7_behind_12 : decode cX7_behind 12 = .ok (.istore 4, 2) := by decide +kernel
theorem dX7_behind_14 : decode cX7_behind 14 = .ok (.iload 4, 2) := by decide +kernel
theorem dX7_behind_16 : decode cX7_behind 16 = .ok (.ifCond .eq 10, 3) := by decide +kernel
theorem dX7_behind_19 : decode cX7_behind 19 = .ok (.aload_n 0, 1) := by decide +kernel
theorem dX7_behind_20 : decode cX7_behind 20 = .ok (.iload 4, 2) := by decide +kernel
theorem dX7_behind_22 : decode cX7_behind 22 = .ok (.invokevirtual 103, 3) := by decide +kernel
theorem dX7_behind_25 : decode cX7_behind 25 = .ok (.ireturn, 1) := by decide +kernel
theorem dX7_behind_26 : decode cX7_behind 26 = .ok (.aload_n 0, 1) := by decide +kernel
theorem dX7_behind_27 : decode cX7_behind 27 = .ok (.getfield 55, 3) := by decide +kernel
theorem dX7_behind_30 : decode cX7_behind 30 = .ok (.aload_n 0, 1) := by decide +kernel
theorem dX7_behind_31 : decode cX7_behind 31 = .ok (.getfield 73, 3) := by decide +kernel
theorem dX7_behind_34 : decode cX7_behind 34 = .ok (.iload_n 2, 1) := by decide +kernel
theorem dX7_behind_35 : decode cX7_behind 35 = .ok (.aload_n 0, 1) := by decide +kernel
theorem dX7_behind_36 : decode cX7_behind 36 = .ok (.getfield 10, 3) := by decide +kernel
theorem dX7_behind_39 : decode cX7_behind 39 = .ok (.aload_n 0, 1) := by decide +kernel
theorem dX7_behind_40 : decode cX7_behind 40 = .ok (.getfield 28, 3) := by decide +kernel
theorem dX7_behind_43 : decode cX7_behind 43 = .ok (.invokevirtual 246, 3) := by decide +kernel
theorem dX7_behind_46 : decode cX7_behind 46 = .ok (.iload_n 3, 1) := by decide +kernel
theorem dX7_behind_47 : decode cX7_behind 47 = .ok (.lookupswitch 41 #[(3, 25), (4, 33)], 25) := by decide +kernel
theorem dX7_behind_72 : decode cX7_behind 72 = .ok (.aload_n 0, 1) := by decide +kernel
theorem dX7_behind_73 : decode cX7_behind 73 = .ok (.getfield 55, 3) := by decide +kernel
theorem dX7_behind_76 : decode cX7_behind 76 = .ok (.getfield 250, 3) := by decide +kernel
theorem dX7_behind_79 : decode cX7_behind 79 = .ok (.ireturn, 1) := by decide +kernel
theorem dX7_behind_80 : decode cX7_behind 80 = .ok (.aload_n 0, 1) := by decide +kernel
theorem dX7_behind_81 : decode cX7_behind 81 = .ok (.getfield 55, 3) := by decide +kernel
theorem dX7_behind_84 : decode cX7_behind 84 = .ok (.getfield 253, 3) := by decide +kernel
theorem dX7_behind_87 : decode cX7_behind 87 = .ok (.ireturn, 1) := by decide +kernel
theorem dX7_behind_88 : decode cX7_behind 88 = .ok (.aload_n 0, 1) := by decide +kernel
theorem dX7_behind_89 : decode cX7_behind 89 = .ok (.getfield 55, 3) := by decide +kernel
theorem dX7_behind_92 : decode cX7_behind 92 = .ok (.getfield 256, 3) := by decide +kernel
theorem dX7_behind_95 : decode cX7_behind 95 = .ok (.iload_n 3, 1) := by decide +kernel
theorem dX7_behind_96 : decode cX7_behind 96 = .ok (.invokevirtual 180, 3) := by decide +kernel
theorem dX7_behind_99 : decode cX7_behind 99 = .ok (.ireturn, 1) := by decide +kernel
theorem dX7_unkept_0 : decode cX7_unkept 0 = .ok (.aload_n 0, 1) := by decide +kernel
theorem dX7_unkept_1 : decode cX7_unkept 1 = .ok (.iload_n 1, 1) := by decide +kernel
theorem dX7_unkept_2 : decode cX7_unkept 2 = .ok (.iload_n 2, 1) := by decide +kernel
theorem dX7_unkept_3 : decode cX7_unkept 3 = .ok (.iconst 1, 1) := by decide +kernel
theorem dX7_unkept_4 : decode cX7_unkept 4 = .ok (.invokevirtual 242, 3) := by decide +kernel
theorem dX7_unkept_7 : decode cX7_unkept 7 = .ok (.istore_n 3, 1) := by decide +kernel
theorem dX7_unkept_8 : decode cX7_unkept 8 = .ok (.iload_n 3, 1) := by decide +kernel
theorem dX7_unkept_9 : decode cX7_unkept 9 = .ok (.ifCond .eq 9, 3) := by decide +kernel
theorem dX7_unkept_12 : decode cX7_unkept 12 = .ok (.aload_n 0, 1) := by decide +kernel
theorem dX7_unkept_13 : decode cX7_unkept 13 = .ok (.iload_n 3, 1) := by decide +kernel
theorem dX7_unkept_14 : decode cX7_unkept 14 = .ok (.invokevirtual 103, 3) := by decide +kernel
theorem dX7_unkept_17 : decode cX7_unkept 17 = .ok (.ireturn, 1) := by decide +kernel
theorem dX7_unkept_18 : decode cX7_unkept 18 = .ok (.aload_n 0, 1) := by decide +kernel
theorem dX7_unkept_19 : decode cX7_unkept 19 = .ok (.getfield 55, 3) := by decide +kernel
theorem dX7_unkept_22 : decode cX7_unkept 22 = .ok (.aload_n 0, 1) := by decide +kernel
theorem dX7_unkept_23 : decode cX7_unkept 23 = .ok (.getfield 73, 3) := by decide +kernel
theorem dX7_unkept_26 : decode cX7_unkept 26 = .ok (.iload_n 2, 1) := by decide +kernel
theorem dX7_unkept_27 : decode cX7_unkept 27 = .ok (.aload_n 0, 1) := by decide +kernel
theorem dX7_unkept_28 : decode cX7_unkept 28 = .ok (.getfield 10, 3) := by decide +kernel
theorem dX7_unkept_31 : decode cX7_unkept 31 = .ok (.aload_n 0, 1) := by decide +kernel
theorem dX7_unkept_32 : decode cX7_unkept 32 = .ok (.getfield 28, 3) := by decide +kernel
theorem dX7_unkept_35 : decode cX7_unkept 35 = .ok (.invokevirtual 246, 3) := by decide +kernel
theorem dX7_unkept_38 : decode cX7_unkept 38 = .ok (.aload_n 0, 1) := by decide +kernel
theorem dX7_unkept_39 : decode cX7_unkept 39 = .ok (.getfield 55, 3) := by decide +kernel
theorem dX7_unkept_42 : decode cX7_unkept 42 = .ok (.getfield 259, 3) := by decide +kernel
theorem dX7_unkept_45 : decode cX7_unkept 45 = .ok (.ireturn, 1) := by decide +kernel
theorem dX7_judge_0 : decode cX7_judge 0 = .ok (.aload_n 0, 1) := by decide +kernel
theorem dX7_judge_1 : decode cX7_judge 1 = .ok (.iload_n 1, 1) := by decide +kernel
theorem dX7_judge_2 : decode cX7_judge 2 = .ok (.iload_n 2, 1) := by decide +kernel
theorem dX7_judge_3 : decode cX7_judge 3 = .ok (.bipush 40, 2) := by decide +kernel
theorem dX7_judge_5 : decode cX7_judge 5 = .ok (.iconst 1, 1) := by decide +kernel
theorem dX7_judge_6 : decode cX7_judge 6 = .ok (.iconst 1, 1) := by decide +kernel
theorem dX7_judge_7 : decode cX7_judge 7 = .ok (.invokevirtual 262, 3) := by decide +kernel
theorem dX7_judge_10 : decode cX7_judge 10 = .ok (.istore_n 3, 1) := by decide +kernel
theorem dX7_judge_11 : decode cX7_judge 11 = .ok (.iload_n 3, 1) := by decide +kernel
theorem dX7_judge_12 : decode cX7_judge 12 = .ok (.ifCond .eq 9, 3) := by decide +kernel
theorem dX7_judge_15 : decode cX7_judge 15 = .ok (.aload_n 0, 1) := by decide +kernel
theorem dX7_judge_16 : decode cX7_judge 16 = .ok (.iload_n 3, 1) := by decide +kernel
theorem dX7_judge_17 : decode cX7_judge 17 = .ok (.invokevirtual 103, 3) := by decide +kernel
theorem dX7_judge_20 : decode cX7_judge 20 = .ok (.ireturn, 1) := by decide +kernel
theorem dX7_judge_21 : decode cX7_judge 21 = .ok (.aload_n 0, 1) := by decide +kernel
theorem dX7_judge_22 : decode cX7_judge 22 = .ok (.iload_n 1, 1) := by decide +kernel
theorem dX7_judge_23 : decode cX7_judge 23 = .ok (.iload_n 2, 1) := by decide +kernel
theorem dX7_judge_24 : decode cX7_judge 24 = .ok (.invokevirtual 266, 3) := by decide +kernel
theorem dX7_judge_27 : decode cX7_judge 27 = .ok (.ireturn, 1) := by decide +kernel
theorem dX7_best_0 : decode cX7_best 0 = .ok (.iload_n 1, 1) := by decide +kernel
theorem dX7_best_1 : decode cX7_best 1 = .ok (.iconst 1, 1) := by decide +kernel
theorem dX7_best_2 : decode cX7_best 2 = .ok (.iconst 4, 1) := by decide +kernel
theorem dX7_best_3 : decode cX7_best 3 = .ok (.invokestatic 99, 3) := by decide +kernel
theorem dX7_best_6 : decode cX7_best 6 = .ok (.ifCond .eq 15, 3) := by decide +kernel
theorem dX7_best_9 : decode cX7_best 9 = .ok (.iload_n 2, 1) := by decide +kernel
theorem dX7_best_10 : decode cX7_best 10 = .ok (.bipush (-2), 2) := by decide +kernel
theorem dX7_best_12 : decode cX7_best 12 = .ok (.iload_n 1, 1) := by decide +kernel
theorem dX7_best_13 : decode cX7_best 13 = .ok (.iconst 1, 1) := by decide +kernel
theorem dX7_best_14 : decode cX7_best 14 = .ok (.isub, 1) := by decide +kernel
theorem dX7_best_15 : decode cX7_best 15 = .ok (.invokestatic 99, 3) := by decide +kernel
theorem dX7_best_18 : decode cX7_best 18 = .ok (.ifCond .ne 10, 3) := by decide +kernel
theorem dX7_best_21 : decode cX7_best 21 = .ok (.aload_n 0, 1) := by decide +kernel
theorem dX7_best_22 : decode cX7_best 22 = .ok (.bipush (-2), 2) := by decide +kernel
theorem dX7_best_24 : decode cX7_best 24 = .ok (.invokevirtual 103, 3) := by decide +kernel
theorem dX7_best_27 : decode cX7_best 27 = .ok (.ireturn, 1) := by decide +kernel
theorem dX7_best_28 : decode cX7_best 28 = .ok (.aload_n 0, 1) := by decide +kernel
theorem dX7_best_29 : decode cX7_best 29 = .ok (.getfield 62, 3) := by decide +kernel
theorem dX7_best_32 : decode cX7_best 32 = .ok (.iload_n 1, 1) := by decide +kernel
theorem dX7_best_33 : decode cX7_best 33 = .ok (.aload_n 0, 1) := by decide +kernel
theorem dX7_best_34 : decode cX7_best 34 = .ok (.getfield 10, 3) := by decide +kernel
theorem dX7_best_37 : decode cX7_best 37 = .ok (.aload_n 0, 1) := by decide +kernel
theorem dX7_best_38 : decode cX7_best 38 = .ok (.getfield 28, 3) := by decide +kernel
theorem dX7_best_41 : decode cX7_best 41 = .ok (.invokevirtual 270, 3) := by decide +kernel
theorem dX7_best_44 : decode cX7_best 44 = .ok (.iload_n 2, 1) := by decide +kernel
theorem dX7_best_45 : decode cX7_best 45 = .ok (.bipush (-2), 2) := by decide +kernel
theorem dX7_best_47 : decode cX7_best 47 = .ok (.if_icmp .ne 11, 3) := by decide +kernel
theorem dX7_best_50 : decode cX7_best 50 = .ok (.aload_n 0, 1) := by decide +kernel
theorem dX7_best_51 : decode cX7_best 51 = .ok (.getfield 62, 3) := by decide +kernel
theorem dX7_best_54 : decode cX7_best 54 = .ok (.getfield 274, 3) := by decide +kernel
theorem dX7_best_57 : decode cX7_best 57 = .ok (.ireturn, 1) := by decide +kernel
theorem dX7_best_58 : decode cX7_best 58 = .ok (.iload_n 2, 1) := by decide +kernel
theorem dX7_best_59 : decode cX7_best 59 = .ok (.iconst (-1), 1) := by decide +kernel
theorem dX7_best_60 : decode cX7_best 60 = .ok (.if_icmp .ne 13, 3) := by decide +kernel
theorem dX7_best_63 : decode cX7_best 63 = .ok (.aload_n 0, 1) := by decide +kernel
theorem dX7_best_64 : decode cX7_best 64 = .ok (.getfield 62, 3) := by decide +kernel
theorem dX7_best_67 : decode cX7_best 67 = .ok (.getfield 277, 3) := by decide +kernel
theorem dX7_best_70 : decode cX7_best 70 = .ok (.goto 11, 3) := by decide +kernel
theorem dX7_best_73 : decode cX7_best 73 = .ok (.aload_n 0, 1) := by decide +kernel
theorem dX7_best_74 : decode cX7_best 74 = .ok (.getfield 62, 3) := by decide +kernel
theorem dX7_best_77 : decode cX7_best 77 = .ok (.iload_n 2, 1) := by decide +kernel
theorem dX7_best_78 : decode cX7_best 78 = .ok (.invokevirtual 280, 3) := by decide +kernel
theorem dX7_best_81 : decode cX7_best 81 = .ok (.ireturn, 1) := by decide +kernel
theorem dX7_rages_0 : decode cX7_rages 0 = .ok (.aload_n 0, 1) := by decide +kernel
theorem dX7_rages_1 : decode cX7_rages 1 = .ok (.iload_n 1, 1) := by decide +kernel
theorem dX7_rages_2 : decode cX7_rages 2 = .ok (.iload_n 2, 1) := by decide +kernel
theorem dX7_rages_3 : decode cX7_rages 3 = .ok (.iload_n 3, 1) := by decide +kernel
theorem dX7_rages_4 : decode cX7_rages 4 = .ok (.iconst 0, 1) := by decide +kernel
theorem dX7_rages_5 : decode cX7_rages 5 = .ok (.iconst 2, 1) := by decide +kernel
theorem dX7_rages_6 : decode cX7_rages 6 = .ok (.invokestatic 99, 3) := by decide +kernel
theorem dX7_rages_9 : decode cX7_rages 9 = .ok (.invokevirtual 283, 3) := by decide +kernel
theorem dX7_rages_12 : decode cX7_rages 12 = .ok (.istore 4, 2) := by decide +kernel
theorem dX7_rages_14 : decode cX7_rages 14 = .ok (.iload 4, 2) := by decide +kernel
theorem dX7_rages_16 : decode cX7_rages 16 = .ok (.ifCond .eq 10, 3) := by decide +kernel
theorem dX7_rages_19 : decode cX7_rages 19 = .ok (.aload_n 0, 1) := by decide +kernel
theorem dX7_rages_20 : decode cX7_rages 20 = .ok (.iload 4, 2) := by decide +kernel
theorem dX7_rages_22 : decode cX7_rages 22 = .ok (.invokevirtual 103, 3) := by decide +kernel
theorem dX7_rages_25 : decode cX7_rages 25 = .ok (.ireturn, 1) := by decide +kernel
theorem dX7_rages_26 : decode cX7_rages 26 = .ok (.aload_n 0, 1) := by decide +kernel
theorem dX7_rages_27 : decode cX7_rages 27 = .ok (.iload_n 2, 1) := by decide +kernel
theorem dX7_rages_28 : decode cX7_rages 28 = .ok (.invokevirtual 286, 3) := by decide +kernel
theorem dX7_rages_31 : decode cX7_rages 31 = .ok (.aload_n 0, 1) := by decide +kernel
theorem dX7_rages_32 : decode cX7_rages 32 = .ok (.getfield 69, 3) := by decide +kernel
theorem dX7_rages_35 : decode cX7_rages 35 = .ok (.iload_n 3, 1) := by decide +kernel
theorem dX7_rages_36 : decode cX7_rages 36 = .ok (.invokevirtual 289, 3) := by decide +kernel
theorem dX7_rages_39 : decode cX7_rages 39 = .ok (.ireturn, 1) := by decide +kernel
theorem dX7_nerves_0 : decode cX7_nerves 0 = .ok (.aload_n 0, 1) := by decide +kernel
theorem dX7_nerves_1 : decode cX7_nerves 1 = .ok (.iload_n 1, 1) := by decide +kernel
theorem dX7_nerves_2 : decode cX7_nerves 2 = .ok (.iload_n 2, 1) := by decide +kernel
theorem dX7_nerves_3 : decode cX7_nerves 3 = .ok (.aload_n 0, 1) := by decide +kernel
theorem dX7_nerves_4 : decode cX7_nerves 4 = .ok (.getfield 28, 3) := by decide +kernel
theorem dX7_nerves_7 : decode cX7_nerves 7 = .ok (.iload_n 3, 1) := by decide +kernel
theorem dX7_nerves_8 : decode cX7_nerves 8 = .ok (.invokevirtual 146, 3) := by decide +kernel
theorem dX7_nerves_11 : decode cX7_nerves 11 = .ok (.ifCond .eq 17, 3) := by decide +kernel
theorem dX7_nerves_14 : decode cX7_nerves 14 = .ok (.iload 4, 2) := by decide +kernel
theorem dX7_nerves_16 : decode cX7_nerves 16 = .ok (.iconst 0, 1) := by decide +kernel
theorem dX7_nerves_17 : decode cX7_nerves 17 = .ok (.iconst 2, 1) := by decide +kernel
theorem dX7_nerves_18 : decode cX7_nerves 18 = .ok (.invokestatic 99, 3) := by decide +kernel
theorem dX7_nerves_21 : decode cX7_nerves 21 = .ok (.ifCond .eq 7, 3) := by decide +kernel
theorem dX7_nerves_24 : decode cX7_nerves 24 = .ok (.iconst 1, 1) := by decide +kernel
theorem dX7_nerves_25 : decode cX7_nerves 25 = .ok (.goto 4, 3) := by decide +kernel
theorem dX7_nerves_28 : decode cX7_nerves 28 = .ok (.iconst 0, 1) := by decide +kernel
theorem dX7_nerves_29 : decode cX7_nerves 29 = .ok (.invokevirtual 283, 3) := by decide +kernel
