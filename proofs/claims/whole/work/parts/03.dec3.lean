theorem dX6_part_42 : decode cX6_part 42 = .ok (.bipush 12, 2) := by decide +kernel
theorem dX6_part_44 : decode cX6_part 44 = .ok (.if_icmp .ne 6, 3) := by decide +kernel
theorem dX6_part_47 : decode cX6_part 47 = .ok (.bipush (-3), 2) := by decide +kernel
theorem dX6_part_49 : decode cX6_part 49 = .ok (.ireturn, 1) := by decide +kernel
theorem dX6_part_50 : decode cX6_part 50 = .ok (.aload_n 0, 1) := by decide +kernel
theorem dX6_part_51 : decode cX6_part 51 = .ok (.getfield 7, 3) := by decide +kernel
theorem dX6_part_54 : decode cX6_part 54 = .ok (.aload_n 0, 1) := by decide +kernel
theorem dX6_part_55 : decode cX6_part 55 = .ok (.getfield 74, 3) := by decide +kernel
theorem dX6_part_58 : decode cX6_part 58 = .ok (.iload_n 1, 1) := by decide +kernel
theorem dX6_part_59 : decode cX6_part 59 = .ok (.iastore, 1) := by decide +kernel
theorem dX6_part_60 : decode cX6_part 60 = .ok (.aload_n 0, 1) := by decide +kernel
theorem dX6_part_61 : decode cX6_part 61 = .ok (.getfield 13, 3) := by decide +kernel
theorem dX6_part_64 : decode cX6_part 64 = .ok (.aload_n 0, 1) := by decide +kernel
theorem dX6_part_65 : decode cX6_part 65 = .ok (.getfield 74, 3) := by decide +kernel
theorem dX6_part_68 : decode cX6_part 68 = .ok (.iload_n 2, 1) := by decide +kernel
theorem dX6_part_69 : decode cX6_part 69 = .ok (.iastore, 1) := by decide +kernel
theorem dX6_part_70 : decode cX6_part 70 = .ok (.aload_n 0, 1) := by decide +kernel
theorem dX6_part_71 : decode cX6_part 71 = .ok (.getfield 16, 3) := by decide +kernel
theorem dX6_part_74 : decode cX6_part 74 = .ok (.aload_n 0, 1) := by decide +kernel
theorem dX6_part_75 : decode cX6_part 75 = .ok (.getfield 74, 3) := by decide +kernel
theorem dX6_part_78 : decode cX6_part 78 = .ok (.iload_n 3, 1) := by decide +kernel
theorem dX6_part_79 : decode cX6_part 79 = .ok (.iastore, 1) := by decide +kernel
theorem dX6_part_80 : decode cX6_part 80 = .ok (.aload_n 0, 1) := by decide +kernel
theorem dX6_part_81 : decode cX6_part 81 = .ok (.dup, 1) := by decide +kernel
theorem dX6_part_82 : decode cX6_part 82 = .ok (.getfield 74, 3) := by decide +kernel
theorem dX6_part_85 : decode cX6_part 85 = .ok (.iconst 1, 1) := by decide +kernel
theorem dX6_part_86 : decode cX6_part 86 = .ok (.iadd, 1) := by decide +kernel
theorem dX6_part_87 : decode cX6_part 87 = .ok (.putfield 74, 3) := by decide +kernel
theorem dX6_part_90 : decode cX6_part 90 = .ok (.aload_n 0, 1) := by decide +kernel
theorem dX6_part_91 : decode cX6_part 91 = .ok (.getfield 74, 3) := by decide +kernel
theorem dX6_part_94 : decode cX6_part 94 = .ok (.iconst 1, 1) := by decide +kernel
theorem dX6_part_95 : decode cX6_part 95 = .ok (.isub, 1) := by decide +kernel
theorem dX6_part_96 : decode cX6_part 96 = .ok (.ireturn, 1) := by decide +kernel
theorem dX6_test_0 : decode cX6_test 0 = .ok (.aload_n 0, 1) := by decide +kernel
theorem dX6_test_1 : decode cX6_test 1 = .ok (.iload_n 1, 1) := by decide +kernel
theorem dX6_test_2 : decode cX6_test 2 = .ok (.invokevirtual 89, 3) := by decide +kernel
theorem dX6_test_5 : decode cX6_test 5 = .ok (.ifCond .eq 10, 3) := by decide +kernel
theorem dX6_test_8 : decode cX6_test 8 = .ok (.iload_n 2, 1) := by decide +kernel
theorem dX6_test_9 : decode cX6_test 9 = .ok (.invokestatic 93, 3) := by decide +kernel
theorem dX6_test_12 : decode cX6_test 12 = .ok (.ifCond .ne 5, 3) := by decide +kernel
theorem dX6_test_15 : decode cX6_test 15 = .ok (.iconst (-1), 1) := by decide +kernel
theorem dX6_test_16 : decode cX6_test 16 = .ok (.ireturn, 1) := by decide +kernel
theorem dX6_test_17 : decode cX6_test 17 = .ok (.aload_n 0, 1) := by decide +kernel
theorem dX6_test_18 : decode cX6_test 18 = .ok (.getfield 22, 3) := by decide +kernel
theorem dX6_test_21 : decode cX6_test 21 = .ok (.iload_n 1, 1) := by decide +kernel
theorem dX6_test_22 : decode cX6_test 22 = .ok (.iaload, 1) := by decide +kernel
theorem dX6_test_23 : decode cX6_test 23 = .ok (.ifCond .le 28, 3) := by decide +kernel
theorem dX6_test_26 : decode cX6_test 26 = .ok (.aload_n 0, 1) := by decide +kernel
theorem dX6_test_27 : decode cX6_test 27 = .ok (.getfield 25, 3) := by decide +kernel
theorem dX6_test_30 : decode cX6_test 30 = .ok (.bipush 12, 2) := by decide +kernel
theorem dX6_test_32 : decode cX6_test 32 = .ok (.iload_n 1, 1) := by decide +kernel
theorem dX6_test_33 : decode cX6_test 33 = .ok (.imul, 1) := by decide +kernel
theorem dX6_test_34 : decode cX6_test 34 = .ok (.aload_n 0, 1) := by decide +kernel
theorem dX6_test_35 : decode cX6_test 35 = .ok (.getfield 22, 3) := by decide +kernel
theorem dX6_test_38 : decode cX6_test 38 = .ok (.iload_n 1, 1) := by decide +kernel
theorem dX6_test_39 : decode cX6_test 39 = .ok (.iaload, 1) := by decide +kernel
theorem dX6_test_40 : decode cX6_test 40 = .ok (.iadd, 1) := by decide +kernel
theorem dX6_test_41 : decode cX6_test 41 = .ok (.iconst 1, 1) := by decide +kernel
theorem dX6_test_42 : decode cX6_test 42 = .ok (.isub, 1) := by decide +kernel
theorem dX6_test_43 : decode cX6_test 43 = .ok (.iaload, 1) := by decide +kernel
theorem dX6_test_44 : decode cX6_test 44 = .ok (.iload_n 2, 1) := by decide +kernel
theorem dX6_test_45 : decode cX6_test 45 = .ok (.if_icmp .lt 6, 3) := by decide +kernel
theorem dX6_test_48 : decode cX6_test 48 = .ok (.bipush (-2), 2) := by decide +kernel
theorem dX6_test_50 : decode cX6_test 50 = .ok (.ireturn, 1) := by decide +kernel
theorem dX6_test_51 : decode cX6_test 51 = .ok (.aload_n 0, 1) := by decide +kernel
theorem dX6_test_52 : decode cX6_test 52 = .ok (.getfield 22, 3) := by decide +kernel
theorem dX6_test_55 : decode cX6_test 55 = .ok (.iload_n 1, 1) := by decide +kernel
theorem dX6_test_56 : decode cX6_test 56 = .ok (.iaload, 1) := by decide +kernel
theorem dX6_test_57 : decode cX6_test 57 = .ok (.bipush 12, 2) := by decide +kernel
theorem dX6_test_59 : decode cX6_test 59 = .ok (.if_icmp .ne 6, 3) := by decide +kernel
theorem dX6_test_62 : decode cX6_test 62 = .ok (.bipush (-3), 2) := by decide +kernel
theorem dX6_test_64 : decode cX6_test 64 = .ok (.ireturn, 1) := by decide +kernel
theorem dX6_test_65 : decode cX6_test 65 = .ok (.aload_n 0, 1) := by decide +kernel
theorem dX6_test_66 : decode cX6_test 66 = .ok (.getfield 25, 3) := by decide +kernel
theorem dX6_test_69 : decode cX6_test 69 = .ok (.bipush 12, 2) := by decide +kernel
theorem dX6_test_71 : decode cX6_test 71 = .ok (.iload_n 1, 1) := by decide +kernel
theorem dX6_test_72 : decode cX6_test 72 = .ok (.imul, 1) := by decide +kernel
theorem dX6_test_73 : decode cX6_test 73 = .ok (.aload_n 0, 1) := by decide +kernel
theorem dX6_test_74 : decode cX6_test 74 = .ok (.getfield 22, 3) := by decide +kernel
theorem dX6_test_77 : decode cX6_test 77 = .ok (.iload_n 1, 1) := by decide +kernel
theorem dX6_test_78 : decode cX6_test 78 = .ok (.iaload, 1) := by decide +kernel
theorem dX6_test_79 : decode cX6_test 79 = .ok (.iadd, 1) := by decide +kernel
theorem dX6_test_80 : decode cX6_test 80 = .ok (.iload_n 2, 1) := by decide +kernel
theorem dX6_test_81 : decode cX6_test 81 = .ok (.iastore, 1) := by decide +kernel
theorem dX6_test_82 : decode cX6_test 82 = .ok (.aload_n 0, 1) := by decide +kernel
theorem dX6_test_83 : decode cX6_test 83 = .ok (.getfield 22, 3) := by decide +kernel
theorem dX6_test_86 : decode cX6_test 86 = .ok (.iload_n 1, 1) := by decide +kernel
theorem dX6_test_87 : decode cX6_test 87 = .ok (.dup2, 1) := by decide +kernel
theorem dX6_test_88 : decode cX6_test 88 = .ok (.iaload, 1) := by decide +kernel
theorem dX6_test_89 : decode cX6_test 89 = .ok (.iconst 1, 1) := by decide +kernel
theorem dX6_test_90 : decode cX6_test 90 = .ok (.iadd, 1) := by decide +kernel
theorem dX6_test_91 : decode cX6_test 91 = .ok (.iastore, 1) := by decide +kernel
theorem dX6_test_92 : decode cX6_test 92 = .ok (.aload_n 0, 1) := by decide +kernel
theorem dX6_test_93 : decode cX6_test 93 = .ok (.getfield 22, 3) := by decide +kernel
theorem dX6_test_96 : decode cX6_test 96 = .ok (.iload_n 1, 1) := by decide +kernel
theorem dX6_test_97 : decode cX6_test 97 = .ok (.iaload, 1) := by decide +kernel
theorem dX6_test_98 : decode cX6_test 98 = .ok (.ireturn, 1) := by decide +kernel
theorem dX6_noTests_0 : decode cX6_noTests 0 = .ok (.aload_n 0, 1) := by decide +kernel
theorem dX6_noTests_1 : decode cX6_noTests 1 = .ok (.iload_n 1, 1) := by decide +kernel
theorem dX6_noTests_2 : decode cX6_noTests 2 = .ok (.invokevirtual 89, 3) := by decide +kernel
theorem dX6_noTests_5 : decode cX6_noTests 5 = .ok (.ifCond .eq 10, 3) := by decide +kernel
theorem dX6_noTests_8 : decode cX6_noTests 8 = .ok (.iload_n 2, 1) := by decide +kernel
theorem dX6_noTests_9 : decode cX6_noTests 9 = .ok (.invokestatic 93, 3) := by decide +kernel
theorem dX6_noTests_12 : decode cX6_noTests 12 = .ok (.ifCond .ne 5, 3) := by decide +kernel
theorem dX6_noTests_15 : decode cX6_noTests 15 = .ok (.iconst (-1), 1) := by decide +kernel
theorem dX6_noTests_16 : decode cX6_noTests 16 = .ok (.ireturn, 1) := by decide +kernel
theorem dX6_noTests_17 : decode cX6_noTests 17 = .ok (.aload_n 0, 1) := by decide +kernel
theorem dX6_noTests_18 : decode cX6_noTests 18 = .ok (.getfield 22, 3) := by decide +kernel
theorem dX6_noTests_21 : decode cX6_noTests 21 = .ok (.iload_n 1, 1) := by decide +kernel
theorem dX6_noTests_22 : decode cX6_noTests 22 = .ok (.iaload, 1) := by decide +kernel
theorem dX6_noTests_23 : decode cX6_noTests 23 = .ok (.istore_n 3, 1) := by decide +kernel
theorem dX6_noTests_24 : decode cX6_noTests 24 = .ok (.aload_n 0, 1) := by decide +kernel
theorem dX6_noTests_25 : decode cX6_noTests 25 = .ok (.getfield 22, 3) := by decide +kernel
theorem dX6_noTests_28 : decode cX6_noTests 28 = .ok (.iload_n 1, 1) := by decide +kernel
theorem dX6_noTests_29 : decode cX6_noTests 29 = .ok (.iaload, 1) := by decide +kernel
theorem dX6_noTests_30 : decode cX6_noTests 30 = .ok (.ifCond .le 38, 3) := by decide +kernel
theorem dX6_noTests_33 : decode cX6_noTests 33 = .ok (.aload_n 0, 1) := by decide +kernel
theorem dX6_noTests_34 : decode cX6_noTests 34 = .ok (.getfield 25, 3) := by decide +kernel
theorem dX6_noTests_37 : decode cX6_noTests 37 = .ok (.bipush 12, 2) := by decide +kernel
theorem dX6_noTests_39 : decode cX6_noTests 39 = .ok (.iload_n 1, 1) := by decide +kernel
theorem dX6_noTests_40 : decode cX6_noTests 40 = .ok (.imul, 1) := by decide +kernel
theorem dX6_noTests_41 : decode cX6_noTests 41 = .ok (.aload_n 0, 1) := by decide +kernel
theorem dX6_noTests_42 : decode cX6_noTests 42 = .ok (.getfield 22, 3) := by decide +kernel
theorem dX6_noTests_45 : decode cX6_noTests 45 = .ok (.iload_n 1, 1) := by decide +kernel
theorem dX6_noTests_46 : decode cX6_noTests 46 = .ok (.iaload, 1) := by decide +kernel
theorem dX6_noTests_47 : decode cX6_noTests 47 = .ok (.iadd, 1) := by decide +kernel
theorem dX6_noTests_48 : decode cX6_noTests 48 = .ok (.iconst 1, 1) := by decide +kernel
theorem dX6_noTests_49 : decode cX6_noTests 49 = .ok (.isub, 1) := by decide +kernel
theorem dX6_noTests_50 : decode cX6_noTests 50 = .ok (.iaload, 1) := by decide +kernel
theorem dX6_noTests_51 : decode cX6_noTests 51 = .ok (.iload_n 2, 1) := by decide +kernel
theorem dX6_noTests_52 : decode cX6_noTests 52 = .ok (.if_icmp .lt 16, 3) := by decide +kernel
theorem dX6_noTests_55 : decode cX6_noTests 55 = .ok (.aload_n 0, 1) := by decide +kernel
theorem dX6_noTests_56 : decode cX6_noTests 56 = .ok (.getfield 22, 3) := by decide +kernel
theorem dX6_noTests_59 : decode cX6_noTests 59 = .ok (.iload_n 1, 1) := by decide +kernel
theorem dX6_noTests_60 : decode cX6_noTests 60 = .ok (.dup2, 1) := by decide +kernel
theorem dX6_noTests_61 : decode cX6_noTests 61 = .ok (.iaload, 1) := by decide +kernel
theorem dX6_noTests_62 : decode cX6_noTests 62 = .ok (.iconst 1, 1) := by decide +kernel
theorem dX6_noTests_63 : decode cX6_noTests 63 = .ok (.isub, 1) := by decide +kernel
theorem dX6_noTests_64 : decode cX6_noTests 64 = .ok (.iastore, 1) := by decide +kernel
theorem dX6_noTests_65 : decode cX6_noTests 65 = .ok (.goto (-41), 3) := by decide +kernel
theorem dX6_noTests_68 : decode cX6_noTests 68 = .ok (.iload_n 3, 1) := by decide +kernel
theorem dX6_noTests_69 : decode cX6_noTests 69 = .ok (.aload_n 0, 1) := by decide +kernel
theorem dX6_noTests_70 : decode cX6_noTests 70 = .ok (.getfield 22, 3) := by decide +kernel
theorem dX6_noTests_73 : decode cX6_noTests 73 = .ok (.iload_n 1, 1) := by decide +kernel
theorem dX6_noTests_74 : decode cX6_noTests 74 = .ok (.iaload, 1) := by decide +kernel
theorem dX6_noTests_75 : decode cX6_noTests 75 = .ok (.isub, 1) := by decide +kernel
theorem dX6_noTests_76 : decode cX6_noTests 76 = .ok (.ireturn, 1) := by decide +kernel
theorem dX6_areDays_0 : decode cX6_areDays 0 = .ok (.iload_n 0, 1) := by decide +kernel
theorem dX6_areDays_1 : decode cX6_areDays 1 = .ok (.invokestatic 93, 3) := by decide +kernel
theorem dX6_areDays_4 : decode cX6_areDays 4 = .ok (.ifCond .eq 19, 3) := by decide +kernel
theorem dX6_areDays_7 : decode cX6_areDays 7 = .ok (.iload_n 1, 1) := by decide +kernel
theorem dX6_areDays_8 : decode cX6_areDays 8 = .ok (.invokestatic 93, 3) := by decide +kernel
theorem dX6_areDays_11 : decode cX6_areDays 11 = .ok (.ifCond .eq 12, 3) := by decide +kernel
theorem dX6_areDays_14 : decode cX6_areDays 14 = .ok (.iload_n 0, 1) := by decide +kernel
theorem dX6_areDays_15 : decode cX6_areDays 15 = .ok (.iload_n 1, 1) := by decide +kernel
theorem dX6_areDays_16 : decode cX6_areDays 16 = .ok (.if_icmp .gt 7, 3) := by decide +kernel
theorem dX6_areDays_19 : decode cX6_areDays 19 = .ok (.iconst 1, 1) := by decide +kernel
theorem dX6_areDays_20 : decode cX6_areDays 20 = .ok (.goto 4, 3) := by decide +kernel
theorem dX6_areDays_23 : decode cX6_areDays 23 = .ok (.iconst 0, 1) := by decide +kernel
theorem dX6_areDays_24 : decode cX6_areDays 24 = .ok (.ireturn, 1) := by decide +kernel
theorem dX6_bypass_0 : decode cX6_bypass 0 = .ok (.aload_n 0, 1) := by decide +kernel
theorem dX6_bypass_1 : decode cX6_bypass 1 = .ok (.iload_n 1, 1) := by decide +kernel
theorem dX6_bypass_2 : decode cX6_bypass 2 = .ok (.invokevirtual 89, 3) := by decide +kernel
theorem dX6_bypass_5 : decode cX6_bypass 5 = .ok (.ifCond .eq 11, 3) := by decide +kernel
theorem dX6_bypass_8 : decode cX6_bypass 8 = .ok (.iload_n 2, 1) := by decide +kernel
theorem dX6_bypass_9 : decode cX6_bypass 9 = .ok (.iload_n 3, 1) := by decide +kernel
theorem dX6_bypass_10 : decode cX6_bypass 10 = .ok (.invokestatic 96, 3) := by decide +kernel
theorem dX6_bypass_13 : decode cX6_bypass 13 = .ok (.ifCond .ne 5, 3) := by decide +kernel
theorem dX6_bypass_16 : decode cX6_bypass 16 = .ok (.iconst (-1), 1) := by decide +kernel
theorem dX6_bypass_17 : decode cX6_bypass 17 = .ok (.ireturn, 1) := by decide +kernel
theorem dX6_bypass_18 : decode cX6_bypass 18 = .ok (.aload_n 0, 1) := by decide +kernel
theorem dX6_bypass_19 : decode cX6_bypass 19 = .ok (.getfield 100, 3) := by decide +kernel
theorem dX6_bypass_22 : decode cX6_bypass 22 = .ok (.bipush 20, 2) := by decide +kernel
theorem dX6_bypass_24 : decode cX6_bypass 24 = .ok (.if_icmp .ne 6, 3) := by decide +kernel
theorem dX6_bypass_27 : decode cX6_bypass 27 = .ok (.bipush (-3), 2) := by decide +kernel
theorem dX6_bypass_29 : decode cX6_bypass 29 = .ok (.ireturn, 1) := by decide +kernel
theorem dX6_bypass_30 : decode cX6_bypass 30 = .ok (.aload_n 0, 1) := by decide +kernel
theorem dX6_bypass_31 : decode cX6_bypass 31 = .ok (.getfield 34, 3) := by decide +kernel
theorem dX6_bypass_34 : decode cX6_bypass 34 = .ok (.aload_n 0, 1) := by decide +kernel
theorem dX6_bypass_35 : decode cX6_bypass 35 = .ok (.getfield 100, 3) := by decide +kernel
theorem dX6_bypass_38 : decode cX6_bypass 38 = .ok (.iload_n 1, 1) := by decide +kernel
theorem dX6_bypass_39 : decode cX6_bypass 39 = .ok (.iastore, 1) := by decide +kernel
theorem dX6_bypass_40 : decode cX6_bypass 40 = .ok (.aload_n 0, 1) := by decide +kernel
theorem dX6_bypass_41 : decode cX6_bypass 41 = .ok (.getfield 37, 3) := by decide +kernel
theorem dX6_bypass_44 : decode cX6_bypass 44 = .ok (.aload_n 0, 1) := by decide +kernel
theorem dX6_bypass_45 : decode cX6_bypass 45 = .ok (.getfield 100, 3) := by decide +kernel
theorem dX6_bypass_48 : decode cX6_bypass 48 = .ok (.iload_n 2, 1) := by decide +kernel
theorem dX6_bypass_49 : decode cX6_bypass 49 = .ok (.iastore, 1) := by decide +kernel
theorem dX6_bypass_50 : decode cX6_bypass 50 = .ok (.aload_n 0, 1) := by decide +kernel
theorem dX6_bypass_51 : decode cX6_bypass 51 = .ok (.getfield 40, 3) := by decide +kernel
theorem dX6_bypass_54 : decode cX6_bypass 54 = .ok (.aload_n 0, 1) := by decide +kernel
theorem dX6_bypass_55 : decode cX6_bypass 55 = .ok (.getfield 100, 3) := by decide +kernel
theorem dX6_bypass_58 : decode cX6_bypass 58 = .ok (.iload_n 3, 1) := by decide +kernel
theorem dX6_bypass_59 : decode cX6_bypass 59 = .ok (.iastore, 1) := by decide +kernel
theorem dX6_bypass_60 : decode cX6_bypass 60 = .ok (.aload_n 0, 1) := by decide +kernel
theorem dX6_bypass_61 : decode cX6_bypass 61 = .ok (.dup, 1) := by decide +kernel
theorem dX6_bypass_62 : decode cX6_bypass 62 = .ok (.getfield 100, 3) := by decide +kernel
theorem dX6_bypass_65 : decode cX6_bypass 65 = .ok (.iconst 1, 1) := by decide +kernel
theorem dX6_bypass_66 : decode cX6_bypass 66 = .ok (.iadd, 1) := by decide +kernel
theorem dX6_bypass_67 : decode cX6_bypass 67 = .ok (.putfield 100, 3) := by decide +kernel
theorem dX6_bypass_70 : decode cX6_bypass 70 = .ok (.aload_n 0, 1) := by decide +kernel
theorem dX6_bypass_71 : decode cX6_bypass 71 = .ok (.getfield 100, 3) := by decide +kernel
theorem dX6_bypass_74 : decode cX6_bypass 74 = .ok (.ireturn, 1) := by decide +kernel
theorem dX6_isBypassed_0 : decode cX6_isBypassed 0 = .ok (.iconst 0, 1) := by decide +kernel
theorem dX6_isBypassed_1 : decode cX6_isBypassed 1 = .ok (.istore_n 3, 1) := by decide +kernel
theorem dX6_isBypassed_2 : decode cX6_isBypassed 2 = .ok (.iconst 0, 1) := by decide +kernel
theorem dX6_isBypassed_3 : decode cX6_isBypassed 3 = .ok (.istore 4, 2) := by decide +kernel
theorem dX6_isBypassed_5 : decode cX6_isBypassed 5 = .ok (.iload 4, 2) := by decide +kernel
theorem dX6_isBypassed_7 : decode cX6_isBypassed 7 = .ok (.aload_n 0, 1) := by decide +kernel
theorem dX6_isBypassed_8 : decode cX6_isBypassed 8 = .ok (.getfield 100, 3) := by decide +kernel
theorem dX6_isBypassed_11 : decode cX6_isBypassed 11 = .ok (.if_icmp .ge 54, 3) := by decide +kernel
theorem dX6_isBypassed_14 : decode cX6_isBypassed 14 = .ok (.iload_n 3, 1) := by decide +kernel
theorem dX6_isBypassed_15 : decode cX6_isBypassed 15 = .ok (.ifCond .ne 38, 3) := by decide +kernel
theorem dX6_isBypassed_18 : decode cX6_isBypassed 18 = .ok (.aload_n 0, 1) := by decide +kernel
theorem dX6_isBypassed_19 : decode cX6_isBypassed 19 = .ok (.getfield 34, 3) := by decide +kernel
theorem dX6_isBypassed_22 : decode cX6_isBypassed 22 = .ok (.iload 4, 2) := by decide +kernel
theorem dX6_isBypassed_24 : decode cX6_isBypassed 24 = .ok (.iaload, 1) := by decide +kernel
theorem dX6_isBypassed_25 : decode cX6_isBypassed 25 = .ok (.iload_n 1, 1) := by decide +kernel
theorem dX6_isBypassed_26 : decode cX6_isBypassed 26 = .ok (.if_icmp .ne 31, 3) := by decide +kernel
theorem dX6_isBypassed_29 : decode cX6_isBypassed 29 = .ok (.iload_n 2, 1) := by decide +kernel
theorem dX6_isBypassed_30 : decode cX6_isBypassed 30 = .ok (.i2l, 1) := by decide +kernel
theorem dX6_isBypassed_31 : decode cX6_isBypassed 31 = .ok (.aload_n 0, 1) := by decide +kernel
theorem dX6_isBypassed_32 : decode cX6_isBypassed 32 = .ok (.getfield 37, 3) := by decide +kernel
theorem dX6_isBypassed_35 : decode cX6_isBypassed 35 = .ok (.iload 4, 2) := by decide +kernel
theorem dX6_isBypassed_37 : decode cX6_isBypassed 37 = .ok (.iaload, 1) := by decide +kernel
theorem dX6_isBypassed_38 : decode cX6_isBypassed 38 = .ok (.i2l, 1) := by decide +kernel
theorem dX6_isBypassed_39 : decode cX6_isBypassed 39 = .ok (.aload_n 0, 1) := by decide +kernel
theorem dX6_isBypassed_40 : decode cX6_isBypassed 40 = .ok (.getfield 40, 3) := by decide +kernel
theorem dX6_isBypassed_43 : decode cX6_isBypassed 43 = .ok (.iload 4, 2) := by decide +kernel
theorem dX6_isBypassed_45 : decode cX6_isBypassed 45 = .ok (.iaload, 1) := by decide +kernel
theorem dX6_isBypassed_46 : decode cX6_isBypassed 46 = .ok (.i2l, 1) := by decide +kernel
theorem dX6_isBypassed_47 : decode cX6_isBypassed 47 = .ok (.invokestatic 78, 3) := by decide +kernel
theorem dX6_isBypassed_50 : decode cX6_isBypassed 50 = .ok (.ifCond .eq 7, 3) := by decide +kernel
theorem dX6_isBypassed_53 : decode cX6_isBypassed 53 = .ok (.iconst 1, 1) := by decide +kernel
theorem dX6_isBypassed_54 : decode cX6_isBypassed 54 = .ok (.goto 4, 3) := by decide +kernel
theorem dX6_isBypassed_57 : decode cX6_isBypassed 57 = .ok (.iconst 0, 1) := by decide +kernel
theorem dX6_isBypassed_58 : decode cX6_isBypassed 58 = .ok (.istore_n 3, 1) := by decide +kernel
theorem dX6_isBypassed_59 : decode cX6_isBypassed 59 = .ok (.iinc 4 1, 3) := by decide +kernel
theorem dX6_isBypassed_62 : decode cX6_isBypassed 62 = .ok (.goto (-57), 3) := by decide +kernel
theorem dX6_isBypassed_65 : decode cX6_isBypassed 65 = .ok (.iload_n 3, 1) := by decide +kernel
theorem dX6_isBypassed_66 : decode cX6_isBypassed 66 = .ok (.ireturn, 1) := by decide +kernel
theorem dX6_bypassed_0 : decode cX6_bypassed 0 = .ok (.aload_n 0, 1) := by decide +kernel
theorem dX6_bypassed_1 : decode cX6_bypassed 1 = .ok (.iload_n 1, 1) := by decide +kernel
theorem dX6_bypassed_2 : decode cX6_bypassed 2 = .ok (.invokevirtual 89, 3) := by decide +kernel
theorem dX6_bypassed_5 : decode cX6_bypassed 5 = .ok (.ifCond .eq 11, 3) := by decide +kernel
theorem dX6_bypassed_8 : decode cX6_bypassed 8 = .ok (.iload_n 2, 1) := by decide +kernel
theorem dX6_bypassed_9 : decode cX6_bypassed 9 = .ok (.iload_n 3, 1) := by decide +kernel
theorem dX6_bypassed_10 : decode cX6_bypassed 10 = .ok (.invokestatic 96, 3) := by decide +kernel
theorem dX6_bypassed_13 : decode cX6_bypassed 13 = .ok (.ifCond .ne 5, 3) := by decide +kernel
theorem dX6_bypassed_16 : decode cX6_bypassed 16 = .ok (.iconst (-1), 1) := by decide +kernel
theorem dX6_bypassed_17 : decode cX6_bypassed 17 = .ok (.ireturn, 1) := by decide +kernel
theorem dX6_bypassed_18 : decode cX6_bypassed 18 = .ok (.iconst 0, 1) := by decide +kernel
theorem dX6_bypassed_19 : decode cX6_bypassed 19 = .ok (.istore 4, 2) := by decide +kernel
theorem dX6_bypassed_21 : decode cX6_bypassed 21 = .ok (.iload_n 2, 1) := by decide +kernel
theorem dX6_bypassed_22 : decode cX6_bypassed 22 = .ok (.istore 5, 2) := by decide +kernel
theorem dX6_bypassed_24 : decode cX6_bypassed 24 = .ok (.iload 5, 2) := by decide +kernel
theorem dX6_bypassed_26 : decode cX6_bypassed 26 = .ok (.iload_n 3, 1) := by decide +kernel
theorem dX6_bypassed_27 : decode cX6_bypassed 27 = .ok (.if_icmp .gt 29, 3) := by decide +kernel
theorem dX6_bypassed_30 : decode cX6_bypassed 30 = .ok (.iload 4, 2) := by decide +kernel
theorem dX6_bypassed_32 : decode cX6_bypassed 32 = .ok (.aload_n 0, 1) := by decide +kernel
theorem dX6_bypassed_33 : decode cX6_bypassed 33 = .ok (.iload_n 1, 1) := by decide +kernel
theorem dX6_bypassed_34 : decode cX6_bypassed 34 = .ok (.iload 5, 2) := by decide +kernel
theorem dX6_bypassed_36 : decode cX6_bypassed 36 = .ok (.invokevirtual 103, 3) := by decide +kernel
theorem dX6_bypassed_39 : decode cX6_bypassed 39 = .ok (.ifCond .eq 7, 3) := by decide +kernel
theorem dX6_bypassed_42 : decode cX6_bypassed 42 = .ok (.iconst 1, 1) := by decide +kernel
theorem dX6_bypassed_43 : decode cX6_bypassed 43 = .ok (.goto 4, 3) := by decide +kernel
theorem dX6_bypassed_46 : decode cX6_bypassed 46 = .ok (.iconst 0, 1) := by decide +kernel
theorem dX6_bypassed_47 : decode cX6_bypassed 47 = .ok (.iadd, 1) := by decide +kernel
theorem dX6_bypassed_48 : decode cX6_bypassed 48 = .ok (.istore 4, 2) := by decide +kernel
theorem dX6_bypassed_50 : decode cX6_bypassed 50 = .ok (.iinc 5 1, 3) := by decide +kernel
theorem dX6_bypassed_53 : decode cX6_bypassed 53 = .ok (.goto (-29), 3) := by decide +kernel
theorem dX6_bypassed_56 : decode cX6_bypassed 56 = .ok (.iload 4, 2) := by decide +kernel
theorem dX6_bypassed_58 : decode cX6_bypassed 58 = .ok (.ireturn, 1) := by decide +kernel
theorem dX6_bits_0 : decode cX6_bits 0 = .ok (.iconst 0, 1) := by decide +kernel
theorem dX6_bits_1 : decode cX6_bits 1 = .ok (.istore_n 1, 1) := by decide +kernel
theorem dX6_bits_2 : decode cX6_bits 2 = .ok (.iconst 0, 1) := by decide +kernel
theorem dX6_bits_3 : decode cX6_bits 3 = .ok (.istore_n 2, 1) := by decide +kernel
theorem dX6_bits_4 : decode cX6_bits 4 = .ok (.iload_n 2, 1) := by decide +kernel
theorem dX6_bits_5 : decode cX6_bits 5 = .ok (.bipush 12, 2) := by decide +kernel
theorem dX6_bits_7 : decode cX6_bits 7 = .ok (.if_icmp .ge 17, 3) := by decide +kernel
theorem dX6_bits_10 : decode cX6_bits 10 = .ok (.iload_n 1, 1) := by decide +kernel
theorem dX6_bits_11 : decode cX6_bits 11 = .ok (.iload_n 0, 1) := by decide +kernel
theorem dX6_bits_12 : decode cX6_bits 12 = .ok (.iload_n 2, 1) := by decide +kernel
theorem dX6_bits_13 : decode cX6_bits 13 = .ok (.ishr, 1) := by decide +kernel
theorem dX6_bits_14 : decode cX6_bits 14 = .ok (.iconst 1, 1) := by decide +kernel
theorem dX6_bits_15 : decode cX6_bits 15 = .ok (.iand, 1) := by decide +kernel
theorem dX6_bits_16 : decode cX6_bits 16 = .ok (.iadd, 1) := by decide +kernel
theorem dX6_bits_17 : decode cX6_bits 17 = .ok (.istore_n 1, 1) := by decide +kernel
theorem dX6_bits_18 : decode cX6_bits 18 = .ok (.iinc 2 1, 3) := by decide +kernel
theorem dX6_bits_21 : decode cX6_bits 21 = .ok (.goto (-17), 3) := by decide +kernel
theorem dX6_bits_24 : decode cX6_bits 24 = .ok (.iload_n 1, 1) := by decide +kernel
theorem dX6_bits_25 : decode cX6_bits 25 = .ok (.ireturn, 1) := by decide +kernel
theorem dX6_group_0 : decode cX6_group 0 = .ok (.iload_n 1, 1) := by decide +kernel
theorem dX6_group_1 : decode cX6_group 1 = .ok (.i2l, 1) := by decide +kernel
theorem dX6_group_2 : decode cX6_group 2 = .ok (.lconst 0, 1) := by decide +kernel
theorem dX6_group_3 : decode cX6_group 3 = .ok (.ldc2_w 87, 3) := by decide +kernel
theorem dX6_group_6 : decode cX6_group 6 = .ok (.invokestatic 78, 3) := by decide +kernel
theorem dX6_group_9 : decode cX6_group 9 = .ok (.ifCond .eq 29, 3) := by decide +kernel
theorem dX6_group_12 : decode cX6_group 12 = .ok (.iload_n 2, 1) := by decide +kernel
theorem dX6_group_13 : decode cX6_group 13 = .ok (.i2l, 1) := by decide +kernel
theorem dX6_group_14 : decode cX6_group 14 = .ok (.lconst 0, 1) := by decide +kernel
theorem dX6_group_15 : decode cX6_group 15 = .ok (.iconst 1, 1) := by decide +kernel
theorem dX6_group_16 : decode cX6_group 16 = .ok (.aload_n 0, 1) := by decide +kernel
theorem dX6_group_17 : decode cX6_group 17 = .ok (.getfield 74, 3) := by decide +kernel
theorem dX6_group_20 : decode cX6_group 20 = .ok (.ishl, 1) := by decide +kernel
theorem dX6_group_21 : decode cX6_group 21 = .ok (.iconst 1, 1) := by decide +kernel
theorem dX6_group_22 : decode cX6_group 22 = .ok (.isub, 1) := by decide +kernel
theorem dX6_group_23 : decode cX6_group 23 = .ok (.i2l, 1) := by decide +kernel
theorem dX6_group_24 : decode cX6_group 24 = .ok (.invokestatic 78, 3) := by decide +kernel
theorem dX6_group_27 : decode cX6_group 27 = .ok (.ifCond .eq 11, 3) := by decide +kernel
theorem dX6_group_30 : decode cX6_group 30 = .ok (.iload_n 2, 1) := by decide +kernel
theorem dX6_group_31 : decode cX6_group 31 = .ok (.invokestatic 106, 3) := by decide +kernel
theorem dX6_group_34 : decode cX6_group 34 = .ok (.iconst 2, 1) := by decide +kernel
theorem dX6_group_35 : decode cX6_group 35 = .ok (.if_icmp .ge 5, 3) := by decide +kernel
theorem dX6_group_38 : decode cX6_group 38 = .ok (.iconst (-1), 1) := by decide +kernel
theorem dX6_group_39 : decode cX6_group 39 = .ok (.ireturn, 1) := by decide +kernel
theorem dX6_group_40 : decode cX6_group 40 = .ok (.aload_n 0, 1) := by decide +kernel
theorem dX6_group_41 : decode cX6_group 41 = .ok (.getfield 110, 3) := by decide +kernel
theorem dX6_group_44 : decode cX6_group 44 = .ok (.iconst 4, 1) := by decide +kernel
theorem dX6_group_45 : decode cX6_group 45 = .ok (.if_icmp .ne 6, 3) := by decide +kernel
theorem dX6_group_48 : decode cX6_group 48 = .ok (.bipush (-3), 2) := by decide +kernel
theorem dX6_group_50 : decode cX6_group 50 = .ok (.ireturn, 1) := by decide +kernel
theorem dX6_group_51 : decode cX6_group 51 = .ok (.aload_n 0, 1) := by decide +kernel
theorem dX6_group_52 : decode cX6_group 52 = .ok (.getfield 43, 3) := by decide +kernel
theorem dX6_group_55 : decode cX6_group 55 = .ok (.aload_n 0, 1) := by decide +kernel
theorem dX6_group_56 : decode cX6_group 56 = .ok (.getfield 110, 3) := by decide +kernel
theorem dX6_group_59 : decode cX6_group 59 = .ok (.iload_n 1, 1) := by decide +kernel
theorem dX6_group_60 : decode cX6_group 60 = .ok (.iastore, 1) := by decide +kernel
theorem dX6_group_61 : decode cX6_group 61 = .ok (.aload_n 0, 1) := by decide +kernel
theorem dX6_group_62 : decode cX6_group 62 = .ok (.getfield 46, 3) := by decide +kernel
theorem dX6_group_65 : decode cX6_group 65 = .ok (.aload_n 0, 1) := by decide +kernel
theorem dX6_group_66 : decode cX6_group 66 = .ok (.getfield 110, 3) := by decide +kernel
theorem dX6_group_69 : decode cX6_group 69 = .ok (.iload_n 2, 1) := by decide +kernel
theorem dX6_group_70 : decode cX6_group 70 = .ok (.iastore, 1) := by decide +kernel
theorem dX6_group_71 : decode cX6_group 71 = .ok (.aload_n 0, 1) := by decide +kernel
theorem dX6_group_72 : decode cX6_group 72 = .ok (.dup, 1) := by decide +kernel
theorem dX6_group_73 : decode cX6_group 73 = .ok (.getfield 110, 3) := by decide +kernel
theorem dX6_group_76 : decode cX6_group 76 = .ok (.iconst 1, 1) := by decide +kernel
theorem dX6_group_77 : decode cX6_group 77 = .ok (.iadd, 1) := by decide +kernel
theorem dX6_group_78 : decode cX6_group 78 = .ok (.putfield 110, 3) := by decide +kernel
theorem dX6_group_81 : decode cX6_group 81 = .ok (.aload_n 0, 1) := by decide +kernel
theorem dX6_group_82 : decode cX6_group 82 = .ok (.getfield 110, 3) := by decide +kernel
theorem dX6_group_85 : decode cX6_group 85 = .ok (.iconst 1, 1) := by decide +kernel
theorem dX6_group_86 : decode cX6_group 86 = .ok (.isub, 1) := by decide +kernel
theorem dX6_group_87 : decode cX6_group 87 = .ok (.ireturn, 1) := by decide +kernel
theorem dX6_isInput_0 : decode cX6_isInput 0 = .ok (.aload_n 0, 1) := by decide +kernel
theorem dX6_isInput_1 : decode cX6_isInput 1 = .ok (.iload_n 1, 1) := by decide +kernel
theorem dX6_isInput_2 : decode cX6_isInput 2 = .ok (.invokevirtual 89, 3) := by decide +kernel
theorem dX6_isInput_5 : decode cX6_isInput 5 = .ok (.ifCond .ne 22, 3) := by decide +kernel
theorem dX6_isInput_8 : decode cX6_isInput 8 = .ok (.iload_n 1, 1) := by decide +kernel
theorem dX6_isInput_9 : decode cX6_isInput 9 = .ok (.i2l, 1) := by decide +kernel
theorem dX6_isInput_10 : decode cX6_isInput 10 = .ok (.ldc2_w 113, 3) := by decide +kernel
theorem dX6_isInput_13 : decode cX6_isInput 13 = .ok (.bipush 11, 2) := by decide +kernel
theorem dX6_isInput_15 : decode cX6_isInput 15 = .ok (.aload_n 0, 1) := by decide +kernel
theorem dX6_isInput_16 : decode cX6_isInput 16 = .ok (.getfield 82, 3) := by decide +kernel
theorem dX6_isInput_19 : decode cX6_isInput 19 = .ok (.iadd, 1) := by decide +kernel
theorem dX6_isInput_20 : decode cX6_isInput 20 = .ok (.i2l, 1) := by decide +kernel
theorem dX6_isInput_21 : decode cX6_isInput 21 = .ok (.invokestatic 78, 3) := by decide +kernel
theorem dX6_isInput_24 : decode cX6_isInput 24 = .ok (.ifCond .eq 7, 3) := by decide +kernel
theorem dX6_isInput_27 : decode cX6_isInput 27 = .ok (.iconst 1, 1) := by decide +kernel
theorem dX6_isInput_28 : decode cX6_isInput 28 = .ok (.goto 4, 3) := by decide +kernel
theorem dX6_isInput_31 : decode cX6_isInput 31 = .ok (.iconst 0, 1) := by decide +kernel
theorem dX6_isInput_32 : decode cX6_isInput 32 = .ok (.ireturn, 1) := by decide +kernel
theorem dX6_vote_0 : decode cX6_vote 0 = .ok (.iload_n 2, 1) := by decide +kernel
theorem dX6_vote_1 : decode cX6_vote 1 = .ok (.i2l, 1) := by decide +kernel
theorem dX6_vote_2 : decode cX6_vote 2 = .ok (.lconst 1, 1) := by decide +kernel
theorem dX6_vote_3 : decode cX6_vote 3 = .ok (.ldc2_w 115, 3) := by decide +kernel
theorem dX6_vote_6 : decode cX6_vote 6 = .ok (.invokestatic 78, 3) := by decide +kernel
theorem dX6_vote_9 : decode cX6_vote 9 = .ok (.ifCond .eq 68, 3) := by decide +kernel
theorem dX6_vote_12 : decode cX6_vote 12 = .ok (.iload_n 1, 1) := by decide +kernel
theorem dX6_vote_13 : decode cX6_vote 13 = .ok (.i2l, 1) := by decide +kernel
theorem dX6_vote_14 : decode cX6_vote 14 = .ok (.lconst 1, 1) := by decide +kernel
theorem dX6_vote_15 : decode cX6_vote 15 = .ok (.iload_n 2, 1) := by decide +kernel
theorem dX6_vote_16 : decode cX6_vote 16 = .ok (.i2l, 1) := by decide +kernel
theorem dX6_vote_17 : decode cX6_vote 17 = .ok (.invokestatic 78, 3) := by decide +kernel
theorem dX6_vote_20 : decode cX6_vote 20 = .ok (.ifCond .eq 57, 3) := by decide +kernel
theorem dX6_vote_23 : decode cX6_vote 23 = .ok (.aload_n 0, 1) := by decide +kernel
theorem dX6_vote_24 : decode cX6_vote 24 = .ok (.iload_n 3, 1) := by decide +kernel
theorem dX6_vote_25 : decode cX6_vote 25 = .ok (.invokevirtual 117, 3) := by decide +kernel
theorem dX6_vote_28 : decode cX6_vote 28 = .ok (.ifCond .eq 49, 3) := by decide +kernel
theorem dX6_vote_31 : decode cX6_vote 31 = .ok (.iload_n 2, 1) := by decide +kernel
theorem dX6_vote_32 : decode cX6_vote 32 = .ok (.iconst 2, 1) := by decide +kernel
theorem dX6_vote_33 : decode cX6_vote 33 = .ok (.if_icmp .lt 12, 3) := by decide +kernel
theorem dX6_vote_36 : decode cX6_vote 36 = .ok (.aload_n 0, 1) := by decide +kernel
theorem dX6_vote_37 : decode cX6_vote 37 = .ok (.iload 4, 2) := by decide +kernel
theorem dX6_vote_39 : decode cX6_vote 39 = .ok (.invokevirtual 117, 3) := by decide +kernel
theorem dX6_vote_42 : decode cX6_vote 42 = .ok (.ifCond .eq 35, 3) := by decide +kernel
theorem dX6_vote_45 : decode cX6_vote 45 = .ok (.iload_n 2, 1) := by decide +kernel
theorem dX6_vote_46 : decode cX6_vote 46 = .ok (.iconst 3, 1) := by decide +kernel
theorem dX6_vote_47 : decode cX6_vote 47 = .ok (.if_icmp .lt 12, 3) := by decide +kernel
theorem dX6_vote_50 : decode cX6_vote 50 = .ok (.aload_n 0, 1) := by decide +kernel
theorem dX6_vote_51 : decode cX6_vote 51 = .ok (.iload 5, 2) := by decide +kernel
theorem dX6_vote_53 : decode cX6_vote 53 = .ok (.invokevirtual 117, 3) := by decide +kernel
theorem dX6_vote_56 : decode cX6_vote 56 = .ok (.ifCond .eq 21, 3) := by decide +kernel
theorem dX6_vote_59 : decode cX6_vote 59 = .ok (.iload_n 2, 1) := by decide +kernel
theorem dX6_vote_60 : decode cX6_vote 60 = .ok (.iconst 4, 1) := by decide +kernel
theorem dX6_vote_61 : decode cX6_vote 61 = .ok (.if_icmp .lt 12, 3) := by decide +kernel
theorem dX6_vote_64 : decode cX6_vote 64 = .ok (.aload_n 0, 1) := by decide +kernel
theorem dX6_vote_65 : decode cX6_vote 65 = .ok (.iload 6, 2) := by decide +kernel
theorem dX6_vote_67 : decode cX6_vote 67 = .ok (.invokevirtual 117, 3) := by decide +kernel
theorem dX6_vote_70 : decode cX6_vote 70 = .ok (.ifCond .eq 7, 3) := by decide +kernel
theorem dX6_vote_73 : decode cX6_vote 73 = .ok (.iconst 1, 1) := by decide +kernel
theorem dX6_vote_74 : decode cX6_vote 74 = .ok (.goto 4, 3) := by decide +kernel
theorem dX6_vote_77 : decode cX6_vote 77 = .ok (.iconst 0, 1) := by decide +kernel
theorem dX6_vote_78 : decode cX6_vote 78 = .ok (.istore 7, 2) := by decide +kernel
theorem dX6_vote_80 : decode cX6_vote 80 = .ok (.iload 7, 2) := by decide +kernel
theorem dX6_vote_82 : decode cX6_vote 82 = .ok (.ifCond .ne 5, 3) := by decide +kernel
theorem dX6_vote_85 : decode cX6_vote 85 = .ok (.iconst (-1), 1) := by decide +kernel
theorem dX6_vote_86 : decode cX6_vote 86 = .ok (.ireturn, 1) := by decide +kernel
theorem dX6_vote_87 : decode cX6_vote 87 = .ok (.aload_n 0, 1) := by decide +kernel
theorem dX6_vote_88 : decode cX6_vote 88 = .ok (.getfield 82, 3) := by decide +kernel
theorem dX6_vote_91 : decode cX6_vote 91 = .ok (.bipush 12, 2) := by decide +kernel
theorem dX6_vote_93 : decode cX6_vote 93 = .ok (.if_icmp .ne 6, 3) := by decide +kernel
theorem dX6_vote_96 : decode cX6_vote 96 = .ok (.bipush (-3), 2) := by decide +kernel
theorem dX6_vote_98 : decode cX6_vote 98 = .ok (.ireturn, 1) := by decide +kernel
theorem dX6_vote_99 : decode cX6_vote 99 = .ok (.aload_n 0, 1) := by decide +kernel
theorem dX6_vote_100 : decode cX6_vote 100 = .ok (.getfield 49, 3) := by decide +kernel
theorem dX6_vote_103 : decode cX6_vote 103 = .ok (.aload_n 0, 1) := by decide +kernel
theorem dX6_vote_104 : decode cX6_vote 104 = .ok (.getfield 82, 3) := by decide +kernel
theorem dX6_vote_107 : decode cX6_vote 107 = .ok (.iload_n 1, 1) := by decide +kernel
theorem dX6_vote_108 : decode cX6_vote 108 = .ok (.iastore, 1) := by decide +kernel
theorem dX6_vote_109 : decode cX6_vote 109 = .ok (.aload_n 0, 1) := by decide +kernel
theorem dX6_vote_110 : decode cX6_vote 110 = .ok (.getfield 52, 3) := by decide +kernel
theorem dX6_vote_113 : decode cX6_vote 113 = .ok (.aload_n 0, 1) := by decide +kernel
theorem dX6_vote_114 : decode cX6_vote 114 = .ok (.getfield 82, 3) := by decide +kernel
theorem dX6_vote_117 : decode cX6_vote 117 = .ok (.iload_n 2, 1) := by decide +kernel
theorem dX6_vote_118 : decode cX6_vote 118 = .ok (.iastore, 1) := by decide +kernel
theorem dX6_vote_119 : decode cX6_vote 119 = .ok (.aload_n 0, 1) := by decide +kernel
theorem dX6_vote_120 : decode cX6_vote 120 = .ok (.getfield 55, 3) := by decide +kernel
theorem dX6_vote_123 : decode cX6_vote 123 = .ok (.iconst 4, 1) := by decide +kernel
theorem dX6_vote_124 : decode cX6_vote 124 = .ok (.aload_n 0, 1) := by decide +kernel
theorem dX6_vote_125 : decode cX6_vote 125 = .ok (.getfield 82, 3) := by decide +kernel
theorem dX6_vote_128 : decode cX6_vote 128 = .ok (.imul, 1) := by decide +kernel
theorem dX6_vote_129 : decode cX6_vote 129 = .ok (.iload_n 3, 1) := by decide +kernel
theorem dX6_vote_130 : decode cX6_vote 130 = .ok (.iastore, 1) := by decide +kernel
theorem dX6_vote_131 : decode cX6_vote 131 = .ok (.aload_n 0, 1) := by decide +kernel
theorem dX6_vote_132 : decode cX6_vote 132 = .ok (.getfield 55, 3) := by decide +kernel
theorem dX6_vote_135 : decode cX6_vote 135 = .ok (.iconst 4, 1) := by decide +kernel
theorem dX6_vote_136 : decode cX6_vote 136 = .ok (.aload_n 0, 1) := by decide +kernel
theorem dX6_vote_137 : decode cX6_vote 137 = .ok (.getfield 82, 3) := by decide +kernel
theorem dX6_vote_140 : decode cX6_vote 140 = .ok (.imul, 1) := by decide +kernel
theorem dX6_vote_141 : decode cX6_vote 141 = .ok (.iconst 1, 1) := by decide +kernel
theorem dX6_vote_142 : decode cX6_vote 142 = .ok (.iadd, 1) := by decide +kernel
theorem dX6_vote_143 : decode cX6_vote 143 = .ok (.iload 4, 2) := by decide +kernel
theorem dX6_vote_145 : decode cX6_vote 145 = .ok (.iastore, 1) := by decide +kernel
theorem dX6_vote_146 : decode cX6_vote 146 = .ok (.aload_n 0, 1) := by decide +kernel
theorem dX6_vote_147 : decode cX6_vote 147 = .ok (.getfield 55, 3) := by decide +kernel
theorem dX6_vote_150 : decode cX6_vote 150 = .ok (.iconst 4, 1) := by decide +kernel
theorem dX6_vote_151 : decode cX6_vote 151 = .ok (.aload_n 0, 1) := by decide +kernel
theorem dX6_vote_152 : decode cX6_vote 152 = .ok (.getfield 82, 3) := by decide +kernel
theorem dX6_vote_155 : decode cX6_vote 155 = .ok (.imul, 1) := by decide +kernel
theorem dX6_vote_156 : decode cX6_vote 156 = .ok (.iconst 2, 1) := by decide +kernel
theorem dX6_vote_157 : decode cX6_vote 157 = .ok (.iadd, 1) := by decide +kernel
theorem dX6_vote_158 : decode cX6_vote 158 = .ok (.iload 5, 2) := by decide +kernel
theorem dX6_vote_160 : decode cX6_vote 160 = .ok (.iastore, 1) := by decide +kernel
theorem dX6_vote_161 : decode cX6_vote 161 = .ok (.aload_n 0, 1) := by decide +kernel
theorem dX6_vote_162 : decode cX6_vote 162 = .ok (.getfield 55, 3) := by decide +kernel
theorem dX6_vote_165 : decode cX6_vote 165 = .ok (.iconst 4, 1) := by decide +kernel
theorem dX6_vote_166 : decode cX6_vote 166 = .ok (.aload_n 0, 1) := by decide +kernel
theorem dX6_vote_167 : decode cX6_vote 167 = .ok (.getfield 82, 3) := by decide +kernel
theorem dX6_vote_170 : decode cX6_vote 170 = .ok (.imul, 1) := by decide +kernel
theorem dX6_vote_171 : decode cX6_vote 171 = .ok (.iconst 3, 1) := by decide +kernel
theorem dX6_vote_172 : decode cX6_vote 172 = .ok (.iadd, 1) := by decide +kernel
theorem dX6_vote_173 : decode cX6_vote 173 = .ok (.iload 6, 2) := by decide +kernel
theorem dX6_vote_175 : decode cX6_vote 175 = .ok (.iastore, 1) := by decide +kernel
theorem dX6_vote_176 : decode cX6_vote 176 = .ok (.aload_n 0, 1) := by decide +kernel
theorem dX6_vote_177 : decode cX6_vote 177 = .ok (.dup, 1) := by decide +kernel
theorem dX6_vote_178 : decode cX6_vote 178 = .ok (.getfield 82, 3) := by decide +kernel
theorem dX6_vote_181 : decode cX6_vote 181 = .ok (.iconst 1, 1) := by decide +kernel
theorem dX6_vote_182 : decode cX6_vote 182 = .ok (.iadd, 1) := by decide +kernel
theorem dX6_vote_183 : decode cX6_vote 183 = .ok (.putfield 82, 3) := by decide +kernel
theorem dX6_vote_186 : decode cX6_vote 186 = .ok (.aload_n 0, 1) := by decide +kernel
theorem dX6_vote_187 : decode cX6_vote 187 = .ok (.getfield 82, 3) := by decide +kernel
theorem dX6_vote_190 : decode cX6_vote 190 = .ok (.iconst 1, 1) := by decide +kernel
theorem dX6_vote_191 : decode cX6_vote 191 = .ok (.isub, 1) := by decide +kernel
theorem dX6_vote_192 : decode cX6_vote 192 = .ok (.ireturn, 1) := by decide +kernel
theorem dX6_shareOf_0 : decode cX6_shareOf 0 = .ok (.aload_n 0, 1) := by decide +kernel
theorem dX6_shareOf_1 : decode cX6_shareOf 1 = .ok (.getfield 31, 3) := by decide +kernel
theorem dX6_shareOf_4 : decode cX6_shareOf 4 = .ok (.iload_n 1, 1) := by decide +kernel
theorem dX6_shareOf_5 : decode cX6_shareOf 5 = .ok (.iaload, 1) := by decide +kernel
theorem dX6_shareOf_6 : decode cX6_shareOf 6 = .ok (.ifCond .lt 10, 3) := by decide +kernel
theorem dX6_shareOf_9 : decode cX6_shareOf 9 = .ok (.aload_n 0, 1) := by decide +kernel
theorem dX6_shareOf_10 : decode cX6_shareOf 10 = .ok (.getfield 31, 3) := by decide +kernel
theorem dX6_shareOf_13 : decode cX6_shareOf 13 = .ok (.iload_n 1, 1) := by decide +kernel
theorem dX6_shareOf_14 : decode cX6_shareOf 14 = .ok (.iaload, 1) := by decide +kernel
theorem dX6_shareOf_15 : decode cX6_shareOf 15 = .ok (.ireturn, 1) := by decide +kernel
theorem dX6_shareOf_16 : decode cX6_shareOf 16 = .ok (.aload_n 0, 1) := by decide +kernel
theorem dX6_shareOf_17 : decode cX6_shareOf 17 = .ok (.iload_n 1, 1) := by decide +kernel
theorem dX6_shareOf_18 : decode cX6_shareOf 18 = .ok (.iload_n 2, 1) := by decide +kernel
theorem dX6_shareOf_19 : decode cX6_shareOf 19 = .ok (.invokevirtual 103, 3) := by decide +kernel
theorem dX6_shareOf_22 : decode cX6_shareOf 22 = .ok (.ifCond .eq 6, 3) := by decide +kernel
theorem dX6_shareOf_25 : decode cX6_shareOf 25 = .ok (.bipush 64, 2) := by decide +kernel
theorem dX6_shareOf_27 : decode cX6_shareOf 27 = .ok (.ireturn, 1) := by decide +kernel
theorem dX6_shareOf_28 : decode cX6_shareOf 28 = .ok (.iconst 0, 1) := by decide +kernel
theorem dX6_shareOf_29 : decode cX6_shareOf 29 = .ok (.istore_n 3, 1) := by decide +kernel
theorem dX6_shareOf_30 : decode cX6_shareOf 30 = .ok (.bipush 12, 2) := by decide +kernel
theorem dX6_shareOf_32 : decode cX6_shareOf 32 = .ok (.iload_n 1, 1) := by decide +kernel
theorem dX6_shareOf_33 : decode cX6_shareOf 33 = .ok (.imul, 1) := by decide +kernel
theorem dX6_shareOf_34 : decode cX6_shareOf 34 = .ok (.istore 4, 2) := by decide +kernel
theorem dX6_shareOf_36 : decode cX6_shareOf 36 = .ok (.iload 4, 2) := by decide +kernel
theorem dX6_shareOf_38 : decode cX6_shareOf 38 = .ok (.bipush 12, 2) := by decide +kernel
theorem dX6_shareOf_40 : decode cX6_shareOf 40 = .ok (.iload_n 1, 1) := by decide +kernel
theorem dX6_shareOf_41 : decode cX6_shareOf 41 = .ok (.imul, 1) := by decide +kernel
theorem dX6_shareOf_42 : decode cX6_shareOf 42 = .ok (.aload_n 0, 1) := by decide +kernel
theorem dX6_shareOf_43 : decode cX6_shareOf 43 = .ok (.getfield 22, 3) := by decide +kernel
theorem dX6_shareOf_46 : decode cX6_shareOf 46 = .ok (.iload_n 1, 1) := by decide +kernel
theorem dX6_shareOf_47 : decode cX6_shareOf 47 = .ok (.iaload, 1) := by decide +kernel
theorem dX6_shareOf_48 : decode cX6_shareOf 48 = .ok (.iadd, 1) := by decide +kernel
theorem dX6_shareOf_49 : decode cX6_shareOf 49 = .ok (.if_icmp .ge 32, 3) := by decide +kernel
theorem dX6_shareOf_52 : decode cX6_shareOf 52 = .ok (.aload_n 0, 1) := by decide +kernel
theorem dX6_shareOf_53 : decode cX6_shareOf 53 = .ok (.getfield 25, 3) := by decide +kernel
theorem dX6_shareOf_56 : decode cX6_shareOf 56 = .ok (.iload 4, 2) := by decide +kernel
theorem dX6_shareOf_58 : decode cX6_shareOf 58 = .ok (.iaload, 1) := by decide +kernel
theorem dX6_shareOf_59 : decode cX6_shareOf 59 = .ok (.iload_n 2, 1) := by decide +kernel
theorem dX6_shareOf_60 : decode cX6_shareOf 60 = .ok (.if_icmp .gt 13, 3) := by decide +kernel
theorem dX6_shareOf_63 : decode cX6_shareOf 63 = .ok (.aload_n 0, 1) := by decide +kernel
theorem dX6_shareOf_64 : decode cX6_shareOf 64 = .ok (.getfield 25, 3) := by decide +kernel
theorem dX6_shareOf_67 : decode cX6_shareOf 67 = .ok (.iload 4, 2) := by decide +kernel
theorem dX6_shareOf_69 : decode cX6_shareOf 69 = .ok (.iaload, 1) := by decide +kernel
theorem dX6_shareOf_70 : decode cX6_shareOf 70 = .ok (.goto 4, 3) := by decide +kernel
theorem dX6_shareOf_73 : decode cX6_shareOf 73 = .ok (.iload_n 3, 1) := by decide +kernel
theorem dX6_shareOf_74 : decode cX6_shareOf 74 = .ok (.istore_n 3, 1) := by decide +kernel
theorem dX6_shareOf_75 : decode cX6_shareOf 75 = .ok (.iinc 4 1, 3) := by decide +kernel
theorem dX6_shareOf_78 : decode cX6_shareOf 78 = .ok (.goto (-42), 3) := by decide +kernel
theorem dX6_shareOf_81 : decode cX6_shareOf 81 = .ok (.aload_n 0, 1) := by decide +kernel
theorem dX6_shareOf_82 : decode cX6_shareOf 82 = .ok (.getfield 28, 3) := by decide +kernel
theorem dX6_shareOf_85 : decode cX6_shareOf 85 = .ok (.iload_n 1, 1) := by decide +kernel
theorem dX6_shareOf_86 : decode cX6_shareOf 86 = .ok (.iaload, 1) := by decide +kernel
theorem dX6_shareOf_87 : decode cX6_shareOf 87 = .ok (.ifCond .le 16, 3) := by decide +kernel
theorem dX6_shareOf_90 : decode cX6_shareOf 90 = .ok (.iload_n 2, 1) := by decide +kernel
theorem dX6_shareOf_91 : decode cX6_shareOf 91 = .ok (.iload_n 2, 1) := by decide +kernel
theorem dX6_shareOf_92 : decode cX6_shareOf 92 = .ok (.aload_n 0, 1) := by decide +kernel
theorem dX6_shareOf_93 : decode cX6_shareOf 93 = .ok (.getfield 28, 3) := by decide +kernel
theorem dX6_shareOf_96 : decode cX6_shareOf 96 = .ok (.iload_n 1, 1) := by decide +kernel
theorem dX6_shareOf_97 : decode cX6_shareOf 97 = .ok (.iaload, 1) := by decide +kernel
theorem dX6_shareOf_98 : decode cX6_shareOf 98 = .ok (.irem, 1) := by decide +kernel
theorem dX6_shareOf_99 : decode cX6_shareOf 99 = .ok (.isub, 1) := by decide +kernel
theorem dX6_shareOf_100 : decode cX6_shareOf 100 = .ok (.goto 4, 3) := by decide +kernel
theorem dX6_shareOf_103 : decode cX6_shareOf 103 = .ok (.iload_n 3, 1) := by decide +kernel
theorem dX6_shareOf_104 : decode cX6_shareOf 104 = .ok (.istore_n 3, 1) := by decide +kernel
theorem dX6_shareOf_105 : decode cX6_shareOf 105 = .ok (.aload_n 0, 1) := by decide +kernel
theorem dX6_shareOf_106 : decode cX6_shareOf 106 = .ok (.getfield 7, 3) := by decide +kernel
theorem dX6_shareOf_109 : decode cX6_shareOf 109 = .ok (.iload_n 1, 1) := by decide +kernel
theorem dX6_shareOf_110 : decode cX6_shareOf 110 = .ok (.iaload, 1) := by decide +kernel
theorem dX6_shareOf_111 : decode cX6_shareOf 111 = .ok (.aload_n 0, 1) := by decide +kernel
theorem dX6_shareOf_112 : decode cX6_shareOf 112 = .ok (.getfield 13, 3) := by decide +kernel
theorem dX6_shareOf_115 : decode cX6_shareOf 115 = .ok (.iload_n 1, 1) := by decide +kernel
theorem dX6_shareOf_116 : decode cX6_shareOf 116 = .ok (.iaload, 1) := by decide +kernel
theorem dX6_shareOf_117 : decode cX6_shareOf 117 = .ok (.iload_n 2, 1) := by decide +kernel
theorem dX6_shareOf_118 : decode cX6_shareOf 118 = .ok (.iload_n 3, 1) := by decide +kernel
theorem dX6_shareOf_119 : decode cX6_shareOf 119 = .ok (.isub, 1) := by decide +kernel
theorem dX6_shareOf_120 : decode cX6_shareOf 120 = .ok (.imul, 1) := by decide +kernel
theorem dX6_shareOf_121 : decode cX6_shareOf 121 = .ok (.iadd, 1) := by decide +kernel
theorem dX6_shareOf_122 : decode cX6_shareOf 122 = .ok (.istore 4, 2) := by decide +kernel
theorem dX6_shareOf_124 : decode cX6_shareOf 124 = .ok (.iload 4, 2) := by decide +kernel
theorem dX6_shareOf_126 : decode cX6_shareOf 126 = .ok (.bipush 64, 2) := by decide +kernel
theorem dX6_shareOf_128 : decode cX6_shareOf 128 = .ok (.if_icmp .le 8, 3) := by decide +kernel
theorem dX6_shareOf_131 : decode cX6_shareOf 131 = .ok (.bipush 64, 2) := by decide +kernel
theorem dX6_shareOf_133 : decode cX6_shareOf 133 = .ok (.goto 5, 3) := by decide +kernel
theorem dX6_shareOf_136 : decode cX6_shareOf 136 = .ok (.iload 4, 2) := by decide +kernel
theorem dX6_shareOf_138 : decode cX6_shareOf 138 = .ok (.ireturn, 1) := by decide +kernel
theorem dX6_share_0 : decode cX6_share 0 = .ok (.aload_n 0, 1) := by decide +kernel
theorem dX6_share_1 : decode cX6_share 1 = .ok (.iload_n 1, 1) := by decide +kernel
theorem dX6_share_2 : decode cX6_share 2 = .ok (.invokevirtual 89, 3) := by decide +kernel
theorem dX6_share_5 : decode cX6_share 5 = .ok (.ifCond .eq 19, 3) := by decide +kernel
theorem dX6_share_8 : decode cX6_share 8 = .ok (.iload_n 2, 1) := by decide +kernel
theorem dX6_share_9 : decode cX6_share 9 = .ok (.invokestatic 93, 3) := by decide +kernel
theorem dX6_share_12 : decode cX6_share 12 = .ok (.ifCond .eq 12, 3) := by decide +kernel
theorem dX6_share_15 : decode cX6_share 15 = .ok (.aload_n 0, 1) := by decide +kernel
theorem dX6_share_16 : decode cX6_share 16 = .ok (.iload_n 1, 1) := by decide +kernel
theorem dX6_share_17 : decode cX6_share 17 = .ok (.iload_n 2, 1) := by decide +kernel
theorem dX6_share_18 : decode cX6_share 18 = .ok (.invokevirtual 120, 3) := by decide +kernel
theorem dX6_share_21 : decode cX6_share 21 = .ok (.goto 4, 3) := by decide +kernel
theorem dX6_share_24 : decode cX6_share 24 = .ok (.iconst (-1), 1) := by decide +kernel
theorem dX6_share_25 : decode cX6_share 25 = .ok (.ireturn, 1) := by decide +kernel
theorem dX6_partsOf_0 : decode cX6_partsOf 0 = .ok (.iconst 0, 1) := by decide +kernel
theorem dX6_partsOf_1 : decode cX6_partsOf 1 = .ok (.istore_n 2, 1) := by decide +kernel
theorem dX6_partsOf_2 : decode cX6_partsOf 2 = .ok (.iload_n 2, 1) := by decide +kernel
theorem dX6_partsOf_3 : decode cX6_partsOf 3 = .ok (.iload_n 1, 1) := by decide +kernel
theorem dX6_partsOf_4 : decode cX6_partsOf 4 = .ok (.if_icmp .gt 85, 3) := by decide +kernel
theorem dX6_partsOf_7 : decode cX6_partsOf 7 = .ok (.aload_n 0, 1) := by decide +kernel
theorem dX6_partsOf_8 : decode cX6_partsOf 8 = .ok (.getfield 58, 3) := by decide +kernel
theorem dX6_partsOf_11 : decode cX6_partsOf 11 = .ok (.iload_n 2, 1) := by decide +kernel
theorem dX6_partsOf_12 : decode cX6_partsOf 12 = .ok (.iconst 0, 1) := by decide +kernel
theorem dX6_partsOf_13 : decode cX6_partsOf 13 = .ok (.iastore, 1) := by decide +kernel
theorem dX6_partsOf_14 : decode cX6_partsOf 14 = .ok (.iconst 4, 1) := by decide +kernel
theorem dX6_partsOf_15 : decode cX6_partsOf 15 = .ok (.iload_n 2, 1) := by decide +kernel
theorem dX6_partsOf_16 : decode cX6_partsOf 16 = .ok (.imul, 1) := by decide +kernel
theorem dX6_partsOf_17 : decode cX6_partsOf 17 = .ok (.istore_n 3, 1) := by decide +kernel
theorem dX6_partsOf_18 : decode cX6_partsOf 18 = .ok (.iload_n 3, 1) := by decide +kernel
theorem dX6_partsOf_19 : decode cX6_partsOf 19 = .ok (.iconst 4, 1) := by decide +kernel
theorem dX6_partsOf_20 : decode cX6_partsOf 20 = .ok (.iload_n 2, 1) := by decide +kernel
theorem dX6_partsOf_21 : decode cX6_partsOf 21 = .ok (.imul, 1) := by decide +kernel
theorem dX6_partsOf_22 : decode cX6_partsOf 22 = .ok (.aload_n 0, 1) := by decide +kernel
theorem dX6_partsOf_23 : decode cX6_partsOf 23 = .ok (.getfield 52, 3) := by decide +kernel
theorem dX6_partsOf_26 : decode cX6_partsOf 26 = .ok (.iload_n 2, 1) := by decide +kernel
theorem dX6_partsOf_27 : decode cX6_partsOf 27 = .ok (.iaload, 1) := by decide +kernel
theorem dX6_partsOf_28 : decode cX6_partsOf 28 = .ok (.iadd, 1) := by decide +kernel
theorem dX6_partsOf_29 : decode cX6_partsOf 29 = .ok (.if_icmp .ge 54, 3) := by decide +kernel
theorem dX6_partsOf_32 : decode cX6_partsOf 32 = .ok (.aload_n 0, 1) := by decide +kernel
theorem dX6_partsOf_33 : decode cX6_partsOf 33 = .ok (.getfield 58, 3) := by decide +kernel
theorem dX6_partsOf_36 : decode cX6_partsOf 36 = .ok (.iload_n 2, 1) := by decide +kernel
theorem dX6_partsOf_37 : decode cX6_partsOf 37 = .ok (.dup2, 1) := by decide +kernel
theorem dX6_partsOf_38 : decode cX6_partsOf 38 = .ok (.iaload, 1) := by decide +kernel
theorem dX6_partsOf_39 : decode cX6_partsOf 39 = .ok (.aload_n 0, 1) := by decide +kernel
theorem dX6_partsOf_40 : decode cX6_partsOf 40 = .ok (.getfield 55, 3) := by decide +kernel
theorem dX6_partsOf_43 : decode cX6_partsOf 43 = .ok (.iload_n 3, 1) := by decide +kernel
theorem dX6_partsOf_44 : decode cX6_partsOf 44 = .ok (.iaload, 1) := by decide +kernel
theorem dX6_partsOf_45 : decode cX6_partsOf 45 = .ok (.bipush 12, 2) := by decide +kernel
theorem dX6_partsOf_47 : decode cX6_partsOf 47 = .ok (.if_icmp .ge 14, 3) := by decide +kernel
theorem dX6_partsOf_50 : decode cX6_partsOf 50 = .ok (.iconst 1, 1) := by decide +kernel
theorem dX6_partsOf_51 : decode cX6_partsOf 51 = .ok (.aload_n 0, 1) := by decide +kernel
theorem dX6_partsOf_52 : decode cX6_partsOf 52 = .ok (.getfield 55, 3) := by decide +kernel
theorem dX6_partsOf_55 : decode cX6_partsOf 55 = .ok (.iload_n 3, 1) := by decide +kernel
theorem dX6_partsOf_56 : decode cX6_partsOf 56 = .ok (.iaload, 1) := by decide +kernel
theorem dX6_partsOf_57 : decode cX6_partsOf 57 = .ok (.ishl, 1) := by decide +kernel
theorem dX6_partsOf_58 : decode cX6_partsOf 58 = .ok (.goto 17, 3) := by decide +kernel
theorem dX6_partsOf_61 : decode cX6_partsOf 61 = .ok (.aload_n 0, 1) := by decide +kernel
theorem dX6_partsOf_62 : decode cX6_partsOf 62 = .ok (.getfield 58, 3) := by decide +kernel
theorem dX6_partsOf_65 : decode cX6_partsOf 65 = .ok (.aload_n 0, 1) := by decide +kernel
theorem dX6_partsOf_66 : decode cX6_partsOf 66 = .ok (.getfield 55, 3) := by decide +kernel
theorem dX6_partsOf_69 : decode cX6_partsOf 69 = .ok (.iload_n 3, 1) := by decide +kernel
theorem dX6_partsOf_70 : decode cX6_partsOf 70 = .ok (.iaload, 1) := by decide +kernel
theorem dX6_partsOf_71 : decode cX6_partsOf 71 = .ok (.bipush 12, 2) := by decide +kernel
theorem dX6_partsOf_73 : decode cX6_partsOf 73 = .ok (.isub, 1) := by decide +kernel
theorem dX6_partsOf_74 : decode cX6_partsOf 74 = .ok (.iaload, 1) := by decide +kernel
theorem dX6_partsOf_75 : decode cX6_partsOf 75 = .ok (.ior, 1) := by decide +kernel
theorem dX6_partsOf_76 : decode cX6_partsOf 76 = .ok (.iastore, 1) := by decide +kernel
theorem dX6_partsOf_77 : decode cX6_partsOf 77 = .ok (.iinc 3 1, 3) := by decide +kernel
theorem dX6_partsOf_80 : decode cX6_partsOf 80 = .ok (.goto (-62), 3) := by decide +kernel
theorem dX6_partsOf_83 : decode cX6_partsOf 83 = .ok (.iinc 2 1, 3) := by decide +kernel
theorem dX6_partsOf_86 : decode cX6_partsOf 86 = .ok (.goto (-84), 3) := by decide +kernel
theorem dX6_partsOf_89 : decode cX6_partsOf 89 = .ok (.aload_n 0, 1) := by decide +kernel
theorem dX6_partsOf_90 : decode cX6_partsOf 90 = .ok (.getfield 58, 3) := by decide +kernel
theorem dX6_partsOf_93 : decode cX6_partsOf 93 = .ok (.iload_n 1, 1) := by decide +kernel
theorem dX6_partsOf_94 : decode cX6_partsOf 94 = .ok (.iaload, 1) := by decide +kernel
theorem dX6_partsOf_95 : decode cX6_partsOf 95 = .ok (.ireturn, 1) := by decide +kernel
theorem dX6_groupsOf_0 : decode cX6_groupsOf 0 = .ok (.iconst 0, 1) := by decide +kernel
theorem dX6_groupsOf_1 : decode cX6_groupsOf 1 = .ok (.istore_n 2, 1) := by decide +kernel
theorem dX6_groupsOf_2 : decode cX6_groupsOf 2 = .ok (.iconst 0, 1) := by decide +kernel
theorem dX6_groupsOf_3 : decode cX6_groupsOf 3 = .ok (.istore_n 3, 1) := by decide +kernel
theorem dX6_groupsOf_4 : decode cX6_groupsOf 4 = .ok (.iload_n 3, 1) := by decide +kernel
theorem dX6_groupsOf_5 : decode cX6_groupsOf 5 = .ok (.aload_n 0, 1) := by decide +kernel
theorem dX6_groupsOf_6 : decode cX6_groupsOf 6 = .ok (.getfield 110, 3) := by decide +kernel
theorem dX6_groupsOf_9 : decode cX6_groupsOf 9 = .ok (.if_icmp .ge 30, 3) := by decide +kernel
theorem dX6_groupsOf_12 : decode cX6_groupsOf 12 = .ok (.iload_n 2, 1) := by decide +kernel
theorem dX6_groupsOf_13 : decode cX6_groupsOf 13 = .ok (.aload_n 0, 1) := by decide +kernel
theorem dX6_groupsOf_14 : decode cX6_groupsOf 14 = .ok (.getfield 46, 3) := by decide +kernel
theorem dX6_groupsOf_17 : decode cX6_groupsOf 17 = .ok (.iload_n 3, 1) := by decide +kernel
theorem dX6_groupsOf_18 : decode cX6_groupsOf 18 = .ok (.iaload, 1) := by decide +kernel
theorem dX6_groupsOf_19 : decode cX6_groupsOf 19 = .ok (.iload_n 1, 1) := by decide +kernel
theorem dX6_groupsOf_20 : decode cX6_groupsOf 20 = .ok (.iand, 1) := by decide +kernel
theorem dX6_groupsOf_21 : decode cX6_groupsOf 21 = .ok (.ifCond .eq 9, 3) := by decide +kernel
theorem dX6_groupsOf_24 : decode cX6_groupsOf 24 = .ok (.iconst 1, 1) := by decide +kernel
theorem dX6_groupsOf_25 : decode cX6_groupsOf 25 = .ok (.iload_n 3, 1) := by decide +kernel
theorem dX6_groupsOf_26 : decode cX6_groupsOf 26 = .ok (.ishl, 1) := by decide +kernel
theorem dX6_groupsOf_27 : decode cX6_groupsOf 27 = .ok (.goto 4, 3) := by decide +kernel
theorem dX6_groupsOf_30 : decode cX6_groupsOf 30 = .ok (.iconst 0, 1) := by decide +kernel
theorem dX6_groupsOf_31 : decode cX6_groupsOf 31 = .ok (.ior, 1) := by decide +kernel
theorem dX6_groupsOf_32 : decode cX6_groupsOf 32 = .ok (.istore_n 2, 1) := by decide +kernel
theorem dX6_groupsOf_33 : decode cX6_groupsOf 33 = .ok (.iinc 3 1, 3) := by decide +kernel
theorem dX6_groupsOf_36 : decode cX6_groupsOf 36 = .ok (.goto (-32), 3) := by decide +kernel
theorem dX6_groupsOf_39 : decode cX6_groupsOf 39 = .ok (.iload_n 2, 1) := by decide +kernel
theorem dX6_groupsOf_40 : decode cX6_groupsOf 40 = .ok (.ireturn, 1) := by decide +kernel
theorem dX6_eventsOf_0 : decode cX6_eventsOf 0 = .ok (.aload_n 0, 1) := by decide +kernel
theorem dX6_eventsOf_1 : decode cX6_eventsOf 1 = .ok (.iload_n 1, 1) := by decide +kernel
theorem dX6_eventsOf_2 : decode cX6_eventsOf 2 = .ok (.invokevirtual 124, 3) := by decide +kernel
theorem dX6_eventsOf_5 : decode cX6_eventsOf 5 = .ok (.istore_n 2, 1) := by decide +kernel
theorem dX6_eventsOf_6 : decode cX6_eventsOf 6 = .ok (.iload_n 2, 1) := by decide +kernel
theorem dX6_eventsOf_7 : decode cX6_eventsOf 7 = .ok (.invokestatic 106, 3) := by decide +kernel
theorem dX6_eventsOf_10 : decode cX6_eventsOf 10 = .ok (.aload_n 0, 1) := by decide +kernel
theorem dX6_eventsOf_11 : decode cX6_eventsOf 11 = .ok (.iload_n 2, 1) := by decide +kernel
theorem dX6_eventsOf_12 : decode cX6_eventsOf 12 = .ok (.invokevirtual 127, 3) := by decide +kernel
theorem dX6_eventsOf_15 : decode cX6_eventsOf 15 = .ok (.invokestatic 106, 3) := by decide +kernel
theorem dX6_eventsOf_18 : decode cX6_eventsOf 18 = .ok (.iadd, 1) := by decide +kernel
theorem dX6_eventsOf_19 : decode cX6_eventsOf 19 = .ok (.ireturn, 1) := by decide +kernel
theorem dX6_below_0 : decode cX6_below 0 = .ok (.aload_n 0, 1) := by decide +kernel
theorem dX6_below_1 : decode cX6_below 1 = .ok (.iload_n 1, 1) := by decide +kernel
theorem dX6_below_2 : decode cX6_below 2 = .ok (.invokevirtual 130, 3) := by decide +kernel
theorem dX6_below_5 : decode cX6_below 5 = .ok (.ifCond .eq 15, 3) := by decide +kernel
theorem dX6_below_8 : decode cX6_below 8 = .ok (.iload_n 2, 1) := by decide +kernel
theorem dX6_below_9 : decode cX6_below 9 = .ok (.i2l, 1) := by decide +kernel
theorem dX6_below_10 : decode cX6_below 10 = .ok (.lconst 0, 1) := by decide +kernel
theorem dX6_below_11 : decode cX6_below 11 = .ok (.ldc2_w 133, 3) := by decide +kernel
theorem dX6_below_14 : decode cX6_below 14 = .ok (.invokestatic 78, 3) := by decide +kernel
theorem dX6_below_17 : decode cX6_below 17 = .ok (.ifCond .ne 5, 3) := by decide +kernel
theorem dX6_below_20 : decode cX6_below 20 = .ok (.iconst (-1), 1) := by decide +kernel
theorem dX6_below_21 : decode cX6_below 21 = .ok (.ireturn, 1) := by decide +kernel
theorem dX6_below_22 : decode cX6_below 22 = .ok (.aload_n 0, 1) := by decide +kernel
theorem dX6_below_23 : decode cX6_below 23 = .ok (.iload_n 1, 1) := by decide +kernel
theorem dX6_below_24 : decode cX6_below 24 = .ok (.invokevirtual 124, 3) := by decide +kernel
theorem dX6_below_27 : decode cX6_below 27 = .ok (.istore_n 3, 1) := by decide +kernel
theorem dX6_below_28 : decode cX6_below 28 = .ok (.iload_n 2, 1) := by decide +kernel
theorem dX6_below_29 : decode cX6_below 29 = .ok (.ifCond .ne 7, 3) := by decide +kernel
theorem dX6_below_32 : decode cX6_below 32 = .ok (.iload_n 3, 1) := by decide +kernel
theorem dX6_below_33 : decode cX6_below 33 = .ok (.goto 21, 3) := by decide +kernel
theorem dX6_below_36 : decode cX6_below 36 = .ok (.iload_n 2, 1) := by decide +kernel
theorem dX6_below_37 : decode cX6_below 37 = .ok (.iconst 1, 1) := by decide +kernel
theorem dX6_below_38 : decode cX6_below 38 = .ok (.if_icmp .ne 11, 3) := by decide +kernel
theorem dX6_below_41 : decode cX6_below 41 = .ok (.aload_n 0, 1) := by decide +kernel
theorem dX6_below_42 : decode cX6_below 42 = .ok (.iload_n 3, 1) := by decide +kernel
theorem dX6_below_43 : decode cX6_below 43 = .ok (.invokevirtual 127, 3) := by decide +kernel
theorem dX6_below_46 : decode cX6_below 46 = .ok (.goto 8, 3) := by decide +kernel
theorem dX6_below_49 : decode cX6_below 49 = .ok (.aload_n 0, 1) := by decide +kernel
theorem dX6_below_50 : decode cX6_below 50 = .ok (.iload_n 1, 1) := by decide +kernel
theorem dX6_below_51 : decode cX6_below 51 = .ok (.invokevirtual 135, 3) := by decide +kernel
theorem dX6_below_54 : decode cX6_below 54 = .ok (.ireturn, 1) := by decide +kernel
theorem dX6_shared_0 : decode cX6_shared 0 = .ok (.aload_n 0, 1) := by decide +kernel
theorem dX6_shared_1 : decode cX6_shared 1 = .ok (.iload_n 1, 1) := by decide +kernel
theorem dX6_shared_2 : decode cX6_shared 2 = .ok (.invokevirtual 130, 3) := by decide +kernel
theorem dX6_shared_5 : decode cX6_shared 5 = .ok (.ifCond .eq 11, 3) := by decide +kernel
theorem dX6_shared_8 : decode cX6_shared 8 = .ok (.aload_n 0, 1) := by decide +kernel
theorem dX6_shared_9 : decode cX6_shared 9 = .ok (.iload_n 2, 1) := by decide +kernel
theorem dX6_shared_10 : decode cX6_shared 10 = .ok (.invokevirtual 130, 3) := by decide +kernel
theorem dX6_shared_13 : decode cX6_shared 13 = .ok (.ifCond .ne 5, 3) := by decide +kernel
theorem dX6_shared_16 : decode cX6_shared 16 = .ok (.iconst (-1), 1) := by decide +kernel
theorem dX6_shared_17 : decode cX6_shared 17 = .ok (.ireturn, 1) := by decide +kernel
theorem dX6_shared_18 : decode cX6_shared 18 = .ok (.aload_n 0, 1) := by decide +kernel
theorem dX6_shared_19 : decode cX6_shared 19 = .ok (.iload_n 1, 1) := by decide +kernel
theorem dX6_shared_20 : decode cX6_shared 20 = .ok (.invokevirtual 124, 3) := by decide +kernel
theorem dX6_shared_23 : decode cX6_shared 23 = .ok (.istore_n 3, 1) := by decide +kernel
theorem dX6_shared_24 : decode cX6_shared 24 = .ok (.aload_n 0, 1) := by decide +kernel
theorem dX6_shared_25 : decode cX6_shared 25 = .ok (.iload_n 2, 1) := by decide +kernel
theorem dX6_shared_26 : decode cX6_shared 26 = .ok (.invokevirtual 124, 3) := by decide +kernel
theorem dX6_shared_29 : decode cX6_shared 29 = .ok (.istore 4, 2) := by decide +kernel
theorem dX6_shared_31 : decode cX6_shared 31 = .ok (.iload_n 3, 1) := by decide +kernel
theorem dX6_shared_32 : decode cX6_shared 32 = .ok (.iload 4, 2) := by decide +kernel
theorem dX6_shared_34 : decode cX6_shared 34 = .ok (.iand, 1) := by decide +kernel
theorem dX6_shared_35 : decode cX6_shared 35 = .ok (.aload_n 0, 1) := by decide +kernel
theorem dX6_shared_36 : decode cX6_shared 36 = .ok (.iload_n 3, 1) := by decide +kernel
theorem dX6_shared_37 : decode cX6_shared 37 = .ok (.invokevirtual 127, 3) := by decide +kernel
theorem dX6_shared_40 : decode cX6_shared 40 = .ok (.aload_n 0, 1) := by decide +kernel
theorem dX6_shared_41 : decode cX6_shared 41 = .ok (.iload 4, 2) := by decide +kernel
theorem dX6_shared_43 : decode cX6_shared 43 = .ok (.invokevirtual 127, 3) := by decide +kernel
theorem dX6_shared_46 : decode cX6_shared 46 = .ok (.iand, 1) := by decide +kernel
theorem dX6_shared_47 : decode cX6_shared 47 = .ok (.bipush 12, 2) := by decide +kernel
theorem dX6_shared_49 : decode cX6_shared 49 = .ok (.ishl, 1) := by decide +kernel
theorem dX6_shared_50 : decode cX6_shared 50 = .ok (.ior, 1) := by decide +kernel
theorem dX6_shared_51 : decode cX6_shared 51 = .ok (.ireturn, 1) := by decide +kernel
theorem dX6_does_0 : decode cX6_does 0 = .ok (.iconst 0, 1) := by decide +kernel
theorem dX6_does_1 : decode cX6_does 1 = .ok (.istore_n 3, 1) := by decide +kernel
theorem dX6_does_2 : decode cX6_does 2 = .ok (.iload_n 3, 1) := by decide +kernel
theorem dX6_does_3 : decode cX6_does 3 = .ok (.iload_n 1, 1) := by decide +kernel
theorem dX6_does_4 : decode cX6_does 4 = .ok (.if_icmp .gt 127, 3) := by decide +kernel
theorem dX6_does_7 : decode cX6_does 7 = .ok (.iconst 0, 1) := by decide +kernel
theorem dX6_does_8 : decode cX6_does 8 = .ok (.istore 4, 2) := by decide +kernel
theorem dX6_does_10 : decode cX6_does 10 = .ok (.iconst 4, 1) := by decide +kernel
theorem dX6_does_11 : decode cX6_does 11 = .ok (.iload_n 3, 1) := by decide +kernel
theorem dX6_does_12 : decode cX6_does 12 = .ok (.imul, 1) := by decide +kernel
theorem dX6_does_13 : decode cX6_does 13 = .ok (.istore 5, 2) := by decide +kernel
theorem dX6_does_15 : decode cX6_does 15 = .ok (.iload 5, 2) := by decide +kernel
theorem dX6_does_17 : decode cX6_does 17 = .ok (.iconst 4, 1) := by decide +kernel
theorem dX6_does_18 : decode cX6_does 18 = .ok (.iload_n 3, 1) := by decide +kernel
theorem dX6_does_19 : decode cX6_does 19 = .ok (.imul, 1) := by decide +kernel
theorem dX6_does_20 : decode cX6_does 20 = .ok (.aload_n 0, 1) := by decide +kernel
theorem dX6_does_21 : decode cX6_does 21 = .ok (.getfield 52, 3) := by decide +kernel
theorem dX6_does_24 : decode cX6_does 24 = .ok (.iload_n 3, 1) := by decide +kernel
theorem dX6_does_25 : decode cX6_does 25 = .ok (.iaload, 1) := by decide +kernel
theorem dX6_does_26 : decode cX6_does 26 = .ok (.iadd, 1) := by decide +kernel
theorem dX6_does_27 : decode cX6_does 27 = .ok (.if_icmp .ge 76, 3) := by decide +kernel
theorem dX6_does_30 : decode cX6_does 30 = .ok (.aload_n 0, 1) := by decide +kernel
theorem dX6_does_31 : decode cX6_does 31 = .ok (.getfield 55, 3) := by decide +kernel
theorem dX6_does_34 : decode cX6_does 34 = .ok (.iload 5, 2) := by decide +kernel
theorem dX6_does_36 : decode cX6_does 36 = .ok (.iaload, 1) := by decide +kernel
theorem dX6_does_37 : decode cX6_does 37 = .ok (.bipush 12, 2) := by decide +kernel
theorem dX6_does_39 : decode cX6_does 39 = .ok (.if_icmp .ge 26, 3) := by decide +kernel
theorem dX6_does_42 : decode cX6_does 42 = .ok (.iload_n 2, 1) := by decide +kernel
theorem dX6_does_43 : decode cX6_does 43 = .ok (.aload_n 0, 1) := by decide +kernel
theorem dX6_does_44 : decode cX6_does 44 = .ok (.getfield 55, 3) := by decide +kernel
theorem dX6_does_47 : decode cX6_does 47 = .ok (.iload 5, 2) := by decide +kernel
theorem dX6_does_49 : decode cX6_does 49 = .ok (.iaload, 1) := by decide +kernel
theorem dX6_does_50 : decode cX6_does 50 = .ok (.ishr, 1) := by decide +kernel
theorem dX6_does_51 : decode cX6_does 51 = .ok (.iconst 1, 1) := by decide +kernel
theorem dX6_does_52 : decode cX6_does 52 = .ok (.iand, 1) := by decide +kernel
theorem dX6_does_53 : decode cX6_does 53 = .ok (.iconst 1, 1) := by decide +kernel
theorem dX6_does_54 : decode cX6_does 54 = .ok (.if_icmp .ne 7, 3) := by decide +kernel
theorem dX6_does_57 : decode cX6_does 57 = .ok (.iconst 1, 1) := by decide +kernel
theorem dX6_does_58 : decode cX6_does 58 = .ok (.goto 22, 3) := by decide +kernel
theorem dX6_does_61 : decode cX6_does 61 = .ok (.iconst 0, 1) := by decide +kernel
theorem dX6_does_62 : decode cX6_does 62 = .ok (.goto 18, 3) := by decide +kernel
theorem dX6_does_65 : decode cX6_does 65 = .ok (.aload_n 0, 1) := by decide +kernel
theorem dX6_does_66 : decode cX6_does 66 = .ok (.getfield 61, 3) := by decide +kernel
theorem dX6_does_69 : decode cX6_does 69 = .ok (.aload_n 0, 1) := by decide +kernel
theorem dX6_does_70 : decode cX6_does 70 = .ok (.getfield 55, 3) := by decide +kernel
theorem dX6_does_73 : decode cX6_does 73 = .ok (.iload 5, 2) := by decide +kernel
theorem dX6_does_75 : decode cX6_does 75 = .ok (.iaload, 1) := by decide +kernel
theorem dX6_does_76 : decode cX6_does 76 = .ok (.bipush 12, 2) := by decide +kernel
theorem dX6_does_78 : decode cX6_does 78 = .ok (.isub, 1) := by decide +kernel
theorem dX6_does_79 : decode cX6_does 79 = .ok (.baload, 1) := by decide +kernel
theorem dX6_does_80 : decode cX6_does 80 = .ok (.istore 6, 2) := by decide +kernel
theorem dX6_does_82 : decode cX6_does 82 = .ok (.iload 4, 2) := by decide +kernel
theorem dX6_does_84 : decode cX6_does 84 = .ok (.iload 6, 2) := by decide +kernel
theorem dX6_does_86 : decode cX6_does 86 = .ok (.ifCond .eq 7, 3) := by decide +kernel
theorem dX6_does_89 : decode cX6_does 89 = .ok (.iconst 1, 1) := by decide +kernel
theorem dX6_does_90 : decode cX6_does 90 = .ok (.goto 4, 3) := by decide +kernel
theorem dX6_does_93 : decode cX6_does 93 = .ok (.iconst 0, 1) := by decide +kernel
theorem dX6_does_94 : decode cX6_does 94 = .ok (.iadd, 1) := by decide +kernel
theorem dX6_does_95 : decode cX6_does 95 = .ok (.istore 4, 2) := by decide +kernel
theorem dX6_does_97 : decode cX6_does 97 = .ok (.iinc 5 1, 3) := by decide +kernel
theorem dX6_does_100 : decode cX6_does 100 = .ok (.goto (-85), 3) := by decide +kernel
