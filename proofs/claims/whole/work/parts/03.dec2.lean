theorem dX5_noTests_19 : decode cX5_noTests 19 = .ok (.ireturn, 1) := by decide +kernel
theorem dX5_noTests_20 : decode cX5_noTests 20 = .ok (.aload_n 0, 1) := by decide +kernel
theorem dX5_noTests_21 : decode cX5_noTests 21 = .ok (.getfield 10, 3) := by decide +kernel
theorem dX5_noTests_24 : decode cX5_noTests 24 = .ok (.iload_n 1, 1) := by decide +kernel
theorem dX5_noTests_25 : decode cX5_noTests 25 = .ok (.iload_n 2, 1) := by decide +kernel
theorem dX5_noTests_26 : decode cX5_noTests 26 = .ok (.invokevirtual 70, 3) := by decide +kernel
theorem dX5_noTests_29 : decode cX5_noTests 29 = .ok (.ireturn, 1) := by decide +kernel
theorem dX5_bypass_0 : decode cX5_bypass 0 = .ok (.aload_n 0, 1) := by decide +kernel
theorem dX5_bypass_1 : decode cX5_bypass 1 = .ok (.getfield 10, 3) := by decide +kernel
theorem dX5_bypass_4 : decode cX5_bypass 4 = .ok (.iload_n 1, 1) := by decide +kernel
theorem dX5_bypass_5 : decode cX5_bypass 5 = .ok (.invokevirtual 60, 3) := by decide +kernel
theorem dX5_bypass_8 : decode cX5_bypass 8 = .ok (.ifCond .eq 11, 3) := by decide +kernel
theorem dX5_bypass_11 : decode cX5_bypass 11 = .ok (.iload_n 2, 1) := by decide +kernel
theorem dX5_bypass_12 : decode cX5_bypass 12 = .ok (.iload_n 3, 1) := by decide +kernel
theorem dX5_bypass_13 : decode cX5_bypass 13 = .ok (.invokestatic 73, 3) := by decide +kernel
theorem dX5_bypass_16 : decode cX5_bypass 16 = .ok (.ifCond .ne 5, 3) := by decide +kernel
theorem dX5_bypass_19 : decode cX5_bypass 19 = .ok (.iconst (-1), 1) := by decide +kernel
theorem dX5_bypass_20 : decode cX5_bypass 20 = .ok (.ireturn, 1) := by decide +kernel
theorem dX5_bypass_21 : decode cX5_bypass 21 = .ok (.aload_n 0, 1) := by decide +kernel
theorem dX5_bypass_22 : decode cX5_bypass 22 = .ok (.getfield 10, 3) := by decide +kernel
theorem dX5_bypass_25 : decode cX5_bypass 25 = .ok (.iload_n 1, 1) := by decide +kernel
theorem dX5_bypass_26 : decode cX5_bypass 26 = .ok (.iload_n 2, 1) := by decide +kernel
theorem dX5_bypass_27 : decode cX5_bypass 27 = .ok (.iload_n 3, 1) := by decide +kernel
theorem dX5_bypass_28 : decode cX5_bypass 28 = .ok (.invokevirtual 77, 3) := by decide +kernel
theorem dX5_bypass_31 : decode cX5_bypass 31 = .ok (.ireturn, 1) := by decide +kernel
theorem dX5_bypassed_0 : decode cX5_bypassed 0 = .ok (.aload_n 0, 1) := by decide +kernel
theorem dX5_bypassed_1 : decode cX5_bypassed 1 = .ok (.getfield 10, 3) := by decide +kernel
theorem dX5_bypassed_4 : decode cX5_bypassed 4 = .ok (.iload_n 1, 1) := by decide +kernel
theorem dX5_bypassed_5 : decode cX5_bypassed 5 = .ok (.invokevirtual 60, 3) := by decide +kernel
theorem dX5_bypassed_8 : decode cX5_bypassed 8 = .ok (.ifCond .eq 11, 3) := by decide +kernel
theorem dX5_bypassed_11 : decode cX5_bypassed 11 = .ok (.iload_n 2, 1) := by decide +kernel
theorem dX5_bypassed_12 : decode cX5_bypassed 12 = .ok (.iload_n 3, 1) := by decide +kernel
theorem dX5_bypassed_13 : decode cX5_bypassed 13 = .ok (.invokestatic 73, 3) := by decide +kernel
theorem dX5_bypassed_16 : decode cX5_bypassed 16 = .ok (.ifCond .ne 5, 3) := by decide +kernel
theorem dX5_bypassed_19 : decode cX5_bypassed 19 = .ok (.iconst (-1), 1) := by decide +kernel
theorem dX5_bypassed_20 : decode cX5_bypassed 20 = .ok (.ireturn, 1) := by decide +kernel
theorem dX5_bypassed_21 : decode cX5_bypassed 21 = .ok (.aload_n 0, 1) := by decide +kernel
theorem dX5_bypassed_22 : decode cX5_bypassed 22 = .ok (.getfield 10, 3) := by decide +kernel
theorem dX5_bypassed_25 : decode cX5_bypassed 25 = .ok (.iload_n 1, 1) := by decide +kernel
theorem dX5_bypassed_26 : decode cX5_bypassed 26 = .ok (.iload_n 2, 1) := by decide +kernel
theorem dX5_bypassed_27 : decode cX5_bypassed 27 = .ok (.iload_n 3, 1) := by decide +kernel
theorem dX5_bypassed_28 : decode cX5_bypassed 28 = .ok (.invokevirtual 80, 3) := by decide +kernel
theorem dX5_bypassed_31 : decode cX5_bypassed 31 = .ok (.ireturn, 1) := by decide +kernel
theorem dX5_group_0 : decode cX5_group 0 = .ok (.iload_n 1, 1) := by decide +kernel
theorem dX5_group_1 : decode cX5_group 1 = .ok (.invokestatic 52, 3) := by decide +kernel
theorem dX5_group_4 : decode cX5_group 4 = .ok (.ifCond .eq 22, 3) := by decide +kernel
theorem dX5_group_7 : decode cX5_group 7 = .ok (.aload_n 0, 1) := by decide +kernel
theorem dX5_group_8 : decode cX5_group 8 = .ok (.getfield 10, 3) := by decide +kernel
theorem dX5_group_11 : decode cX5_group 11 = .ok (.iload_n 2, 1) := by decide +kernel
theorem dX5_group_12 : decode cX5_group 12 = .ok (.invokevirtual 83, 3) := by decide +kernel
theorem dX5_group_15 : decode cX5_group 15 = .ok (.ifCond .eq 11, 3) := by decide +kernel
theorem dX5_group_18 : decode cX5_group 18 = .ok (.iload_n 2, 1) := by decide +kernel
theorem dX5_group_19 : decode cX5_group 19 = .ok (.invokestatic 86, 3) := by decide +kernel
theorem dX5_group_22 : decode cX5_group 22 = .ok (.iconst 2, 1) := by decide +kernel
theorem dX5_group_23 : decode cX5_group 23 = .ok (.if_icmp .ge 5, 3) := by decide +kernel
theorem dX5_group_26 : decode cX5_group 26 = .ok (.iconst (-1), 1) := by decide +kernel
theorem dX5_group_27 : decode cX5_group 27 = .ok (.ireturn, 1) := by decide +kernel
theorem dX5_group_28 : decode cX5_group 28 = .ok (.aload_n 0, 1) := by decide +kernel
theorem dX5_group_29 : decode cX5_group 29 = .ok (.getfield 19, 3) := by decide +kernel
theorem dX5_group_32 : decode cX5_group 32 = .ok (.iload_n 1, 1) := by decide +kernel
theorem dX5_group_33 : decode cX5_group 33 = .ok (.iload_n 2, 1) := by decide +kernel
theorem dX5_group_34 : decode cX5_group 34 = .ok (.invokevirtual 92, 3) := by decide +kernel
theorem dX5_group_37 : decode cX5_group 37 = .ok (.ireturn, 1) := by decide +kernel
theorem dX5_vote_0 : decode cX5_vote 0 = .ok (.iload_n 2, 1) := by decide +kernel
theorem dX5_vote_1 : decode cX5_vote 1 = .ok (.iconst 1, 1) := by decide +kernel
theorem dX5_vote_2 : decode cX5_vote 2 = .ok (.if_icmp .lt 18, 3) := by decide +kernel
theorem dX5_vote_5 : decode cX5_vote 5 = .ok (.iload_n 2, 1) := by decide +kernel
theorem dX5_vote_6 : decode cX5_vote 6 = .ok (.iconst 4, 1) := by decide +kernel
theorem dX5_vote_7 : decode cX5_vote 7 = .ok (.if_icmp .gt 13, 3) := by decide +kernel
theorem dX5_vote_10 : decode cX5_vote 10 = .ok (.iload_n 1, 1) := by decide +kernel
theorem dX5_vote_11 : decode cX5_vote 11 = .ok (.iconst 1, 1) := by decide +kernel
theorem dX5_vote_12 : decode cX5_vote 12 = .ok (.if_icmp .lt 8, 3) := by decide +kernel
theorem dX5_vote_15 : decode cX5_vote 15 = .ok (.iload_n 1, 1) := by decide +kernel
theorem dX5_vote_16 : decode cX5_vote 16 = .ok (.iload_n 2, 1) := by decide +kernel
theorem dX5_vote_17 : decode cX5_vote 17 = .ok (.if_icmp .le 5, 3) := by decide +kernel
theorem dX5_vote_20 : decode cX5_vote 20 = .ok (.iconst (-1), 1) := by decide +kernel
theorem dX5_vote_21 : decode cX5_vote 21 = .ok (.ireturn, 1) := by decide +kernel
theorem dX5_vote_22 : decode cX5_vote 22 = .ok (.aload_n 0, 1) := by decide +kernel
theorem dX5_vote_23 : decode cX5_vote 23 = .ok (.getfield 48, 3) := by decide +kernel
theorem dX5_vote_26 : decode cX5_vote 26 = .ok (.iconst 0, 1) := by decide +kernel
theorem dX5_vote_27 : decode cX5_vote 27 = .ok (.iload_n 3, 1) := by decide +kernel
theorem dX5_vote_28 : decode cX5_vote 28 = .ok (.iastore, 1) := by decide +kernel
theorem dX5_vote_29 : decode cX5_vote 29 = .ok (.aload_n 0, 1) := by decide +kernel
theorem dX5_vote_30 : decode cX5_vote 30 = .ok (.getfield 48, 3) := by decide +kernel
theorem dX5_vote_33 : decode cX5_vote 33 = .ok (.iconst 1, 1) := by decide +kernel
theorem dX5_vote_34 : decode cX5_vote 34 = .ok (.iload 4, 2) := by decide +kernel
theorem dX5_vote_36 : decode cX5_vote 36 = .ok (.iastore, 1) := by decide +kernel
theorem dX5_vote_37 : decode cX5_vote 37 = .ok (.aload_n 0, 1) := by decide +kernel
theorem dX5_vote_38 : decode cX5_vote 38 = .ok (.getfield 48, 3) := by decide +kernel
theorem dX5_vote_41 : decode cX5_vote 41 = .ok (.iconst 2, 1) := by decide +kernel
theorem dX5_vote_42 : decode cX5_vote 42 = .ok (.iload 5, 2) := by decide +kernel
theorem dX5_vote_44 : decode cX5_vote 44 = .ok (.iastore, 1) := by decide +kernel
theorem dX5_vote_45 : decode cX5_vote 45 = .ok (.aload_n 0, 1) := by decide +kernel
theorem dX5_vote_46 : decode cX5_vote 46 = .ok (.getfield 48, 3) := by decide +kernel
theorem dX5_vote_49 : decode cX5_vote 49 = .ok (.iconst 3, 1) := by decide +kernel
theorem dX5_vote_50 : decode cX5_vote 50 = .ok (.iload 6, 2) := by decide +kernel
theorem dX5_vote_52 : decode cX5_vote 52 = .ok (.iastore, 1) := by decide +kernel
theorem dX5_vote_53 : decode cX5_vote 53 = .ok (.iconst 0, 1) := by decide +kernel
theorem dX5_vote_54 : decode cX5_vote 54 = .ok (.istore 7, 2) := by decide +kernel
theorem dX5_vote_56 : decode cX5_vote 56 = .ok (.iload 7, 2) := by decide +kernel
theorem dX5_vote_58 : decode cX5_vote 58 = .ok (.iload_n 2, 1) := by decide +kernel
theorem dX5_vote_59 : decode cX5_vote 59 = .ok (.if_icmp .ge 25, 3) := by decide +kernel
theorem dX5_vote_62 : decode cX5_vote 62 = .ok (.aload_n 0, 1) := by decide +kernel
theorem dX5_vote_63 : decode cX5_vote 63 = .ok (.aload_n 0, 1) := by decide +kernel
theorem dX5_vote_64 : decode cX5_vote 64 = .ok (.getfield 48, 3) := by decide +kernel
theorem dX5_vote_67 : decode cX5_vote 67 = .ok (.iload 7, 2) := by decide +kernel
theorem dX5_vote_69 : decode cX5_vote 69 = .ok (.iaload, 1) := by decide +kernel
theorem dX5_vote_70 : decode cX5_vote 70 = .ok (.invokevirtual 94, 3) := by decide +kernel
theorem dX5_vote_73 : decode cX5_vote 73 = .ok (.ifCond .ne 5, 3) := by decide +kernel
theorem dX5_vote_76 : decode cX5_vote 76 = .ok (.iconst (-1), 1) := by decide +kernel
theorem dX5_vote_77 : decode cX5_vote 77 = .ok (.ireturn, 1) := by decide +kernel
theorem dX5_vote_78 : decode cX5_vote 78 = .ok (.iinc 7 1, 3) := by decide +kernel
theorem dX5_vote_81 : decode cX5_vote 81 = .ok (.goto (-25), 3) := by decide +kernel
theorem dX5_vote_84 : decode cX5_vote 84 = .ok (.aload_n 0, 1) := by decide +kernel
theorem dX5_vote_85 : decode cX5_vote 85 = .ok (.getfield 26, 3) := by decide +kernel
theorem dX5_vote_88 : decode cX5_vote 88 = .ok (.iload_n 1, 1) := by decide +kernel
theorem dX5_vote_89 : decode cX5_vote 89 = .ok (.iload_n 2, 1) := by decide +kernel
theorem dX5_vote_90 : decode cX5_vote 90 = .ok (.aload_n 0, 1) := by decide +kernel
theorem dX5_vote_91 : decode cX5_vote 91 = .ok (.getfield 48, 3) := by decide +kernel
theorem dX5_vote_94 : decode cX5_vote 94 = .ok (.invokevirtual 97, 3) := by decide +kernel
theorem dX5_vote_97 : decode cX5_vote 97 = .ok (.ireturn, 1) := by decide +kernel
theorem dX5_share_0 : decode cX5_share 0 = .ok (.aload_n 0, 1) := by decide +kernel
theorem dX5_share_1 : decode cX5_share 1 = .ok (.getfield 10, 3) := by decide +kernel
theorem dX5_share_4 : decode cX5_share 4 = .ok (.iload_n 1, 1) := by decide +kernel
theorem dX5_share_5 : decode cX5_share 5 = .ok (.invokevirtual 60, 3) := by decide +kernel
theorem dX5_share_8 : decode cX5_share 8 = .ok (.ifCond .eq 10, 3) := by decide +kernel
theorem dX5_share_11 : decode cX5_share 11 = .ok (.iload_n 2, 1) := by decide +kernel
theorem dX5_share_12 : decode cX5_share 12 = .ok (.invokestatic 63, 3) := by decide +kernel
theorem dX5_share_15 : decode cX5_share 15 = .ok (.ifCond .ne 5, 3) := by decide +kernel
theorem dX5_share_18 : decode cX5_share 18 = .ok (.iconst (-1), 1) := by decide +kernel
theorem dX5_share_19 : decode cX5_share 19 = .ok (.ireturn, 1) := by decide +kernel
theorem dX5_share_20 : decode cX5_share 20 = .ok (.aload_n 0, 1) := by decide +kernel
theorem dX5_share_21 : decode cX5_share 21 = .ok (.getfield 10, 3) := by decide +kernel
theorem dX5_share_24 : decode cX5_share 24 = .ok (.iload_n 1, 1) := by decide +kernel
theorem dX5_share_25 : decode cX5_share 25 = .ok (.iload_n 2, 1) := by decide +kernel
theorem dX5_share_26 : decode cX5_share 26 = .ok (.invokevirtual 100, 3) := by decide +kernel
theorem dX5_share_29 : decode cX5_share 29 = .ok (.ireturn, 1) := by decide +kernel
theorem dX5_below_0 : decode cX5_below 0 = .ok (.aload_n 0, 1) := by decide +kernel
theorem dX5_below_1 : decode cX5_below 1 = .ok (.getfield 26, 3) := by decide +kernel
theorem dX5_below_4 : decode cX5_below 4 = .ok (.iload_n 1, 1) := by decide +kernel
theorem dX5_below_5 : decode cX5_below 5 = .ok (.invokevirtual 103, 3) := by decide +kernel
theorem dX5_below_8 : decode cX5_below 8 = .ok (.ifCond .ne 5, 3) := by decide +kernel
theorem dX5_below_11 : decode cX5_below 11 = .ok (.iconst (-1), 1) := by decide +kernel
theorem dX5_below_12 : decode cX5_below 12 = .ok (.ireturn, 1) := by decide +kernel
theorem dX5_below_13 : decode cX5_below 13 = .ok (.iload_n 2, 1) := by decide +kernel
theorem dX5_below_14 : decode cX5_below 14 = .ok (.tableswitch 53 0 2 #[26, 35, 44], 26) := by decide +kernel
theorem dX5_below_40 : decode cX5_below 40 = .ok (.aload_n 0, 1) := by decide +kernel
theorem dX5_below_41 : decode cX5_below 41 = .ok (.getfield 26, 3) := by decide +kernel
theorem dX5_below_44 : decode cX5_below 44 = .ok (.iload_n 1, 1) := by decide +kernel
theorem dX5_below_45 : decode cX5_below 45 = .ok (.invokevirtual 104, 3) := by decide +kernel
theorem dX5_below_48 : decode cX5_below 48 = .ok (.ireturn, 1) := by decide +kernel
theorem dX5_below_49 : decode cX5_below 49 = .ok (.aload_n 0, 1) := by decide +kernel
theorem dX5_below_50 : decode cX5_below 50 = .ok (.getfield 35, 3) := by decide +kernel
theorem dX5_below_53 : decode cX5_below 53 = .ok (.iload_n 1, 1) := by decide +kernel
theorem dX5_below_54 : decode cX5_below 54 = .ok (.invokevirtual 107, 3) := by decide +kernel
theorem dX5_below_57 : decode cX5_below 57 = .ok (.ireturn, 1) := by decide +kernel
theorem dX5_below_58 : decode cX5_below 58 = .ok (.aload_n 0, 1) := by decide +kernel
theorem dX5_below_59 : decode cX5_below 59 = .ok (.getfield 35, 3) := by decide +kernel
theorem dX5_below_62 : decode cX5_below 62 = .ok (.iload_n 1, 1) := by decide +kernel
theorem dX5_below_63 : decode cX5_below 63 = .ok (.invokevirtual 110, 3) := by decide +kernel
theorem dX5_below_66 : decode cX5_below 66 = .ok (.ireturn, 1) := by decide +kernel
theorem dX5_below_67 : decode cX5_below 67 = .ok (.iconst (-1), 1) := by decide +kernel
theorem dX5_below_68 : decode cX5_below 68 = .ok (.ireturn, 1) := by decide +kernel
theorem dX5_shared_0 : decode cX5_shared 0 = .ok (.aload_n 0, 1) := by decide +kernel
theorem dX5_shared_1 : decode cX5_shared 1 = .ok (.getfield 26, 3) := by decide +kernel
theorem dX5_shared_4 : decode cX5_shared 4 = .ok (.iload_n 1, 1) := by decide +kernel
theorem dX5_shared_5 : decode cX5_shared 5 = .ok (.invokevirtual 103, 3) := by decide +kernel
theorem dX5_shared_8 : decode cX5_shared 8 = .ok (.ifCond .eq 14, 3) := by decide +kernel
theorem dX5_shared_11 : decode cX5_shared 11 = .ok (.aload_n 0, 1) := by decide +kernel
theorem dX5_shared_12 : decode cX5_shared 12 = .ok (.getfield 26, 3) := by decide +kernel
theorem dX5_shared_15 : decode cX5_shared 15 = .ok (.iload_n 2, 1) := by decide +kernel
theorem dX5_shared_16 : decode cX5_shared 16 = .ok (.invokevirtual 103, 3) := by decide +kernel
theorem dX5_shared_19 : decode cX5_shared 19 = .ok (.ifCond .ne 5, 3) := by decide +kernel
theorem dX5_shared_22 : decode cX5_shared 22 = .ok (.iconst (-1), 1) := by decide +kernel
theorem dX5_shared_23 : decode cX5_shared 23 = .ok (.ireturn, 1) := by decide +kernel
theorem dX5_shared_24 : decode cX5_shared 24 = .ok (.aload_n 0, 1) := by decide +kernel
theorem dX5_shared_25 : decode cX5_shared 25 = .ok (.getfield 35, 3) := by decide +kernel
theorem dX5_shared_28 : decode cX5_shared 28 = .ok (.iload_n 1, 1) := by decide +kernel
theorem dX5_shared_29 : decode cX5_shared 29 = .ok (.invokevirtual 107, 3) := by decide +kernel
theorem dX5_shared_32 : decode cX5_shared 32 = .ok (.aload_n 0, 1) := by decide +kernel
theorem dX5_shared_33 : decode cX5_shared 33 = .ok (.getfield 35, 3) := by decide +kernel
theorem dX5_shared_36 : decode cX5_shared 36 = .ok (.iload_n 2, 1) := by decide +kernel
theorem dX5_shared_37 : decode cX5_shared 37 = .ok (.invokevirtual 107, 3) := by decide +kernel
theorem dX5_shared_40 : decode cX5_shared 40 = .ok (.iand, 1) := by decide +kernel
theorem dX5_shared_41 : decode cX5_shared 41 = .ok (.istore_n 3, 1) := by decide +kernel
theorem dX5_shared_42 : decode cX5_shared 42 = .ok (.aload_n 0, 1) := by decide +kernel
theorem dX5_shared_43 : decode cX5_shared 43 = .ok (.getfield 26, 3) := by decide +kernel
theorem dX5_shared_46 : decode cX5_shared 46 = .ok (.iload_n 1, 1) := by decide +kernel
theorem dX5_shared_47 : decode cX5_shared 47 = .ok (.invokevirtual 104, 3) := by decide +kernel
theorem dX5_shared_50 : decode cX5_shared 50 = .ok (.aload_n 0, 1) := by decide +kernel
theorem dX5_shared_51 : decode cX5_shared 51 = .ok (.getfield 26, 3) := by decide +kernel
theorem dX5_shared_54 : decode cX5_shared 54 = .ok (.iload_n 2, 1) := by decide +kernel
theorem dX5_shared_55 : decode cX5_shared 55 = .ok (.invokevirtual 104, 3) := by decide +kernel
theorem dX5_shared_58 : decode cX5_shared 58 = .ok (.iand, 1) := by decide +kernel
theorem dX5_shared_59 : decode cX5_shared 59 = .ok (.iload_n 3, 1) := by decide +kernel
theorem dX5_shared_60 : decode cX5_shared 60 = .ok (.bipush 12, 2) := by decide +kernel
theorem dX5_shared_62 : decode cX5_shared 62 = .ok (.ishl, 1) := by decide +kernel
theorem dX5_shared_63 : decode cX5_shared 63 = .ok (.ior, 1) := by decide +kernel
theorem dX5_shared_64 : decode cX5_shared 64 = .ok (.ireturn, 1) := by decide +kernel
theorem dX5_chance_0 : decode cX5_chance 0 = .ok (.aload_n 0, 1) := by decide +kernel
theorem dX5_chance_1 : decode cX5_chance 1 = .ok (.getfield 26, 3) := by decide +kernel
theorem dX5_chance_4 : decode cX5_chance 4 = .ok (.iload_n 1, 1) := by decide +kernel
theorem dX5_chance_5 : decode cX5_chance 5 = .ok (.invokevirtual 103, 3) := by decide +kernel
theorem dX5_chance_8 : decode cX5_chance 8 = .ok (.ifCond .eq 10, 3) := by decide +kernel
theorem dX5_chance_11 : decode cX5_chance 11 = .ok (.iload_n 2, 1) := by decide +kernel
theorem dX5_chance_12 : decode cX5_chance 12 = .ok (.invokestatic 63, 3) := by decide +kernel
theorem dX5_chance_15 : decode cX5_chance 15 = .ok (.ifCond .ne 7, 3) := by decide +kernel
theorem dX5_chance_18 : decode cX5_chance 18 = .ok (.ldc2_w 113, 3) := by decide +kernel
theorem dX5_chance_21 : decode cX5_chance 21 = .ok (.lreturn, 1) := by decide +kernel
theorem dX5_chance_22 : decode cX5_chance 22 = .ok (.aload_n 0, 1) := by decide +kernel
theorem dX5_chance_23 : decode cX5_chance 23 = .ok (.getfield 35, 3) := by decide +kernel
theorem dX5_chance_26 : decode cX5_chance 26 = .ok (.iload_n 1, 1) := by decide +kernel
theorem dX5_chance_27 : decode cX5_chance 27 = .ok (.invokevirtual 115, 3) := by decide +kernel
theorem dX5_chance_30 : decode cX5_chance 30 = .ok (.ifCond .eq 7, 3) := by decide +kernel
theorem dX5_chance_33 : decode cX5_chance 33 = .ok (.ldc2_w 118, 3) := by decide +kernel
theorem dX5_chance_36 : decode cX5_chance 36 = .ok (.lreturn, 1) := by decide +kernel
theorem dX5_chance_37 : decode cX5_chance 37 = .ok (.aload_n 0, 1) := by decide +kernel
theorem dX5_chance_38 : decode cX5_chance 38 = .ok (.getfield 35, 3) := by decide +kernel
theorem dX5_chance_41 : decode cX5_chance 41 = .ok (.iload_n 1, 1) := by decide +kernel
theorem dX5_chance_42 : decode cX5_chance 42 = .ok (.invokevirtual 120, 3) := by decide +kernel
theorem dX5_chance_45 : decode cX5_chance 45 = .ok (.aload_n 0, 1) := by decide +kernel
theorem dX5_chance_46 : decode cX5_chance 46 = .ok (.getfield 35, 3) := by decide +kernel
theorem dX5_chance_49 : decode cX5_chance 49 = .ok (.iload_n 2, 1) := by decide +kernel
theorem dX5_chance_50 : decode cX5_chance 50 = .ok (.invokevirtual 124, 3) := by decide +kernel
theorem dX5_chance_53 : decode cX5_chance 53 = .ok (.lreturn, 1) := by decide +kernel
theorem dX5_over_0 : decode cX5_over 0 = .ok (.aload_n 0, 1) := by decide +kernel
theorem dX5_over_1 : decode cX5_over 1 = .ok (.getfield 26, 3) := by decide +kernel
theorem dX5_over_4 : decode cX5_over 4 = .ok (.iload_n 1, 1) := by decide +kernel
theorem dX5_over_5 : decode cX5_over 5 = .ok (.invokevirtual 103, 3) := by decide +kernel
theorem dX5_over_8 : decode cX5_over 8 = .ok (.ifCond .eq 11, 3) := by decide +kernel
theorem dX5_over_11 : decode cX5_over 11 = .ok (.iload_n 2, 1) := by decide +kernel
theorem dX5_over_12 : decode cX5_over 12 = .ok (.iload_n 3, 1) := by decide +kernel
theorem dX5_over_13 : decode cX5_over 13 = .ok (.invokestatic 128, 3) := by decide +kernel
theorem dX5_over_16 : decode cX5_over 16 = .ok (.ifCond .ne 7, 3) := by decide +kernel
theorem dX5_over_19 : decode cX5_over 19 = .ok (.ldc2_w 113, 3) := by decide +kernel
theorem dX5_over_22 : decode cX5_over 22 = .ok (.lreturn, 1) := by decide +kernel
theorem dX5_over_23 : decode cX5_over 23 = .ok (.aload_n 0, 1) := by decide +kernel
theorem dX5_over_24 : decode cX5_over 24 = .ok (.getfield 35, 3) := by decide +kernel
theorem dX5_over_27 : decode cX5_over 27 = .ok (.iload_n 1, 1) := by decide +kernel
theorem dX5_over_28 : decode cX5_over 28 = .ok (.invokevirtual 115, 3) := by decide +kernel
theorem dX5_over_31 : decode cX5_over 31 = .ok (.ifCond .eq 7, 3) := by decide +kernel
theorem dX5_over_34 : decode cX5_over 34 = .ok (.ldc2_w 118, 3) := by decide +kernel
theorem dX5_over_37 : decode cX5_over 37 = .ok (.lreturn, 1) := by decide +kernel
theorem dX5_over_38 : decode cX5_over 38 = .ok (.aload_n 0, 1) := by decide +kernel
theorem dX5_over_39 : decode cX5_over 39 = .ok (.getfield 35, 3) := by decide +kernel
theorem dX5_over_42 : decode cX5_over 42 = .ok (.iload_n 1, 1) := by decide +kernel
theorem dX5_over_43 : decode cX5_over 43 = .ok (.invokevirtual 120, 3) := by decide +kernel
theorem dX5_over_46 : decode cX5_over 46 = .ok (.lconst 0, 1) := by decide +kernel
theorem dX5_over_47 : decode cX5_over 47 = .ok (.lstore 4, 2) := by decide +kernel
theorem dX5_over_49 : decode cX5_over 49 = .ok (.iload_n 2, 1) := by decide +kernel
theorem dX5_over_50 : decode cX5_over 50 = .ok (.istore 6, 2) := by decide +kernel
theorem dX5_over_52 : decode cX5_over 52 = .ok (.iload 6, 2) := by decide +kernel
theorem dX5_over_54 : decode cX5_over 54 = .ok (.iload_n 3, 1) := by decide +kernel
theorem dX5_over_55 : decode cX5_over 55 = .ok (.if_icmp .gt 23, 3) := by decide +kernel
theorem dX5_over_58 : decode cX5_over 58 = .ok (.lload 4, 2) := by decide +kernel
theorem dX5_over_60 : decode cX5_over 60 = .ok (.aload_n 0, 1) := by decide +kernel
theorem dX5_over_61 : decode cX5_over 61 = .ok (.getfield 35, 3) := by decide +kernel
theorem dX5_over_64 : decode cX5_over 64 = .ok (.iload 6, 2) := by decide +kernel
theorem dX5_over_66 : decode cX5_over 66 = .ok (.invokevirtual 124, 3) := by decide +kernel
theorem dX5_over_69 : decode cX5_over 69 = .ok (.ladd, 1) := by decide +kernel
theorem dX5_over_70 : decode cX5_over 70 = .ok (.lstore 4, 2) := by decide +kernel
theorem dX5_over_72 : decode cX5_over 72 = .ok (.iinc 6 1, 3) := by decide +kernel
theorem dX5_over_75 : decode cX5_over 75 = .ok (.goto (-23), 3) := by decide +kernel
theorem dX5_over_78 : decode cX5_over 78 = .ok (.lload 4, 2) := by decide +kernel
theorem dX5_over_80 : decode cX5_over 80 = .ok (.lreturn, 1) := by decide +kernel
theorem dX5_broken_0 : decode cX5_broken 0 = .ok (.aload_n 0, 1) := by decide +kernel
theorem dX5_broken_1 : decode cX5_broken 1 = .ok (.getfield 26, 3) := by decide +kernel
theorem dX5_broken_4 : decode cX5_broken 4 = .ok (.iload_n 1, 1) := by decide +kernel
theorem dX5_broken_5 : decode cX5_broken 5 = .ok (.invokevirtual 103, 3) := by decide +kernel
theorem dX5_broken_8 : decode cX5_broken 8 = .ok (.ifCond .eq 27, 3) := by decide +kernel
theorem dX5_broken_11 : decode cX5_broken 11 = .ok (.iload_n 2, 1) := by decide +kernel
theorem dX5_broken_12 : decode cX5_broken 12 = .ok (.iload_n 3, 1) := by decide +kernel
theorem dX5_broken_13 : decode cX5_broken 13 = .ok (.invokestatic 128, 3) := by decide +kernel
theorem dX5_broken_16 : decode cX5_broken 16 = .ok (.ifCond .eq 19, 3) := by decide +kernel
theorem dX5_broken_19 : decode cX5_broken 19 = .ok (.lload 4, 2) := by decide +kernel
theorem dX5_broken_21 : decode cX5_broken 21 = .ok (.lconst 0, 1) := by decide +kernel
theorem dX5_broken_22 : decode cX5_broken 22 = .ok (.lcmp, 1) := by decide +kernel
theorem dX5_broken_23 : decode cX5_broken 23 = .ok (.ifCond .lt 12, 3) := by decide +kernel
theorem dX5_broken_26 : decode cX5_broken 26 = .ok (.lload 4, 2) := by decide +kernel
theorem dX5_broken_28 : decode cX5_broken 28 = .ok (.ldc2_w 131, 3) := by decide +kernel
theorem dX5_broken_31 : decode cX5_broken 31 = .ok (.lcmp, 1) := by decide +kernel
theorem dX5_broken_32 : decode cX5_broken 32 = .ok (.ifCond .le 5, 3) := by decide +kernel
theorem dX5_broken_35 : decode cX5_broken 35 = .ok (.iconst (-1), 1) := by decide +kernel
theorem dX5_broken_36 : decode cX5_broken 36 = .ok (.ireturn, 1) := by decide +kernel
theorem dX5_broken_37 : decode cX5_broken 37 = .ok (.aload_n 0, 1) := by decide +kernel
theorem dX5_broken_38 : decode cX5_broken 38 = .ok (.getfield 35, 3) := by decide +kernel
theorem dX5_broken_41 : decode cX5_broken 41 = .ok (.iload_n 1, 1) := by decide +kernel
theorem dX5_broken_42 : decode cX5_broken 42 = .ok (.invokevirtual 115, 3) := by decide +kernel
theorem dX5_broken_45 : decode cX5_broken 45 = .ok (.ifCond .eq 6, 3) := by decide +kernel
theorem dX5_broken_48 : decode cX5_broken 48 = .ok (.bipush (-2), 2) := by decide +kernel
theorem dX5_broken_50 : decode cX5_broken 50 = .ok (.ireturn, 1) := by decide +kernel
theorem dX5_broken_51 : decode cX5_broken 51 = .ok (.aload_n 0, 1) := by decide +kernel
theorem dX5_broken_52 : decode cX5_broken 52 = .ok (.getfield 35, 3) := by decide +kernel
theorem dX5_broken_55 : decode cX5_broken 55 = .ok (.iload_n 1, 1) := by decide +kernel
theorem dX5_broken_56 : decode cX5_broken 56 = .ok (.invokevirtual 120, 3) := by decide +kernel
theorem dX5_broken_59 : decode cX5_broken 59 = .ok (.iload_n 2, 1) := by decide +kernel
theorem dX5_broken_60 : decode cX5_broken 60 = .ok (.istore 6, 2) := by decide +kernel
theorem dX5_broken_62 : decode cX5_broken 62 = .ok (.iload 6, 2) := by decide +kernel
theorem dX5_broken_64 : decode cX5_broken 64 = .ok (.iload_n 3, 1) := by decide +kernel
theorem dX5_broken_65 : decode cX5_broken 65 = .ok (.if_icmp .gt 27, 3) := by decide +kernel
theorem dX5_broken_68 : decode cX5_broken 68 = .ok (.aload_n 0, 1) := by decide +kernel
theorem dX5_broken_69 : decode cX5_broken 69 = .ok (.getfield 35, 3) := by decide +kernel
theorem dX5_broken_72 : decode cX5_broken 72 = .ok (.iload 6, 2) := by decide +kernel
theorem dX5_broken_74 : decode cX5_broken 74 = .ok (.invokevirtual 124, 3) := by decide +kernel
theorem dX5_broken_77 : decode cX5_broken 77 = .ok (.lload 4, 2) := by decide +kernel
theorem dX5_broken_79 : decode cX5_broken 79 = .ok (.lcmp, 1) := by decide +kernel
theorem dX5_broken_80 : decode cX5_broken 80 = .ok (.ifCond .le 6, 3) := by decide +kernel
theorem dX5_broken_83 : decode cX5_broken 83 = .ok (.iload 6, 2) := by decide +kernel
theorem dX5_broken_85 : decode cX5_broken 85 = .ok (.ireturn, 1) := by decide +kernel
theorem dX5_broken_86 : decode cX5_broken 86 = .ok (.iinc 6 1, 3) := by decide +kernel
theorem dX5_broken_89 : decode cX5_broken 89 = .ok (.goto (-27), 3) := by decide +kernel
theorem dX5_broken_92 : decode cX5_broken 92 = .ok (.bipush (-4), 2) := by decide +kernel
theorem dX5_broken_94 : decode cX5_broken 94 = .ok (.ireturn, 1) := by decide +kernel
theorem dX5_nothing_0 : decode cX5_nothing 0 = .ok (.aload_n 0, 1) := by decide +kernel
theorem dX5_nothing_1 : decode cX5_nothing 1 = .ok (.getfield 26, 3) := by decide +kernel
theorem dX5_nothing_4 : decode cX5_nothing 4 = .ok (.iload_n 1, 1) := by decide +kernel
theorem dX5_nothing_5 : decode cX5_nothing 5 = .ok (.invokevirtual 103, 3) := by decide +kernel
theorem dX5_nothing_8 : decode cX5_nothing 8 = .ok (.ifCond .ne 7, 3) := by decide +kernel
theorem dX5_nothing_11 : decode cX5_nothing 11 = .ok (.ldc2_w 113, 3) := by decide +kernel
theorem dX5_nothing_14 : decode cX5_nothing 14 = .ok (.lreturn, 1) := by decide +kernel
theorem dX5_nothing_15 : decode cX5_nothing 15 = .ok (.aload_n 0, 1) := by decide +kernel
theorem dX5_nothing_16 : decode cX5_nothing 16 = .ok (.getfield 26, 3) := by decide +kernel
theorem dX5_nothing_19 : decode cX5_nothing 19 = .ok (.iload_n 1, 1) := by decide +kernel
theorem dX5_nothing_20 : decode cX5_nothing 20 = .ok (.invokevirtual 133, 3) := by decide +kernel
theorem dX5_nothing_23 : decode cX5_nothing 23 = .ok (.bipush 8, 2) := by decide +kernel
theorem dX5_nothing_25 : decode cX5_nothing 25 = .ok (.if_icmp .le 7, 3) := by decide +kernel
theorem dX5_nothing_28 : decode cX5_nothing 28 = .ok (.ldc2_w 118, 3) := by decide +kernel
theorem dX5_nothing_31 : decode cX5_nothing 31 = .ok (.lreturn, 1) := by decide +kernel
theorem dX5_nothing_32 : decode cX5_nothing 32 = .ok (.aload_n 0, 1) := by decide +kernel
theorem dX5_nothing_33 : decode cX5_nothing 33 = .ok (.getfield 35, 3) := by decide +kernel
theorem dX5_nothing_36 : decode cX5_nothing 36 = .ok (.iload_n 1, 1) := by decide +kernel
theorem dX5_nothing_37 : decode cX5_nothing 37 = .ok (.invokevirtual 136, 3) := by decide +kernel
theorem dX5_nothing_40 : decode cX5_nothing 40 = .ok (.lreturn, 1) := by decide +kernel
theorem dX5_matters_0 : decode cX5_matters 0 = .ok (.aload_n 0, 1) := by decide +kernel
theorem dX5_matters_1 : decode cX5_matters 1 = .ok (.getfield 26, 3) := by decide +kernel
theorem dX5_matters_4 : decode cX5_matters 4 = .ok (.iload_n 1, 1) := by decide +kernel
theorem dX5_matters_5 : decode cX5_matters 5 = .ok (.invokevirtual 103, 3) := by decide +kernel
theorem dX5_matters_8 : decode cX5_matters 8 = .ok (.ifCond .eq 21, 3) := by decide +kernel
theorem dX5_matters_11 : decode cX5_matters 11 = .ok (.aload_n 0, 1) := by decide +kernel
theorem dX5_matters_12 : decode cX5_matters 12 = .ok (.getfield 10, 3) := by decide +kernel
theorem dX5_matters_15 : decode cX5_matters 15 = .ok (.iload_n 2, 1) := by decide +kernel
theorem dX5_matters_16 : decode cX5_matters 16 = .ok (.invokevirtual 60, 3) := by decide +kernel
theorem dX5_matters_19 : decode cX5_matters 19 = .ok (.ifCond .eq 10, 3) := by decide +kernel
theorem dX5_matters_22 : decode cX5_matters 22 = .ok (.iload_n 3, 1) := by decide +kernel
theorem dX5_matters_23 : decode cX5_matters 23 = .ok (.invokestatic 63, 3) := by decide +kernel
theorem dX5_matters_26 : decode cX5_matters 26 = .ok (.ifCond .ne 7, 3) := by decide +kernel
theorem dX5_matters_29 : decode cX5_matters 29 = .ok (.ldc2_w 113, 3) := by decide +kernel
theorem dX5_matters_32 : decode cX5_matters 32 = .ok (.lreturn, 1) := by decide +kernel
theorem dX5_matters_33 : decode cX5_matters 33 = .ok (.aload_n 0, 1) := by decide +kernel
theorem dX5_matters_34 : decode cX5_matters 34 = .ok (.getfield 35, 3) := by decide +kernel
theorem dX5_matters_37 : decode cX5_matters 37 = .ok (.iload_n 1, 1) := by decide +kernel
theorem dX5_matters_38 : decode cX5_matters 38 = .ok (.invokevirtual 115, 3) := by decide +kernel
theorem dX5_matters_41 : decode cX5_matters 41 = .ok (.ifCond .eq 7, 3) := by decide +kernel
theorem dX5_matters_44 : decode cX5_matters 44 = .ok (.ldc2_w 118, 3) := by decide +kernel
theorem dX5_matters_47 : decode cX5_matters 47 = .ok (.lreturn, 1) := by decide +kernel
theorem dX5_matters_48 : decode cX5_matters 48 = .ok (.aload_n 0, 1) := by decide +kernel
theorem dX5_matters_49 : decode cX5_matters 49 = .ok (.getfield 35, 3) := by decide +kernel
theorem dX5_matters_52 : decode cX5_matters 52 = .ok (.iload_n 1, 1) := by decide +kernel
theorem dX5_matters_53 : decode cX5_matters 53 = .ok (.invokevirtual 120, 3) := by decide +kernel
theorem dX5_matters_56 : decode cX5_matters 56 = .ok (.aload_n 0, 1) := by decide +kernel
theorem dX5_matters_57 : decode cX5_matters 57 = .ok (.getfield 35, 3) := by decide +kernel
theorem dX5_matters_60 : decode cX5_matters 60 = .ok (.iload_n 2, 1) := by decide +kernel
theorem dX5_matters_61 : decode cX5_matters 61 = .ok (.iload_n 3, 1) := by decide +kernel
theorem dX5_matters_62 : decode cX5_matters 62 = .ok (.invokevirtual 139, 3) := by decide +kernel
theorem dX5_matters_65 : decode cX5_matters 65 = .ok (.lreturn, 1) := by decide +kernel
theorem dX5_most_0 : decode cX5_most 0 = .ok (.aload_n 0, 1) := by decide +kernel
theorem dX5_most_1 : decode cX5_most 1 = .ok (.getfield 26, 3) := by decide +kernel
theorem dX5_most_4 : decode cX5_most 4 = .ok (.iload_n 1, 1) := by decide +kernel
theorem dX5_most_5 : decode cX5_most 5 = .ok (.invokevirtual 103, 3) := by decide +kernel
theorem dX5_most_8 : decode cX5_most 8 = .ok (.ifCond .eq 10, 3) := by decide +kernel
theorem dX5_most_11 : decode cX5_most 11 = .ok (.iload_n 2, 1) := by decide +kernel
theorem dX5_most_12 : decode cX5_most 12 = .ok (.invokestatic 63, 3) := by decide +kernel
theorem dX5_most_15 : decode cX5_most 15 = .ok (.ifCond .ne 5, 3) := by decide +kernel
theorem dX5_most_18 : decode cX5_most 18 = .ok (.iconst (-1), 1) := by decide +kernel
theorem dX5_most_19 : decode cX5_most 19 = .ok (.ireturn, 1) := by decide +kernel
theorem dX5_most_20 : decode cX5_most 20 = .ok (.aload_n 0, 1) := by decide +kernel
theorem dX5_most_21 : decode cX5_most 21 = .ok (.getfield 35, 3) := by decide +kernel
theorem dX5_most_24 : decode cX5_most 24 = .ok (.iload_n 1, 1) := by decide +kernel
theorem dX5_most_25 : decode cX5_most 25 = .ok (.invokevirtual 115, 3) := by decide +kernel
theorem dX5_most_28 : decode cX5_most 28 = .ok (.ifCond .eq 6, 3) := by decide +kernel
theorem dX5_most_31 : decode cX5_most 31 = .ok (.bipush (-2), 2) := by decide +kernel
theorem dX5_most_33 : decode cX5_most 33 = .ok (.ireturn, 1) := by decide +kernel
theorem dX5_most_34 : decode cX5_most 34 = .ok (.aload_n 0, 1) := by decide +kernel
theorem dX5_most_35 : decode cX5_most 35 = .ok (.getfield 35, 3) := by decide +kernel
theorem dX5_most_38 : decode cX5_most 38 = .ok (.iload_n 1, 1) := by decide +kernel
theorem dX5_most_39 : decode cX5_most 39 = .ok (.invokevirtual 120, 3) := by decide +kernel
theorem dX5_most_42 : decode cX5_most 42 = .ok (.aload_n 0, 1) := by decide +kernel
theorem dX5_most_43 : decode cX5_most 43 = .ok (.getfield 35, 3) := by decide +kernel
theorem dX5_most_46 : decode cX5_most 46 = .ok (.iload_n 2, 1) := by decide +kernel
theorem dX5_most_47 : decode cX5_most 47 = .ok (.invokevirtual 143, 3) := by decide +kernel
theorem dX5_most_50 : decode cX5_most 50 = .ok (.ireturn, 1) := by decide +kernel
theorem dX5_cost_0 : decode cX5_cost 0 = .ok (.aload_n 0, 1) := by decide +kernel
theorem dX5_cost_1 : decode cX5_cost 1 = .ok (.getfield 10, 3) := by decide +kernel
theorem dX5_cost_4 : decode cX5_cost 4 = .ok (.iload_n 1, 1) := by decide +kernel
theorem dX5_cost_5 : decode cX5_cost 5 = .ok (.invokevirtual 60, 3) := by decide +kernel
theorem dX5_cost_8 : decode cX5_cost 8 = .ok (.ifCond .eq 14, 3) := by decide +kernel
theorem dX5_cost_11 : decode cX5_cost 11 = .ok (.iload_n 2, 1) := by decide +kernel
theorem dX5_cost_12 : decode cX5_cost 12 = .ok (.ifCond .lt 10, 3) := by decide +kernel
theorem dX5_cost_15 : decode cX5_cost 15 = .ok (.iload_n 2, 1) := by decide +kernel
theorem dX5_cost_16 : decode cX5_cost 16 = .ok (.sipush 1000, 3) := by decide +kernel
theorem dX5_cost_19 : decode cX5_cost 19 = .ok (.if_icmp .le 5, 3) := by decide +kernel
theorem dX5_cost_22 : decode cX5_cost 22 = .ok (.iconst (-1), 1) := by decide +kernel
theorem dX5_cost_23 : decode cX5_cost 23 = .ok (.ireturn, 1) := by decide +kernel
theorem dX5_cost_24 : decode cX5_cost 24 = .ok (.aload_n 0, 1) := by decide +kernel
theorem dX5_cost_25 : decode cX5_cost 25 = .ok (.getfield 10, 3) := by decide +kernel
theorem dX5_cost_28 : decode cX5_cost 28 = .ok (.iload_n 1, 1) := by decide +kernel
theorem dX5_cost_29 : decode cX5_cost 29 = .ok (.iload_n 2, 1) := by decide +kernel
theorem dX5_cost_30 : decode cX5_cost 30 = .ok (.invokevirtual 146, 3) := by decide +kernel
theorem dX5_cost_33 : decode cX5_cost 33 = .ok (.ireturn, 1) := by decide +kernel
theorem dX5_plan_0 : decode cX5_plan 0 = .ok (.aload_n 0, 1) := by decide +kernel
theorem dX5_plan_1 : decode cX5_plan 1 = .ok (.getfield 26, 3) := by decide +kernel
theorem dX5_plan_4 : decode cX5_plan 4 = .ok (.iload_n 1, 1) := by decide +kernel
theorem dX5_plan_5 : decode cX5_plan 5 = .ok (.invokevirtual 103, 3) := by decide +kernel
theorem dX5_plan_8 : decode cX5_plan 8 = .ok (.ifCond .eq 25, 3) := by decide +kernel
theorem dX5_plan_11 : decode cX5_plan 11 = .ok (.iload_n 2, 1) := by decide +kernel
theorem dX5_plan_12 : decode cX5_plan 12 = .ok (.invokestatic 149, 3) := by decide +kernel
theorem dX5_plan_15 : decode cX5_plan 15 = .ok (.ifCond .eq 18, 3) := by decide +kernel
theorem dX5_plan_18 : decode cX5_plan 18 = .ok (.iload_n 3, 1) := by decide +kernel
theorem dX5_plan_19 : decode cX5_plan 19 = .ok (.invokestatic 149, 3) := by decide +kernel
theorem dX5_plan_22 : decode cX5_plan 22 = .ok (.ifCond .eq 11, 3) := by decide +kernel
theorem dX5_plan_25 : decode cX5_plan 25 = .ok (.iload 4, 2) := by decide +kernel
theorem dX5_plan_27 : decode cX5_plan 27 = .ok (.invokestatic 149, 3) := by decide +kernel
theorem dX5_plan_30 : decode cX5_plan 30 = .ok (.ifCond .ne 5, 3) := by decide +kernel
theorem dX5_plan_33 : decode cX5_plan 33 = .ok (.iconst (-1), 1) := by decide +kernel
theorem dX5_plan_34 : decode cX5_plan 34 = .ok (.ireturn, 1) := by decide +kernel
theorem dX5_plan_35 : decode cX5_plan 35 = .ok (.lload 5, 2) := by decide +kernel
theorem dX5_plan_37 : decode cX5_plan 37 = .ok (.lconst 0, 1) := by decide +kernel
theorem dX5_plan_38 : decode cX5_plan 38 = .ok (.lcmp, 1) := by decide +kernel
theorem dX5_plan_39 : decode cX5_plan 39 = .ok (.ifCond .lt 23, 3) := by decide +kernel
theorem dX5_plan_42 : decode cX5_plan 42 = .ok (.lload 5, 2) := by decide +kernel
theorem dX5_plan_44 : decode cX5_plan 44 = .ok (.ldc2_w 152, 3) := by decide +kernel
theorem dX5_plan_47 : decode cX5_plan 47 = .ok (.lcmp, 1) := by decide +kernel
theorem dX5_plan_48 : decode cX5_plan 48 = .ok (.ifCond .gt 14, 3) := by decide +kernel
theorem dX5_plan_51 : decode cX5_plan 51 = .ok (.iload 7, 2) := by decide +kernel
theorem dX5_plan_53 : decode cX5_plan 53 = .ok (.ifCond .lt 9, 3) := by decide +kernel
theorem dX5_plan_56 : decode cX5_plan 56 = .ok (.iload 7, 2) := by decide +kernel
theorem dX5_plan_58 : decode cX5_plan 58 = .ok (.iconst 1, 1) := by decide +kernel
theorem dX5_plan_59 : decode cX5_plan 59 = .ok (.if_icmp .le 5, 3) := by decide +kernel
theorem dX5_plan_62 : decode cX5_plan 62 = .ok (.iconst (-1), 1) := by decide +kernel
theorem dX5_plan_63 : decode cX5_plan 63 = .ok (.ireturn, 1) := by decide +kernel
theorem dX5_plan_64 : decode cX5_plan 64 = .ok (.aload_n 0, 1) := by decide +kernel
theorem dX5_plan_65 : decode cX5_plan 65 = .ok (.getfield 26, 3) := by decide +kernel
theorem dX5_plan_68 : decode cX5_plan 68 = .ok (.iload_n 1, 1) := by decide +kernel
theorem dX5_plan_69 : decode cX5_plan 69 = .ok (.invokevirtual 133, 3) := by decide +kernel
theorem dX5_plan_72 : decode cX5_plan 72 = .ok (.iconst 3, 1) := by decide +kernel
theorem dX5_plan_73 : decode cX5_plan 73 = .ok (.if_icmp .gt 14, 3) := by decide +kernel
theorem dX5_plan_76 : decode cX5_plan 76 = .ok (.aload_n 0, 1) := by decide +kernel
theorem dX5_plan_77 : decode cX5_plan 77 = .ok (.getfield 35, 3) := by decide +kernel
theorem dX5_plan_80 : decode cX5_plan 80 = .ok (.iload_n 1, 1) := by decide +kernel
theorem dX5_plan_81 : decode cX5_plan 81 = .ok (.invokevirtual 115, 3) := by decide +kernel
theorem dX5_plan_84 : decode cX5_plan 84 = .ok (.ifCond .eq 6, 3) := by decide +kernel
theorem dX5_plan_87 : decode cX5_plan 87 = .ok (.bipush (-2), 2) := by decide +kernel
theorem dX5_plan_89 : decode cX5_plan 89 = .ok (.ireturn, 1) := by decide +kernel
theorem dX5_plan_90 : decode cX5_plan 90 = .ok (.aload_n 0, 1) := by decide +kernel
theorem dX5_plan_91 : decode cX5_plan 91 = .ok (.getfield 44, 3) := by decide +kernel
theorem dX5_plan_94 : decode cX5_plan 94 = .ok (.iload_n 2, 1) := by decide +kernel
theorem dX5_plan_95 : decode cX5_plan 95 = .ok (.iload_n 3, 1) := by decide +kernel
theorem dX5_plan_96 : decode cX5_plan 96 = .ok (.iload 4, 2) := by decide +kernel
theorem dX5_plan_98 : decode cX5_plan 98 = .ok (.invokevirtual 154, 3) := by decide +kernel
theorem dX5_plan_101 : decode cX5_plan 101 = .ok (.aload_n 0, 1) := by decide +kernel
theorem dX5_plan_102 : decode cX5_plan 102 = .ok (.getfield 44, 3) := by decide +kernel
theorem dX5_plan_105 : decode cX5_plan 105 = .ok (.iload_n 1, 1) := by decide +kernel
theorem dX5_plan_106 : decode cX5_plan 106 = .ok (.lload 5, 2) := by decide +kernel
theorem dX5_plan_108 : decode cX5_plan 108 = .ok (.invokevirtual 158, 3) := by decide +kernel
theorem dX5_plan_111 : decode cX5_plan 111 = .ok (.ifCond .ne 6, 3) := by decide +kernel
theorem dX5_plan_114 : decode cX5_plan 114 = .ok (.bipush (-4), 2) := by decide +kernel
theorem dX5_plan_116 : decode cX5_plan 116 = .ok (.ireturn, 1) := by decide +kernel
theorem dX5_plan_117 : decode cX5_plan 117 = .ok (.iload 7, 2) := by decide +kernel
theorem dX5_plan_119 : decode cX5_plan 119 = .ok (.ifCond .ne 13, 3) := by decide +kernel
theorem dX5_plan_122 : decode cX5_plan 122 = .ok (.aload_n 0, 1) := by decide +kernel
theorem dX5_plan_123 : decode cX5_plan 123 = .ok (.getfield 44, 3) := by decide +kernel
theorem dX5_plan_126 : decode cX5_plan 126 = .ok (.invokevirtual 162, 3) := by decide +kernel
theorem dX5_plan_129 : decode cX5_plan 129 = .ok (.goto 10, 3) := by decide +kernel
theorem dX5_plan_132 : decode cX5_plan 132 = .ok (.aload_n 0, 1) := by decide +kernel
theorem dX5_plan_133 : decode cX5_plan 133 = .ok (.getfield 44, 3) := by decide +kernel
theorem dX5_plan_136 : decode cX5_plan 136 = .ok (.invokevirtual 166, 3) := by decide +kernel
theorem dX5_plan_139 : decode cX5_plan 139 = .ok (.ireturn, 1) := by decide +kernel
theorem dX5_count_0 : decode cX5_count 0 = .ok (.iload_n 1, 1) := by decide +kernel
theorem dX5_count_1 : decode cX5_count 1 = .ok (.tableswitch 75 0 4 #[35, 43, 51, 59, 67], 35) := by decide +kernel
theorem dX5_count_36 : decode cX5_count 36 = .ok (.aload_n 0, 1) := by decide +kernel
theorem dX5_count_37 : decode cX5_count 37 = .ok (.getfield 10, 3) := by decide +kernel
theorem dX5_count_40 : decode cX5_count 40 = .ok (.invokevirtual 169, 3) := by decide +kernel
theorem dX5_count_43 : decode cX5_count 43 = .ok (.ireturn, 1) := by decide +kernel
theorem dX5_count_44 : decode cX5_count 44 = .ok (.aload_n 0, 1) := by decide +kernel
theorem dX5_count_45 : decode cX5_count 45 = .ok (.getfield 10, 3) := by decide +kernel
theorem dX5_count_48 : decode cX5_count 48 = .ok (.invokevirtual 172, 3) := by decide +kernel
theorem dX5_count_51 : decode cX5_count 51 = .ok (.ireturn, 1) := by decide +kernel
theorem dX5_count_52 : decode cX5_count 52 = .ok (.aload_n 0, 1) := by decide +kernel
theorem dX5_count_53 : decode cX5_count 53 = .ok (.getfield 10, 3) := by decide +kernel
theorem dX5_count_56 : decode cX5_count 56 = .ok (.invokevirtual 175, 3) := by decide +kernel
theorem dX5_count_59 : decode cX5_count 59 = .ok (.ireturn, 1) := by decide +kernel
theorem dX5_count_60 : decode cX5_count 60 = .ok (.aload_n 0, 1) := by decide +kernel
theorem dX5_count_61 : decode cX5_count 61 = .ok (.getfield 19, 3) := by decide +kernel
theorem dX5_count_64 : decode cX5_count 64 = .ok (.invokevirtual 178, 3) := by decide +kernel
theorem dX5_count_67 : decode cX5_count 67 = .ok (.ireturn, 1) := by decide +kernel
theorem dX5_count_68 : decode cX5_count 68 = .ok (.aload_n 0, 1) := by decide +kernel
theorem dX5_count_69 : decode cX5_count 69 = .ok (.getfield 26, 3) := by decide +kernel
theorem dX5_count_72 : decode cX5_count 72 = .ok (.invokevirtual 179, 3) := by decide +kernel
theorem dX5_count_75 : decode cX5_count 75 = .ok (.ireturn, 1) := by decide +kernel
theorem dX5_count_76 : decode cX5_count 76 = .ok (.iconst (-1), 1) := by decide +kernel
theorem dX5_count_77 : decode cX5_count 77 = .ok (.ireturn, 1) := by decide +kernel
theorem dX5_isInput_0 : decode cX5_isInput 0 = .ok (.iload_n 1, 1) := by decide +kernel
theorem dX5_isInput_1 : decode cX5_isInput 1 = .ok (.bipush 12, 2) := by decide +kernel
theorem dX5_isInput_3 : decode cX5_isInput 3 = .ok (.if_icmp .ge 14, 3) := by decide +kernel
theorem dX5_isInput_6 : decode cX5_isInput 6 = .ok (.aload_n 0, 1) := by decide +kernel
theorem dX5_isInput_7 : decode cX5_isInput 7 = .ok (.getfield 10, 3) := by decide +kernel
theorem dX5_isInput_10 : decode cX5_isInput 10 = .ok (.iload_n 1, 1) := by decide +kernel
theorem dX5_isInput_11 : decode cX5_isInput 11 = .ok (.invokevirtual 60, 3) := by decide +kernel
theorem dX5_isInput_14 : decode cX5_isInput 14 = .ok (.goto 14, 3) := by decide +kernel
theorem dX5_isInput_17 : decode cX5_isInput 17 = .ok (.aload_n 0, 1) := by decide +kernel
theorem dX5_isInput_18 : decode cX5_isInput 18 = .ok (.getfield 26, 3) := by decide +kernel
theorem dX5_isInput_21 : decode cX5_isInput 21 = .ok (.iload_n 1, 1) := by decide +kernel
theorem dX5_isInput_22 : decode cX5_isInput 22 = .ok (.bipush 12, 2) := by decide +kernel
theorem dX5_isInput_24 : decode cX5_isInput 24 = .ok (.isub, 1) := by decide +kernel
theorem dX5_isInput_25 : decode cX5_isInput 25 = .ok (.invokevirtual 103, 3) := by decide +kernel
theorem dX5_isInput_28 : decode cX5_isInput 28 = .ok (.ireturn, 1) := by decide +kernel
theorem dX5_isShare_0 : decode cX5_isShare 0 = .ok (.iload_n 0, 1) := by decide +kernel
theorem dX5_isShare_1 : decode cX5_isShare 1 = .ok (.ifCond .lt 13, 3) := by decide +kernel
theorem dX5_isShare_4 : decode cX5_isShare 4 = .ok (.iload_n 0, 1) := by decide +kernel
theorem dX5_isShare_5 : decode cX5_isShare 5 = .ok (.bipush 64, 2) := by decide +kernel
theorem dX5_isShare_7 : decode cX5_isShare 7 = .ok (.if_icmp .gt 7, 3) := by decide +kernel
theorem dX5_isShare_10 : decode cX5_isShare 10 = .ok (.iconst 1, 1) := by decide +kernel
theorem dX5_isShare_11 : decode cX5_isShare 11 = .ok (.goto 4, 3) := by decide +kernel
theorem dX5_isShare_14 : decode cX5_isShare 14 = .ok (.iconst 0, 1) := by decide +kernel
theorem dX5_isShare_15 : decode cX5_isShare 15 = .ok (.ireturn, 1) := by decide +kernel
theorem dX5_isDay_0 : decode cX5_isDay 0 = .ok (.iload_n 0, 1) := by decide +kernel
theorem dX5_isDay_1 : decode cX5_isDay 1 = .ok (.ifCond .lt 14, 3) := by decide +kernel
theorem dX5_isDay_4 : decode cX5_isDay 4 = .ok (.iload_n 0, 1) := by decide +kernel
theorem dX5_isDay_5 : decode cX5_isDay 5 = .ok (.sipush 999, 3) := by decide +kernel
theorem dX5_isDay_8 : decode cX5_isDay 8 = .ok (.if_icmp .gt 7, 3) := by decide +kernel
theorem dX5_isDay_11 : decode cX5_isDay 11 = .ok (.iconst 1, 1) := by decide +kernel
theorem dX5_isDay_12 : decode cX5_isDay 12 = .ok (.goto 4, 3) := by decide +kernel
theorem dX5_isDay_15 : decode cX5_isDay 15 = .ok (.iconst 0, 1) := by decide +kernel
theorem dX5_isDay_16 : decode cX5_isDay 16 = .ok (.ireturn, 1) := by decide +kernel
theorem dX5_areDays_0 : decode cX5_areDays 0 = .ok (.iload_n 0, 1) := by decide +kernel
theorem dX5_areDays_1 : decode cX5_areDays 1 = .ok (.invokestatic 63, 3) := by decide +kernel
theorem dX5_areDays_4 : decode cX5_areDays 4 = .ok (.ifCond .eq 19, 3) := by decide +kernel
theorem dX5_areDays_7 : decode cX5_areDays 7 = .ok (.iload_n 1, 1) := by decide +kernel
theorem dX5_areDays_8 : decode cX5_areDays 8 = .ok (.invokestatic 63, 3) := by decide +kernel
theorem dX5_areDays_11 : decode cX5_areDays 11 = .ok (.ifCond .eq 12, 3) := by decide +kernel
theorem dX5_areDays_14 : decode cX5_areDays 14 = .ok (.iload_n 0, 1) := by decide +kernel
theorem dX5_areDays_15 : decode cX5_areDays 15 = .ok (.iload_n 1, 1) := by decide +kernel
theorem dX5_areDays_16 : decode cX5_areDays 16 = .ok (.if_icmp .gt 7, 3) := by decide +kernel
theorem dX5_areDays_19 : decode cX5_areDays 19 = .ok (.iconst 1, 1) := by decide +kernel
theorem dX5_areDays_20 : decode cX5_areDays 20 = .ok (.goto 4, 3) := by decide +kernel
theorem dX5_areDays_23 : decode cX5_areDays 23 = .ok (.iconst 0, 1) := by decide +kernel
theorem dX5_areDays_24 : decode cX5_areDays 24 = .ok (.ireturn, 1) := by decide +kernel
theorem dX5_areSummedDays_0 : decode cX5_areSummedDays 0 = .ok (.iload_n 0, 1) := by decide +kernel
theorem dX5_areSummedDays_1 : decode cX5_areSummedDays 1 = .ok (.iload_n 1, 1) := by decide +kernel
theorem dX5_areSummedDays_2 : decode cX5_areSummedDays 2 = .ok (.invokestatic 73, 3) := by decide +kernel
theorem dX5_areSummedDays_5 : decode cX5_areSummedDays 5 = .ok (.ifCond .eq 16, 3) := by decide +kernel
theorem dX5_areSummedDays_8 : decode cX5_areSummedDays 8 = .ok (.iload_n 1, 1) := by decide +kernel
theorem dX5_areSummedDays_9 : decode cX5_areSummedDays 9 = .ok (.iload_n 0, 1) := by decide +kernel
theorem dX5_areSummedDays_10 : decode cX5_areSummedDays 10 = .ok (.isub, 1) := by decide +kernel
theorem dX5_areSummedDays_11 : decode cX5_areSummedDays 11 = .ok (.sipush 200, 3) := by decide +kernel
theorem dX5_areSummedDays_14 : decode cX5_areSummedDays 14 = .ok (.if_icmp .ge 7, 3) := by decide +kernel
theorem dX5_areSummedDays_17 : decode cX5_areSummedDays 17 = .ok (.iconst 1, 1) := by decide +kernel
theorem dX5_areSummedDays_18 : decode cX5_areSummedDays 18 = .ok (.goto 4, 3) := by decide +kernel
theorem dX5_areSummedDays_21 : decode cX5_areSummedDays 21 = .ok (.iconst 0, 1) := by decide +kernel
theorem dX5_areSummedDays_22 : decode cX5_areSummedDays 22 = .ok (.ireturn, 1) := by decide +kernel
theorem dX5_isInterval_0 : decode cX5_isInterval 0 = .ok (.iload_n 0, 1) := by decide +kernel
theorem dX5_isInterval_1 : decode cX5_isInterval 1 = .ok (.iconst 1, 1) := by decide +kernel
theorem dX5_isInterval_2 : decode cX5_isInterval 2 = .ok (.if_icmp .lt 13, 3) := by decide +kernel
theorem dX5_isInterval_5 : decode cX5_isInterval 5 = .ok (.iload_n 0, 1) := by decide +kernel
theorem dX5_isInterval_6 : decode cX5_isInterval 6 = .ok (.bipush 100, 2) := by decide +kernel
theorem dX5_isInterval_8 : decode cX5_isInterval 8 = .ok (.if_icmp .gt 7, 3) := by decide +kernel
theorem dX5_isInterval_11 : decode cX5_isInterval 11 = .ok (.iconst 1, 1) := by decide +kernel
theorem dX5_isInterval_12 : decode cX5_isInterval 12 = .ok (.goto 4, 3) := by decide +kernel
theorem dX5_isInterval_15 : decode cX5_isInterval 15 = .ok (.iconst 0, 1) := by decide +kernel
theorem dX5_isInterval_16 : decode cX5_isInterval 16 = .ok (.ireturn, 1) := by decide +kernel
theorem dX5_hasBit_0 : decode cX5_hasBit 0 = .ok (.iload_n 0, 1) := by decide +kernel
theorem dX5_hasBit_1 : decode cX5_hasBit 1 = .ok (.iload_n 1, 1) := by decide +kernel
theorem dX5_hasBit_2 : decode cX5_hasBit 2 = .ok (.iushr, 1) := by decide +kernel
theorem dX5_hasBit_3 : decode cX5_hasBit 3 = .ok (.iconst 1, 1) := by decide +kernel
theorem dX5_hasBit_4 : decode cX5_hasBit 4 = .ok (.iand, 1) := by decide +kernel
theorem dX5_hasBit_5 : decode cX5_hasBit 5 = .ok (.ifCond .eq 7, 3) := by decide +kernel
theorem dX5_hasBit_8 : decode cX5_hasBit 8 = .ok (.iconst 1, 1) := by decide +kernel
theorem dX5_hasBit_9 : decode cX5_hasBit 9 = .ok (.goto 4, 3) := by decide +kernel
theorem dX5_hasBit_12 : decode cX5_hasBit 12 = .ok (.iconst 0, 1) := by decide +kernel
theorem dX5_hasBit_13 : decode cX5_hasBit 13 = .ok (.ireturn, 1) := by decide +kernel
theorem dX5_packed_0 : decode cX5_packed 0 = .ok (.iconst 0, 1) := by decide +kernel
theorem dX5_packed_1 : decode cX5_packed 1 = .ok (.istore_n 2, 1) := by decide +kernel
theorem dX5_packed_2 : decode cX5_packed 2 = .ok (.iconst 0, 1) := by decide +kernel
theorem dX5_packed_3 : decode cX5_packed 3 = .ok (.istore_n 3, 1) := by decide +kernel
theorem dX5_packed_4 : decode cX5_packed 4 = .ok (.iconst 0, 1) := by decide +kernel
theorem dX5_packed_5 : decode cX5_packed 5 = .ok (.istore 4, 2) := by decide +kernel
theorem dX5_packed_7 : decode cX5_packed 7 = .ok (.iload 4, 2) := by decide +kernel
theorem dX5_packed_9 : decode cX5_packed 9 = .ok (.bipush 12, 2) := by decide +kernel
theorem dX5_packed_11 : decode cX5_packed 11 = .ok (.if_icmp .ge 32, 3) := by decide +kernel
theorem dX5_packed_14 : decode cX5_packed 14 = .ok (.iload_n 1, 1) := by decide +kernel
theorem dX5_packed_15 : decode cX5_packed 15 = .ok (.iload 4, 2) := by decide +kernel
theorem dX5_packed_17 : decode cX5_packed 17 = .ok (.invokestatic 180, 3) := by decide +kernel
theorem dX5_packed_20 : decode cX5_packed 20 = .ok (.ifCond .eq 17, 3) := by decide +kernel
theorem dX5_packed_23 : decode cX5_packed 23 = .ok (.iload_n 2, 1) := by decide +kernel
theorem dX5_packed_24 : decode cX5_packed 24 = .ok (.iload_n 0, 1) := by decide +kernel
theorem dX5_packed_25 : decode cX5_packed 25 = .ok (.iload 4, 2) := by decide +kernel
theorem dX5_packed_27 : decode cX5_packed 27 = .ok (.iushr, 1) := by decide +kernel
theorem dX5_packed_28 : decode cX5_packed 28 = .ok (.iconst 1, 1) := by decide +kernel
theorem dX5_packed_29 : decode cX5_packed 29 = .ok (.iand, 1) := by decide +kernel
theorem dX5_packed_30 : decode cX5_packed 30 = .ok (.iload_n 3, 1) := by decide +kernel
theorem dX5_packed_31 : decode cX5_packed 31 = .ok (.ishl, 1) := by decide +kernel
theorem dX5_packed_32 : decode cX5_packed 32 = .ok (.ior, 1) := by decide +kernel
theorem dX5_packed_33 : decode cX5_packed 33 = .ok (.istore_n 2, 1) := by decide +kernel
theorem dX5_packed_34 : decode cX5_packed 34 = .ok (.iinc 3 1, 3) := by decide +kernel
theorem dX5_packed_37 : decode cX5_packed 37 = .ok (.iinc 4 1, 3) := by decide +kernel
theorem dX5_packed_40 : decode cX5_packed 40 = .ok (.goto (-33), 3) := by decide +kernel
theorem dX5_packed_43 : decode cX5_packed 43 = .ok (.iload_n 2, 1) := by decide +kernel
theorem dX5_packed_44 : decode cX5_packed 44 = .ok (.ireturn, 1) := by decide +kernel
theorem dX5_spread_0 : decode cX5_spread 0 = .ok (.iconst 0, 1) := by decide +kernel
theorem dX5_spread_1 : decode cX5_spread 1 = .ok (.istore_n 2, 1) := by decide +kernel
theorem dX5_spread_2 : decode cX5_spread 2 = .ok (.iconst 0, 1) := by decide +kernel
theorem dX5_spread_3 : decode cX5_spread 3 = .ok (.istore_n 3, 1) := by decide +kernel
theorem dX5_spread_4 : decode cX5_spread 4 = .ok (.iconst 0, 1) := by decide +kernel
theorem dX5_spread_5 : decode cX5_spread 5 = .ok (.istore 4, 2) := by decide +kernel
theorem dX5_spread_7 : decode cX5_spread 7 = .ok (.iload 4, 2) := by decide +kernel
theorem dX5_spread_9 : decode cX5_spread 9 = .ok (.bipush 12, 2) := by decide +kernel
theorem dX5_spread_11 : decode cX5_spread 11 = .ok (.if_icmp .ge 32, 3) := by decide +kernel
theorem dX5_spread_14 : decode cX5_spread 14 = .ok (.iload_n 1, 1) := by decide +kernel
theorem dX5_spread_15 : decode cX5_spread 15 = .ok (.iload 4, 2) := by decide +kernel
theorem dX5_spread_17 : decode cX5_spread 17 = .ok (.invokestatic 180, 3) := by decide +kernel
theorem dX5_spread_20 : decode cX5_spread 20 = .ok (.ifCond .eq 17, 3) := by decide +kernel
theorem dX5_spread_23 : decode cX5_spread 23 = .ok (.iload_n 2, 1) := by decide +kernel
theorem dX5_spread_24 : decode cX5_spread 24 = .ok (.iload_n 0, 1) := by decide +kernel
theorem dX5_spread_25 : decode cX5_spread 25 = .ok (.iload_n 3, 1) := by decide +kernel
theorem dX5_spread_26 : decode cX5_spread 26 = .ok (.iushr, 1) := by decide +kernel
theorem dX5_spread_27 : decode cX5_spread 27 = .ok (.iconst 1, 1) := by decide +kernel
theorem dX5_spread_28 : decode cX5_spread 28 = .ok (.iand, 1) := by decide +kernel
theorem dX5_spread_29 : decode cX5_spread 29 = .ok (.iload 4, 2) := by decide +kernel
theorem dX5_spread_31 : decode cX5_spread 31 = .ok (.ishl, 1) := by decide +kernel
theorem dX5_spread_32 : decode cX5_spread 32 = .ok (.ior, 1) := by decide +kernel
theorem dX5_spread_33 : decode cX5_spread 33 = .ok (.istore_n 2, 1) := by decide +kernel
theorem dX5_spread_34 : decode cX5_spread 34 = .ok (.iinc 3 1, 3) := by decide +kernel
theorem dX5_spread_37 : decode cX5_spread 37 = .ok (.iinc 4 1, 3) := by decide +kernel
theorem dX5_spread_40 : decode cX5_spread 40 = .ok (.goto (-33), 3) := by decide +kernel
theorem dX5_spread_43 : decode cX5_spread 43 = .ok (.iload_n 2, 1) := by decide +kernel
theorem dX5_spread_44 : decode cX5_spread 44 = .ok (.ireturn, 1) := by decide +kernel
theorem dX6_init_0 : decode cX6_init 0 = .ok (.aload_n 0, 1) := by decide +kernel
theorem dX6_init_1 : decode cX6_init 1 = .ok (.invokespecial 1, 3) := by decide +kernel
theorem dX6_init_4 : decode cX6_init 4 = .ok (.aload_n 0, 1) := by decide +kernel
theorem dX6_init_5 : decode cX6_init 5 = .ok (.bipush 12, 2) := by decide +kernel
theorem dX6_init_7 : decode cX6_init 7 = .ok (.newarray .int, 2) := by decide +kernel
theorem dX6_init_9 : decode cX6_init 9 = .ok (.putfield 7, 3) := by decide +kernel
theorem dX6_init_12 : decode cX6_init 12 = .ok (.aload_n 0, 1) := by decide +kernel
theorem dX6_init_13 : decode cX6_init 13 = .ok (.bipush 12, 2) := by decide +kernel
theorem dX6_init_15 : decode cX6_init 15 = .ok (.newarray .int, 2) := by decide +kernel
theorem dX6_init_17 : decode cX6_init 17 = .ok (.putfield 13, 3) := by decide +kernel
theorem dX6_init_20 : decode cX6_init 20 = .ok (.aload_n 0, 1) := by decide +kernel
theorem dX6_init_21 : decode cX6_init 21 = .ok (.bipush 12, 2) := by decide +kernel
theorem dX6_init_23 : decode cX6_init 23 = .ok (.newarray .int, 2) := by decide +kernel
theorem dX6_init_25 : decode cX6_init 25 = .ok (.putfield 16, 3) := by decide +kernel
theorem dX6_init_28 : decode cX6_init 28 = .ok (.aload_n 0, 1) := by decide +kernel
theorem dX6_init_29 : decode cX6_init 29 = .ok (.bipush 12, 2) := by decide +kernel
theorem dX6_init_31 : decode cX6_init 31 = .ok (.newarray .int, 2) := by decide +kernel
theorem dX6_init_33 : decode cX6_init 33 = .ok (.putfield 19, 3) := by decide +kernel
theorem dX6_init_36 : decode cX6_init 36 = .ok (.aload_n 0, 1) := by decide +kernel
theorem dX6_init_37 : decode cX6_init 37 = .ok (.bipush 12, 2) := by decide +kernel
theorem dX6_init_39 : decode cX6_init 39 = .ok (.newarray .int, 2) := by decide +kernel
theorem dX6_init_41 : decode cX6_init 41 = .ok (.putfield 22, 3) := by decide +kernel
theorem dX6_init_44 : decode cX6_init 44 = .ok (.aload_n 0, 1) := by decide +kernel
theorem dX6_init_45 : decode cX6_init 45 = .ok (.sipush 144, 3) := by decide +kernel
theorem dX6_init_48 : decode cX6_init 48 = .ok (.newarray .int, 2) := by decide +kernel
theorem dX6_init_50 : decode cX6_init 50 = .ok (.putfield 25, 3) := by decide +kernel
theorem dX6_init_53 : decode cX6_init 53 = .ok (.aload_n 0, 1) := by decide +kernel
theorem dX6_init_54 : decode cX6_init 54 = .ok (.bipush 12, 2) := by decide +kernel
theorem dX6_init_56 : decode cX6_init 56 = .ok (.newarray .int, 2) := by decide +kernel
theorem dX6_init_58 : decode cX6_init 58 = .ok (.putfield 28, 3) := by decide +kernel
theorem dX6_init_61 : decode cX6_init 61 = .ok (.aload_n 0, 1) := by decide +kernel
theorem dX6_init_62 : decode cX6_init 62 = .ok (.bipush 12, 2) := by decide +kernel
theorem dX6_init_64 : decode cX6_init 64 = .ok (.newarray .int, 2) := by decide +kernel
theorem dX6_init_66 : decode cX6_init 66 = .ok (.putfield 31, 3) := by decide +kernel
theorem dX6_init_69 : decode cX6_init 69 = .ok (.aload_n 0, 1) := by decide +kernel
theorem dX6_init_70 : decode cX6_init 70 = .ok (.bipush 20, 2) := by decide +kernel
theorem dX6_init_72 : decode cX6_init 72 = .ok (.newarray .int, 2) := by decide +kernel
theorem dX6_init_74 : decode cX6_init 74 = .ok (.putfield 34, 3) := by decide +kernel
theorem dX6_init_77 : decode cX6_init 77 = .ok (.aload_n 0, 1) := by decide +kernel
theorem dX6_init_78 : decode cX6_init 78 = .ok (.bipush 20, 2) := by decide +kernel
theorem dX6_init_80 : decode cX6_init 80 = .ok (.newarray .int, 2) := by decide +kernel
theorem dX6_init_82 : decode cX6_init 82 = .ok (.putfield 37, 3) := by decide +kernel
theorem dX6_init_85 : decode cX6_init 85 = .ok (.aload_n 0, 1) := by decide +kernel
theorem dX6_init_86 : decode cX6_init 86 = .ok (.bipush 20, 2) := by decide +kernel
theorem dX6_init_88 : decode cX6_init 88 = .ok (.newarray .int, 2) := by decide +kernel
theorem dX6_init_90 : decode cX6_init 90 = .ok (.putfield 40, 3) := by decide +kernel
theorem dX6_init_93 : decode cX6_init 93 = .ok (.aload_n 0, 1) := by decide +kernel
theorem dX6_init_94 : decode cX6_init 94 = .ok (.iconst 4, 1) := by decide +kernel
theorem dX6_init_95 : decode cX6_init 95 = .ok (.newarray .int, 2) := by decide +kernel
theorem dX6_init_97 : decode cX6_init 97 = .ok (.putfield 43, 3) := by decide +kernel
theorem dX6_init_100 : decode cX6_init 100 = .ok (.aload_n 0, 1) := by decide +kernel
theorem dX6_init_101 : decode cX6_init 101 = .ok (.iconst 4, 1) := by decide +kernel
theorem dX6_init_102 : decode cX6_init 102 = .ok (.newarray .int, 2) := by decide +kernel
theorem dX6_init_104 : decode cX6_init 104 = .ok (.putfield 46, 3) := by decide +kernel
theorem dX6_init_107 : decode cX6_init 107 = .ok (.aload_n 0, 1) := by decide +kernel
theorem dX6_init_108 : decode cX6_init 108 = .ok (.bipush 12, 2) := by decide +kernel
theorem dX6_init_110 : decode cX6_init 110 = .ok (.newarray .int, 2) := by decide +kernel
theorem dX6_init_112 : decode cX6_init 112 = .ok (.putfield 49, 3) := by decide +kernel
theorem dX6_init_115 : decode cX6_init 115 = .ok (.aload_n 0, 1) := by decide +kernel
theorem dX6_init_116 : decode cX6_init 116 = .ok (.bipush 12, 2) := by decide +kernel
theorem dX6_init_118 : decode cX6_init 118 = .ok (.newarray .int, 2) := by decide +kernel
theorem dX6_init_120 : decode cX6_init 120 = .ok (.putfield 52, 3) := by decide +kernel
theorem dX6_init_123 : decode cX6_init 123 = .ok (.aload_n 0, 1) := by decide +kernel
theorem dX6_init_124 : decode cX6_init 124 = .ok (.bipush 48, 2) := by decide +kernel
theorem dX6_init_126 : decode cX6_init 126 = .ok (.newarray .int, 2) := by decide +kernel
theorem dX6_init_128 : decode cX6_init 128 = .ok (.putfield 55, 3) := by decide +kernel
theorem dX6_init_131 : decode cX6_init 131 = .ok (.aload_n 0, 1) := by decide +kernel
theorem dX6_init_132 : decode cX6_init 132 = .ok (.bipush 12, 2) := by decide +kernel
theorem dX6_init_134 : decode cX6_init 134 = .ok (.newarray .int, 2) := by decide +kernel
theorem dX6_init_136 : decode cX6_init 136 = .ok (.putfield 58, 3) := by decide +kernel
theorem dX6_init_139 : decode cX6_init 139 = .ok (.aload_n 0, 1) := by decide +kernel
theorem dX6_init_140 : decode cX6_init 140 = .ok (.bipush 12, 2) := by decide +kernel
theorem dX6_init_142 : decode cX6_init 142 = .ok (.newarray .boolean, 2) := by decide +kernel
theorem dX6_init_144 : decode cX6_init 144 = .ok (.putfield 61, 3) := by decide +kernel
theorem dX6_init_147 : decode cX6_init 147 = .ok (.aload_n 0, 1) := by decide +kernel
theorem dX6_init_148 : decode cX6_init 148 = .ok (.bipush 24, 2) := by decide +kernel
theorem dX6_init_150 : decode cX6_init 150 = .ok (.newarray .int, 2) := by decide +kernel
theorem dX6_init_152 : decode cX6_init 152 = .ok (.putfield 65, 3) := by decide +kernel
theorem dX6_init_155 : decode cX6_init 155 = .ok (.aload_n 0, 1) := by decide +kernel
theorem dX6_init_156 : decode cX6_init 156 = .ok (.bipush 24, 2) := by decide +kernel
theorem dX6_init_158 : decode cX6_init 158 = .ok (.newarray .int, 2) := by decide +kernel
theorem dX6_init_160 : decode cX6_init 160 = .ok (.putfield 68, 3) := by decide +kernel
theorem dX6_init_163 : decode cX6_init 163 = .ok (.aload_n 0, 1) := by decide +kernel
theorem dX6_init_164 : decode cX6_init 164 = .ok (.iconst 3, 1) := by decide +kernel
theorem dX6_init_165 : decode cX6_init 165 = .ok (.newarray .int, 2) := by decide +kernel
theorem dX6_init_167 : decode cX6_init 167 = .ok (.putfield 71, 3) := by decide +kernel
theorem dX6_init_170 : decode cX6_init 170 = .ok (.iconst 0, 1) := by decide +kernel
theorem dX6_init_171 : decode cX6_init 171 = .ok (.istore_n 1, 1) := by decide +kernel
theorem dX6_init_172 : decode cX6_init 172 = .ok (.iload_n 1, 1) := by decide +kernel
theorem dX6_init_173 : decode cX6_init 173 = .ok (.bipush 12, 2) := by decide +kernel
theorem dX6_init_175 : decode cX6_init 175 = .ok (.if_icmp .ge 23, 3) := by decide +kernel
theorem dX6_init_178 : decode cX6_init 178 = .ok (.aload_n 0, 1) := by decide +kernel
theorem dX6_init_179 : decode cX6_init 179 = .ok (.getfield 19, 3) := by decide +kernel
theorem dX6_init_182 : decode cX6_init 182 = .ok (.iload_n 1, 1) := by decide +kernel
theorem dX6_init_183 : decode cX6_init 183 = .ok (.iconst 1, 1) := by decide +kernel
theorem dX6_init_184 : decode cX6_init 184 = .ok (.iastore, 1) := by decide +kernel
theorem dX6_init_185 : decode cX6_init 185 = .ok (.aload_n 0, 1) := by decide +kernel
theorem dX6_init_186 : decode cX6_init 186 = .ok (.getfield 31, 3) := by decide +kernel
theorem dX6_init_189 : decode cX6_init 189 = .ok (.iload_n 1, 1) := by decide +kernel
theorem dX6_init_190 : decode cX6_init 190 = .ok (.iconst (-1), 1) := by decide +kernel
theorem dX6_init_191 : decode cX6_init 191 = .ok (.iastore, 1) := by decide +kernel
theorem dX6_init_192 : decode cX6_init 192 = .ok (.iinc 1 1, 3) := by decide +kernel
theorem dX6_init_195 : decode cX6_init 195 = .ok (.goto (-23), 3) := by decide +kernel
theorem dX6_init_198 : decode cX6_init 198 = .ok (.return_, 1) := by decide +kernel
theorem dX6_in_0 : decode cX6_in 0 = .ok (.lload_n 0, 1) := by decide +kernel
theorem dX6_in_1 : decode cX6_in 1 = .ok (.lload_n 2, 1) := by decide +kernel
theorem dX6_in_2 : decode cX6_in 2 = .ok (.lcmp, 1) := by decide +kernel
theorem dX6_in_3 : decode cX6_in 3 = .ok (.ifCond .lt 14, 3) := by decide +kernel
theorem dX6_in_6 : decode cX6_in 6 = .ok (.lload_n 0, 1) := by decide +kernel
theorem dX6_in_7 : decode cX6_in 7 = .ok (.lload 4, 2) := by decide +kernel
theorem dX6_in_9 : decode cX6_in 9 = .ok (.lcmp, 1) := by decide +kernel
theorem dX6_in_10 : decode cX6_in 10 = .ok (.ifCond .gt 7, 3) := by decide +kernel
theorem dX6_in_13 : decode cX6_in 13 = .ok (.iconst 1, 1) := by decide +kernel
theorem dX6_in_14 : decode cX6_in 14 = .ok (.goto 4, 3) := by decide +kernel
theorem dX6_in_17 : decode cX6_in 17 = .ok (.iconst 0, 1) := by decide +kernel
theorem dX6_in_18 : decode cX6_in 18 = .ok (.ireturn, 1) := by decide +kernel
theorem dX6_isPart_0 : decode cX6_isPart 0 = .ok (.iload_n 1, 1) := by decide +kernel
theorem dX6_isPart_1 : decode cX6_isPart 1 = .ok (.i2l, 1) := by decide +kernel
theorem dX6_isPart_2 : decode cX6_isPart 2 = .ok (.lconst 0, 1) := by decide +kernel
theorem dX6_isPart_3 : decode cX6_isPart 3 = .ok (.aload_n 0, 1) := by decide +kernel
theorem dX6_isPart_4 : decode cX6_isPart 4 = .ok (.getfield 74, 3) := by decide +kernel
theorem dX6_isPart_7 : decode cX6_isPart 7 = .ok (.iconst 1, 1) := by decide +kernel
theorem dX6_isPart_8 : decode cX6_isPart 8 = .ok (.isub, 1) := by decide +kernel
theorem dX6_isPart_9 : decode cX6_isPart 9 = .ok (.i2l, 1) := by decide +kernel
theorem dX6_isPart_10 : decode cX6_isPart 10 = .ok (.invokestatic 78, 3) := by decide +kernel
theorem dX6_isPart_13 : decode cX6_isPart 13 = .ok (.ireturn, 1) := by decide +kernel
theorem dX6_isVote_0 : decode cX6_isVote 0 = .ok (.iload_n 1, 1) := by decide +kernel
theorem dX6_isVote_1 : decode cX6_isVote 1 = .ok (.i2l, 1) := by decide +kernel
theorem dX6_isVote_2 : decode cX6_isVote 2 = .ok (.lconst 0, 1) := by decide +kernel
theorem dX6_isVote_3 : decode cX6_isVote 3 = .ok (.aload_n 0, 1) := by decide +kernel
theorem dX6_isVote_4 : decode cX6_isVote 4 = .ok (.getfield 82, 3) := by decide +kernel
theorem dX6_isVote_7 : decode cX6_isVote 7 = .ok (.iconst 1, 1) := by decide +kernel
theorem dX6_isVote_8 : decode cX6_isVote 8 = .ok (.isub, 1) := by decide +kernel
theorem dX6_isVote_9 : decode cX6_isVote 9 = .ok (.i2l, 1) := by decide +kernel
theorem dX6_isVote_10 : decode cX6_isVote 10 = .ok (.invokestatic 78, 3) := by decide +kernel
theorem dX6_isVote_13 : decode cX6_isVote 13 = .ok (.ireturn, 1) := by decide +kernel
theorem dX6_isDay_0 : decode cX6_isDay 0 = .ok (.iload_n 0, 1) := by decide +kernel
theorem dX6_isDay_1 : decode cX6_isDay 1 = .ok (.i2l, 1) := by decide +kernel
theorem dX6_isDay_2 : decode cX6_isDay 2 = .ok (.lconst 0, 1) := by decide +kernel
theorem dX6_isDay_3 : decode cX6_isDay 3 = .ok (.ldc2_w 85, 3) := by decide +kernel
theorem dX6_isDay_6 : decode cX6_isDay 6 = .ok (.invokestatic 78, 3) := by decide +kernel
theorem dX6_isDay_9 : decode cX6_isDay 9 = .ok (.ireturn, 1) := by decide +kernel
theorem dX6_part_0 : decode cX6_part 0 = .ok (.iload_n 1, 1) := by decide +kernel
theorem dX6_part_1 : decode cX6_part 1 = .ok (.i2l, 1) := by decide +kernel
theorem dX6_part_2 : decode cX6_part 2 = .ok (.lconst 0, 1) := by decide +kernel
theorem dX6_part_3 : decode cX6_part 3 = .ok (.ldc2_w 87, 3) := by decide +kernel
theorem dX6_part_6 : decode cX6_part 6 = .ok (.invokestatic 78, 3) := by decide +kernel
theorem dX6_part_9 : decode cX6_part 9 = .ok (.ifCond .eq 27, 3) := by decide +kernel
theorem dX6_part_12 : decode cX6_part 12 = .ok (.iload_n 2, 1) := by decide +kernel
theorem dX6_part_13 : decode cX6_part 13 = .ok (.i2l, 1) := by decide +kernel
theorem dX6_part_14 : decode cX6_part 14 = .ok (.lconst 0, 1) := by decide +kernel
theorem dX6_part_15 : decode cX6_part 15 = .ok (.ldc2_w 87, 3) := by decide +kernel
theorem dX6_part_18 : decode cX6_part 18 = .ok (.invokestatic 78, 3) := by decide +kernel
theorem dX6_part_21 : decode cX6_part 21 = .ok (.ifCond .eq 15, 3) := by decide +kernel
theorem dX6_part_24 : decode cX6_part 24 = .ok (.iload_n 3, 1) := by decide +kernel
theorem dX6_part_25 : decode cX6_part 25 = .ok (.i2l, 1) := by decide +kernel
theorem dX6_part_26 : decode cX6_part 26 = .ok (.lconst 0, 1) := by decide +kernel
theorem dX6_part_27 : decode cX6_part 27 = .ok (.ldc2_w 87, 3) := by decide +kernel
theorem dX6_part_30 : decode cX6_part 30 = .ok (.invokestatic 78, 3) := by decide +kernel
theorem dX6_part_33 : decode cX6_part 33 = .ok (.ifCond .ne 5, 3) := by decide +kernel
theorem dX6_part_36 : decode cX6_part 36 = .ok (.iconst (-1), 1) := by decide +kernel
theorem dX6_part_37 : decode cX6_part 37 = .ok (.ireturn, 1) := by decide +kernel
theorem dX6_part_38 : decode cX6_part 38 = .ok (.aload_n 0, 1) := by decide +kernel
theorem dX6_part_39 : decode cX6_part 39 = .ok (.getfield 74, 3) := by decide +kernel
