theorem dX2_dropTests_26 : decode cX2_dropTests 26 = .ok (.iload 4, 2) := by decide +kernel
theorem dX2_dropTests_28 : decode cX2_dropTests 28 = .ok (.ireturn, 1) := by decide +kernel
theorem dX2_allTests_0 : decode cX2_allTests 0 = .ok (.iconst 0, 1) := by decide +kernel
theorem dX2_allTests_1 : decode cX2_allTests 1 = .ok (.istore_n 1, 1) := by decide +kernel
theorem dX2_allTests_2 : decode cX2_allTests 2 = .ok (.iconst 0, 1) := by decide +kernel
theorem dX2_allTests_3 : decode cX2_allTests 3 = .ok (.istore_n 2, 1) := by decide +kernel
theorem dX2_allTests_4 : decode cX2_allTests 4 = .ok (.iload_n 2, 1) := by decide +kernel
theorem dX2_allTests_5 : decode cX2_allTests 5 = .ok (.aload_n 0, 1) := by decide +kernel
theorem dX2_allTests_6 : decode cX2_allTests 6 = .ok (.getfield 38, 3) := by decide +kernel
theorem dX2_allTests_9 : decode cX2_allTests 9 = .ok (.if_icmp .ge 18, 3) := by decide +kernel
theorem dX2_allTests_12 : decode cX2_allTests 12 = .ok (.iload_n 1, 1) := by decide +kernel
theorem dX2_allTests_13 : decode cX2_allTests 13 = .ok (.aload_n 0, 1) := by decide +kernel
theorem dX2_allTests_14 : decode cX2_allTests 14 = .ok (.getfield 24, 3) := by decide +kernel
theorem dX2_allTests_17 : decode cX2_allTests 17 = .ok (.iload_n 2, 1) := by decide +kernel
theorem dX2_allTests_18 : decode cX2_allTests 18 = .ok (.iaload, 1) := by decide +kernel
theorem dX2_allTests_19 : decode cX2_allTests 19 = .ok (.iadd, 1) := by decide +kernel
theorem dX2_allTests_20 : decode cX2_allTests 20 = .ok (.istore_n 1, 1) := by decide +kernel
theorem dX2_allTests_21 : decode cX2_allTests 21 = .ok (.iinc 2 1, 3) := by decide +kernel
theorem dX2_allTests_24 : decode cX2_allTests 24 = .ok (.goto (-20), 3) := by decide +kernel
theorem dX2_allTests_27 : decode cX2_allTests 27 = .ok (.iload_n 1, 1) := by decide +kernel
theorem dX2_allTests_28 : decode cX2_allTests 28 = .ok (.ireturn, 1) := by decide +kernel
theorem dX2_allBypasses_0 : decode cX2_allBypasses 0 = .ok (.aload_n 0, 1) := by decide +kernel
theorem dX2_allBypasses_1 : decode cX2_allBypasses 1 = .ok (.getfield 34, 3) := by decide +kernel
theorem dX2_allBypasses_4 : decode cX2_allBypasses 4 = .ok (.ireturn, 1) := by decide +kernel
theorem dX2_addBypass_0 : decode cX2_addBypass 0 = .ok (.aload_n 0, 1) := by decide +kernel
theorem dX2_addBypass_1 : decode cX2_addBypass 1 = .ok (.getfield 34, 3) := by decide +kernel
theorem dX2_addBypass_4 : decode cX2_addBypass 4 = .ok (.bipush 20, 2) := by decide +kernel
theorem dX2_addBypass_6 : decode cX2_addBypass 6 = .ok (.if_icmp .lt 6, 3) := by decide +kernel
theorem dX2_addBypass_9 : decode cX2_addBypass 9 = .ok (.bipush (-3), 2) := by decide +kernel
theorem dX2_addBypass_11 : decode cX2_addBypass 11 = .ok (.ireturn, 1) := by decide +kernel
theorem dX2_addBypass_12 : decode cX2_addBypass 12 = .ok (.iconst 0, 1) := by decide +kernel
theorem dX2_addBypass_13 : decode cX2_addBypass 13 = .ok (.istore 4, 2) := by decide +kernel
theorem dX2_addBypass_15 : decode cX2_addBypass 15 = .ok (.iload 4, 2) := by decide +kernel
theorem dX2_addBypass_17 : decode cX2_addBypass 17 = .ok (.bipush 16, 2) := by decide +kernel
theorem dX2_addBypass_19 : decode cX2_addBypass 19 = .ok (.if_icmp .ge 31, 3) := by decide +kernel
theorem dX2_addBypass_22 : decode cX2_addBypass 22 = .ok (.aload_n 0, 1) := by decide +kernel
theorem dX2_addBypass_23 : decode cX2_addBypass 23 = .ok (.getfield 30, 3) := by decide +kernel
theorem dX2_addBypass_26 : decode cX2_addBypass 26 = .ok (.iload_n 1, 1) := by decide +kernel
theorem dX2_addBypass_27 : decode cX2_addBypass 27 = .ok (.bipush 16, 2) := by decide +kernel
theorem dX2_addBypass_29 : decode cX2_addBypass 29 = .ok (.imul, 1) := by decide +kernel
theorem dX2_addBypass_30 : decode cX2_addBypass 30 = .ok (.iload 4, 2) := by decide +kernel
theorem dX2_addBypass_32 : decode cX2_addBypass 32 = .ok (.iadd, 1) := by decide +kernel
theorem dX2_addBypass_33 : decode cX2_addBypass 33 = .ok (.dup2, 1) := by decide +kernel
theorem dX2_addBypass_34 : decode cX2_addBypass 34 = .ok (.laload, 1) := by decide +kernel
theorem dX2_addBypass_35 : decode cX2_addBypass 35 = .ok (.iload 4, 2) := by decide +kernel
theorem dX2_addBypass_37 : decode cX2_addBypass 37 = .ok (.iload_n 2, 1) := by decide +kernel
theorem dX2_addBypass_38 : decode cX2_addBypass 38 = .ok (.iload_n 3, 1) := by decide +kernel
theorem dX2_addBypass_39 : decode cX2_addBypass 39 = .ok (.invokestatic 45, 3) := by decide +kernel
theorem dX2_addBypass_42 : decode cX2_addBypass 42 = .ok (.lor, 1) := by decide +kernel
theorem dX2_addBypass_43 : decode cX2_addBypass 43 = .ok (.lastore, 1) := by decide +kernel
theorem dX2_addBypass_44 : decode cX2_addBypass 44 = .ok (.iinc 4 1, 3) := by decide +kernel
theorem dX2_addBypass_47 : decode cX2_addBypass 47 = .ok (.goto (-32), 3) := by decide +kernel
theorem dX2_addBypass_50 : decode cX2_addBypass 50 = .ok (.aload_n 0, 1) := by decide +kernel
theorem dX2_addBypass_51 : decode cX2_addBypass 51 = .ok (.dup, 1) := by decide +kernel
theorem dX2_addBypass_52 : decode cX2_addBypass 52 = .ok (.getfield 34, 3) := by decide +kernel
theorem dX2_addBypass_55 : decode cX2_addBypass 55 = .ok (.iconst 1, 1) := by decide +kernel
theorem dX2_addBypass_56 : decode cX2_addBypass 56 = .ok (.iadd, 1) := by decide +kernel
theorem dX2_addBypass_57 : decode cX2_addBypass 57 = .ok (.putfield 34, 3) := by decide +kernel
theorem dX2_addBypass_60 : decode cX2_addBypass 60 = .ok (.aload_n 0, 1) := by decide +kernel
theorem dX2_addBypass_61 : decode cX2_addBypass 61 = .ok (.getfield 34, 3) := by decide +kernel
theorem dX2_addBypass_64 : decode cX2_addBypass 64 = .ok (.ireturn, 1) := by decide +kernel
theorem dX2_bypassedDays_0 : decode cX2_bypassedDays 0 = .ok (.iconst 0, 1) := by decide +kernel
theorem dX2_bypassedDays_1 : decode cX2_bypassedDays 1 = .ok (.istore 4, 2) := by decide +kernel
theorem dX2_bypassedDays_3 : decode cX2_bypassedDays 3 = .ok (.iconst 0, 1) := by decide +kernel
theorem dX2_bypassedDays_4 : decode cX2_bypassedDays 4 = .ok (.istore 5, 2) := by decide +kernel
theorem dX2_bypassedDays_6 : decode cX2_bypassedDays 6 = .ok (.iload 5, 2) := by decide +kernel
theorem dX2_bypassedDays_8 : decode cX2_bypassedDays 8 = .ok (.bipush 16, 2) := by decide +kernel
theorem dX2_bypassedDays_10 : decode cX2_bypassedDays 10 = .ok (.if_icmp .ge 37, 3) := by decide +kernel
theorem dX2_bypassedDays_13 : decode cX2_bypassedDays 13 = .ok (.iload 4, 2) := by decide +kernel
theorem dX2_bypassedDays_15 : decode cX2_bypassedDays 15 = .ok (.aload_n 0, 1) := by decide +kernel
theorem dX2_bypassedDays_16 : decode cX2_bypassedDays 16 = .ok (.getfield 30, 3) := by decide +kernel
theorem dX2_bypassedDays_19 : decode cX2_bypassedDays 19 = .ok (.iload_n 1, 1) := by decide +kernel
theorem dX2_bypassedDays_20 : decode cX2_bypassedDays 20 = .ok (.bipush 16, 2) := by decide +kernel
theorem dX2_bypassedDays_22 : decode cX2_bypassedDays 22 = .ok (.imul, 1) := by decide +kernel
theorem dX2_bypassedDays_23 : decode cX2_bypassedDays 23 = .ok (.iload 5, 2) := by decide +kernel
theorem dX2_bypassedDays_25 : decode cX2_bypassedDays 25 = .ok (.iadd, 1) := by decide +kernel
theorem dX2_bypassedDays_26 : decode cX2_bypassedDays 26 = .ok (.laload, 1) := by decide +kernel
theorem dX2_bypassedDays_27 : decode cX2_bypassedDays 27 = .ok (.iload 5, 2) := by decide +kernel
theorem dX2_bypassedDays_29 : decode cX2_bypassedDays 29 = .ok (.iload_n 2, 1) := by decide +kernel
theorem dX2_bypassedDays_30 : decode cX2_bypassedDays 30 = .ok (.iload_n 3, 1) := by decide +kernel
theorem dX2_bypassedDays_31 : decode cX2_bypassedDays 31 = .ok (.invokestatic 45, 3) := by decide +kernel
theorem dX2_bypassedDays_34 : decode cX2_bypassedDays 34 = .ok (.land, 1) := by decide +kernel
theorem dX2_bypassedDays_35 : decode cX2_bypassedDays 35 = .ok (.invokestatic 49, 3) := by decide +kernel
theorem dX2_bypassedDays_38 : decode cX2_bypassedDays 38 = .ok (.iadd, 1) := by decide +kernel
theorem dX2_bypassedDays_39 : decode cX2_bypassedDays 39 = .ok (.istore 4, 2) := by decide +kernel
theorem dX2_bypassedDays_41 : decode cX2_bypassedDays 41 = .ok (.iinc 5 1, 3) := by decide +kernel
theorem dX2_bypassedDays_44 : decode cX2_bypassedDays 44 = .ok (.goto (-38), 3) := by decide +kernel
theorem dX2_bypassedDays_47 : decode cX2_bypassedDays 47 = .ok (.iload 4, 2) := by decide +kernel
theorem dX2_bypassedDays_49 : decode cX2_bypassedDays 49 = .ok (.ireturn, 1) := by decide +kernel
theorem dX2_changeCost_0 : decode cX2_changeCost 0 = .ok (.aload_n 0, 1) := by decide +kernel
theorem dX2_changeCost_1 : decode cX2_changeCost 1 = .ok (.getfield 21, 3) := by decide +kernel
theorem dX2_changeCost_4 : decode cX2_changeCost 4 = .ok (.iload_n 1, 1) := by decide +kernel
theorem dX2_changeCost_5 : decode cX2_changeCost 5 = .ok (.iaload, 1) := by decide +kernel
theorem dX2_changeCost_6 : decode cX2_changeCost 6 = .ok (.istore_n 3, 1) := by decide +kernel
theorem dX2_changeCost_7 : decode cX2_changeCost 7 = .ok (.aload_n 0, 1) := by decide +kernel
theorem dX2_changeCost_8 : decode cX2_changeCost 8 = .ok (.getfield 21, 3) := by decide +kernel
theorem dX2_changeCost_11 : decode cX2_changeCost 11 = .ok (.iload_n 1, 1) := by decide +kernel
theorem dX2_changeCost_12 : decode cX2_changeCost 12 = .ok (.iload_n 2, 1) := by decide +kernel
theorem dX2_changeCost_13 : decode cX2_changeCost 13 = .ok (.iastore, 1) := by decide +kernel
theorem dX2_changeCost_14 : decode cX2_changeCost 14 = .ok (.iload_n 3, 1) := by decide +kernel
theorem dX2_changeCost_15 : decode cX2_changeCost 15 = .ok (.ireturn, 1) := by decide +kernel
theorem dX2_costOf_0 : decode cX2_costOf 0 = .ok (.aload_n 0, 1) := by decide +kernel
theorem dX2_costOf_1 : decode cX2_costOf 1 = .ok (.getfield 21, 3) := by decide +kernel
theorem dX2_costOf_4 : decode cX2_costOf 4 = .ok (.iload_n 1, 1) := by decide +kernel
theorem dX2_costOf_5 : decode cX2_costOf 5 = .ok (.iaload, 1) := by decide +kernel
theorem dX2_costOf_6 : decode cX2_costOf 6 = .ok (.ireturn, 1) := by decide +kernel
theorem dX2_shareForNothing_0 : decode cX2_shareForNothing 0 = .ok (.aload_n 0, 1) := by decide +kernel
theorem dX2_shareForNothing_1 : decode cX2_shareForNothing 1 = .ok (.getfield 18, 3) := by decide +kernel
theorem dX2_shareForNothing_4 : decode cX2_shareForNothing 4 = .ok (.iload_n 1, 1) := by decide +kernel
theorem dX2_shareForNothing_5 : decode cX2_shareForNothing 5 = .ok (.iaload, 1) := by decide +kernel
theorem dX2_shareForNothing_6 : decode cX2_shareForNothing 6 = .ok (.ireturn, 1) := by decide +kernel
theorem dX2_shareOn_0 : decode cX2_shareOn 0 = .ok (.aload_n 0, 1) := by decide +kernel
theorem dX2_shareOn_1 : decode cX2_shareOn 1 = .ok (.iload_n 1, 1) := by decide +kernel
theorem dX2_shareOn_2 : decode cX2_shareOn 2 = .ok (.iload_n 2, 1) := by decide +kernel
theorem dX2_shareOn_3 : decode cX2_shareOn 3 = .ok (.invokevirtual 41, 3) := by decide +kernel
theorem dX2_shareOn_6 : decode cX2_shareOn 6 = .ok (.istore_n 3, 1) := by decide +kernel
theorem dX2_shareOn_7 : decode cX2_shareOn 7 = .ok (.iload_n 3, 1) := by decide +kernel
theorem dX2_shareOn_8 : decode cX2_shareOn 8 = .ok (.ifCond .ne 7, 3) := by decide +kernel
theorem dX2_shareOn_11 : decode cX2_shareOn 11 = .ok (.iconst 0, 1) := by decide +kernel
theorem dX2_shareOn_12 : decode cX2_shareOn 12 = .ok (.goto 16, 3) := by decide +kernel
theorem dX2_shareOn_15 : decode cX2_shareOn 15 = .ok (.aload_n 0, 1) := by decide +kernel
theorem dX2_shareOn_16 : decode cX2_shareOn 16 = .ok (.getfield 27, 3) := by decide +kernel
theorem dX2_shareOn_19 : decode cX2_shareOn 19 = .ok (.iload_n 1, 1) := by decide +kernel
theorem dX2_shareOn_20 : decode cX2_shareOn 20 = .ok (.bipush 12, 2) := by decide +kernel
theorem dX2_shareOn_22 : decode cX2_shareOn 22 = .ok (.imul, 1) := by decide +kernel
theorem dX2_shareOn_23 : decode cX2_shareOn 23 = .ok (.iload_n 3, 1) := by decide +kernel
theorem dX2_shareOn_24 : decode cX2_shareOn 24 = .ok (.iadd, 1) := by decide +kernel
theorem dX2_shareOn_25 : decode cX2_shareOn 25 = .ok (.iconst 1, 1) := by decide +kernel
theorem dX2_shareOn_26 : decode cX2_shareOn 26 = .ok (.isub, 1) := by decide +kernel
theorem dX2_shareOn_27 : decode cX2_shareOn 27 = .ok (.iaload, 1) := by decide +kernel
theorem dX2_shareOn_28 : decode cX2_shareOn 28 = .ok (.istore 4, 2) := by decide +kernel
theorem dX2_shareOn_30 : decode cX2_shareOn 30 = .ok (.aload_n 0, 1) := by decide +kernel
theorem dX2_shareOn_31 : decode cX2_shareOn 31 = .ok (.iload_n 1, 1) := by decide +kernel
theorem dX2_shareOn_32 : decode cX2_shareOn 32 = .ok (.iload_n 2, 1) := by decide +kernel
theorem dX2_shareOn_33 : decode cX2_shareOn 33 = .ok (.iload_n 2, 1) := by decide +kernel
theorem dX2_shareOn_34 : decode cX2_shareOn 34 = .ok (.iload 4, 2) := by decide +kernel
theorem dX2_shareOn_36 : decode cX2_shareOn 36 = .ok (.isub, 1) := by decide +kernel
theorem dX2_shareOn_37 : decode cX2_shareOn 37 = .ok (.invokevirtual 55, 3) := by decide +kernel
theorem dX2_shareOn_40 : decode cX2_shareOn 40 = .ok (.ireturn, 1) := by decide +kernel
theorem dX2_shareAfter_0 : decode cX2_shareAfter 0 = .ok (.aload_n 0, 1) := by decide +kernel
theorem dX2_shareAfter_1 : decode cX2_shareAfter 1 = .ok (.getfield 30, 3) := by decide +kernel
theorem dX2_shareAfter_4 : decode cX2_shareAfter 4 = .ok (.iload_n 1, 1) := by decide +kernel
theorem dX2_shareAfter_5 : decode cX2_shareAfter 5 = .ok (.bipush 16, 2) := by decide +kernel
theorem dX2_shareAfter_7 : decode cX2_shareAfter 7 = .ok (.imul, 1) := by decide +kernel
theorem dX2_shareAfter_8 : decode cX2_shareAfter 8 = .ok (.iload_n 2, 1) := by decide +kernel
theorem dX2_shareAfter_9 : decode cX2_shareAfter 9 = .ok (.bipush 6, 2) := by decide +kernel
theorem dX2_shareAfter_11 : decode cX2_shareAfter 11 = .ok (.ishr, 1) := by decide +kernel
theorem dX2_shareAfter_12 : decode cX2_shareAfter 12 = .ok (.iadd, 1) := by decide +kernel
theorem dX2_shareAfter_13 : decode cX2_shareAfter 13 = .ok (.laload, 1) := by decide +kernel
theorem dX2_shareAfter_14 : decode cX2_shareAfter 14 = .ok (.iload_n 2, 1) := by decide +kernel
theorem dX2_shareAfter_15 : decode cX2_shareAfter 15 = .ok (.bipush 63, 2) := by decide +kernel
theorem dX2_shareAfter_17 : decode cX2_shareAfter 17 = .ok (.iand, 1) := by decide +kernel
theorem dX2_shareAfter_18 : decode cX2_shareAfter 18 = .ok (.lushr, 1) := by decide +kernel
theorem dX2_shareAfter_19 : decode cX2_shareAfter 19 = .ok (.lconst 1, 1) := by decide +kernel
theorem dX2_shareAfter_20 : decode cX2_shareAfter 20 = .ok (.land, 1) := by decide +kernel
theorem dX2_shareAfter_21 : decode cX2_shareAfter 21 = .ok (.lconst 0, 1) := by decide +kernel
theorem dX2_shareAfter_22 : decode cX2_shareAfter 22 = .ok (.lcmp, 1) := by decide +kernel
theorem dX2_shareAfter_23 : decode cX2_shareAfter 23 = .ok (.ifCond .eq 6, 3) := by decide +kernel
theorem dX2_shareAfter_26 : decode cX2_shareAfter 26 = .ok (.bipush 64, 2) := by decide +kernel
theorem dX2_shareAfter_28 : decode cX2_shareAfter 28 = .ok (.ireturn, 1) := by decide +kernel
theorem dX2_shareAfter_29 : decode cX2_shareAfter 29 = .ok (.bipush 64, 2) := by decide +kernel
theorem dX2_shareAfter_31 : decode cX2_shareAfter 31 = .ok (.aload_n 0, 1) := by decide +kernel
theorem dX2_shareAfter_32 : decode cX2_shareAfter 32 = .ok (.getfield 9, 3) := by decide +kernel
theorem dX2_shareAfter_35 : decode cX2_shareAfter 35 = .ok (.iload_n 1, 1) := by decide +kernel
theorem dX2_shareAfter_36 : decode cX2_shareAfter 36 = .ok (.iaload, 1) := by decide +kernel
theorem dX2_shareAfter_37 : decode cX2_shareAfter 37 = .ok (.aload_n 0, 1) := by decide +kernel
theorem dX2_shareAfter_38 : decode cX2_shareAfter 38 = .ok (.getfield 15, 3) := by decide +kernel
theorem dX2_shareAfter_41 : decode cX2_shareAfter 41 = .ok (.iload_n 1, 1) := by decide +kernel
theorem dX2_shareAfter_42 : decode cX2_shareAfter 42 = .ok (.iaload, 1) := by decide +kernel
theorem dX2_shareAfter_43 : decode cX2_shareAfter 43 = .ok (.iload_n 3, 1) := by decide +kernel
theorem dX2_shareAfter_44 : decode cX2_shareAfter 44 = .ok (.imul, 1) := by decide +kernel
theorem dX2_shareAfter_45 : decode cX2_shareAfter 45 = .ok (.iadd, 1) := by decide +kernel
theorem dX2_shareAfter_46 : decode cX2_shareAfter 46 = .ok (.invokestatic 59, 3) := by decide +kernel
theorem dX2_shareAfter_49 : decode cX2_shareAfter 49 = .ok (.ireturn, 1) := by decide +kernel
theorem dX2_testsUpTo_0 : decode cX2_testsUpTo 0 = .ok (.iconst 0, 1) := by decide +kernel
theorem dX2_testsUpTo_1 : decode cX2_testsUpTo 1 = .ok (.istore_n 3, 1) := by decide +kernel
theorem dX2_testsUpTo_2 : decode cX2_testsUpTo 2 = .ok (.iconst 0, 1) := by decide +kernel
theorem dX2_testsUpTo_3 : decode cX2_testsUpTo 3 = .ok (.istore 4, 2) := by decide +kernel
theorem dX2_testsUpTo_5 : decode cX2_testsUpTo 5 = .ok (.iload 4, 2) := by decide +kernel
theorem dX2_testsUpTo_7 : decode cX2_testsUpTo 7 = .ok (.aload_n 0, 1) := by decide +kernel
theorem dX2_testsUpTo_8 : decode cX2_testsUpTo 8 = .ok (.getfield 24, 3) := by decide +kernel
theorem dX2_testsUpTo_11 : decode cX2_testsUpTo 11 = .ok (.iload_n 1, 1) := by decide +kernel
theorem dX2_testsUpTo_12 : decode cX2_testsUpTo 12 = .ok (.iaload, 1) := by decide +kernel
theorem dX2_testsUpTo_13 : decode cX2_testsUpTo 13 = .ok (.if_icmp .ge 28, 3) := by decide +kernel
theorem dX2_testsUpTo_16 : decode cX2_testsUpTo 16 = .ok (.aload_n 0, 1) := by decide +kernel
theorem dX2_testsUpTo_17 : decode cX2_testsUpTo 17 = .ok (.getfield 27, 3) := by decide +kernel
theorem dX2_testsUpTo_20 : decode cX2_testsUpTo 20 = .ok (.iload_n 1, 1) := by decide +kernel
theorem dX2_testsUpTo_21 : decode cX2_testsUpTo 21 = .ok (.bipush 12, 2) := by decide +kernel
theorem dX2_testsUpTo_23 : decode cX2_testsUpTo 23 = .ok (.imul, 1) := by decide +kernel
theorem dX2_testsUpTo_24 : decode cX2_testsUpTo 24 = .ok (.iload 4, 2) := by decide +kernel
theorem dX2_testsUpTo_26 : decode cX2_testsUpTo 26 = .ok (.iadd, 1) := by decide +kernel
theorem dX2_testsUpTo_27 : decode cX2_testsUpTo 27 = .ok (.iaload, 1) := by decide +kernel
theorem dX2_testsUpTo_28 : decode cX2_testsUpTo 28 = .ok (.iload_n 2, 1) := by decide +kernel
theorem dX2_testsUpTo_29 : decode cX2_testsUpTo 29 = .ok (.if_icmp .gt 6, 3) := by decide +kernel
theorem dX2_testsUpTo_32 : decode cX2_testsUpTo 32 = .ok (.iinc 3 1, 3) := by decide +kernel
theorem dX2_testsUpTo_35 : decode cX2_testsUpTo 35 = .ok (.iinc 4 1, 3) := by decide +kernel
theorem dX2_testsUpTo_38 : decode cX2_testsUpTo 38 = .ok (.goto (-33), 3) := by decide +kernel
theorem dX2_testsUpTo_41 : decode cX2_testsUpTo 41 = .ok (.iload_n 3, 1) := by decide +kernel
theorem dX2_testsUpTo_42 : decode cX2_testsUpTo 42 = .ok (.ireturn, 1) := by decide +kernel
theorem dX2_daysInWord_0 : decode cX2_daysInWord 0 = .ok (.iload_n 1, 1) := by decide +kernel
theorem dX2_daysInWord_1 : decode cX2_daysInWord 1 = .ok (.iload_n 0, 1) := by decide +kernel
theorem dX2_daysInWord_2 : decode cX2_daysInWord 2 = .ok (.bipush 64, 2) := by decide +kernel
theorem dX2_daysInWord_4 : decode cX2_daysInWord 4 = .ok (.imul, 1) := by decide +kernel
theorem dX2_daysInWord_5 : decode cX2_daysInWord 5 = .ok (.isub, 1) := by decide +kernel
theorem dX2_daysInWord_6 : decode cX2_daysInWord 6 = .ok (.iconst 0, 1) := by decide +kernel
theorem dX2_daysInWord_7 : decode cX2_daysInWord 7 = .ok (.invokestatic 64, 3) := by decide +kernel
theorem dX2_daysInWord_10 : decode cX2_daysInWord 10 = .ok (.istore_n 3, 1) := by decide +kernel
theorem dX2_daysInWord_11 : decode cX2_daysInWord 11 = .ok (.iload_n 2, 1) := by decide +kernel
theorem dX2_daysInWord_12 : decode cX2_daysInWord 12 = .ok (.iload_n 0, 1) := by decide +kernel
theorem dX2_daysInWord_13 : decode cX2_daysInWord 13 = .ok (.bipush 64, 2) := by decide +kernel
theorem dX2_daysInWord_15 : decode cX2_daysInWord 15 = .ok (.imul, 1) := by decide +kernel
theorem dX2_daysInWord_16 : decode cX2_daysInWord 16 = .ok (.isub, 1) := by decide +kernel
theorem dX2_daysInWord_17 : decode cX2_daysInWord 17 = .ok (.bipush 63, 2) := by decide +kernel
theorem dX2_daysInWord_19 : decode cX2_daysInWord 19 = .ok (.invokestatic 59, 3) := by decide +kernel
theorem dX2_daysInWord_22 : decode cX2_daysInWord 22 = .ok (.istore 4, 2) := by decide +kernel
theorem dX2_daysInWord_24 : decode cX2_daysInWord 24 = .ok (.iload_n 3, 1) := by decide +kernel
theorem dX2_daysInWord_25 : decode cX2_daysInWord 25 = .ok (.iload 4, 2) := by decide +kernel
theorem dX2_daysInWord_27 : decode cX2_daysInWord 27 = .ok (.if_icmp .le 7, 3) := by decide +kernel
theorem dX2_daysInWord_30 : decode cX2_daysInWord 30 = .ok (.lconst 0, 1) := by decide +kernel
theorem dX2_daysInWord_31 : decode cX2_daysInWord 31 = .ok (.goto 18, 3) := by decide +kernel
theorem dX2_daysInWord_34 : decode cX2_daysInWord 34 = .ok (.ldc2_w 67, 3) := by decide +kernel
theorem dX2_daysInWord_37 : decode cX2_daysInWord 37 = .ok (.iload_n 3, 1) := by decide +kernel
theorem dX2_daysInWord_38 : decode cX2_daysInWord 38 = .ok (.lshl, 1) := by decide +kernel
theorem dX2_daysInWord_39 : decode cX2_daysInWord 39 = .ok (.ldc2_w 67, 3) := by decide +kernel
theorem dX2_daysInWord_42 : decode cX2_daysInWord 42 = .ok (.bipush 63, 2) := by decide +kernel
theorem dX2_daysInWord_44 : decode cX2_daysInWord 44 = .ok (.iload 4, 2) := by decide +kernel
theorem dX2_daysInWord_46 : decode cX2_daysInWord 46 = .ok (.isub, 1) := by decide +kernel
theorem dX2_daysInWord_47 : decode cX2_daysInWord 47 = .ok (.lushr, 1) := by decide +kernel
theorem dX2_daysInWord_48 : decode cX2_daysInWord 48 = .ok (.land, 1) := by decide +kernel
theorem dX2_daysInWord_49 : decode cX2_daysInWord 49 = .ok (.lreturn, 1) := by decide +kernel
theorem dX3_init_0 : decode cX3_init 0 = .ok (.aload_n 0, 1) := by decide +kernel
theorem dX3_init_1 : decode cX3_init 1 = .ok (.invokespecial 3, 3) := by decide +kernel
theorem dX3_init_4 : decode cX3_init 4 = .ok (.aload_n 0, 1) := by decide +kernel
theorem dX3_init_5 : decode cX3_init 5 = .ok (.iconst 3, 1) := by decide +kernel
theorem dX3_init_6 : decode cX3_init 6 = .ok (.newarray .int, 2) := by decide +kernel
theorem dX3_init_8 : decode cX3_init 8 = .ok (.putfield 9, 3) := by decide +kernel
theorem dX3_init_11 : decode cX3_init 11 = .ok (.aload_n 0, 1) := by decide +kernel
theorem dX3_init_12 : decode cX3_init 12 = .ok (.iconst 3, 1) := by decide +kernel
theorem dX3_init_13 : decode cX3_init 13 = .ok (.newarray .int, 2) := by decide +kernel
theorem dX3_init_15 : decode cX3_init 15 = .ok (.putfield 15, 3) := by decide +kernel
theorem dX3_init_18 : decode cX3_init 18 = .ok (.aload_n 0, 1) := by decide +kernel
theorem dX3_init_19 : decode cX3_init 19 = .ok (.iconst 0, 1) := by decide +kernel
theorem dX3_init_20 : decode cX3_init 20 = .ok (.putfield 18, 3) := by decide +kernel
theorem dX3_init_23 : decode cX3_init 23 = .ok (.aload_n 0, 1) := by decide +kernel
theorem dX3_init_24 : decode cX3_init 24 = .ok (.iconst 0, 1) := by decide +kernel
theorem dX3_init_25 : decode cX3_init 25 = .ok (.putfield 22, 3) := by decide +kernel
theorem dX3_init_28 : decode cX3_init 28 = .ok (.aload_n 0, 1) := by decide +kernel
theorem dX3_init_29 : decode cX3_init 29 = .ok (.aload_n 1, 1) := by decide +kernel
theorem dX3_init_30 : decode cX3_init 30 = .ok (.putfield 25, 3) := by decide +kernel
theorem dX3_init_33 : decode cX3_init 33 = .ok (.aload_n 0, 1) := by decide +kernel
theorem dX3_init_34 : decode cX3_init 34 = .ok (.aload_n 2, 1) := by decide +kernel
theorem dX3_init_35 : decode cX3_init 35 = .ok (.putfield 29, 3) := by decide +kernel
theorem dX3_init_38 : decode cX3_init 38 = .ok (.return_, 1) := by decide +kernel
theorem dX3_setIntervals_0 : decode cX3_setIntervals 0 = .ok (.aload_n 0, 1) := by decide +kernel
theorem dX3_setIntervals_1 : decode cX3_setIntervals 1 = .ok (.getfield 9, 3) := by decide +kernel
theorem dX3_setIntervals_4 : decode cX3_setIntervals 4 = .ok (.iconst 0, 1) := by decide +kernel
theorem dX3_setIntervals_5 : decode cX3_setIntervals 5 = .ok (.iload_n 1, 1) := by decide +kernel
theorem dX3_setIntervals_6 : decode cX3_setIntervals 6 = .ok (.iastore, 1) := by decide +kernel
theorem dX3_setIntervals_7 : decode cX3_setIntervals 7 = .ok (.aload_n 0, 1) := by decide +kernel
theorem dX3_setIntervals_8 : decode cX3_setIntervals 8 = .ok (.getfield 9, 3) := by decide +kernel
theorem dX3_setIntervals_11 : decode cX3_setIntervals 11 = .ok (.iconst 1, 1) := by decide +kernel
theorem dX3_setIntervals_12 : decode cX3_setIntervals 12 = .ok (.iload_n 2, 1) := by decide +kernel
theorem dX3_setIntervals_13 : decode cX3_setIntervals 13 = .ok (.iastore, 1) := by decide +kernel
theorem dX3_setIntervals_14 : decode cX3_setIntervals 14 = .ok (.aload_n 0, 1) := by decide +kernel
theorem dX3_setIntervals_15 : decode cX3_setIntervals 15 = .ok (.getfield 9, 3) := by decide +kernel
theorem dX3_setIntervals_18 : decode cX3_setIntervals 18 = .ok (.iconst 2, 1) := by decide +kernel
theorem dX3_setIntervals_19 : decode cX3_setIntervals 19 = .ok (.iload_n 3, 1) := by decide +kernel
theorem dX3_setIntervals_20 : decode cX3_setIntervals 20 = .ok (.iastore, 1) := by decide +kernel
theorem dX3_setIntervals_21 : decode cX3_setIntervals 21 = .ok (.return_, 1) := by decide +kernel
theorem dX3_cheapestCost_0 : decode cX3_cheapestCost 0 = .ok (.aload_n 0, 1) := by decide +kernel
theorem dX3_cheapestCost_1 : decode cX3_cheapestCost 1 = .ok (.getfield 18, 3) := by decide +kernel
theorem dX3_cheapestCost_4 : decode cX3_cheapestCost 4 = .ok (.ireturn, 1) := by decide +kernel
theorem dX3_cheapestChoices_0 : decode cX3_cheapestChoices 0 = .ok (.aload_n 0, 1) := by decide +kernel
theorem dX3_cheapestChoices_1 : decode cX3_cheapestChoices 1 = .ok (.getfield 22, 3) := by decide +kernel
theorem dX3_cheapestChoices_4 : decode cX3_cheapestChoices 4 = .ok (.ireturn, 1) := by decide +kernel
theorem dX3_findCheapest_0 : decode cX3_findCheapest 0 = .ok (.aload_n 0, 1) := by decide +kernel
theorem dX3_findCheapest_1 : decode cX3_findCheapest 1 = .ok (.getfield 29, 3) := by decide +kernel
theorem dX3_findCheapest_4 : decode cX3_findCheapest 4 = .ok (.iload_n 1, 1) := by decide +kernel
theorem dX3_findCheapest_5 : decode cX3_findCheapest 5 = .ok (.invokevirtual 33, 3) := by decide +kernel
theorem dX3_findCheapest_8 : decode cX3_findCheapest 8 = .ok (.iconst 1, 1) := by decide +kernel
theorem dX3_findCheapest_9 : decode cX3_findCheapest 9 = .ok (.istore 4, 2) := by decide +kernel
theorem dX3_findCheapest_11 : decode cX3_findCheapest 11 = .ok (.iconst 0, 1) := by decide +kernel
theorem dX3_findCheapest_12 : decode cX3_findCheapest 12 = .ok (.istore 5, 2) := by decide +kernel
theorem dX3_findCheapest_14 : decode cX3_findCheapest 14 = .ok (.iload 5, 2) := by decide +kernel
theorem dX3_findCheapest_16 : decode cX3_findCheapest 16 = .ok (.aload_n 0, 1) := by decide +kernel
theorem dX3_findCheapest_17 : decode cX3_findCheapest 17 = .ok (.getfield 29, 3) := by decide +kernel
theorem dX3_findCheapest_20 : decode cX3_findCheapest 20 = .ok (.invokevirtual 39, 3) := by decide +kernel
theorem dX3_findCheapest_23 : decode cX3_findCheapest 23 = .ok (.if_icmp .ge 15, 3) := by decide +kernel
theorem dX3_findCheapest_26 : decode cX3_findCheapest 26 = .ok (.iload 4, 2) := by decide +kernel
theorem dX3_findCheapest_28 : decode cX3_findCheapest 28 = .ok (.iconst 3, 1) := by decide +kernel
theorem dX3_findCheapest_29 : decode cX3_findCheapest 29 = .ok (.imul, 1) := by decide +kernel
theorem dX3_findCheapest_30 : decode cX3_findCheapest 30 = .ok (.istore 4, 2) := by decide +kernel
theorem dX3_findCheapest_32 : decode cX3_findCheapest 32 = .ok (.iinc 5 1, 3) := by decide +kernel
theorem dX3_findCheapest_35 : decode cX3_findCheapest 35 = .ok (.goto (-21), 3) := by decide +kernel
theorem dX3_findCheapest_38 : decode cX3_findCheapest 38 = .ok (.iconst 0, 1) := by decide +kernel
theorem dX3_findCheapest_39 : decode cX3_findCheapest 39 = .ok (.istore 5, 2) := by decide +kernel
theorem dX3_findCheapest_41 : decode cX3_findCheapest 41 = .ok (.iconst 0, 1) := by decide +kernel
theorem dX3_findCheapest_42 : decode cX3_findCheapest 42 = .ok (.istore 6, 2) := by decide +kernel
theorem dX3_findCheapest_44 : decode cX3_findCheapest 44 = .ok (.iload 6, 2) := by decide +kernel
theorem dX3_findCheapest_46 : decode cX3_findCheapest 46 = .ok (.iload 4, 2) := by decide +kernel
theorem dX3_findCheapest_48 : decode cX3_findCheapest 48 = .ok (.if_icmp .ge 60, 3) := by decide +kernel
theorem dX3_findCheapest_51 : decode cX3_findCheapest 51 = .ok (.aload_n 0, 1) := by decide +kernel
theorem dX3_findCheapest_52 : decode cX3_findCheapest 52 = .ok (.iload 6, 2) := by decide +kernel
theorem dX3_findCheapest_54 : decode cX3_findCheapest 54 = .ok (.invokevirtual 43, 3) := by decide +kernel
theorem dX3_findCheapest_57 : decode cX3_findCheapest 57 = .ok (.aload_n 0, 1) := by decide +kernel
theorem dX3_findCheapest_58 : decode cX3_findCheapest 58 = .ok (.invokevirtual 46, 3) := by decide +kernel
theorem dX3_findCheapest_61 : decode cX3_findCheapest 61 = .ok (.istore 7, 2) := by decide +kernel
theorem dX3_findCheapest_63 : decode cX3_findCheapest 63 = .ok (.iload 5, 2) := by decide +kernel
theorem dX3_findCheapest_65 : decode cX3_findCheapest 65 = .ok (.ifCond .eq 12, 3) := by decide +kernel
theorem dX3_findCheapest_68 : decode cX3_findCheapest 68 = .ok (.iload 7, 2) := by decide +kernel
theorem dX3_findCheapest_70 : decode cX3_findCheapest 70 = .ok (.aload_n 0, 1) := by decide +kernel
theorem dX3_findCheapest_71 : decode cX3_findCheapest 71 = .ok (.getfield 18, 3) := by decide +kernel
theorem dX3_findCheapest_74 : decode cX3_findCheapest 74 = .ok (.if_icmp .ge 28, 3) := by decide +kernel
theorem dX3_findCheapest_77 : decode cX3_findCheapest 77 = .ok (.aload_n 0, 1) := by decide +kernel
theorem dX3_findCheapest_78 : decode cX3_findCheapest 78 = .ok (.lload_n 2, 1) := by decide +kernel
theorem dX3_findCheapest_79 : decode cX3_findCheapest 79 = .ok (.invokevirtual 49, 3) := by decide +kernel
theorem dX3_findCheapest_82 : decode cX3_findCheapest 82 = .ok (.ifCond .eq 20, 3) := by decide +kernel
theorem dX3_findCheapest_85 : decode cX3_findCheapest 85 = .ok (.iconst 1, 1) := by decide +kernel
theorem dX3_findCheapest_86 : decode cX3_findCheapest 86 = .ok (.istore 5, 2) := by decide +kernel
theorem dX3_findCheapest_88 : decode cX3_findCheapest 88 = .ok (.aload_n 0, 1) := by decide +kernel
theorem dX3_findCheapest_89 : decode cX3_findCheapest 89 = .ok (.iload 7, 2) := by decide +kernel
theorem dX3_findCheapest_91 : decode cX3_findCheapest 91 = .ok (.putfield 18, 3) := by decide +kernel
theorem dX3_findCheapest_94 : decode cX3_findCheapest 94 = .ok (.aload_n 0, 1) := by decide +kernel
theorem dX3_findCheapest_95 : decode cX3_findCheapest 95 = .ok (.aload_n 0, 1) := by decide +kernel
theorem dX3_findCheapest_96 : decode cX3_findCheapest 96 = .ok (.invokevirtual 53, 3) := by decide +kernel
theorem dX3_findCheapest_99 : decode cX3_findCheapest 99 = .ok (.putfield 22, 3) := by decide +kernel
theorem dX3_findCheapest_102 : decode cX3_findCheapest 102 = .ok (.iinc 6 1, 3) := by decide +kernel
theorem dX3_findCheapest_105 : decode cX3_findCheapest 105 = .ok (.goto (-61), 3) := by decide +kernel
theorem dX3_findCheapest_108 : decode cX3_findCheapest 108 = .ok (.iload 5, 2) := by decide +kernel
theorem dX3_findCheapest_110 : decode cX3_findCheapest 110 = .ok (.ireturn, 1) := by decide +kernel
theorem dX3_takeChoices_0 : decode cX3_takeChoices 0 = .ok (.iload_n 1, 1) := by decide +kernel
theorem dX3_takeChoices_1 : decode cX3_takeChoices 1 = .ok (.istore_n 2, 1) := by decide +kernel
theorem dX3_takeChoices_2 : decode cX3_takeChoices 2 = .ok (.aload_n 0, 1) := by decide +kernel
theorem dX3_takeChoices_3 : decode cX3_takeChoices 3 = .ok (.getfield 29, 3) := by decide +kernel
theorem dX3_takeChoices_6 : decode cX3_takeChoices 6 = .ok (.invokevirtual 39, 3) := by decide +kernel
theorem dX3_takeChoices_9 : decode cX3_takeChoices 9 = .ok (.iconst 1, 1) := by decide +kernel
theorem dX3_takeChoices_10 : decode cX3_takeChoices 10 = .ok (.isub, 1) := by decide +kernel
theorem dX3_takeChoices_11 : decode cX3_takeChoices 11 = .ok (.istore_n 3, 1) := by decide +kernel
theorem dX3_takeChoices_12 : decode cX3_takeChoices 12 = .ok (.iload_n 3, 1) := by decide +kernel
theorem dX3_takeChoices_13 : decode cX3_takeChoices 13 = .ok (.ifCond .lt 22, 3) := by decide +kernel
theorem dX3_takeChoices_16 : decode cX3_takeChoices 16 = .ok (.aload_n 0, 1) := by decide +kernel
theorem dX3_takeChoices_17 : decode cX3_takeChoices 17 = .ok (.getfield 15, 3) := by decide +kernel
theorem dX3_takeChoices_20 : decode cX3_takeChoices 20 = .ok (.iload_n 3, 1) := by decide +kernel
theorem dX3_takeChoices_21 : decode cX3_takeChoices 21 = .ok (.iload_n 2, 1) := by decide +kernel
theorem dX3_takeChoices_22 : decode cX3_takeChoices 22 = .ok (.iconst 3, 1) := by decide +kernel
theorem dX3_takeChoices_23 : decode cX3_takeChoices 23 = .ok (.irem, 1) := by decide +kernel
theorem dX3_takeChoices_24 : decode cX3_takeChoices 24 = .ok (.iastore, 1) := by decide +kernel
theorem dX3_takeChoices_25 : decode cX3_takeChoices 25 = .ok (.iload_n 2, 1) := by decide +kernel
theorem dX3_takeChoices_26 : decode cX3_takeChoices 26 = .ok (.iconst 3, 1) := by decide +kernel
theorem dX3_takeChoices_27 : decode cX3_takeChoices 27 = .ok (.idiv, 1) := by decide +kernel
theorem dX3_takeChoices_28 : decode cX3_takeChoices 28 = .ok (.istore_n 2, 1) := by decide +kernel
theorem dX3_takeChoices_29 : decode cX3_takeChoices 29 = .ok (.iinc 3 (-1), 3) := by decide +kernel
theorem dX3_takeChoices_32 : decode cX3_takeChoices 32 = .ok (.goto (-20), 3) := by decide +kernel
theorem dX3_takeChoices_35 : decode cX3_takeChoices 35 = .ok (.return_, 1) := by decide +kernel
theorem dX3_toldChoices_0 : decode cX3_toldChoices 0 = .ok (.iconst 0, 1) := by decide +kernel
theorem dX3_toldChoices_1 : decode cX3_toldChoices 1 = .ok (.istore_n 1, 1) := by decide +kernel
theorem dX3_toldChoices_2 : decode cX3_toldChoices 2 = .ok (.aload_n 0, 1) := by decide +kernel
theorem dX3_toldChoices_3 : decode cX3_toldChoices 3 = .ok (.getfield 29, 3) := by decide +kernel
theorem dX3_toldChoices_6 : decode cX3_toldChoices 6 = .ok (.invokevirtual 39, 3) := by decide +kernel
theorem dX3_toldChoices_9 : decode cX3_toldChoices 9 = .ok (.iconst 1, 1) := by decide +kernel
theorem dX3_toldChoices_10 : decode cX3_toldChoices 10 = .ok (.isub, 1) := by decide +kernel
theorem dX3_toldChoices_11 : decode cX3_toldChoices 11 = .ok (.istore_n 2, 1) := by decide +kernel
theorem dX3_toldChoices_12 : decode cX3_toldChoices 12 = .ok (.iload_n 2, 1) := by decide +kernel
theorem dX3_toldChoices_13 : decode cX3_toldChoices 13 = .ok (.ifCond .lt 20, 3) := by decide +kernel
theorem dX3_toldChoices_16 : decode cX3_toldChoices 16 = .ok (.iload_n 1, 1) := by decide +kernel
theorem dX3_toldChoices_17 : decode cX3_toldChoices 17 = .ok (.iconst 3, 1) := by decide +kernel
theorem dX3_toldChoices_18 : decode cX3_toldChoices 18 = .ok (.imul, 1) := by decide +kernel
theorem dX3_toldChoices_19 : decode cX3_toldChoices 19 = .ok (.aload_n 0, 1) := by decide +kernel
theorem dX3_toldChoices_20 : decode cX3_toldChoices 20 = .ok (.getfield 15, 3) := by decide +kernel
theorem dX3_toldChoices_23 : decode cX3_toldChoices 23 = .ok (.iload_n 2, 1) := by decide +kernel
theorem dX3_toldChoices_24 : decode cX3_toldChoices 24 = .ok (.iaload, 1) := by decide +kernel
theorem dX3_toldChoices_25 : decode cX3_toldChoices 25 = .ok (.iadd, 1) := by decide +kernel
theorem dX3_toldChoices_26 : decode cX3_toldChoices 26 = .ok (.istore_n 1, 1) := by decide +kernel
theorem dX3_toldChoices_27 : decode cX3_toldChoices 27 = .ok (.iinc 2 (-1), 3) := by decide +kernel
theorem dX3_toldChoices_30 : decode cX3_toldChoices 30 = .ok (.goto (-18), 3) := by decide +kernel
theorem dX3_toldChoices_33 : decode cX3_toldChoices 33 = .ok (.iload_n 1, 1) := by decide +kernel
theorem dX3_toldChoices_34 : decode cX3_toldChoices 34 = .ok (.ireturn, 1) := by decide +kernel
theorem dX3_costOfChoices_0 : decode cX3_costOfChoices 0 = .ok (.iconst 0, 1) := by decide +kernel
theorem dX3_costOfChoices_1 : decode cX3_costOfChoices 1 = .ok (.istore_n 1, 1) := by decide +kernel
theorem dX3_costOfChoices_2 : decode cX3_costOfChoices 2 = .ok (.iconst 0, 1) := by decide +kernel
theorem dX3_costOfChoices_3 : decode cX3_costOfChoices 3 = .ok (.istore_n 2, 1) := by decide +kernel
theorem dX3_costOfChoices_4 : decode cX3_costOfChoices 4 = .ok (.iload_n 2, 1) := by decide +kernel
theorem dX3_costOfChoices_5 : decode cX3_costOfChoices 5 = .ok (.aload_n 0, 1) := by decide +kernel
theorem dX3_costOfChoices_6 : decode cX3_costOfChoices 6 = .ok (.getfield 29, 3) := by decide +kernel
theorem dX3_costOfChoices_9 : decode cX3_costOfChoices 9 = .ok (.invokevirtual 39, 3) := by decide +kernel
theorem dX3_costOfChoices_12 : decode cX3_costOfChoices 12 = .ok (.if_icmp .ge 42, 3) := by decide +kernel
theorem dX3_costOfChoices_15 : decode cX3_costOfChoices 15 = .ok (.iload_n 1, 1) := by decide +kernel
theorem dX3_costOfChoices_16 : decode cX3_costOfChoices 16 = .ok (.aload_n 0, 1) := by decide +kernel
theorem dX3_costOfChoices_17 : decode cX3_costOfChoices 17 = .ok (.getfield 25, 3) := by decide +kernel
theorem dX3_costOfChoices_20 : decode cX3_costOfChoices 20 = .ok (.aload_n 0, 1) := by decide +kernel
theorem dX3_costOfChoices_21 : decode cX3_costOfChoices 21 = .ok (.getfield 29, 3) := by decide +kernel
theorem dX3_costOfChoices_24 : decode cX3_costOfChoices 24 = .ok (.iload_n 2, 1) := by decide +kernel
theorem dX3_costOfChoices_25 : decode cX3_costOfChoices 25 = .ok (.invokevirtual 56, 3) := by decide +kernel
theorem dX3_costOfChoices_28 : decode cX3_costOfChoices 28 = .ok (.invokevirtual 60, 3) := by decide +kernel
theorem dX3_costOfChoices_31 : decode cX3_costOfChoices 31 = .ok (.bipush 100, 2) := by decide +kernel
theorem dX3_costOfChoices_33 : decode cX3_costOfChoices 33 = .ok (.aload_n 0, 1) := by decide +kernel
theorem dX3_costOfChoices_34 : decode cX3_costOfChoices 34 = .ok (.getfield 9, 3) := by decide +kernel
theorem dX3_costOfChoices_37 : decode cX3_costOfChoices 37 = .ok (.aload_n 0, 1) := by decide +kernel
theorem dX3_costOfChoices_38 : decode cX3_costOfChoices 38 = .ok (.getfield 15, 3) := by decide +kernel
theorem dX3_costOfChoices_41 : decode cX3_costOfChoices 41 = .ok (.iload_n 2, 1) := by decide +kernel
theorem dX3_costOfChoices_42 : decode cX3_costOfChoices 42 = .ok (.iaload, 1) := by decide +kernel
theorem dX3_costOfChoices_43 : decode cX3_costOfChoices 43 = .ok (.iaload, 1) := by decide +kernel
theorem dX3_costOfChoices_44 : decode cX3_costOfChoices 44 = .ok (.idiv, 1) := by decide +kernel
theorem dX3_costOfChoices_45 : decode cX3_costOfChoices 45 = .ok (.imul, 1) := by decide +kernel
theorem dX3_costOfChoices_46 : decode cX3_costOfChoices 46 = .ok (.iadd, 1) := by decide +kernel
theorem dX3_costOfChoices_47 : decode cX3_costOfChoices 47 = .ok (.istore_n 1, 1) := by decide +kernel
theorem dX3_costOfChoices_48 : decode cX3_costOfChoices 48 = .ok (.iinc 2 1, 3) := by decide +kernel
theorem dX3_costOfChoices_51 : decode cX3_costOfChoices 51 = .ok (.goto (-47), 3) := by decide +kernel
theorem dX3_costOfChoices_54 : decode cX3_costOfChoices 54 = .ok (.iload_n 1, 1) := by decide +kernel
theorem dX3_costOfChoices_55 : decode cX3_costOfChoices 55 = .ok (.ireturn, 1) := by decide +kernel
theorem dX3_keepsLaw_0 : decode cX3_keepsLaw 0 = .ok (.lconst 0, 1) := by decide +kernel
theorem dX3_keepsLaw_1 : decode cX3_keepsLaw 1 = .ok (.lstore_n 3, 1) := by decide +kernel
theorem dX3_keepsLaw_2 : decode cX3_keepsLaw 2 = .ok (.iconst 0, 1) := by decide +kernel
theorem dX3_keepsLaw_3 : decode cX3_keepsLaw 3 = .ok (.istore 5, 2) := by decide +kernel
theorem dX3_keepsLaw_5 : decode cX3_keepsLaw 5 = .ok (.iload 5, 2) := by decide +kernel
theorem dX3_keepsLaw_7 : decode cX3_keepsLaw 7 = .ok (.bipush 100, 2) := by decide +kernel
theorem dX3_keepsLaw_9 : decode cX3_keepsLaw 9 = .ok (.if_icmp .ge 92, 3) := by decide +kernel
theorem dX3_keepsLaw_12 : decode cX3_keepsLaw 12 = .ok (.lload_n 3, 1) := by decide +kernel
theorem dX3_keepsLaw_13 : decode cX3_keepsLaw 13 = .ok (.lload_n 1, 1) := by decide +kernel
theorem dX3_keepsLaw_14 : decode cX3_keepsLaw 14 = .ok (.lcmp, 1) := by decide +kernel
theorem dX3_keepsLaw_15 : decode cX3_keepsLaw 15 = .ok (.ifCond .gt 86, 3) := by decide +kernel
theorem dX3_keepsLaw_18 : decode cX3_keepsLaw 18 = .ok (.iconst 0, 1) := by decide +kernel
theorem dX3_keepsLaw_19 : decode cX3_keepsLaw 19 = .ok (.istore 6, 2) := by decide +kernel
theorem dX3_keepsLaw_21 : decode cX3_keepsLaw 21 = .ok (.iload 6, 2) := by decide +kernel
theorem dX3_keepsLaw_23 : decode cX3_keepsLaw 23 = .ok (.aload_n 0, 1) := by decide +kernel
theorem dX3_keepsLaw_24 : decode cX3_keepsLaw 24 = .ok (.getfield 29, 3) := by decide +kernel
theorem dX3_keepsLaw_27 : decode cX3_keepsLaw 27 = .ok (.invokevirtual 39, 3) := by decide +kernel
theorem dX3_keepsLaw_30 : decode cX3_keepsLaw 30 = .ok (.if_icmp .ge 55, 3) := by decide +kernel
theorem dX3_keepsLaw_33 : decode cX3_keepsLaw 33 = .ok (.iload 5, 2) := by decide +kernel
theorem dX3_keepsLaw_35 : decode cX3_keepsLaw 35 = .ok (.aload_n 0, 1) := by decide +kernel
theorem dX3_keepsLaw_36 : decode cX3_keepsLaw 36 = .ok (.getfield 9, 3) := by decide +kernel
theorem dX3_keepsLaw_39 : decode cX3_keepsLaw 39 = .ok (.aload_n 0, 1) := by decide +kernel
theorem dX3_keepsLaw_40 : decode cX3_keepsLaw 40 = .ok (.getfield 15, 3) := by decide +kernel
theorem dX3_keepsLaw_43 : decode cX3_keepsLaw 43 = .ok (.iload 6, 2) := by decide +kernel
theorem dX3_keepsLaw_45 : decode cX3_keepsLaw 45 = .ok (.iaload, 1) := by decide +kernel
theorem dX3_keepsLaw_46 : decode cX3_keepsLaw 46 = .ok (.iaload, 1) := by decide +kernel
theorem dX3_keepsLaw_47 : decode cX3_keepsLaw 47 = .ok (.irem, 1) := by decide +kernel
theorem dX3_keepsLaw_48 : decode cX3_keepsLaw 48 = .ok (.istore 7, 2) := by decide +kernel
theorem dX3_keepsLaw_50 : decode cX3_keepsLaw 50 = .ok (.aload_n 0, 1) := by decide +kernel
theorem dX3_keepsLaw_51 : decode cX3_keepsLaw 51 = .ok (.getfield 29, 3) := by decide +kernel
theorem dX3_keepsLaw_54 : decode cX3_keepsLaw 54 = .ok (.iload 6, 2) := by decide +kernel
theorem dX3_keepsLaw_56 : decode cX3_keepsLaw 56 = .ok (.aload_n 0, 1) := by decide +kernel
theorem dX3_keepsLaw_57 : decode cX3_keepsLaw 57 = .ok (.getfield 25, 3) := by decide +kernel
theorem dX3_keepsLaw_60 : decode cX3_keepsLaw 60 = .ok (.aload_n 0, 1) := by decide +kernel
theorem dX3_keepsLaw_61 : decode cX3_keepsLaw 61 = .ok (.getfield 29, 3) := by decide +kernel
theorem dX3_keepsLaw_64 : decode cX3_keepsLaw 64 = .ok (.iload 6, 2) := by decide +kernel
theorem dX3_keepsLaw_66 : decode cX3_keepsLaw 66 = .ok (.invokevirtual 56, 3) := by decide +kernel
theorem dX3_keepsLaw_69 : decode cX3_keepsLaw 69 = .ok (.iload 5, 2) := by decide +kernel
theorem dX3_keepsLaw_71 : decode cX3_keepsLaw 71 = .ok (.iload 7, 2) := by decide +kernel
theorem dX3_keepsLaw_73 : decode cX3_keepsLaw 73 = .ok (.invokevirtual 65, 3) := by decide +kernel
theorem dX3_keepsLaw_76 : decode cX3_keepsLaw 76 = .ok (.invokevirtual 69, 3) := by decide +kernel
theorem dX3_keepsLaw_79 : decode cX3_keepsLaw 79 = .ok (.iinc 6 1, 3) := by decide +kernel
theorem dX3_keepsLaw_82 : decode cX3_keepsLaw 82 = .ok (.goto (-61), 3) := by decide +kernel
theorem dX3_keepsLaw_85 : decode cX3_keepsLaw 85 = .ok (.lload_n 3, 1) := by decide +kernel
theorem dX3_keepsLaw_86 : decode cX3_keepsLaw 86 = .ok (.aload_n 0, 1) := by decide +kernel
theorem dX3_keepsLaw_87 : decode cX3_keepsLaw 87 = .ok (.getfield 29, 3) := by decide +kernel
theorem dX3_keepsLaw_90 : decode cX3_keepsLaw 90 = .ok (.invokevirtual 73, 3) := by decide +kernel
theorem dX3_keepsLaw_93 : decode cX3_keepsLaw 93 = .ok (.ladd, 1) := by decide +kernel
theorem dX3_keepsLaw_94 : decode cX3_keepsLaw 94 = .ok (.lstore_n 3, 1) := by decide +kernel
theorem dX3_keepsLaw_95 : decode cX3_keepsLaw 95 = .ok (.iinc 5 1, 3) := by decide +kernel
theorem dX3_keepsLaw_98 : decode cX3_keepsLaw 98 = .ok (.goto (-93), 3) := by decide +kernel
theorem dX3_keepsLaw_101 : decode cX3_keepsLaw 101 = .ok (.lload_n 3, 1) := by decide +kernel
theorem dX3_keepsLaw_102 : decode cX3_keepsLaw 102 = .ok (.lload_n 1, 1) := by decide +kernel
theorem dX3_keepsLaw_103 : decode cX3_keepsLaw 103 = .ok (.lcmp, 1) := by decide +kernel
theorem dX3_keepsLaw_104 : decode cX3_keepsLaw 104 = .ok (.ifCond .gt 7, 3) := by decide +kernel
theorem dX3_keepsLaw_107 : decode cX3_keepsLaw 107 = .ok (.iconst 1, 1) := by decide +kernel
theorem dX3_keepsLaw_108 : decode cX3_keepsLaw 108 = .ok (.goto 4, 3) := by decide +kernel
theorem dX3_keepsLaw_111 : decode cX3_keepsLaw 111 = .ok (.iconst 0, 1) := by decide +kernel
theorem dX3_keepsLaw_112 : decode cX3_keepsLaw 112 = .ok (.ireturn, 1) := by decide +kernel
theorem dX4_init_0 : decode cX4_init 0 = .ok (.aload_n 0, 1) := by decide +kernel
theorem dX4_init_1 : decode cX4_init 1 = .ok (.invokespecial 3, 3) := by decide +kernel
theorem dX4_init_4 : decode cX4_init 4 = .ok (.aload_n 0, 1) := by decide +kernel
theorem dX4_init_5 : decode cX4_init 5 = .ok (.bipush 12, 2) := by decide +kernel
theorem dX4_init_7 : decode cX4_init 7 = .ok (.newarray .int, 2) := by decide +kernel
theorem dX4_init_9 : decode cX4_init 9 = .ok (.putfield 9, 3) := by decide +kernel
theorem dX4_init_12 : decode cX4_init 12 = .ok (.aload_n 0, 1) := by decide +kernel
theorem dX4_init_13 : decode cX4_init 13 = .ok (.bipush 12, 2) := by decide +kernel
theorem dX4_init_15 : decode cX4_init 15 = .ok (.newarray .int, 2) := by decide +kernel
theorem dX4_init_17 : decode cX4_init 17 = .ok (.putfield 15, 3) := by decide +kernel
theorem dX4_init_20 : decode cX4_init 20 = .ok (.aload_n 0, 1) := by decide +kernel
theorem dX4_init_21 : decode cX4_init 21 = .ok (.bipush 48, 2) := by decide +kernel
theorem dX4_init_23 : decode cX4_init 23 = .ok (.newarray .int, 2) := by decide +kernel
theorem dX4_init_25 : decode cX4_init 25 = .ok (.putfield 18, 3) := by decide +kernel
theorem dX4_init_28 : decode cX4_init 28 = .ok (.aload_n 0, 1) := by decide +kernel
theorem dX4_init_29 : decode cX4_init 29 = .ok (.bipush 12, 2) := by decide +kernel
theorem dX4_init_31 : decode cX4_init 31 = .ok (.newarray .int, 2) := by decide +kernel
theorem dX4_init_33 : decode cX4_init 33 = .ok (.putfield 21, 3) := by decide +kernel
theorem dX4_init_36 : decode cX4_init 36 = .ok (.aload_n 0, 1) := by decide +kernel
theorem dX4_init_37 : decode cX4_init 37 = .ok (.bipush 48, 2) := by decide +kernel
theorem dX4_init_39 : decode cX4_init 39 = .ok (.newarray .long, 2) := by decide +kernel
theorem dX4_init_41 : decode cX4_init 41 = .ok (.putfield 24, 3) := by decide +kernel
theorem dX4_init_44 : decode cX4_init 44 = .ok (.aload_n 0, 1) := by decide +kernel
theorem dX4_init_45 : decode cX4_init 45 = .ok (.iconst 0, 1) := by decide +kernel
theorem dX4_init_46 : decode cX4_init 46 = .ok (.putfield 28, 3) := by decide +kernel
theorem dX4_init_49 : decode cX4_init 49 = .ok (.return_, 1) := by decide +kernel
theorem dX4_has_0 : decode cX4_has 0 = .ok (.iload_n 1, 1) := by decide +kernel
theorem dX4_has_1 : decode cX4_has 1 = .ok (.ifCond .lt 15, 3) := by decide +kernel
theorem dX4_has_4 : decode cX4_has 4 = .ok (.iload_n 1, 1) := by decide +kernel
theorem dX4_has_5 : decode cX4_has 5 = .ok (.aload_n 0, 1) := by decide +kernel
theorem dX4_has_6 : decode cX4_has 6 = .ok (.getfield 28, 3) := by decide +kernel
theorem dX4_has_9 : decode cX4_has 9 = .ok (.if_icmp .ge 7, 3) := by decide +kernel
theorem dX4_has_12 : decode cX4_has 12 = .ok (.iconst 1, 1) := by decide +kernel
theorem dX4_has_13 : decode cX4_has 13 = .ok (.goto 4, 3) := by decide +kernel
theorem dX4_has_16 : decode cX4_has 16 = .ok (.iconst 0, 1) := by decide +kernel
theorem dX4_has_17 : decode cX4_has 17 = .ok (.ireturn, 1) := by decide +kernel
theorem dX4_size_0 : decode cX4_size 0 = .ok (.aload_n 0, 1) := by decide +kernel
theorem dX4_size_1 : decode cX4_size 1 = .ok (.getfield 28, 3) := by decide +kernel
theorem dX4_size_4 : decode cX4_size 4 = .ok (.ireturn, 1) := by decide +kernel
theorem dX4_partsBelow_0 : decode cX4_partsBelow 0 = .ok (.aload_n 0, 1) := by decide +kernel
theorem dX4_partsBelow_1 : decode cX4_partsBelow 1 = .ok (.getfield 21, 3) := by decide +kernel
theorem dX4_partsBelow_4 : decode cX4_partsBelow 4 = .ok (.iload_n 1, 1) := by decide +kernel
theorem dX4_partsBelow_5 : decode cX4_partsBelow 5 = .ok (.iaload, 1) := by decide +kernel
theorem dX4_partsBelow_6 : decode cX4_partsBelow 6 = .ok (.ireturn, 1) := by decide +kernel
theorem dX4_sizeBelow_0 : decode cX4_sizeBelow 0 = .ok (.aload_n 0, 1) := by decide +kernel
theorem dX4_sizeBelow_1 : decode cX4_sizeBelow 1 = .ok (.getfield 21, 3) := by decide +kernel
theorem dX4_sizeBelow_4 : decode cX4_sizeBelow 4 = .ok (.iload_n 1, 1) := by decide +kernel
theorem dX4_sizeBelow_5 : decode cX4_sizeBelow 5 = .ok (.iaload, 1) := by decide +kernel
theorem dX4_sizeBelow_6 : decode cX4_sizeBelow 6 = .ok (.invokestatic 32, 3) := by decide +kernel
theorem dX4_sizeBelow_9 : decode cX4_sizeBelow 9 = .ok (.ireturn, 1) := by decide +kernel
theorem dX4_add_0 : decode cX4_add 0 = .ok (.aload_n 0, 1) := by decide +kernel
theorem dX4_add_1 : decode cX4_add 1 = .ok (.getfield 28, 3) := by decide +kernel
theorem dX4_add_4 : decode cX4_add 4 = .ok (.bipush 12, 2) := by decide +kernel
theorem dX4_add_6 : decode cX4_add 6 = .ok (.if_icmp .lt 6, 3) := by decide +kernel
theorem dX4_add_9 : decode cX4_add 9 = .ok (.bipush (-3), 2) := by decide +kernel
theorem dX4_add_11 : decode cX4_add 11 = .ok (.ireturn, 1) := by decide +kernel
theorem dX4_add_12 : decode cX4_add 12 = .ok (.aload_n 0, 1) := by decide +kernel
theorem dX4_add_13 : decode cX4_add 13 = .ok (.getfield 28, 3) := by decide +kernel
theorem dX4_add_16 : decode cX4_add 16 = .ok (.istore 4, 2) := by decide +kernel
theorem dX4_add_18 : decode cX4_add 18 = .ok (.aload_n 0, 1) := by decide +kernel
theorem dX4_add_19 : decode cX4_add 19 = .ok (.getfield 9, 3) := by decide +kernel
theorem dX4_add_22 : decode cX4_add 22 = .ok (.iload 4, 2) := by decide +kernel
theorem dX4_add_24 : decode cX4_add 24 = .ok (.iload_n 1, 1) := by decide +kernel
theorem dX4_add_25 : decode cX4_add 25 = .ok (.iastore, 1) := by decide +kernel
theorem dX4_add_26 : decode cX4_add 26 = .ok (.aload_n 0, 1) := by decide +kernel
theorem dX4_add_27 : decode cX4_add 27 = .ok (.getfield 15, 3) := by decide +kernel
theorem dX4_add_30 : decode cX4_add 30 = .ok (.iload 4, 2) := by decide +kernel
theorem dX4_add_32 : decode cX4_add 32 = .ok (.iload_n 2, 1) := by decide +kernel
theorem dX4_add_33 : decode cX4_add 33 = .ok (.iastore, 1) := by decide +kernel
theorem dX4_add_34 : decode cX4_add 34 = .ok (.iconst 0, 1) := by decide +kernel
theorem dX4_add_35 : decode cX4_add 35 = .ok (.istore 5, 2) := by decide +kernel
theorem dX4_add_37 : decode cX4_add 37 = .ok (.iload 5, 2) := by decide +kernel
theorem dX4_add_39 : decode cX4_add 39 = .ok (.iload_n 2, 1) := by decide +kernel
theorem dX4_add_40 : decode cX4_add 40 = .ok (.if_icmp .ge 43, 3) := by decide +kernel
theorem dX4_add_43 : decode cX4_add 43 = .ok (.aload_n 0, 1) := by decide +kernel
theorem dX4_add_44 : decode cX4_add 44 = .ok (.getfield 18, 3) := by decide +kernel
theorem dX4_add_47 : decode cX4_add 47 = .ok (.iload 4, 2) := by decide +kernel
theorem dX4_add_49 : decode cX4_add 49 = .ok (.iconst 4, 1) := by decide +kernel
theorem dX4_add_50 : decode cX4_add 50 = .ok (.imul, 1) := by decide +kernel
theorem dX4_add_51 : decode cX4_add 51 = .ok (.iload 5, 2) := by decide +kernel
theorem dX4_add_53 : decode cX4_add 53 = .ok (.iadd, 1) := by decide +kernel
theorem dX4_add_54 : decode cX4_add 54 = .ok (.aload_n 3, 1) := by decide +kernel
theorem dX4_add_55 : decode cX4_add 55 = .ok (.iload 5, 2) := by decide +kernel
theorem dX4_add_57 : decode cX4_add 57 = .ok (.iaload, 1) := by decide +kernel
theorem dX4_add_58 : decode cX4_add 58 = .ok (.iastore, 1) := by decide +kernel
theorem dX4_add_59 : decode cX4_add 59 = .ok (.aload_n 0, 1) := by decide +kernel
theorem dX4_add_60 : decode cX4_add 60 = .ok (.getfield 21, 3) := by decide +kernel
theorem dX4_add_63 : decode cX4_add 63 = .ok (.iload 4, 2) := by decide +kernel
theorem dX4_add_65 : decode cX4_add 65 = .ok (.dup2, 1) := by decide +kernel
theorem dX4_add_66 : decode cX4_add 66 = .ok (.iaload, 1) := by decide +kernel
theorem dX4_add_67 : decode cX4_add 67 = .ok (.aload_n 0, 1) := by decide +kernel
theorem dX4_add_68 : decode cX4_add 68 = .ok (.aload_n 3, 1) := by decide +kernel
theorem dX4_add_69 : decode cX4_add 69 = .ok (.iload 5, 2) := by decide +kernel
theorem dX4_add_71 : decode cX4_add 71 = .ok (.iaload, 1) := by decide +kernel
theorem dX4_add_72 : decode cX4_add 72 = .ok (.invokevirtual 38, 3) := by decide +kernel
theorem dX4_add_75 : decode cX4_add 75 = .ok (.ior, 1) := by decide +kernel
theorem dX4_add_76 : decode cX4_add 76 = .ok (.iastore, 1) := by decide +kernel
theorem dX4_add_77 : decode cX4_add 77 = .ok (.iinc 5 1, 3) := by decide +kernel
theorem dX4_add_80 : decode cX4_add 80 = .ok (.goto (-43), 3) := by decide +kernel
theorem dX4_add_83 : decode cX4_add 83 = .ok (.aload_n 0, 1) := by decide +kernel
theorem dX4_add_84 : decode cX4_add 84 = .ok (.iload 4, 2) := by decide +kernel
theorem dX4_add_86 : decode cX4_add 86 = .ok (.invokevirtual 41, 3) := by decide +kernel
theorem dX4_add_89 : decode cX4_add 89 = .ok (.bipush 8, 2) := by decide +kernel
theorem dX4_add_91 : decode cX4_add 91 = .ok (.if_icmp .gt 9, 3) := by decide +kernel
theorem dX4_add_94 : decode cX4_add 94 = .ok (.aload_n 0, 1) := by decide +kernel
theorem dX4_add_95 : decode cX4_add 95 = .ok (.iload 4, 2) := by decide +kernel
theorem dX4_add_97 : decode cX4_add 97 = .ok (.invokevirtual 44, 3) := by decide +kernel
theorem dX4_add_100 : decode cX4_add 100 = .ok (.aload_n 0, 1) := by decide +kernel
theorem dX4_add_101 : decode cX4_add 101 = .ok (.dup, 1) := by decide +kernel
theorem dX4_add_102 : decode cX4_add 102 = .ok (.getfield 28, 3) := by decide +kernel
theorem dX4_add_105 : decode cX4_add 105 = .ok (.iconst 1, 1) := by decide +kernel
theorem dX4_add_106 : decode cX4_add 106 = .ok (.iadd, 1) := by decide +kernel
theorem dX4_add_107 : decode cX4_add 107 = .ok (.putfield 28, 3) := by decide +kernel
theorem dX4_add_110 : decode cX4_add 110 = .ok (.iload 4, 2) := by decide +kernel
theorem dX4_add_112 : decode cX4_add 112 = .ok (.ireturn, 1) := by decide +kernel
theorem dX4_actsIn_0 : decode cX4_actsIn 0 = .ok (.aload_n 0, 1) := by decide +kernel
theorem dX4_actsIn_1 : decode cX4_actsIn 1 = .ok (.getfield 24, 3) := by decide +kernel
theorem dX4_actsIn_4 : decode cX4_actsIn 4 = .ok (.iload_n 1, 1) := by decide +kernel
theorem dX4_actsIn_5 : decode cX4_actsIn 5 = .ok (.iconst 4, 1) := by decide +kernel
theorem dX4_actsIn_6 : decode cX4_actsIn 6 = .ok (.imul, 1) := by decide +kernel
theorem dX4_actsIn_7 : decode cX4_actsIn 7 = .ok (.iload_n 2, 1) := by decide +kernel
theorem dX4_actsIn_8 : decode cX4_actsIn 8 = .ok (.bipush 6, 2) := by decide +kernel
theorem dX4_actsIn_10 : decode cX4_actsIn 10 = .ok (.ishr, 1) := by decide +kernel
theorem dX4_actsIn_11 : decode cX4_actsIn 11 = .ok (.iadd, 1) := by decide +kernel
theorem dX4_actsIn_12 : decode cX4_actsIn 12 = .ok (.laload, 1) := by decide +kernel
theorem dX4_actsIn_13 : decode cX4_actsIn 13 = .ok (.iload_n 2, 1) := by decide +kernel
theorem dX4_actsIn_14 : decode cX4_actsIn 14 = .ok (.bipush 63, 2) := by decide +kernel
theorem dX4_actsIn_16 : decode cX4_actsIn 16 = .ok (.iand, 1) := by decide +kernel
theorem dX4_actsIn_17 : decode cX4_actsIn 17 = .ok (.lushr, 1) := by decide +kernel
theorem dX4_actsIn_18 : decode cX4_actsIn 18 = .ok (.lconst 1, 1) := by decide +kernel
theorem dX4_actsIn_19 : decode cX4_actsIn 19 = .ok (.land, 1) := by decide +kernel
theorem dX4_actsIn_20 : decode cX4_actsIn 20 = .ok (.lconst 0, 1) := by decide +kernel
theorem dX4_actsIn_21 : decode cX4_actsIn 21 = .ok (.lcmp, 1) := by decide +kernel
theorem dX4_actsIn_22 : decode cX4_actsIn 22 = .ok (.ifCond .eq 7, 3) := by decide +kernel
theorem dX4_actsIn_25 : decode cX4_actsIn 25 = .ok (.iconst 1, 1) := by decide +kernel
theorem dX4_actsIn_26 : decode cX4_actsIn 26 = .ok (.goto 4, 3) := by decide +kernel
theorem dX4_actsIn_29 : decode cX4_actsIn 29 = .ok (.iconst 0, 1) := by decide +kernel
theorem dX4_actsIn_30 : decode cX4_actsIn 30 = .ok (.ireturn, 1) := by decide +kernel
theorem dX4_partsOfInput_0 : decode cX4_partsOfInput 0 = .ok (.iload_n 1, 1) := by decide +kernel
theorem dX4_partsOfInput_1 : decode cX4_partsOfInput 1 = .ok (.bipush 12, 2) := by decide +kernel
theorem dX4_partsOfInput_3 : decode cX4_partsOfInput 3 = .ok (.if_icmp .ge 9, 3) := by decide +kernel
theorem dX4_partsOfInput_6 : decode cX4_partsOfInput 6 = .ok (.iconst 1, 1) := by decide +kernel
theorem dX4_partsOfInput_7 : decode cX4_partsOfInput 7 = .ok (.iload_n 1, 1) := by decide +kernel
theorem dX4_partsOfInput_8 : decode cX4_partsOfInput 8 = .ok (.ishl, 1) := by decide +kernel
theorem dX4_partsOfInput_9 : decode cX4_partsOfInput 9 = .ok (.goto 12, 3) := by decide +kernel
theorem dX4_partsOfInput_12 : decode cX4_partsOfInput 12 = .ok (.aload_n 0, 1) := by decide +kernel
theorem dX4_partsOfInput_13 : decode cX4_partsOfInput 13 = .ok (.getfield 21, 3) := by decide +kernel
theorem dX4_partsOfInput_16 : decode cX4_partsOfInput 16 = .ok (.iload_n 1, 1) := by decide +kernel
theorem dX4_partsOfInput_17 : decode cX4_partsOfInput 17 = .ok (.bipush 12, 2) := by decide +kernel
theorem dX4_partsOfInput_19 : decode cX4_partsOfInput 19 = .ok (.isub, 1) := by decide +kernel
theorem dX4_partsOfInput_20 : decode cX4_partsOfInput 20 = .ok (.iaload, 1) := by decide +kernel
theorem dX4_partsOfInput_21 : decode cX4_partsOfInput 21 = .ok (.ireturn, 1) := by decide +kernel
theorem dX4_workOutActingSets_0 : decode cX4_workOutActingSets 0 = .ok (.iconst 1, 1) := by decide +kernel
theorem dX4_workOutActingSets_1 : decode cX4_workOutActingSets 1 = .ok (.aload_n 0, 1) := by decide +kernel
theorem dX4_workOutActingSets_2 : decode cX4_workOutActingSets 2 = .ok (.iload_n 1, 1) := by decide +kernel
theorem dX4_workOutActingSets_3 : decode cX4_workOutActingSets 3 = .ok (.invokevirtual 41, 3) := by decide +kernel
theorem dX4_workOutActingSets_6 : decode cX4_workOutActingSets 6 = .ok (.ishl, 1) := by decide +kernel
theorem dX4_workOutActingSets_7 : decode cX4_workOutActingSets 7 = .ok (.istore_n 2, 1) := by decide +kernel
theorem dX4_workOutActingSets_8 : decode cX4_workOutActingSets 8 = .ok (.iconst 0, 1) := by decide +kernel
theorem dX4_workOutActingSets_9 : decode cX4_workOutActingSets 9 = .ok (.istore_n 3, 1) := by decide +kernel
theorem dX4_workOutActingSets_10 : decode cX4_workOutActingSets 10 = .ok (.iload_n 3, 1) := by decide +kernel
theorem dX4_workOutActingSets_11 : decode cX4_workOutActingSets 11 = .ok (.iload_n 2, 1) := by decide +kernel
theorem dX4_workOutActingSets_12 : decode cX4_workOutActingSets 12 = .ok (.if_icmp .ge 55, 3) := by decide +kernel
theorem dX4_workOutActingSets_15 : decode cX4_workOutActingSets 15 = .ok (.aload_n 0, 1) := by decide +kernel
theorem dX4_workOutActingSets_16 : decode cX4_workOutActingSets 16 = .ok (.iload_n 1, 1) := by decide +kernel
theorem dX4_workOutActingSets_17 : decode cX4_workOutActingSets 17 = .ok (.iload_n 3, 1) := by decide +kernel
theorem dX4_workOutActingSets_18 : decode cX4_workOutActingSets 18 = .ok (.aload_n 0, 1) := by decide +kernel
theorem dX4_workOutActingSets_19 : decode cX4_workOutActingSets 19 = .ok (.getfield 21, 3) := by decide +kernel
theorem dX4_workOutActingSets_22 : decode cX4_workOutActingSets 22 = .ok (.iload_n 1, 1) := by decide +kernel
theorem dX4_workOutActingSets_23 : decode cX4_workOutActingSets 23 = .ok (.iaload, 1) := by decide +kernel
theorem dX4_workOutActingSets_24 : decode cX4_workOutActingSets 24 = .ok (.invokestatic 48, 3) := by decide +kernel
theorem dX4_workOutActingSets_27 : decode cX4_workOutActingSets 27 = .ok (.invokevirtual 52, 3) := by decide +kernel
theorem dX4_workOutActingSets_30 : decode cX4_workOutActingSets 30 = .ok (.aload_n 0, 1) := by decide +kernel
theorem dX4_workOutActingSets_31 : decode cX4_workOutActingSets 31 = .ok (.getfield 9, 3) := by decide +kernel
theorem dX4_workOutActingSets_34 : decode cX4_workOutActingSets 34 = .ok (.iload_n 1, 1) := by decide +kernel
theorem dX4_workOutActingSets_35 : decode cX4_workOutActingSets 35 = .ok (.iaload, 1) := by decide +kernel
theorem dX4_workOutActingSets_36 : decode cX4_workOutActingSets 36 = .ok (.if_icmp .lt 25, 3) := by decide +kernel
theorem dX4_workOutActingSets_39 : decode cX4_workOutActingSets 39 = .ok (.aload_n 0, 1) := by decide +kernel
theorem dX4_workOutActingSets_40 : decode cX4_workOutActingSets 40 = .ok (.getfield 24, 3) := by decide +kernel
theorem dX4_workOutActingSets_43 : decode cX4_workOutActingSets 43 = .ok (.iload_n 1, 1) := by decide +kernel
theorem dX4_workOutActingSets_44 : decode cX4_workOutActingSets 44 = .ok (.iconst 4, 1) := by decide +kernel
theorem dX4_workOutActingSets_45 : decode cX4_workOutActingSets 45 = .ok (.imul, 1) := by decide +kernel
theorem dX4_workOutActingSets_46 : decode cX4_workOutActingSets 46 = .ok (.iload_n 3, 1) := by decide +kernel
theorem dX4_workOutActingSets_47 : decode cX4_workOutActingSets 47 = .ok (.bipush 6, 2) := by decide +kernel
theorem dX4_workOutActingSets_49 : decode cX4_workOutActingSets 49 = .ok (.ishr, 1) := by decide +kernel
theorem dX4_workOutActingSets_50 : decode cX4_workOutActingSets 50 = .ok (.iadd, 1) := by decide +kernel
theorem dX4_workOutActingSets_51 : decode cX4_workOutActingSets 51 = .ok (.dup2, 1) := by decide +kernel
theorem dX4_workOutActingSets_52 : decode cX4_workOutActingSets 52 = .ok (.laload, 1) := by decide +kernel
theorem dX4_workOutActingSets_53 : decode cX4_workOutActingSets 53 = .ok (.lconst 1, 1) := by decide +kernel
theorem dX4_workOutActingSets_54 : decode cX4_workOutActingSets 54 = .ok (.iload_n 3, 1) := by decide +kernel
theorem dX4_workOutActingSets_55 : decode cX4_workOutActingSets 55 = .ok (.bipush 63, 2) := by decide +kernel
theorem dX4_workOutActingSets_57 : decode cX4_workOutActingSets 57 = .ok (.iand, 1) := by decide +kernel
theorem dX4_workOutActingSets_58 : decode cX4_workOutActingSets 58 = .ok (.lshl, 1) := by decide +kernel
theorem dX4_workOutActingSets_59 : decode cX4_workOutActingSets 59 = .ok (.lor, 1) := by decide +kernel
theorem dX4_workOutActingSets_60 : decode cX4_workOutActingSets 60 = .ok (.lastore, 1) := by decide +kernel
theorem dX4_workOutActingSets_61 : decode cX4_workOutActingSets 61 = .ok (.iinc 3 1, 3) := by decide +kernel
theorem dX4_workOutActingSets_64 : decode cX4_workOutActingSets 64 = .ok (.goto (-54), 3) := by decide +kernel
theorem dX4_workOutActingSets_67 : decode cX4_workOutActingSets 67 = .ok (.return_, 1) := by decide +kernel
theorem dX4_actingInputs_0 : decode cX4_actingInputs 0 = .ok (.iconst 0, 1) := by decide +kernel
theorem dX4_actingInputs_1 : decode cX4_actingInputs 1 = .ok (.istore_n 3, 1) := by decide +kernel
theorem dX4_actingInputs_2 : decode cX4_actingInputs 2 = .ok (.iconst 0, 1) := by decide +kernel
theorem dX4_actingInputs_3 : decode cX4_actingInputs 3 = .ok (.istore 4, 2) := by decide +kernel
theorem dX4_actingInputs_5 : decode cX4_actingInputs 5 = .ok (.iload 4, 2) := by decide +kernel
theorem dX4_actingInputs_7 : decode cX4_actingInputs 7 = .ok (.aload_n 0, 1) := by decide +kernel
theorem dX4_actingInputs_8 : decode cX4_actingInputs 8 = .ok (.getfield 15, 3) := by decide +kernel
theorem dX4_actingInputs_11 : decode cX4_actingInputs 11 = .ok (.iload_n 1, 1) := by decide +kernel
theorem dX4_actingInputs_12 : decode cX4_actingInputs 12 = .ok (.iaload, 1) := by decide +kernel
theorem dX4_actingInputs_13 : decode cX4_actingInputs 13 = .ok (.if_icmp .ge 31, 3) := by decide +kernel
theorem dX4_actingInputs_16 : decode cX4_actingInputs 16 = .ok (.aload_n 0, 1) := by decide +kernel
theorem dX4_actingInputs_17 : decode cX4_actingInputs 17 = .ok (.aload_n 0, 1) := by decide +kernel
theorem dX4_actingInputs_18 : decode cX4_actingInputs 18 = .ok (.getfield 18, 3) := by decide +kernel
theorem dX4_actingInputs_21 : decode cX4_actingInputs 21 = .ok (.iload_n 1, 1) := by decide +kernel
theorem dX4_actingInputs_22 : decode cX4_actingInputs 22 = .ok (.iconst 4, 1) := by decide +kernel
theorem dX4_actingInputs_23 : decode cX4_actingInputs 23 = .ok (.imul, 1) := by decide +kernel
theorem dX4_actingInputs_24 : decode cX4_actingInputs 24 = .ok (.iload 4, 2) := by decide +kernel
theorem dX4_actingInputs_26 : decode cX4_actingInputs 26 = .ok (.iadd, 1) := by decide +kernel
theorem dX4_actingInputs_27 : decode cX4_actingInputs 27 = .ok (.iaload, 1) := by decide +kernel
theorem dX4_actingInputs_28 : decode cX4_actingInputs 28 = .ok (.iload_n 2, 1) := by decide +kernel
theorem dX4_actingInputs_29 : decode cX4_actingInputs 29 = .ok (.invokevirtual 55, 3) := by decide +kernel
theorem dX4_actingInputs_32 : decode cX4_actingInputs 32 = .ok (.ifCond .eq 6, 3) := by decide +kernel
theorem dX4_actingInputs_35 : decode cX4_actingInputs 35 = .ok (.iinc 3 1, 3) := by decide +kernel
theorem dX4_actingInputs_38 : decode cX4_actingInputs 38 = .ok (.iinc 4 1, 3) := by decide +kernel
theorem dX4_actingInputs_41 : decode cX4_actingInputs 41 = .ok (.goto (-36), 3) := by decide +kernel
theorem dX4_actingInputs_44 : decode cX4_actingInputs 44 = .ok (.iload_n 3, 1) := by decide +kernel
theorem dX4_actingInputs_45 : decode cX4_actingInputs 45 = .ok (.ireturn, 1) := by decide +kernel
theorem dX4_inputActs_0 : decode cX4_inputActs 0 = .ok (.iload_n 1, 1) := by decide +kernel
theorem dX4_inputActs_1 : decode cX4_inputActs 1 = .ok (.bipush 12, 2) := by decide +kernel
theorem dX4_inputActs_3 : decode cX4_inputActs 3 = .ok (.if_icmp .ge 9, 3) := by decide +kernel
theorem dX4_inputActs_6 : decode cX4_inputActs 6 = .ok (.iload_n 2, 1) := by decide +kernel
theorem dX4_inputActs_7 : decode cX4_inputActs 7 = .ok (.iload_n 1, 1) := by decide +kernel
theorem dX4_inputActs_8 : decode cX4_inputActs 8 = .ok (.invokestatic 59, 3) := by decide +kernel
theorem dX4_inputActs_11 : decode cX4_inputActs 11 = .ok (.ireturn, 1) := by decide +kernel
theorem dX4_inputActs_12 : decode cX4_inputActs 12 = .ok (.iload_n 1, 1) := by decide +kernel
theorem dX4_inputActs_13 : decode cX4_inputActs 13 = .ok (.bipush 12, 2) := by decide +kernel
theorem dX4_inputActs_15 : decode cX4_inputActs 15 = .ok (.isub, 1) := by decide +kernel
theorem dX4_inputActs_16 : decode cX4_inputActs 16 = .ok (.istore_n 3, 1) := by decide +kernel
theorem dX4_inputActs_17 : decode cX4_inputActs 17 = .ok (.aload_n 0, 1) := by decide +kernel
theorem dX4_inputActs_18 : decode cX4_inputActs 18 = .ok (.iload_n 3, 1) := by decide +kernel
theorem dX4_inputActs_19 : decode cX4_inputActs 19 = .ok (.iload_n 2, 1) := by decide +kernel
theorem dX4_inputActs_20 : decode cX4_inputActs 20 = .ok (.aload_n 0, 1) := by decide +kernel
theorem dX4_inputActs_21 : decode cX4_inputActs 21 = .ok (.getfield 21, 3) := by decide +kernel
theorem dX4_inputActs_24 : decode cX4_inputActs 24 = .ok (.iload_n 3, 1) := by decide +kernel
theorem dX4_inputActs_25 : decode cX4_inputActs 25 = .ok (.iaload, 1) := by decide +kernel
theorem dX4_inputActs_26 : decode cX4_inputActs 26 = .ok (.invokestatic 62, 3) := by decide +kernel
theorem dX4_inputActs_29 : decode cX4_inputActs 29 = .ok (.invokevirtual 65, 3) := by decide +kernel
theorem dX4_inputActs_32 : decode cX4_inputActs 32 = .ok (.ireturn, 1) := by decide +kernel
theorem dX5_init_0 : decode cX5_init 0 = .ok (.aload_n 0, 1) := by decide +kernel
theorem dX5_init_1 : decode cX5_init 1 = .ok (.invokespecial 1, 3) := by decide +kernel
theorem dX5_init_4 : decode cX5_init 4 = .ok (.aload_n 0, 1) := by decide +kernel
theorem dX5_init_5 : decode cX5_init 5 = .ok (.new 7, 3) := by decide +kernel
theorem dX5_init_8 : decode cX5_init 8 = .ok (.dup, 1) := by decide +kernel
theorem dX5_init_9 : decode cX5_init 9 = .ok (.invokespecial 9, 3) := by decide +kernel
theorem dX5_init_12 : decode cX5_init 12 = .ok (.putfield 10, 3) := by decide +kernel
theorem dX5_init_15 : decode cX5_init 15 = .ok (.aload_n 0, 1) := by decide +kernel
theorem dX5_init_16 : decode cX5_init 16 = .ok (.new 16, 3) := by decide +kernel
theorem dX5_init_19 : decode cX5_init 19 = .ok (.dup, 1) := by decide +kernel
theorem dX5_init_20 : decode cX5_init 20 = .ok (.invokespecial 18, 3) := by decide +kernel
theorem dX5_init_23 : decode cX5_init 23 = .ok (.putfield 19, 3) := by decide +kernel
theorem dX5_init_26 : decode cX5_init 26 = .ok (.aload_n 0, 1) := by decide +kernel
theorem dX5_init_27 : decode cX5_init 27 = .ok (.new 23, 3) := by decide +kernel
theorem dX5_init_30 : decode cX5_init 30 = .ok (.dup, 1) := by decide +kernel
theorem dX5_init_31 : decode cX5_init 31 = .ok (.invokespecial 25, 3) := by decide +kernel
theorem dX5_init_34 : decode cX5_init 34 = .ok (.putfield 26, 3) := by decide +kernel
theorem dX5_init_37 : decode cX5_init 37 = .ok (.aload_n 0, 1) := by decide +kernel
theorem dX5_init_38 : decode cX5_init 38 = .ok (.new 30, 3) := by decide +kernel
theorem dX5_init_41 : decode cX5_init 41 = .ok (.dup, 1) := by decide +kernel
theorem dX5_init_42 : decode cX5_init 42 = .ok (.aload_n 0, 1) := by decide +kernel
theorem dX5_init_43 : decode cX5_init 43 = .ok (.getfield 10, 3) := by decide +kernel
theorem dX5_init_46 : decode cX5_init 46 = .ok (.aload_n 0, 1) := by decide +kernel
theorem dX5_init_47 : decode cX5_init 47 = .ok (.getfield 19, 3) := by decide +kernel
theorem dX5_init_50 : decode cX5_init 50 = .ok (.aload_n 0, 1) := by decide +kernel
theorem dX5_init_51 : decode cX5_init 51 = .ok (.getfield 26, 3) := by decide +kernel
theorem dX5_init_54 : decode cX5_init 54 = .ok (.invokespecial 32, 3) := by decide +kernel
theorem dX5_init_57 : decode cX5_init 57 = .ok (.putfield 35, 3) := by decide +kernel
theorem dX5_init_60 : decode cX5_init 60 = .ok (.aload_n 0, 1) := by decide +kernel
theorem dX5_init_61 : decode cX5_init 61 = .ok (.new 39, 3) := by decide +kernel
theorem dX5_init_64 : decode cX5_init 64 = .ok (.dup, 1) := by decide +kernel
theorem dX5_init_65 : decode cX5_init 65 = .ok (.aload_n 0, 1) := by decide +kernel
theorem dX5_init_66 : decode cX5_init 66 = .ok (.getfield 10, 3) := by decide +kernel
theorem dX5_init_69 : decode cX5_init 69 = .ok (.aload_n 0, 1) := by decide +kernel
theorem dX5_init_70 : decode cX5_init 70 = .ok (.getfield 35, 3) := by decide +kernel
theorem dX5_init_73 : decode cX5_init 73 = .ok (.invokespecial 41, 3) := by decide +kernel
theorem dX5_init_76 : decode cX5_init 76 = .ok (.putfield 44, 3) := by decide +kernel
theorem dX5_init_79 : decode cX5_init 79 = .ok (.aload_n 0, 1) := by decide +kernel
theorem dX5_init_80 : decode cX5_init 80 = .ok (.iconst 4, 1) := by decide +kernel
theorem dX5_init_81 : decode cX5_init 81 = .ok (.newarray .int, 2) := by decide +kernel
theorem dX5_init_83 : decode cX5_init 83 = .ok (.putfield 48, 3) := by decide +kernel
theorem dX5_init_86 : decode cX5_init 86 = .ok (.return_, 1) := by decide +kernel
theorem dX5_part_0 : decode cX5_part 0 = .ok (.iload_n 1, 1) := by decide +kernel
theorem dX5_part_1 : decode cX5_part 1 = .ok (.invokestatic 52, 3) := by decide +kernel
theorem dX5_part_4 : decode cX5_part 4 = .ok (.ifCond .eq 17, 3) := by decide +kernel
theorem dX5_part_7 : decode cX5_part 7 = .ok (.iload_n 2, 1) := by decide +kernel
theorem dX5_part_8 : decode cX5_part 8 = .ok (.invokestatic 52, 3) := by decide +kernel
theorem dX5_part_11 : decode cX5_part 11 = .ok (.ifCond .eq 10, 3) := by decide +kernel
theorem dX5_part_14 : decode cX5_part 14 = .ok (.iload_n 3, 1) := by decide +kernel
theorem dX5_part_15 : decode cX5_part 15 = .ok (.invokestatic 52, 3) := by decide +kernel
theorem dX5_part_18 : decode cX5_part 18 = .ok (.ifCond .ne 5, 3) := by decide +kernel
theorem dX5_part_21 : decode cX5_part 21 = .ok (.iconst (-1), 1) := by decide +kernel
theorem dX5_part_22 : decode cX5_part 22 = .ok (.ireturn, 1) := by decide +kernel
theorem dX5_part_23 : decode cX5_part 23 = .ok (.aload_n 0, 1) := by decide +kernel
theorem dX5_part_24 : decode cX5_part 24 = .ok (.getfield 10, 3) := by decide +kernel
theorem dX5_part_27 : decode cX5_part 27 = .ok (.iload_n 1, 1) := by decide +kernel
theorem dX5_part_28 : decode cX5_part 28 = .ok (.iload_n 2, 1) := by decide +kernel
theorem dX5_part_29 : decode cX5_part 29 = .ok (.iload_n 3, 1) := by decide +kernel
theorem dX5_part_30 : decode cX5_part 30 = .ok (.invokevirtual 56, 3) := by decide +kernel
theorem dX5_part_33 : decode cX5_part 33 = .ok (.ireturn, 1) := by decide +kernel
theorem dX5_test_0 : decode cX5_test 0 = .ok (.aload_n 0, 1) := by decide +kernel
theorem dX5_test_1 : decode cX5_test 1 = .ok (.getfield 10, 3) := by decide +kernel
theorem dX5_test_4 : decode cX5_test 4 = .ok (.iload_n 1, 1) := by decide +kernel
theorem dX5_test_5 : decode cX5_test 5 = .ok (.invokevirtual 60, 3) := by decide +kernel
theorem dX5_test_8 : decode cX5_test 8 = .ok (.ifCond .eq 10, 3) := by decide +kernel
theorem dX5_test_11 : decode cX5_test 11 = .ok (.iload_n 2, 1) := by decide +kernel
theorem dX5_test_12 : decode cX5_test 12 = .ok (.invokestatic 63, 3) := by decide +kernel
theorem dX5_test_15 : decode cX5_test 15 = .ok (.ifCond .ne 5, 3) := by decide +kernel
theorem dX5_test_18 : decode cX5_test 18 = .ok (.iconst (-1), 1) := by decide +kernel
theorem dX5_test_19 : decode cX5_test 19 = .ok (.ireturn, 1) := by decide +kernel
theorem dX5_test_20 : decode cX5_test 20 = .ok (.aload_n 0, 1) := by decide +kernel
theorem dX5_test_21 : decode cX5_test 21 = .ok (.getfield 10, 3) := by decide +kernel
theorem dX5_test_24 : decode cX5_test 24 = .ok (.iload_n 1, 1) := by decide +kernel
theorem dX5_test_25 : decode cX5_test 25 = .ok (.iload_n 2, 1) := by decide +kernel
theorem dX5_test_26 : decode cX5_test 26 = .ok (.invokevirtual 66, 3) := by decide +kernel
theorem dX5_test_29 : decode cX5_test 29 = .ok (.ireturn, 1) := by decide +kernel
theorem dX5_noTests_0 : decode cX5_noTests 0 = .ok (.aload_n 0, 1) := by decide +kernel
theorem dX5_noTests_1 : decode cX5_noTests 1 = .ok (.getfield 10, 3) := by decide +kernel
theorem dX5_noTests_4 : decode cX5_noTests 4 = .ok (.iload_n 1, 1) := by decide +kernel
theorem dX5_noTests_5 : decode cX5_noTests 5 = .ok (.invokevirtual 60, 3) := by decide +kernel
theorem dX5_noTests_8 : decode cX5_noTests 8 = .ok (.ifCond .eq 10, 3) := by decide +kernel
theorem dX5_noTests_11 : decode cX5_noTests 11 = .ok (.iload_n 2, 1) := by decide +kernel
theorem dX5_noTests_12 : decode cX5_noTests 12 = .ok (.invokestatic 63, 3) := by decide +kernel
theorem dX5_noTests_15 : decode cX5_noTests 15 = .ok (.ifCond .ne 5, 3) := by decide +kernel
theorem dX5_noTests_18 : decode cX5_noTests 18 = .ok (.iconst (-1), 1) := by decide +kernel
