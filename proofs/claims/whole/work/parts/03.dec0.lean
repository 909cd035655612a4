theorem dJ6_bitCount_0f7a4_0 : decode cJ6_bitCount_0f7a4 0 = .ok (.iload_n 0, 1) := by decide +kernel
theorem dJ6_bitCount_0f7a4_1 : decode cJ6_bitCount_0f7a4 1 = .ok (.iload_n 0, 1) := by decide +kernel
theorem dJ6_bitCount_0f7a4_2 : decode cJ6_bitCount_0f7a4 2 = .ok (.iconst 1, 1) := by decide +kernel
theorem dJ6_bitCount_0f7a4_3 : decode cJ6_bitCount_0f7a4 3 = .ok (.iushr, 1) := by decide +kernel
theorem dJ6_bitCount_0f7a4_4 : decode cJ6_bitCount_0f7a4 4 = .ok (.ldc_w 265, 3) := by decide +kernel
theorem dJ6_bitCount_0f7a4_7 : decode cJ6_bitCount_0f7a4 7 = .ok (.iand, 1) := by decide +kernel
theorem dJ6_bitCount_0f7a4_8 : decode cJ6_bitCount_0f7a4 8 = .ok (.isub, 1) := by decide +kernel
theorem dJ6_bitCount_0f7a4_9 : decode cJ6_bitCount_0f7a4 9 = .ok (.istore_n 0, 1) := by decide +kernel
theorem dJ6_bitCount_0f7a4_10 : decode cJ6_bitCount_0f7a4 10 = .ok (.iload_n 0, 1) := by decide +kernel
theorem dJ6_bitCount_0f7a4_11 : decode cJ6_bitCount_0f7a4 11 = .ok (.ldc_w 266, 3) := by decide +kernel
theorem dJ6_bitCount_0f7a4_14 : decode cJ6_bitCount_0f7a4 14 = .ok (.iand, 1) := by decide +kernel
theorem dJ6_bitCount_0f7a4_15 : decode cJ6_bitCount_0f7a4 15 = .ok (.iload_n 0, 1) := by decide +kernel
theorem dJ6_bitCount_0f7a4_16 : decode cJ6_bitCount_0f7a4 16 = .ok (.iconst 2, 1) := by decide +kernel
theorem dJ6_bitCount_0f7a4_17 : decode cJ6_bitCount_0f7a4 17 = .ok (.iushr, 1) := by decide +kernel
theorem dJ6_bitCount_0f7a4_18 : decode cJ6_bitCount_0f7a4 18 = .ok (.ldc_w 266, 3) := by decide +kernel
theorem dJ6_bitCount_0f7a4_21 : decode cJ6_bitCount_0f7a4 21 = .ok (.iand, 1) := by decide +kernel
theorem dJ6_bitCount_0f7a4_22 : decode cJ6_bitCount_0f7a4 22 = .ok (.iadd, 1) := by decide +kernel
theorem dJ6_bitCount_0f7a4_23 : decode cJ6_bitCount_0f7a4 23 = .ok (.istore_n 0, 1) := by decide +kernel
theorem dJ6_bitCount_0f7a4_24 : decode cJ6_bitCount_0f7a4 24 = .ok (.iload_n 0, 1) := by decide +kernel
theorem dJ6_bitCount_0f7a4_25 : decode cJ6_bitCount_0f7a4 25 = .ok (.iload_n 0, 1) := by decide +kernel
theorem dJ6_bitCount_0f7a4_26 : decode cJ6_bitCount_0f7a4 26 = .ok (.iconst 4, 1) := by decide +kernel
theorem dJ6_bitCount_0f7a4_27 : decode cJ6_bitCount_0f7a4 27 = .ok (.iushr, 1) := by decide +kernel
theorem dJ6_bitCount_0f7a4_28 : decode cJ6_bitCount_0f7a4 28 = .ok (.iadd, 1) := by decide +kernel
theorem dJ6_bitCount_0f7a4_29 : decode cJ6_bitCount_0f7a4 29 = .ok (.ldc_w 267, 3) := by decide +kernel
theorem dJ6_bitCount_0f7a4_32 : decode cJ6_bitCount_0f7a4 32 = .ok (.iand, 1) := by decide +kernel
theorem dJ6_bitCount_0f7a4_33 : decode cJ6_bitCount_0f7a4 33 = .ok (.istore_n 0, 1) := by decide +kernel
theorem dJ6_bitCount_0f7a4_34 : decode cJ6_bitCount_0f7a4 34 = .ok (.iload_n 0, 1) := by decide +kernel
theorem dJ6_bitCount_0f7a4_35 : decode cJ6_bitCount_0f7a4 35 = .ok (.iload_n 0, 1) := by decide +kernel
theorem dJ6_bitCount_0f7a4_36 : decode cJ6_bitCount_0f7a4 36 = .ok (.bipush 8, 2) := by decide +kernel
theorem dJ6_bitCount_0f7a4_38 : decode cJ6_bitCount_0f7a4 38 = .ok (.iushr, 1) := by decide +kernel
theorem dJ6_bitCount_0f7a4_39 : decode cJ6_bitCount_0f7a4 39 = .ok (.iadd, 1) := by decide +kernel
theorem dJ6_bitCount_0f7a4_40 : decode cJ6_bitCount_0f7a4 40 = .ok (.istore_n 0, 1) := by decide +kernel
theorem dJ6_bitCount_0f7a4_41 : decode cJ6_bitCount_0f7a4 41 = .ok (.iload_n 0, 1) := by decide +kernel
theorem dJ6_bitCount_0f7a4_42 : decode cJ6_bitCount_0f7a4 42 = .ok (.iload_n 0, 1) := by decide +kernel
theorem dJ6_bitCount_0f7a4_43 : decode cJ6_bitCount_0f7a4 43 = .ok (.bipush 16, 2) := by decide +kernel
theorem dJ6_bitCount_0f7a4_45 : decode cJ6_bitCount_0f7a4 45 = .ok (.iushr, 1) := by decide +kernel
theorem dJ6_bitCount_0f7a4_46 : decode cJ6_bitCount_0f7a4 46 = .ok (.iadd, 1) := by decide +kernel
theorem dJ6_bitCount_0f7a4_47 : decode cJ6_bitCount_0f7a4 47 = .ok (.istore_n 0, 1) := by decide +kernel
theorem dJ6_bitCount_0f7a4_48 : decode cJ6_bitCount_0f7a4 48 = .ok (.iload_n 0, 1) := by decide +kernel
theorem dJ6_bitCount_0f7a4_49 : decode cJ6_bitCount_0f7a4 49 = .ok (.bipush 63, 2) := by decide +kernel
theorem dJ6_bitCount_0f7a4_51 : decode cJ6_bitCount_0f7a4 51 = .ok (.iand, 1) := by decide +kernel
theorem dJ6_bitCount_0f7a4_52 : decode cJ6_bitCount_0f7a4 52 = .ok (.ireturn, 1) := by decide +kernel
theorem dJ13_bitCount_95d88_0 : decode cJ13_bitCount_95d88 0 = .ok (.lload_n 0, 1) := by decide +kernel
theorem dJ13_bitCount_95d88_1 : decode cJ13_bitCount_95d88 1 = .ok (.lload_n 0, 1) := by decide +kernel
theorem dJ13_bitCount_95d88_2 : decode cJ13_bitCount_95d88 2 = .ok (.iconst 1, 1) := by decide +kernel
theorem dJ13_bitCount_95d88_3 : decode cJ13_bitCount_95d88 3 = .ok (.lushr, 1) := by decide +kernel
theorem dJ13_bitCount_95d88_4 : decode cJ13_bitCount_95d88 4 = .ok (.ldc2_w 314, 3) := by decide +kernel
theorem dJ13_bitCount_95d88_7 : decode cJ13_bitCount_95d88 7 = .ok (.land, 1) := by decide +kernel
theorem dJ13_bitCount_95d88_8 : decode cJ13_bitCount_95d88 8 = .ok (.lsub, 1) := by decide +kernel
theorem dJ13_bitCount_95d88_9 : decode cJ13_bitCount_95d88 9 = .ok (.lstore_n 0, 1) := by decide +kernel
theorem dJ13_bitCount_95d88_10 : decode cJ13_bitCount_95d88 10 = .ok (.lload_n 0, 1) := by decide +kernel
theorem dJ13_bitCount_95d88_11 : decode cJ13_bitCount_95d88 11 = .ok (.ldc2_w 316, 3) := by decide +kernel
theorem dJ13_bitCount_95d88_14 : decode cJ13_bitCount_95d88 14 = .ok (.land, 1) := by decide +kernel
theorem dJ13_bitCount_95d88_15 : decode cJ13_bitCount_95d88 15 = .ok (.lload_n 0, 1) := by decide +kernel
theorem dJ13_bitCount_95d88_16 : decode cJ13_bitCount_95d88 16 = .ok (.iconst 2, 1) := by decide +kernel
theorem dJ13_bitCount_95d88_17 : decode cJ13_bitCount_95d88 17 = .ok (.lushr, 1) := by decide +kernel
theorem dJ13_bitCount_95d88_18 : decode cJ13_bitCount_95d88 18 = .ok (.ldc2_w 316, 3) := by decide +kernel
theorem dJ13_bitCount_95d88_21 : decode cJ13_bitCount_95d88 21 = .ok (.land, 1) := by decide +kernel
theorem dJ13_bitCount_95d88_22 : decode cJ13_bitCount_95d88 22 = .ok (.ladd, 1) := by decide +kernel
theorem dJ13_bitCount_95d88_23 : decode cJ13_bitCount_95d88 23 = .ok (.lstore_n 0, 1) := by decide +kernel
theorem dJ13_bitCount_95d88_24 : decode cJ13_bitCount_95d88 24 = .ok (.lload_n 0, 1) := by decide +kernel
theorem dJ13_bitCount_95d88_25 : decode cJ13_bitCount_95d88 25 = .ok (.lload_n 0, 1) := by decide +kernel
theorem dJ13_bitCount_95d88_26 : decode cJ13_bitCount_95d88 26 = .ok (.iconst 4, 1) := by decide +kernel
theorem dJ13_bitCount_95d88_27 : decode cJ13_bitCount_95d88 27 = .ok (.lushr, 1) := by decide +kernel
theorem dJ13_bitCount_95d88_28 : decode cJ13_bitCount_95d88 28 = .ok (.ladd, 1) := by decide +kernel
theorem dJ13_bitCount_95d88_29 : decode cJ13_bitCount_95d88 29 = .ok (.ldc2_w 318, 3) := by decide +kernel
theorem dJ13_bitCount_95d88_32 : decode cJ13_bitCount_95d88 32 = .ok (.land, 1) := by decide +kernel
theorem dJ13_bitCount_95d88_33 : decode cJ13_bitCount_95d88 33 = .ok (.lstore_n 0, 1) := by decide +kernel
theorem dJ13_bitCount_95d88_34 : decode cJ13_bitCount_95d88 34 = .ok (.lload_n 0, 1) := by decide +kernel
theorem dJ13_bitCount_95d88_35 : decode cJ13_bitCount_95d88 35 = .ok (.lload_n 0, 1) := by decide +kernel
theorem dJ13_bitCount_95d88_36 : decode cJ13_bitCount_95d88 36 = .ok (.bipush 8, 2) := by decide +kernel
theorem dJ13_bitCount_95d88_38 : decode cJ13_bitCount_95d88 38 = .ok (.lushr, 1) := by decide +kernel
theorem dJ13_bitCount_95d88_39 : decode cJ13_bitCount_95d88 39 = .ok (.ladd, 1) := by decide +kernel
theorem dJ13_bitCount_95d88_40 : decode cJ13_bitCount_95d88 40 = .ok (.lstore_n 0, 1) := by decide +kernel
theorem dJ13_bitCount_95d88_41 : decode cJ13_bitCount_95d88 41 = .ok (.lload_n 0, 1) := by decide +kernel
theorem dJ13_bitCount_95d88_42 : decode cJ13_bitCount_95d88 42 = .ok (.lload_n 0, 1) := by decide +kernel
theorem dJ13_bitCount_95d88_43 : decode cJ13_bitCount_95d88 43 = .ok (.bipush 16, 2) := by decide +kernel
theorem dJ13_bitCount_95d88_45 : decode cJ13_bitCount_95d88 45 = .ok (.lushr, 1) := by decide +kernel
theorem dJ13_bitCount_95d88_46 : decode cJ13_bitCount_95d88 46 = .ok (.ladd, 1) := by decide +kernel
theorem dJ13_bitCount_95d88_47 : decode cJ13_bitCount_95d88 47 = .ok (.lstore_n 0, 1) := by decide +kernel
theorem dJ13_bitCount_95d88_48 : decode cJ13_bitCount_95d88 48 = .ok (.lload_n 0, 1) := by decide +kernel
theorem dJ13_bitCount_95d88_49 : decode cJ13_bitCount_95d88 49 = .ok (.lload_n 0, 1) := by decide +kernel
theorem dJ13_bitCount_95d88_50 : decode cJ13_bitCount_95d88 50 = .ok (.bipush 32, 2) := by decide +kernel
theorem dJ13_bitCount_95d88_52 : decode cJ13_bitCount_95d88 52 = .ok (.lushr, 1) := by decide +kernel
theorem dJ13_bitCount_95d88_53 : decode cJ13_bitCount_95d88 53 = .ok (.ladd, 1) := by decide +kernel
theorem dJ13_bitCount_95d88_54 : decode cJ13_bitCount_95d88 54 = .ok (.lstore_n 0, 1) := by decide +kernel
theorem dJ13_bitCount_95d88_55 : decode cJ13_bitCount_95d88 55 = .ok (.lload_n 0, 1) := by decide +kernel
theorem dJ13_bitCount_95d88_56 : decode cJ13_bitCount_95d88 56 = .ok (.l2i, 1) := by decide +kernel
theorem dJ13_bitCount_95d88_57 : decode cJ13_bitCount_95d88 57 = .ok (.bipush 127, 2) := by decide +kernel
theorem dJ13_bitCount_95d88_59 : decode cJ13_bitCount_95d88 59 = .ok (.iand, 1) := by decide +kernel
theorem dJ13_bitCount_95d88_60 : decode cJ13_bitCount_95d88 60 = .ok (.ireturn, 1) := by decide +kernel
theorem dJ9_max_7cf53_0 : decode cJ9_max_7cf53 0 = .ok (.iload_n 0, 1) := by decide +kernel
theorem dJ9_max_7cf53_1 : decode cJ9_max_7cf53 1 = .ok (.iload_n 1, 1) := by decide +kernel
theorem dJ9_max_7cf53_2 : decode cJ9_max_7cf53 2 = .ok (.if_icmp .lt 7, 3) := by decide +kernel
theorem dJ9_max_7cf53_5 : decode cJ9_max_7cf53 5 = .ok (.iload_n 0, 1) := by decide +kernel
theorem dJ9_max_7cf53_6 : decode cJ9_max_7cf53 6 = .ok (.goto 4, 3) := by decide +kernel
theorem dJ9_max_7cf53_9 : decode cJ9_max_7cf53 9 = .ok (.iload_n 1, 1) := by decide +kernel
theorem dJ9_max_7cf53_10 : decode cJ9_max_7cf53 10 = .ok (.ireturn, 1) := by decide +kernel
theorem dJ9_min_7cf53_0 : decode cJ9_min_7cf53 0 = .ok (.iload_n 0, 1) := by decide +kernel
theorem dJ9_min_7cf53_1 : decode cJ9_min_7cf53 1 = .ok (.iload_n 1, 1) := by decide +kernel
theorem dJ9_min_7cf53_2 : decode cJ9_min_7cf53 2 = .ok (.if_icmp .gt 7, 3) := by decide +kernel
theorem dJ9_min_7cf53_5 : decode cJ9_min_7cf53 5 = .ok (.iload_n 0, 1) := by decide +kernel
theorem dJ9_min_7cf53_6 : decode cJ9_min_7cf53 6 = .ok (.goto 4, 3) := by decide +kernel
theorem dJ9_min_7cf53_9 : decode cJ9_min_7cf53 9 = .ok (.iload_n 1, 1) := by decide +kernel
theorem dJ9_min_7cf53_10 : decode cJ9_min_7cf53 10 = .ok (.ireturn, 1) := by decide +kernel
theorem dX0_init_0 : decode cX0_init 0 = .ok (.aload_n 0, 1) := by decide +kernel
theorem dX0_init_1 : decode cX0_init 1 = .ok (.invokespecial 3, 3) := by decide +kernel
theorem dX0_init_4 : decode cX0_init 4 = .ok (.aload_n 0, 1) := by decide +kernel
theorem dX0_init_5 : decode cX0_init 5 = .ok (.iconst 4, 1) := by decide +kernel
theorem dX0_init_6 : decode cX0_init 6 = .ok (.newarray .int, 2) := by decide +kernel
theorem dX0_init_8 : decode cX0_init 8 = .ok (.putfield 9, 3) := by decide +kernel
theorem dX0_init_11 : decode cX0_init 11 = .ok (.aload_n 0, 1) := by decide +kernel
theorem dX0_init_12 : decode cX0_init 12 = .ok (.iconst 4, 1) := by decide +kernel
theorem dX0_init_13 : decode cX0_init 13 = .ok (.newarray .int, 2) := by decide +kernel
theorem dX0_init_15 : decode cX0_init 15 = .ok (.putfield 15, 3) := by decide +kernel
theorem dX0_init_18 : decode cX0_init 18 = .ok (.aload_n 0, 1) := by decide +kernel
theorem dX0_init_19 : decode cX0_init 19 = .ok (.iconst 0, 1) := by decide +kernel
theorem dX0_init_20 : decode cX0_init 20 = .ok (.putfield 18, 3) := by decide +kernel
theorem dX0_init_23 : decode cX0_init 23 = .ok (.return_, 1) := by decide +kernel
theorem dX0_size_0 : decode cX0_size 0 = .ok (.aload_n 0, 1) := by decide +kernel
theorem dX0_size_1 : decode cX0_size 1 = .ok (.getfield 18, 3) := by decide +kernel
theorem dX0_size_4 : decode cX0_size 4 = .ok (.ireturn, 1) := by decide +kernel
theorem dX0_add_0 : decode cX0_add 0 = .ok (.aload_n 0, 1) := by decide +kernel
theorem dX0_add_1 : decode cX0_add 1 = .ok (.getfield 18, 3) := by decide +kernel
theorem dX0_add_4 : decode cX0_add 4 = .ok (.iconst 4, 1) := by decide +kernel
theorem dX0_add_5 : decode cX0_add 5 = .ok (.if_icmp .lt 6, 3) := by decide +kernel
theorem dX0_add_8 : decode cX0_add 8 = .ok (.bipush (-3), 2) := by decide +kernel
theorem dX0_add_10 : decode cX0_add 10 = .ok (.ireturn, 1) := by decide +kernel
theorem dX0_add_11 : decode cX0_add 11 = .ok (.aload_n 0, 1) := by decide +kernel
theorem dX0_add_12 : decode cX0_add 12 = .ok (.getfield 9, 3) := by decide +kernel
theorem dX0_add_15 : decode cX0_add 15 = .ok (.aload_n 0, 1) := by decide +kernel
theorem dX0_add_16 : decode cX0_add 16 = .ok (.getfield 18, 3) := by decide +kernel
theorem dX0_add_19 : decode cX0_add 19 = .ok (.iload_n 1, 1) := by decide +kernel
theorem dX0_add_20 : decode cX0_add 20 = .ok (.iastore, 1) := by decide +kernel
theorem dX0_add_21 : decode cX0_add 21 = .ok (.aload_n 0, 1) := by decide +kernel
theorem dX0_add_22 : decode cX0_add 22 = .ok (.getfield 15, 3) := by decide +kernel
theorem dX0_add_25 : decode cX0_add 25 = .ok (.aload_n 0, 1) := by decide +kernel
theorem dX0_add_26 : decode cX0_add 26 = .ok (.getfield 18, 3) := by decide +kernel
theorem dX0_add_29 : decode cX0_add 29 = .ok (.iload_n 2, 1) := by decide +kernel
theorem dX0_add_30 : decode cX0_add 30 = .ok (.iastore, 1) := by decide +kernel
theorem dX0_add_31 : decode cX0_add 31 = .ok (.aload_n 0, 1) := by decide +kernel
theorem dX0_add_32 : decode cX0_add 32 = .ok (.dup, 1) := by decide +kernel
theorem dX0_add_33 : decode cX0_add 33 = .ok (.getfield 18, 3) := by decide +kernel
theorem dX0_add_36 : decode cX0_add 36 = .ok (.iconst 1, 1) := by decide +kernel
theorem dX0_add_37 : decode cX0_add 37 = .ok (.iadd, 1) := by decide +kernel
theorem dX0_add_38 : decode cX0_add 38 = .ok (.putfield 18, 3) := by decide +kernel
theorem dX0_add_41 : decode cX0_add 41 = .ok (.aload_n 0, 1) := by decide +kernel
theorem dX0_add_42 : decode cX0_add 42 = .ok (.getfield 18, 3) := by decide +kernel
theorem dX0_add_45 : decode cX0_add 45 = .ok (.iconst 1, 1) := by decide +kernel
theorem dX0_add_46 : decode cX0_add 46 = .ok (.isub, 1) := by decide +kernel
theorem dX0_add_47 : decode cX0_add 47 = .ok (.ireturn, 1) := by decide +kernel
theorem dX0_shareOf_0 : decode cX0_shareOf 0 = .ok (.aload_n 0, 1) := by decide +kernel
theorem dX0_shareOf_1 : decode cX0_shareOf 1 = .ok (.getfield 9, 3) := by decide +kernel
theorem dX0_shareOf_4 : decode cX0_shareOf 4 = .ok (.iload_n 1, 1) := by decide +kernel
theorem dX0_shareOf_5 : decode cX0_shareOf 5 = .ok (.iaload, 1) := by decide +kernel
theorem dX0_shareOf_6 : decode cX0_shareOf 6 = .ok (.ireturn, 1) := by decide +kernel
theorem dX0_struckBy_0 : decode cX0_struckBy 0 = .ok (.aload_n 0, 1) := by decide +kernel
theorem dX0_struckBy_1 : decode cX0_struckBy 1 = .ok (.getfield 15, 3) := by decide +kernel
theorem dX0_struckBy_4 : decode cX0_struckBy 4 = .ok (.iload_n 1, 1) := by decide +kernel
theorem dX0_struckBy_5 : decode cX0_struckBy 5 = .ok (.iaload, 1) := by decide +kernel
theorem dX0_struckBy_6 : decode cX0_struckBy 6 = .ok (.ireturn, 1) := by decide +kernel
theorem dX0_striking_0 : decode cX0_striking 0 = .ok (.iconst 0, 1) := by decide +kernel
theorem dX0_striking_1 : decode cX0_striking 1 = .ok (.istore_n 2, 1) := by decide +kernel
theorem dX0_striking_2 : decode cX0_striking 2 = .ok (.iconst 0, 1) := by decide +kernel
theorem dX0_striking_3 : decode cX0_striking 3 = .ok (.istore_n 3, 1) := by decide +kernel
theorem dX0_striking_4 : decode cX0_striking 4 = .ok (.iload_n 3, 1) := by decide +kernel
theorem dX0_striking_5 : decode cX0_striking 5 = .ok (.aload_n 0, 1) := by decide +kernel
theorem dX0_striking_6 : decode cX0_striking 6 = .ok (.getfield 18, 3) := by decide +kernel
theorem dX0_striking_9 : decode cX0_striking 9 = .ok (.if_icmp .ge 26, 3) := by decide +kernel
theorem dX0_striking_12 : decode cX0_striking 12 = .ok (.aload_n 0, 1) := by decide +kernel
theorem dX0_striking_13 : decode cX0_striking 13 = .ok (.getfield 15, 3) := by decide +kernel
theorem dX0_striking_16 : decode cX0_striking 16 = .ok (.iload_n 3, 1) := by decide +kernel
theorem dX0_striking_17 : decode cX0_striking 17 = .ok (.iaload, 1) := by decide +kernel
theorem dX0_striking_18 : decode cX0_striking 18 = .ok (.iload_n 1, 1) := by decide +kernel
theorem dX0_striking_19 : decode cX0_striking 19 = .ok (.iand, 1) := by decide +kernel
theorem dX0_striking_20 : decode cX0_striking 20 = .ok (.ifCond .eq 9, 3) := by decide +kernel
theorem dX0_striking_23 : decode cX0_striking 23 = .ok (.iload_n 2, 1) := by decide +kernel
theorem dX0_striking_24 : decode cX0_striking 24 = .ok (.iconst 1, 1) := by decide +kernel
theorem dX0_striking_25 : decode cX0_striking 25 = .ok (.iload_n 3, 1) := by decide +kernel
theorem dX0_striking_26 : decode cX0_striking 26 = .ok (.ishl, 1) := by decide +kernel
theorem dX0_striking_27 : decode cX0_striking 27 = .ok (.ior, 1) := by decide +kernel
theorem dX0_striking_28 : decode cX0_striking 28 = .ok (.istore_n 2, 1) := by decide +kernel
theorem dX0_striking_29 : decode cX0_striking 29 = .ok (.iinc 3 1, 3) := by decide +kernel
theorem dX0_striking_32 : decode cX0_striking 32 = .ok (.goto (-28), 3) := by decide +kernel
theorem dX0_striking_35 : decode cX0_striking 35 = .ok (.iload_n 2, 1) := by decide +kernel
theorem dX0_striking_36 : decode cX0_striking 36 = .ok (.ireturn, 1) := by decide +kernel
theorem dX1_init_0 : decode cX1_init 0 = .ok (.aload_n 0, 1) := by decide +kernel
theorem dX1_init_1 : decode cX1_init 1 = .ok (.invokespecial 3, 3) := by decide +kernel
theorem dX1_init_4 : decode cX1_init 4 = .ok (.aload_n 0, 1) := by decide +kernel
theorem dX1_init_5 : decode cX1_init 5 = .ok (.sipush 256, 3) := by decide +kernel
theorem dX1_init_8 : decode cX1_init 8 = .ok (.newarray .long, 2) := by decide +kernel
theorem dX1_init_10 : decode cX1_init 10 = .ok (.putfield 9, 3) := by decide +kernel
theorem dX1_init_13 : decode cX1_init 13 = .ok (.aload_n 0, 1) := by decide +kernel
theorem dX1_init_14 : decode cX1_init 14 = .ok (.sipush 256, 3) := by decide +kernel
theorem dX1_init_17 : decode cX1_init 17 = .ok (.newarray .long, 2) := by decide +kernel
theorem dX1_init_19 : decode cX1_init 19 = .ok (.putfield 15, 3) := by decide +kernel
theorem dX1_init_22 : decode cX1_init 22 = .ok (.aload_n 0, 1) := by decide +kernel
theorem dX1_init_23 : decode cX1_init 23 = .ok (.bipush 8, 2) := by decide +kernel
theorem dX1_init_25 : decode cX1_init 25 = .ok (.newarray .int, 2) := by decide +kernel
theorem dX1_init_27 : decode cX1_init 27 = .ok (.putfield 18, 3) := by decide +kernel
theorem dX1_init_30 : decode cX1_init 30 = .ok (.aload_n 0, 1) := by decide +kernel
theorem dX1_init_31 : decode cX1_init 31 = .ok (.bipush 8, 2) := by decide +kernel
theorem dX1_init_33 : decode cX1_init 33 = .ok (.newarray .int, 2) := by decide +kernel
theorem dX1_init_35 : decode cX1_init 35 = .ok (.putfield 22, 3) := by decide +kernel
theorem dX1_init_38 : decode cX1_init 38 = .ok (.aload_n 0, 1) := by decide +kernel
theorem dX1_init_39 : decode cX1_init 39 = .ok (.iconst 0, 1) := by decide +kernel
theorem dX1_init_40 : decode cX1_init 40 = .ok (.putfield 25, 3) := by decide +kernel
theorem dX1_init_43 : decode cX1_init 43 = .ok (.aload_n 0, 1) := by decide +kernel
theorem dX1_init_44 : decode cX1_init 44 = .ok (.iconst 0, 1) := by decide +kernel
theorem dX1_init_45 : decode cX1_init 45 = .ok (.putfield 29, 3) := by decide +kernel
theorem dX1_init_48 : decode cX1_init 48 = .ok (.aload_n 0, 1) := by decide +kernel
theorem dX1_init_49 : decode cX1_init 49 = .ok (.aload_n 1, 1) := by decide +kernel
theorem dX1_init_50 : decode cX1_init 50 = .ok (.putfield 32, 3) := by decide +kernel
theorem dX1_init_53 : decode cX1_init 53 = .ok (.aload_n 0, 1) := by decide +kernel
theorem dX1_init_54 : decode cX1_init 54 = .ok (.aload_n 2, 1) := by decide +kernel
theorem dX1_init_55 : decode cX1_init 55 = .ok (.putfield 36, 3) := by decide +kernel
theorem dX1_init_58 : decode cX1_init 58 = .ok (.aload_n 0, 1) := by decide +kernel
theorem dX1_init_59 : decode cX1_init 59 = .ok (.aload_n 3, 1) := by decide +kernel
theorem dX1_init_60 : decode cX1_init 60 = .ok (.putfield 40, 3) := by decide +kernel
theorem dX1_init_63 : decode cX1_init 63 = .ok (.return_, 1) := by decide +kernel
theorem dX1_groupsOf_0 : decode cX1_groupsOf 0 = .ok (.aload_n 0, 1) := by decide +kernel
theorem dX1_groupsOf_1 : decode cX1_groupsOf 1 = .ok (.getfield 36, 3) := by decide +kernel
theorem dX1_groupsOf_4 : decode cX1_groupsOf 4 = .ok (.aload_n 0, 1) := by decide +kernel
theorem dX1_groupsOf_5 : decode cX1_groupsOf 5 = .ok (.getfield 40, 3) := by decide +kernel
theorem dX1_groupsOf_8 : decode cX1_groupsOf 8 = .ok (.iload_n 1, 1) := by decide +kernel
theorem dX1_groupsOf_9 : decode cX1_groupsOf 9 = .ok (.invokevirtual 44, 3) := by decide +kernel
theorem dX1_groupsOf_12 : decode cX1_groupsOf 12 = .ok (.invokevirtual 50, 3) := by decide +kernel
theorem dX1_groupsOf_15 : decode cX1_groupsOf 15 = .ok (.ireturn, 1) := by decide +kernel
theorem dX1_eventsOf_0 : decode cX1_eventsOf 0 = .ok (.aload_n 0, 1) := by decide +kernel
theorem dX1_eventsOf_1 : decode cX1_eventsOf 1 = .ok (.getfield 40, 3) := by decide +kernel
theorem dX1_eventsOf_4 : decode cX1_eventsOf 4 = .ok (.iload_n 1, 1) := by decide +kernel
theorem dX1_eventsOf_5 : decode cX1_eventsOf 5 = .ok (.invokevirtual 55, 3) := by decide +kernel
theorem dX1_eventsOf_8 : decode cX1_eventsOf 8 = .ok (.aload_n 0, 1) := by decide +kernel
theorem dX1_eventsOf_9 : decode cX1_eventsOf 9 = .ok (.iload_n 1, 1) := by decide +kernel
theorem dX1_eventsOf_10 : decode cX1_eventsOf 10 = .ok (.invokevirtual 58, 3) := by decide +kernel
theorem dX1_eventsOf_13 : decode cX1_eventsOf 13 = .ok (.invokestatic 61, 3) := by decide +kernel
theorem dX1_eventsOf_16 : decode cX1_eventsOf 16 = .ok (.iadd, 1) := by decide +kernel
theorem dX1_eventsOf_17 : decode cX1_eventsOf 17 = .ok (.ireturn, 1) := by decide +kernel
theorem dX1_hasTooManyEvents_0 : decode cX1_hasTooManyEvents 0 = .ok (.aload_n 0, 1) := by decide +kernel
theorem dX1_hasTooManyEvents_1 : decode cX1_hasTooManyEvents 1 = .ok (.iload_n 1, 1) := by decide +kernel
theorem dX1_hasTooManyEvents_2 : decode cX1_hasTooManyEvents 2 = .ok (.invokevirtual 66, 3) := by decide +kernel
theorem dX1_hasTooManyEvents_5 : decode cX1_hasTooManyEvents 5 = .ok (.bipush 8, 2) := by decide +kernel
theorem dX1_hasTooManyEvents_7 : decode cX1_hasTooManyEvents 7 = .ok (.if_icmp .le 7, 3) := by decide +kernel
theorem dX1_hasTooManyEvents_10 : decode cX1_hasTooManyEvents 10 = .ok (.iconst 1, 1) := by decide +kernel
theorem dX1_hasTooManyEvents_11 : decode cX1_hasTooManyEvents 11 = .ok (.goto 4, 3) := by decide +kernel
theorem dX1_hasTooManyEvents_14 : decode cX1_hasTooManyEvents 14 = .ok (.iconst 0, 1) := by decide +kernel
theorem dX1_hasTooManyEvents_15 : decode cX1_hasTooManyEvents 15 = .ok (.ireturn, 1) := by decide +kernel
theorem dX1_startFailing_0 : decode cX1_startFailing 0 = .ok (.aload_n 0, 1) := by decide +kernel
theorem dX1_startFailing_1 : decode cX1_startFailing 1 = .ok (.iload_n 1, 1) := by decide +kernel
theorem dX1_startFailing_2 : decode cX1_startFailing 2 = .ok (.invokevirtual 69, 3) := by decide +kernel
theorem dX1_startFailing_5 : decode cX1_startFailing 5 = .ok (.iconst 1, 1) := by decide +kernel
theorem dX1_startFailing_6 : decode cX1_startFailing 6 = .ok (.aload_n 0, 1) := by decide +kernel
theorem dX1_startFailing_7 : decode cX1_startFailing 7 = .ok (.getfield 25, 3) := by decide +kernel
theorem dX1_startFailing_10 : decode cX1_startFailing 10 = .ok (.ishl, 1) := by decide +kernel
theorem dX1_startFailing_11 : decode cX1_startFailing 11 = .ok (.istore_n 2, 1) := by decide +kernel
theorem dX1_startFailing_12 : decode cX1_startFailing 12 = .ok (.iconst 0, 1) := by decide +kernel
theorem dX1_startFailing_13 : decode cX1_startFailing 13 = .ok (.istore_n 3, 1) := by decide +kernel
theorem dX1_startFailing_14 : decode cX1_startFailing 14 = .ok (.iload_n 3, 1) := by decide +kernel
theorem dX1_startFailing_15 : decode cX1_startFailing 15 = .ok (.iload_n 2, 1) := by decide +kernel
theorem dX1_startFailing_16 : decode cX1_startFailing 16 = .ok (.if_icmp .ge 36, 3) := by decide +kernel
theorem dX1_startFailing_19 : decode cX1_startFailing 19 = .ok (.aload_n 0, 1) := by decide +kernel
theorem dX1_startFailing_20 : decode cX1_startFailing 20 = .ok (.getfield 9, 3) := by decide +kernel
theorem dX1_startFailing_23 : decode cX1_startFailing 23 = .ok (.iload_n 3, 1) := by decide +kernel
theorem dX1_startFailing_24 : decode cX1_startFailing 24 = .ok (.aload_n 0, 1) := by decide +kernel
theorem dX1_startFailing_25 : decode cX1_startFailing 25 = .ok (.getfield 40, 3) := by decide +kernel
theorem dX1_startFailing_28 : decode cX1_startFailing 28 = .ok (.iload_n 1, 1) := by decide +kernel
theorem dX1_startFailing_29 : decode cX1_startFailing 29 = .ok (.iload_n 2, 1) := by decide +kernel
theorem dX1_startFailing_30 : decode cX1_startFailing 30 = .ok (.iconst 1, 1) := by decide +kernel
theorem dX1_startFailing_31 : decode cX1_startFailing 31 = .ok (.isub, 1) := by decide +kernel
theorem dX1_startFailing_32 : decode cX1_startFailing 32 = .ok (.iload_n 3, 1) := by decide +kernel
theorem dX1_startFailing_33 : decode cX1_startFailing 33 = .ok (.isub, 1) := by decide +kernel
theorem dX1_startFailing_34 : decode cX1_startFailing 34 = .ok (.invokevirtual 73, 3) := by decide +kernel
theorem dX1_startFailing_37 : decode cX1_startFailing 37 = .ok (.ifCond .eq 7, 3) := by decide +kernel
theorem dX1_startFailing_40 : decode cX1_startFailing 40 = .ok (.lconst 0, 1) := by decide +kernel
theorem dX1_startFailing_41 : decode cX1_startFailing 41 = .ok (.goto 4, 3) := by decide +kernel
theorem dX1_startFailing_44 : decode cX1_startFailing 44 = .ok (.lconst 1, 1) := by decide +kernel
theorem dX1_startFailing_45 : decode cX1_startFailing 45 = .ok (.lastore, 1) := by decide +kernel
theorem dX1_startFailing_46 : decode cX1_startFailing 46 = .ok (.iinc 3 1, 3) := by decide +kernel
theorem dX1_startFailing_49 : decode cX1_startFailing 49 = .ok (.goto (-35), 3) := by decide +kernel
theorem dX1_startFailing_52 : decode cX1_startFailing 52 = .ok (.iconst 0, 1) := by decide +kernel
theorem dX1_startFailing_53 : decode cX1_startFailing 53 = .ok (.istore_n 3, 1) := by decide +kernel
theorem dX1_startFailing_54 : decode cX1_startFailing 54 = .ok (.iload_n 3, 1) := by decide +kernel
theorem dX1_startFailing_55 : decode cX1_startFailing 55 = .ok (.aload_n 0, 1) := by decide +kernel
theorem dX1_startFailing_56 : decode cX1_startFailing 56 = .ok (.getfield 36, 3) := by decide +kernel
theorem dX1_startFailing_59 : decode cX1_startFailing 59 = .ok (.invokevirtual 77, 3) := by decide +kernel
theorem dX1_startFailing_62 : decode cX1_startFailing 62 = .ok (.if_icmp .ge 50, 3) := by decide +kernel
theorem dX1_startFailing_65 : decode cX1_startFailing 65 = .ok (.aload_n 0, 1) := by decide +kernel
theorem dX1_startFailing_66 : decode cX1_startFailing 66 = .ok (.getfield 36, 3) := by decide +kernel
theorem dX1_startFailing_69 : decode cX1_startFailing 69 = .ok (.iload_n 3, 1) := by decide +kernel
theorem dX1_startFailing_70 : decode cX1_startFailing 70 = .ok (.invokevirtual 80, 3) := by decide +kernel
theorem dX1_startFailing_73 : decode cX1_startFailing 73 = .ok (.aload_n 0, 1) := by decide +kernel
theorem dX1_startFailing_74 : decode cX1_startFailing 74 = .ok (.getfield 40, 3) := by decide +kernel
theorem dX1_startFailing_77 : decode cX1_startFailing 77 = .ok (.iload_n 1, 1) := by decide +kernel
theorem dX1_startFailing_78 : decode cX1_startFailing 78 = .ok (.invokevirtual 44, 3) := by decide +kernel
theorem dX1_startFailing_81 : decode cX1_startFailing 81 = .ok (.invokestatic 83, 3) := by decide +kernel
theorem dX1_startFailing_84 : decode cX1_startFailing 84 = .ok (.istore 4, 2) := by decide +kernel
theorem dX1_startFailing_86 : decode cX1_startFailing 86 = .ok (.iload 4, 2) := by decide +kernel
theorem dX1_startFailing_88 : decode cX1_startFailing 88 = .ok (.ifCond .eq 18, 3) := by decide +kernel
theorem dX1_startFailing_91 : decode cX1_startFailing 91 = .ok (.aload_n 0, 1) := by decide +kernel
theorem dX1_startFailing_92 : decode cX1_startFailing 92 = .ok (.iload 4, 2) := by decide +kernel
theorem dX1_startFailing_94 : decode cX1_startFailing 94 = .ok (.aload_n 0, 1) := by decide +kernel
theorem dX1_startFailing_95 : decode cX1_startFailing 95 = .ok (.getfield 36, 3) := by decide +kernel
theorem dX1_startFailing_98 : decode cX1_startFailing 98 = .ok (.iload_n 3, 1) := by decide +kernel
theorem dX1_startFailing_99 : decode cX1_startFailing 99 = .ok (.invokevirtual 87, 3) := by decide +kernel
theorem dX1_startFailing_102 : decode cX1_startFailing 102 = .ok (.i2l, 1) := by decide +kernel
theorem dX1_startFailing_103 : decode cX1_startFailing 103 = .ok (.invokevirtual 90, 3) := by decide +kernel
theorem dX1_startFailing_106 : decode cX1_startFailing 106 = .ok (.iinc 3 1, 3) := by decide +kernel
theorem dX1_startFailing_109 : decode cX1_startFailing 109 = .ok (.goto (-55), 3) := by decide +kernel
theorem dX1_startFailing_112 : decode cX1_startFailing 112 = .ok (.return_, 1) := by decide +kernel
theorem dX1_onDay_0 : decode cX1_onDay 0 = .ok (.aload_n 0, 1) := by decide +kernel
theorem dX1_onDay_1 : decode cX1_onDay 1 = .ok (.iload_n 1, 1) := by decide +kernel
theorem dX1_onDay_2 : decode cX1_onDay 2 = .ok (.invokevirtual 94, 3) := by decide +kernel
theorem dX1_onDay_5 : decode cX1_onDay 5 = .ok (.aload_n 0, 1) := by decide +kernel
theorem dX1_onDay_6 : decode cX1_onDay 6 = .ok (.invokevirtual 97, 3) := by decide +kernel
theorem dX1_onDay_9 : decode cX1_onDay 9 = .ok (.lreturn, 1) := by decide +kernel
theorem dX1_forNothing_0 : decode cX1_forNothing 0 = .ok (.aload_n 0, 1) := by decide +kernel
theorem dX1_forNothing_1 : decode cX1_forNothing 1 = .ok (.iload_n 1, 1) := by decide +kernel
theorem dX1_forNothing_2 : decode cX1_forNothing 2 = .ok (.invokevirtual 69, 3) := by decide +kernel
theorem dX1_forNothing_5 : decode cX1_forNothing 5 = .ok (.iconst 1, 1) := by decide +kernel
theorem dX1_forNothing_6 : decode cX1_forNothing 6 = .ok (.aload_n 0, 1) := by decide +kernel
theorem dX1_forNothing_7 : decode cX1_forNothing 7 = .ok (.getfield 25, 3) := by decide +kernel
theorem dX1_forNothing_10 : decode cX1_forNothing 10 = .ok (.ishl, 1) := by decide +kernel
theorem dX1_forNothing_11 : decode cX1_forNothing 11 = .ok (.istore_n 2, 1) := by decide +kernel
theorem dX1_forNothing_12 : decode cX1_forNothing 12 = .ok (.iconst 0, 1) := by decide +kernel
theorem dX1_forNothing_13 : decode cX1_forNothing 13 = .ok (.istore_n 3, 1) := by decide +kernel
theorem dX1_forNothing_14 : decode cX1_forNothing 14 = .ok (.iload_n 3, 1) := by decide +kernel
theorem dX1_forNothing_15 : decode cX1_forNothing 15 = .ok (.iload_n 2, 1) := by decide +kernel
theorem dX1_forNothing_16 : decode cX1_forNothing 16 = .ok (.if_icmp .ge 32, 3) := by decide +kernel
theorem dX1_forNothing_19 : decode cX1_forNothing 19 = .ok (.aload_n 0, 1) := by decide +kernel
theorem dX1_forNothing_20 : decode cX1_forNothing 20 = .ok (.getfield 9, 3) := by decide +kernel
theorem dX1_forNothing_23 : decode cX1_forNothing 23 = .ok (.iload_n 3, 1) := by decide +kernel
theorem dX1_forNothing_24 : decode cX1_forNothing 24 = .ok (.aload_n 0, 1) := by decide +kernel
theorem dX1_forNothing_25 : decode cX1_forNothing 25 = .ok (.getfield 40, 3) := by decide +kernel
theorem dX1_forNothing_28 : decode cX1_forNothing 28 = .ok (.iload_n 1, 1) := by decide +kernel
theorem dX1_forNothing_29 : decode cX1_forNothing 29 = .ok (.iload_n 3, 1) := by decide +kernel
theorem dX1_forNothing_30 : decode cX1_forNothing 30 = .ok (.invokevirtual 73, 3) := by decide +kernel
theorem dX1_forNothing_33 : decode cX1_forNothing 33 = .ok (.ifCond .eq 7, 3) := by decide +kernel
theorem dX1_forNothing_36 : decode cX1_forNothing 36 = .ok (.lconst 1, 1) := by decide +kernel
theorem dX1_forNothing_37 : decode cX1_forNothing 37 = .ok (.goto 4, 3) := by decide +kernel
theorem dX1_forNothing_40 : decode cX1_forNothing 40 = .ok (.lconst 0, 1) := by decide +kernel
theorem dX1_forNothing_41 : decode cX1_forNothing 41 = .ok (.lastore, 1) := by decide +kernel
theorem dX1_forNothing_42 : decode cX1_forNothing 42 = .ok (.iinc 3 1, 3) := by decide +kernel
theorem dX1_forNothing_45 : decode cX1_forNothing 45 = .ok (.goto (-31), 3) := by decide +kernel
theorem dX1_forNothing_48 : decode cX1_forNothing 48 = .ok (.iconst 0, 1) := by decide +kernel
theorem dX1_forNothing_49 : decode cX1_forNothing 49 = .ok (.istore_n 3, 1) := by decide +kernel
theorem dX1_forNothing_50 : decode cX1_forNothing 50 = .ok (.iload_n 3, 1) := by decide +kernel
theorem dX1_forNothing_51 : decode cX1_forNothing 51 = .ok (.aload_n 0, 1) := by decide +kernel
theorem dX1_forNothing_52 : decode cX1_forNothing 52 = .ok (.getfield 25, 3) := by decide +kernel
theorem dX1_forNothing_55 : decode cX1_forNothing 55 = .ok (.if_icmp .ge 28, 3) := by decide +kernel
theorem dX1_forNothing_58 : decode cX1_forNothing 58 = .ok (.aload_n 0, 1) := by decide +kernel
theorem dX1_forNothing_59 : decode cX1_forNothing 59 = .ok (.getfield 22, 3) := by decide +kernel
theorem dX1_forNothing_62 : decode cX1_forNothing 62 = .ok (.iload_n 3, 1) := by decide +kernel
theorem dX1_forNothing_63 : decode cX1_forNothing 63 = .ok (.aload_n 0, 1) := by decide +kernel
theorem dX1_forNothing_64 : decode cX1_forNothing 64 = .ok (.getfield 32, 3) := by decide +kernel
theorem dX1_forNothing_67 : decode cX1_forNothing 67 = .ok (.aload_n 0, 1) := by decide +kernel
theorem dX1_forNothing_68 : decode cX1_forNothing 68 = .ok (.getfield 18, 3) := by decide +kernel
theorem dX1_forNothing_71 : decode cX1_forNothing 71 = .ok (.iload_n 3, 1) := by decide +kernel
theorem dX1_forNothing_72 : decode cX1_forNothing 72 = .ok (.iaload, 1) := by decide +kernel
theorem dX1_forNothing_73 : decode cX1_forNothing 73 = .ok (.invokevirtual 101, 3) := by decide +kernel
theorem dX1_forNothing_76 : decode cX1_forNothing 76 = .ok (.iastore, 1) := by decide +kernel
theorem dX1_forNothing_77 : decode cX1_forNothing 77 = .ok (.iinc 3 1, 3) := by decide +kernel
theorem dX1_forNothing_80 : decode cX1_forNothing 80 = .ok (.goto (-30), 3) := by decide +kernel
theorem dX1_forNothing_83 : decode cX1_forNothing 83 = .ok (.aload_n 0, 1) := by decide +kernel
theorem dX1_forNothing_84 : decode cX1_forNothing 84 = .ok (.invokevirtual 97, 3) := by decide +kernel
theorem dX1_forNothing_87 : decode cX1_forNothing 87 = .ok (.lreturn, 1) := by decide +kernel
theorem dX1_weightOf_0 : decode cX1_weightOf 0 = .ok (.aload_n 0, 1) := by decide +kernel
theorem dX1_weightOf_1 : decode cX1_weightOf 1 = .ok (.iload_n 2, 1) := by decide +kernel
theorem dX1_weightOf_2 : decode cX1_weightOf 2 = .ok (.invokevirtual 94, 3) := by decide +kernel
theorem dX1_weightOf_5 : decode cX1_weightOf 5 = .ok (.iconst 0, 1) := by decide +kernel
theorem dX1_weightOf_6 : decode cX1_weightOf 6 = .ok (.istore_n 3, 1) := by decide +kernel
theorem dX1_weightOf_7 : decode cX1_weightOf 7 = .ok (.iload_n 3, 1) := by decide +kernel
theorem dX1_weightOf_8 : decode cX1_weightOf 8 = .ok (.aload_n 0, 1) := by decide +kernel
theorem dX1_weightOf_9 : decode cX1_weightOf 9 = .ok (.getfield 25, 3) := by decide +kernel
theorem dX1_weightOf_12 : decode cX1_weightOf 12 = .ok (.if_icmp .ge 25, 3) := by decide +kernel
theorem dX1_weightOf_15 : decode cX1_weightOf 15 = .ok (.aload_n 0, 1) := by decide +kernel
theorem dX1_weightOf_16 : decode cX1_weightOf 16 = .ok (.getfield 18, 3) := by decide +kernel
theorem dX1_weightOf_19 : decode cX1_weightOf 19 = .ok (.iload_n 3, 1) := by decide +kernel
theorem dX1_weightOf_20 : decode cX1_weightOf 20 = .ok (.iaload, 1) := by decide +kernel
theorem dX1_weightOf_21 : decode cX1_weightOf 21 = .ok (.iload_n 1, 1) := by decide +kernel
theorem dX1_weightOf_22 : decode cX1_weightOf 22 = .ok (.if_icmp .ne 9, 3) := by decide +kernel
theorem dX1_weightOf_25 : decode cX1_weightOf 25 = .ok (.aload_n 0, 1) := by decide +kernel
theorem dX1_weightOf_26 : decode cX1_weightOf 26 = .ok (.iload_n 3, 1) := by decide +kernel
theorem dX1_weightOf_27 : decode cX1_weightOf 27 = .ok (.invokevirtual 106, 3) := by decide +kernel
theorem dX1_weightOf_30 : decode cX1_weightOf 30 = .ok (.lreturn, 1) := by decide +kernel
theorem dX1_weightOf_31 : decode cX1_weightOf 31 = .ok (.iinc 3 1, 3) := by decide +kernel
theorem dX1_weightOf_34 : decode cX1_weightOf 34 = .ok (.goto (-27), 3) := by decide +kernel
theorem dX1_weightOf_37 : decode cX1_weightOf 37 = .ok (.lconst 0, 1) := by decide +kernel
theorem dX1_weightOf_38 : decode cX1_weightOf 38 = .ok (.lreturn, 1) := by decide +kernel
theorem dX1_weightiestPart_0 : decode cX1_weightiestPart 0 = .ok (.aload_n 0, 1) := by decide +kernel
theorem dX1_weightiestPart_1 : decode cX1_weightiestPart 1 = .ok (.iload_n 1, 1) := by decide +kernel
theorem dX1_weightiestPart_2 : decode cX1_weightiestPart 2 = .ok (.invokevirtual 94, 3) := by decide +kernel
theorem dX1_weightiestPart_5 : decode cX1_weightiestPart 5 = .ok (.iconst 0, 1) := by decide +kernel
theorem dX1_weightiestPart_6 : decode cX1_weightiestPart 6 = .ok (.istore_n 2, 1) := by decide +kernel
theorem dX1_weightiestPart_7 : decode cX1_weightiestPart 7 = .ok (.aload_n 0, 1) := by decide +kernel
theorem dX1_weightiestPart_8 : decode cX1_weightiestPart 8 = .ok (.iconst 0, 1) := by decide +kernel
theorem dX1_weightiestPart_9 : decode cX1_weightiestPart 9 = .ok (.invokevirtual 106, 3) := by decide +kernel
theorem dX1_weightiestPart_12 : decode cX1_weightiestPart 12 = .ok (.lstore_n 3, 1) := by decide +kernel
theorem dX1_weightiestPart_13 : decode cX1_weightiestPart 13 = .ok (.iconst 1, 1) := by decide +kernel
theorem dX1_weightiestPart_14 : decode cX1_weightiestPart 14 = .ok (.istore 5, 2) := by decide +kernel
theorem dX1_weightiestPart_16 : decode cX1_weightiestPart 16 = .ok (.iload 5, 2) := by decide +kernel
theorem dX1_weightiestPart_18 : decode cX1_weightiestPart 18 = .ok (.aload_n 0, 1) := by decide +kernel
theorem dX1_weightiestPart_19 : decode cX1_weightiestPart 19 = .ok (.getfield 25, 3) := by decide +kernel
theorem dX1_weightiestPart_22 : decode cX1_weightiestPart 22 = .ok (.if_icmp .ge 30, 3) := by decide +kernel
theorem dX1_weightiestPart_25 : decode cX1_weightiestPart 25 = .ok (.aload_n 0, 1) := by decide +kernel
theorem dX1_weightiestPart_26 : decode cX1_weightiestPart 26 = .ok (.iload 5, 2) := by decide +kernel
theorem dX1_weightiestPart_28 : decode cX1_weightiestPart 28 = .ok (.invokevirtual 106, 3) := by decide +kernel
theorem dX1_weightiestPart_31 : decode cX1_weightiestPart 31 = .ok (.lstore 6, 2) := by decide +kernel
theorem dX1_weightiestPart_33 : decode cX1_weightiestPart 33 = .ok (.lload 6, 2) := by decide +kernel
theorem dX1_weightiestPart_35 : decode cX1_weightiestPart 35 = .ok (.lload_n 3, 1) := by decide +kernel
theorem dX1_weightiestPart_36 : decode cX1_weightiestPart 36 = .ok (.lcmp, 1) := by decide +kernel
theorem dX1_weightiestPart_37 : decode cX1_weightiestPart 37 = .ok (.ifCond .le 9, 3) := by decide +kernel
theorem dX1_weightiestPart_40 : decode cX1_weightiestPart 40 = .ok (.iload 5, 2) := by decide +kernel
theorem dX1_weightiestPart_42 : decode cX1_weightiestPart 42 = .ok (.istore_n 2, 1) := by decide +kernel
theorem dX1_weightiestPart_43 : decode cX1_weightiestPart 43 = .ok (.lload 6, 2) := by decide +kernel
theorem dX1_weightiestPart_45 : decode cX1_weightiestPart 45 = .ok (.lstore_n 3, 1) := by decide +kernel
theorem dX1_weightiestPart_46 : decode cX1_weightiestPart 46 = .ok (.iinc 5 1, 3) := by decide +kernel
theorem dX1_weightiestPart_49 : decode cX1_weightiestPart 49 = .ok (.goto (-33), 3) := by decide +kernel
theorem dX1_weightiestPart_52 : decode cX1_weightiestPart 52 = .ok (.aload_n 0, 1) := by decide +kernel
theorem dX1_weightiestPart_53 : decode cX1_weightiestPart 53 = .ok (.getfield 18, 3) := by decide +kernel
theorem dX1_weightiestPart_56 : decode cX1_weightiestPart 56 = .ok (.iload_n 2, 1) := by decide +kernel
theorem dX1_weightiestPart_57 : decode cX1_weightiestPart 57 = .ok (.iaload, 1) := by decide +kernel
theorem dX1_weightiestPart_58 : decode cX1_weightiestPart 58 = .ok (.ireturn, 1) := by decide +kernel
theorem dX1_memberCount_0 : decode cX1_memberCount 0 = .ok (.aload_n 0, 1) := by decide +kernel
theorem dX1_memberCount_1 : decode cX1_memberCount 1 = .ok (.getfield 25, 3) := by decide +kernel
theorem dX1_memberCount_4 : decode cX1_memberCount 4 = .ok (.ireturn, 1) := by decide +kernel
theorem dX1_memberAt_0 : decode cX1_memberAt 0 = .ok (.aload_n 0, 1) := by decide +kernel
theorem dX1_memberAt_1 : decode cX1_memberAt 1 = .ok (.getfield 18, 3) := by decide +kernel
theorem dX1_memberAt_4 : decode cX1_memberAt 4 = .ok (.iload_n 1, 1) := by decide +kernel
theorem dX1_memberAt_5 : decode cX1_memberAt 5 = .ok (.iaload, 1) := by decide +kernel
theorem dX1_memberAt_6 : decode cX1_memberAt 6 = .ok (.ireturn, 1) := by decide +kernel
theorem dX1_setShare_0 : decode cX1_setShare 0 = .ok (.aload_n 0, 1) := by decide +kernel
theorem dX1_setShare_1 : decode cX1_setShare 1 = .ok (.getfield 22, 3) := by decide +kernel
theorem dX1_setShare_4 : decode cX1_setShare 4 = .ok (.iload_n 1, 1) := by decide +kernel
theorem dX1_setShare_5 : decode cX1_setShare 5 = .ok (.iload_n 2, 1) := by decide +kernel
theorem dX1_setShare_6 : decode cX1_setShare 6 = .ok (.iastore, 1) := by decide +kernel
theorem dX1_setShare_7 : decode cX1_setShare 7 = .ok (.return_, 1) := by decide +kernel
theorem dX1_sum_0 : decode cX1_sum 0 = .ok (.aload_n 0, 1) := by decide +kernel
theorem dX1_sum_1 : decode cX1_sum 1 = .ok (.getfield 9, 3) := by decide +kernel
theorem dX1_sum_4 : decode cX1_sum 4 = .ok (.iconst 0, 1) := by decide +kernel
theorem dX1_sum_5 : decode cX1_sum 5 = .ok (.aload_n 0, 1) := by decide +kernel
theorem dX1_sum_6 : decode cX1_sum 6 = .ok (.getfield 15, 3) := by decide +kernel
theorem dX1_sum_9 : decode cX1_sum 9 = .ok (.iconst 0, 1) := by decide +kernel
theorem dX1_sum_10 : decode cX1_sum 10 = .ok (.iconst 1, 1) := by decide +kernel
theorem dX1_sum_11 : decode cX1_sum 11 = .ok (.aload_n 0, 1) := by decide +kernel
theorem dX1_sum_12 : decode cX1_sum 12 = .ok (.getfield 25, 3) := by decide +kernel
theorem dX1_sum_15 : decode cX1_sum 15 = .ok (.ishl, 1) := by decide +kernel
theorem dX1_sum_16 : decode cX1_sum 16 = .ok (.invokestatic 110, 3) := by decide +kernel
theorem dX1_sum_19 : decode cX1_sum 19 = .ok (.aload_n 0, 1) := by decide +kernel
theorem dX1_sum_20 : decode cX1_sum 20 = .ok (.getfield 25, 3) := by decide +kernel
theorem dX1_sum_23 : decode cX1_sum 23 = .ok (.iconst 1, 1) := by decide +kernel
theorem dX1_sum_24 : decode cX1_sum 24 = .ok (.isub, 1) := by decide +kernel
theorem dX1_sum_25 : decode cX1_sum 25 = .ok (.istore_n 1, 1) := by decide +kernel
theorem dX1_sum_26 : decode cX1_sum 26 = .ok (.iload_n 1, 1) := by decide +kernel
theorem dX1_sum_27 : decode cX1_sum 27 = .ok (.ifCond .lt 68, 3) := by decide +kernel
theorem dX1_sum_30 : decode cX1_sum 30 = .ok (.iconst 1, 1) := by decide +kernel
theorem dX1_sum_31 : decode cX1_sum 31 = .ok (.iload_n 1, 1) := by decide +kernel
theorem dX1_sum_32 : decode cX1_sum 32 = .ok (.ishl, 1) := by decide +kernel
theorem dX1_sum_33 : decode cX1_sum 33 = .ok (.istore_n 2, 1) := by decide +kernel
theorem dX1_sum_34 : decode cX1_sum 34 = .ok (.aload_n 0, 1) := by decide +kernel
theorem dX1_sum_35 : decode cX1_sum 35 = .ok (.getfield 22, 3) := by decide +kernel
theorem dX1_sum_38 : decode cX1_sum 38 = .ok (.iload_n 1, 1) := by decide +kernel
theorem dX1_sum_39 : decode cX1_sum 39 = .ok (.iaload, 1) := by decide +kernel
theorem dX1_sum_40 : decode cX1_sum 40 = .ok (.i2l, 1) := by decide +kernel
theorem dX1_sum_41 : decode cX1_sum 41 = .ok (.lstore_n 3, 1) := by decide +kernel
theorem dX1_sum_42 : decode cX1_sum 42 = .ok (.iconst 0, 1) := by decide +kernel
theorem dX1_sum_43 : decode cX1_sum 43 = .ok (.istore 5, 2) := by decide +kernel
theorem dX1_sum_45 : decode cX1_sum 45 = .ok (.iload 5, 2) := by decide +kernel
theorem dX1_sum_47 : decode cX1_sum 47 = .ok (.iload_n 2, 1) := by decide +kernel
theorem dX1_sum_48 : decode cX1_sum 48 = .ok (.if_icmp .ge 41, 3) := by decide +kernel
theorem dX1_sum_51 : decode cX1_sum 51 = .ok (.aload_n 0, 1) := by decide +kernel
theorem dX1_sum_52 : decode cX1_sum 52 = .ok (.getfield 15, 3) := by decide +kernel
theorem dX1_sum_55 : decode cX1_sum 55 = .ok (.iload 5, 2) := by decide +kernel
theorem dX1_sum_57 : decode cX1_sum 57 = .ok (.ldc2_w 116, 3) := by decide +kernel
theorem dX1_sum_60 : decode cX1_sum 60 = .ok (.lload_n 3, 1) := by decide +kernel
theorem dX1_sum_61 : decode cX1_sum 61 = .ok (.lsub, 1) := by decide +kernel
theorem dX1_sum_62 : decode cX1_sum 62 = .ok (.aload_n 0, 1) := by decide +kernel
theorem dX1_sum_63 : decode cX1_sum 63 = .ok (.getfield 15, 3) := by decide +kernel
theorem dX1_sum_66 : decode cX1_sum 66 = .ok (.iload 5, 2) := by decide +kernel
theorem dX1_sum_68 : decode cX1_sum 68 = .ok (.laload, 1) := by decide +kernel
theorem dX1_sum_69 : decode cX1_sum 69 = .ok (.lmul, 1) := by decide +kernel
theorem dX1_sum_70 : decode cX1_sum 70 = .ok (.lload_n 3, 1) := by decide +kernel
theorem dX1_sum_71 : decode cX1_sum 71 = .ok (.aload_n 0, 1) := by decide +kernel
theorem dX1_sum_72 : decode cX1_sum 72 = .ok (.getfield 15, 3) := by decide +kernel
theorem dX1_sum_75 : decode cX1_sum 75 = .ok (.iload 5, 2) := by decide +kernel
theorem dX1_sum_77 : decode cX1_sum 77 = .ok (.iload_n 2, 1) := by decide +kernel
theorem dX1_sum_78 : decode cX1_sum 78 = .ok (.iadd, 1) := by decide +kernel
theorem dX1_sum_79 : decode cX1_sum 79 = .ok (.laload, 1) := by decide +kernel
theorem dX1_sum_80 : decode cX1_sum 80 = .ok (.lmul, 1) := by decide +kernel
theorem dX1_sum_81 : decode cX1_sum 81 = .ok (.ladd, 1) := by decide +kernel
theorem dX1_sum_82 : decode cX1_sum 82 = .ok (.lastore, 1) := by decide +kernel
theorem dX1_sum_83 : decode cX1_sum 83 = .ok (.iinc 5 1, 3) := by decide +kernel
theorem dX1_sum_86 : decode cX1_sum 86 = .ok (.goto (-41), 3) := by decide +kernel
theorem dX1_sum_89 : decode cX1_sum 89 = .ok (.iinc 1 (-1), 3) := by decide +kernel
theorem dX1_sum_92 : decode cX1_sum 92 = .ok (.goto (-66), 3) := by decide +kernel
theorem dX1_sum_95 : decode cX1_sum 95 = .ok (.aload_n 0, 1) := by decide +kernel
theorem dX1_sum_96 : decode cX1_sum 96 = .ok (.getfield 15, 3) := by decide +kernel
theorem dX1_sum_99 : decode cX1_sum 99 = .ok (.iconst 0, 1) := by decide +kernel
theorem dX1_sum_100 : decode cX1_sum 100 = .ok (.laload, 1) := by decide +kernel
theorem dX1_sum_101 : decode cX1_sum 101 = .ok (.bipush 6, 2) := by decide +kernel
theorem dX1_sum_103 : decode cX1_sum 103 = .ok (.bipush 8, 2) := by decide +kernel
theorem dX1_sum_105 : decode cX1_sum 105 = .ok (.aload_n 0, 1) := by decide +kernel
theorem dX1_sum_106 : decode cX1_sum 106 = .ok (.getfield 29, 3) := by decide +kernel
theorem dX1_sum_109 : decode cX1_sum 109 = .ok (.isub, 1) := by decide +kernel
theorem dX1_sum_110 : decode cX1_sum 110 = .ok (.imul, 1) := by decide +kernel
theorem dX1_sum_111 : decode cX1_sum 111 = .ok (.lshl, 1) := by decide +kernel
theorem dX1_sum_112 : decode cX1_sum 112 = .ok (.lreturn, 1) := by decide +kernel
theorem dX1_takeMembers_0 : decode cX1_takeMembers 0 = .ok (.aload_n 0, 1) := by decide +kernel
theorem dX1_takeMembers_1 : decode cX1_takeMembers 1 = .ok (.iconst 0, 1) := by decide +kernel
theorem dX1_takeMembers_2 : decode cX1_takeMembers 2 = .ok (.putfield 25, 3) := by decide +kernel
theorem dX1_takeMembers_5 : decode cX1_takeMembers 5 = .ok (.iconst 0, 1) := by decide +kernel
theorem dX1_takeMembers_6 : decode cX1_takeMembers 6 = .ok (.istore_n 2, 1) := by decide +kernel
theorem dX1_takeMembers_7 : decode cX1_takeMembers 7 = .ok (.iload_n 2, 1) := by decide +kernel
theorem dX1_takeMembers_8 : decode cX1_takeMembers 8 = .ok (.bipush 12, 2) := by decide +kernel
theorem dX1_takeMembers_10 : decode cX1_takeMembers 10 = .ok (.if_icmp .ge 53, 3) := by decide +kernel
theorem dX1_takeMembers_13 : decode cX1_takeMembers 13 = .ok (.aload_n 0, 1) := by decide +kernel
theorem dX1_takeMembers_14 : decode cX1_takeMembers 14 = .ok (.getfield 25, 3) := by decide +kernel
theorem dX1_takeMembers_17 : decode cX1_takeMembers 17 = .ok (.bipush 8, 2) := by decide +kernel
theorem dX1_takeMembers_19 : decode cX1_takeMembers 19 = .ok (.if_icmp .ge 44, 3) := by decide +kernel
theorem dX1_takeMembers_22 : decode cX1_takeMembers 22 = .ok (.aload_n 0, 1) := by decide +kernel
theorem dX1_takeMembers_23 : decode cX1_takeMembers 23 = .ok (.getfield 40, 3) := by decide +kernel
theorem dX1_takeMembers_26 : decode cX1_takeMembers 26 = .ok (.iload_n 1, 1) := by decide +kernel
theorem dX1_takeMembers_27 : decode cX1_takeMembers 27 = .ok (.invokevirtual 44, 3) := by decide +kernel
theorem dX1_takeMembers_30 : decode cX1_takeMembers 30 = .ok (.iload_n 2, 1) := by decide +kernel
theorem dX1_takeMembers_31 : decode cX1_takeMembers 31 = .ok (.invokestatic 118, 3) := by decide +kernel
theorem dX1_takeMembers_34 : decode cX1_takeMembers 34 = .ok (.ifCond .eq 23, 3) := by decide +kernel
theorem dX1_takeMembers_37 : decode cX1_takeMembers 37 = .ok (.aload_n 0, 1) := by decide +kernel
theorem dX1_takeMembers_38 : decode cX1_takeMembers 38 = .ok (.getfield 18, 3) := by decide +kernel
theorem dX1_takeMembers_41 : decode cX1_takeMembers 41 = .ok (.aload_n 0, 1) := by decide +kernel
theorem dX1_takeMembers_42 : decode cX1_takeMembers 42 = .ok (.getfield 25, 3) := by decide +kernel
theorem dX1_takeMembers_45 : decode cX1_takeMembers 45 = .ok (.iload_n 2, 1) := by decide +kernel
theorem dX1_takeMembers_46 : decode cX1_takeMembers 46 = .ok (.iastore, 1) := by decide +kernel
theorem dX1_takeMembers_47 : decode cX1_takeMembers 47 = .ok (.aload_n 0, 1) := by decide +kernel
theorem dX1_takeMembers_48 : decode cX1_takeMembers 48 = .ok (.dup, 1) := by decide +kernel
theorem dX1_takeMembers_49 : decode cX1_takeMembers 49 = .ok (.getfield 25, 3) := by decide +kernel
theorem dX1_takeMembers_52 : decode cX1_takeMembers 52 = .ok (.iconst 1, 1) := by decide +kernel
theorem dX1_takeMembers_53 : decode cX1_takeMembers 53 = .ok (.iadd, 1) := by decide +kernel
theorem dX1_takeMembers_54 : decode cX1_takeMembers 54 = .ok (.putfield 25, 3) := by decide +kernel
theorem dX1_takeMembers_57 : decode cX1_takeMembers 57 = .ok (.iinc 2 1, 3) := by decide +kernel
theorem dX1_takeMembers_60 : decode cX1_takeMembers 60 = .ok (.goto (-53), 3) := by decide +kernel
theorem dX1_takeMembers_63 : decode cX1_takeMembers 63 = .ok (.aload_n 0, 1) := by decide +kernel
theorem dX1_takeMembers_64 : decode cX1_takeMembers 64 = .ok (.aload_n 0, 1) := by decide +kernel
theorem dX1_takeMembers_65 : decode cX1_takeMembers 65 = .ok (.getfield 25, 3) := by decide +kernel
theorem dX1_takeMembers_68 : decode cX1_takeMembers 68 = .ok (.putfield 29, 3) := by decide +kernel
theorem dX1_takeMembers_71 : decode cX1_takeMembers 71 = .ok (.return_, 1) := by decide +kernel
theorem dX1_workIn_0 : decode cX1_workIn 0 = .ok (.iconst 1, 1) := by decide +kernel
theorem dX1_workIn_1 : decode cX1_workIn 1 = .ok (.aload_n 0, 1) := by decide +kernel
theorem dX1_workIn_2 : decode cX1_workIn 2 = .ok (.getfield 25, 3) := by decide +kernel
theorem dX1_workIn_5 : decode cX1_workIn 5 = .ok (.ishl, 1) := by decide +kernel
theorem dX1_workIn_6 : decode cX1_workIn 6 = .ok (.istore 4, 2) := by decide +kernel
theorem dX1_workIn_8 : decode cX1_workIn 8 = .ok (.iconst 0, 1) := by decide +kernel
theorem dX1_workIn_9 : decode cX1_workIn 9 = .ok (.istore 5, 2) := by decide +kernel
theorem dX1_workIn_11 : decode cX1_workIn 11 = .ok (.iload 5, 2) := by decide +kernel
theorem dX1_workIn_13 : decode cX1_workIn 13 = .ok (.iload 4, 2) := by decide +kernel
theorem dX1_workIn_15 : decode cX1_workIn 15 = .ok (.if_icmp .ge 41, 3) := by decide +kernel
theorem dX1_workIn_18 : decode cX1_workIn 18 = .ok (.aload_n 0, 1) := by decide +kernel
theorem dX1_workIn_19 : decode cX1_workIn 19 = .ok (.getfield 9, 3) := by decide +kernel
theorem dX1_workIn_22 : decode cX1_workIn 22 = .ok (.iload 5, 2) := by decide +kernel
theorem dX1_workIn_24 : decode cX1_workIn 24 = .ok (.ldc2_w 116, 3) := by decide +kernel
theorem dX1_workIn_27 : decode cX1_workIn 27 = .ok (.lload_n 2, 1) := by decide +kernel
theorem dX1_workIn_28 : decode cX1_workIn 28 = .ok (.lsub, 1) := by decide +kernel
theorem dX1_workIn_29 : decode cX1_workIn 29 = .ok (.aload_n 0, 1) := by decide +kernel
theorem dX1_workIn_30 : decode cX1_workIn 30 = .ok (.getfield 9, 3) := by decide +kernel
theorem dX1_workIn_33 : decode cX1_workIn 33 = .ok (.iload 5, 2) := by decide +kernel
theorem dX1_workIn_35 : decode cX1_workIn 35 = .ok (.laload, 1) := by decide +kernel
theorem dX1_workIn_36 : decode cX1_workIn 36 = .ok (.lmul, 1) := by decide +kernel
theorem dX1_workIn_37 : decode cX1_workIn 37 = .ok (.lload_n 2, 1) := by decide +kernel
theorem dX1_workIn_38 : decode cX1_workIn 38 = .ok (.aload_n 0, 1) := by decide +kernel
theorem dX1_workIn_39 : decode cX1_workIn 39 = .ok (.getfield 9, 3) := by decide +kernel
theorem dX1_workIn_42 : decode cX1_workIn 42 = .ok (.iload 5, 2) := by decide +kernel
theorem dX1_workIn_44 : decode cX1_workIn 44 = .ok (.iload_n 1, 1) := by decide +kernel
theorem dX1_workIn_45 : decode cX1_workIn 45 = .ok (.ior, 1) := by decide +kernel
theorem dX1_workIn_46 : decode cX1_workIn 46 = .ok (.laload, 1) := by decide +kernel
theorem dX1_workIn_47 : decode cX1_workIn 47 = .ok (.lmul, 1) := by decide +kernel
theorem dX1_workIn_48 : decode cX1_workIn 48 = .ok (.ladd, 1) := by decide +kernel
theorem dX1_workIn_49 : decode cX1_workIn 49 = .ok (.lastore, 1) := by decide +kernel
theorem dX1_workIn_50 : decode cX1_workIn 50 = .ok (.iinc 5 1, 3) := by decide +kernel
theorem dX1_workIn_53 : decode cX1_workIn 53 = .ok (.goto (-42), 3) := by decide +kernel
theorem dX1_workIn_56 : decode cX1_workIn 56 = .ok (.aload_n 0, 1) := by decide +kernel
theorem dX1_workIn_57 : decode cX1_workIn 57 = .ok (.dup, 1) := by decide +kernel
theorem dX1_workIn_58 : decode cX1_workIn 58 = .ok (.getfield 29, 3) := by decide +kernel
theorem dX1_workIn_61 : decode cX1_workIn 61 = .ok (.iconst 1, 1) := by decide +kernel
theorem dX1_workIn_62 : decode cX1_workIn 62 = .ok (.iadd, 1) := by decide +kernel
theorem dX1_workIn_63 : decode cX1_workIn 63 = .ok (.putfield 29, 3) := by decide +kernel
theorem dX1_workIn_66 : decode cX1_workIn 66 = .ok (.return_, 1) := by decide +kernel
theorem dX1_takeSharesOn_0 : decode cX1_takeSharesOn 0 = .ok (.iconst 0, 1) := by decide +kernel
theorem dX1_takeSharesOn_1 : decode cX1_takeSharesOn 1 = .ok (.istore_n 2, 1) := by decide +kernel
theorem dX1_takeSharesOn_2 : decode cX1_takeSharesOn 2 = .ok (.iload_n 2, 1) := by decide +kernel
theorem dX1_takeSharesOn_3 : decode cX1_takeSharesOn 3 = .ok (.aload_n 0, 1) := by decide +kernel
theorem dX1_takeSharesOn_4 : decode cX1_takeSharesOn 4 = .ok (.getfield 25, 3) := by decide +kernel
theorem dX1_takeSharesOn_7 : decode cX1_takeSharesOn 7 = .ok (.if_icmp .ge 29, 3) := by decide +kernel
theorem dX1_takeSharesOn_10 : decode cX1_takeSharesOn 10 = .ok (.aload_n 0, 1) := by decide +kernel
theorem dX1_takeSharesOn_11 : decode cX1_takeSharesOn 11 = .ok (.getfield 22, 3) := by decide +kernel
theorem dX1_takeSharesOn_14 : decode cX1_takeSharesOn 14 = .ok (.iload_n 2, 1) := by decide +kernel
theorem dX1_takeSharesOn_15 : decode cX1_takeSharesOn 15 = .ok (.aload_n 0, 1) := by decide +kernel
theorem dX1_takeSharesOn_16 : decode cX1_takeSharesOn 16 = .ok (.getfield 32, 3) := by decide +kernel
theorem dX1_takeSharesOn_19 : decode cX1_takeSharesOn 19 = .ok (.aload_n 0, 1) := by decide +kernel
theorem dX1_takeSharesOn_20 : decode cX1_takeSharesOn 20 = .ok (.getfield 18, 3) := by decide +kernel
theorem dX1_takeSharesOn_23 : decode cX1_takeSharesOn 23 = .ok (.iload_n 2, 1) := by decide +kernel
theorem dX1_takeSharesOn_24 : decode cX1_takeSharesOn 24 = .ok (.iaload, 1) := by decide +kernel
theorem dX1_takeSharesOn_25 : decode cX1_takeSharesOn 25 = .ok (.iload_n 1, 1) := by decide +kernel
theorem dX1_takeSharesOn_26 : decode cX1_takeSharesOn 26 = .ok (.invokevirtual 121, 3) := by decide +kernel
theorem dX1_takeSharesOn_29 : decode cX1_takeSharesOn 29 = .ok (.iastore, 1) := by decide +kernel
theorem dX1_takeSharesOn_30 : decode cX1_takeSharesOn 30 = .ok (.iinc 2 1, 3) := by decide +kernel
theorem dX1_takeSharesOn_33 : decode cX1_takeSharesOn 33 = .ok (.goto (-31), 3) := by decide +kernel
theorem dX1_takeSharesOn_36 : decode cX1_takeSharesOn 36 = .ok (.return_, 1) := by decide +kernel
theorem dX1_weightAt_0 : decode cX1_weightAt 0 = .ok (.aload_n 0, 1) := by decide +kernel
theorem dX1_weightAt_1 : decode cX1_weightAt 1 = .ok (.getfield 22, 3) := by decide +kernel
theorem dX1_weightAt_4 : decode cX1_weightAt 4 = .ok (.iload_n 1, 1) := by decide +kernel
theorem dX1_weightAt_5 : decode cX1_weightAt 5 = .ok (.iaload, 1) := by decide +kernel
theorem dX1_weightAt_6 : decode cX1_weightAt 6 = .ok (.istore_n 2, 1) := by decide +kernel
theorem dX1_weightAt_7 : decode cX1_weightAt 7 = .ok (.aload_n 0, 1) := by decide +kernel
theorem dX1_weightAt_8 : decode cX1_weightAt 8 = .ok (.getfield 22, 3) := by decide +kernel
theorem dX1_weightAt_11 : decode cX1_weightAt 11 = .ok (.iload_n 1, 1) := by decide +kernel
theorem dX1_weightAt_12 : decode cX1_weightAt 12 = .ok (.bipush 64, 2) := by decide +kernel
theorem dX1_weightAt_14 : decode cX1_weightAt 14 = .ok (.iastore, 1) := by decide +kernel
theorem dX1_weightAt_15 : decode cX1_weightAt 15 = .ok (.aload_n 0, 1) := by decide +kernel
theorem dX1_weightAt_16 : decode cX1_weightAt 16 = .ok (.invokevirtual 97, 3) := by decide +kernel
theorem dX1_weightAt_19 : decode cX1_weightAt 19 = .ok (.lstore_n 3, 1) := by decide +kernel
theorem dX1_weightAt_20 : decode cX1_weightAt 20 = .ok (.aload_n 0, 1) := by decide +kernel
theorem dX1_weightAt_21 : decode cX1_weightAt 21 = .ok (.getfield 22, 3) := by decide +kernel
theorem dX1_weightAt_24 : decode cX1_weightAt 24 = .ok (.iload_n 1, 1) := by decide +kernel
theorem dX1_weightAt_25 : decode cX1_weightAt 25 = .ok (.iconst 0, 1) := by decide +kernel
theorem dX1_weightAt_26 : decode cX1_weightAt 26 = .ok (.iastore, 1) := by decide +kernel
theorem dX1_weightAt_27 : decode cX1_weightAt 27 = .ok (.aload_n 0, 1) := by decide +kernel
theorem dX1_weightAt_28 : decode cX1_weightAt 28 = .ok (.invokevirtual 97, 3) := by decide +kernel
theorem dX1_weightAt_31 : decode cX1_weightAt 31 = .ok (.lstore 5, 2) := by decide +kernel
theorem dX1_weightAt_33 : decode cX1_weightAt 33 = .ok (.aload_n 0, 1) := by decide +kernel
theorem dX1_weightAt_34 : decode cX1_weightAt 34 = .ok (.getfield 22, 3) := by decide +kernel
theorem dX1_weightAt_37 : decode cX1_weightAt 37 = .ok (.iload_n 1, 1) := by decide +kernel
theorem dX1_weightAt_38 : decode cX1_weightAt 38 = .ok (.iload_n 2, 1) := by decide +kernel
theorem dX1_weightAt_39 : decode cX1_weightAt 39 = .ok (.iastore, 1) := by decide +kernel
theorem dX1_weightAt_40 : decode cX1_weightAt 40 = .ok (.lload_n 3, 1) := by decide +kernel
theorem dX1_weightAt_41 : decode cX1_weightAt 41 = .ok (.lload 5, 2) := by decide +kernel
theorem dX1_weightAt_43 : decode cX1_weightAt 43 = .ok (.lsub, 1) := by decide +kernel
theorem dX1_weightAt_44 : decode cX1_weightAt 44 = .ok (.lreturn, 1) := by decide +kernel
theorem dX2_init_0 : decode cX2_init 0 = .ok (.aload_n 0, 1) := by decide +kernel
theorem dX2_init_1 : decode cX2_init 1 = .ok (.invokespecial 3, 3) := by decide +kernel
theorem dX2_init_4 : decode cX2_init 4 = .ok (.aload_n 0, 1) := by decide +kernel
theorem dX2_init_5 : decode cX2_init 5 = .ok (.bipush 12, 2) := by decide +kernel
theorem dX2_init_7 : decode cX2_init 7 = .ok (.newarray .int, 2) := by decide +kernel
theorem dX2_init_9 : decode cX2_init 9 = .ok (.putfield 9, 3) := by decide +kernel
theorem dX2_init_12 : decode cX2_init 12 = .ok (.aload_n 0, 1) := by decide +kernel
theorem dX2_init_13 : decode cX2_init 13 = .ok (.bipush 12, 2) := by decide +kernel
theorem dX2_init_15 : decode cX2_init 15 = .ok (.newarray .int, 2) := by decide +kernel
theorem dX2_init_17 : decode cX2_init 17 = .ok (.putfield 15, 3) := by decide +kernel
theorem dX2_init_20 : decode cX2_init 20 = .ok (.aload_n 0, 1) := by decide +kernel
theorem dX2_init_21 : decode cX2_init 21 = .ok (.bipush 12, 2) := by decide +kernel
theorem dX2_init_23 : decode cX2_init 23 = .ok (.newarray .int, 2) := by decide +kernel
theorem dX2_init_25 : decode cX2_init 25 = .ok (.putfield 18, 3) := by decide +kernel
theorem dX2_init_28 : decode cX2_init 28 = .ok (.aload_n 0, 1) := by decide +kernel
theorem dX2_init_29 : decode cX2_init 29 = .ok (.bipush 12, 2) := by decide +kernel
theorem dX2_init_31 : decode cX2_init 31 = .ok (.newarray .int, 2) := by decide +kernel
theorem dX2_init_33 : decode cX2_init 33 = .ok (.putfield 21, 3) := by decide +kernel
theorem dX2_init_36 : decode cX2_init 36 = .ok (.aload_n 0, 1) := by decide +kernel
theorem dX2_init_37 : decode cX2_init 37 = .ok (.bipush 12, 2) := by decide +kernel
theorem dX2_init_39 : decode cX2_init 39 = .ok (.newarray .int, 2) := by decide +kernel
theorem dX2_init_41 : decode cX2_init 41 = .ok (.putfield 24, 3) := by decide +kernel
theorem dX2_init_44 : decode cX2_init 44 = .ok (.aload_n 0, 1) := by decide +kernel
theorem dX2_init_45 : decode cX2_init 45 = .ok (.sipush 144, 3) := by decide +kernel
theorem dX2_init_48 : decode cX2_init 48 = .ok (.newarray .int, 2) := by decide +kernel
theorem dX2_init_50 : decode cX2_init 50 = .ok (.putfield 27, 3) := by decide +kernel
theorem dX2_init_53 : decode cX2_init 53 = .ok (.aload_n 0, 1) := by decide +kernel
theorem dX2_init_54 : decode cX2_init 54 = .ok (.sipush 192, 3) := by decide +kernel
theorem dX2_init_57 : decode cX2_init 57 = .ok (.newarray .long, 2) := by decide +kernel
theorem dX2_init_59 : decode cX2_init 59 = .ok (.putfield 30, 3) := by decide +kernel
theorem dX2_init_62 : decode cX2_init 62 = .ok (.aload_n 0, 1) := by decide +kernel
theorem dX2_init_63 : decode cX2_init 63 = .ok (.iconst 0, 1) := by decide +kernel
theorem dX2_init_64 : decode cX2_init 64 = .ok (.putfield 34, 3) := by decide +kernel
theorem dX2_init_67 : decode cX2_init 67 = .ok (.aload_n 0, 1) := by decide +kernel
theorem dX2_init_68 : decode cX2_init 68 = .ok (.iconst 0, 1) := by decide +kernel
theorem dX2_init_69 : decode cX2_init 69 = .ok (.putfield 38, 3) := by decide +kernel
theorem dX2_init_72 : decode cX2_init 72 = .ok (.return_, 1) := by decide +kernel
theorem dX2_has_0 : decode cX2_has 0 = .ok (.iload_n 1, 1) := by decide +kernel
theorem dX2_has_1 : decode cX2_has 1 = .ok (.ifCond .lt 15, 3) := by decide +kernel
theorem dX2_has_4 : decode cX2_has 4 = .ok (.iload_n 1, 1) := by decide +kernel
theorem dX2_has_5 : decode cX2_has 5 = .ok (.aload_n 0, 1) := by decide +kernel
theorem dX2_has_6 : decode cX2_has 6 = .ok (.getfield 38, 3) := by decide +kernel
theorem dX2_has_9 : decode cX2_has 9 = .ok (.if_icmp .ge 7, 3) := by decide +kernel
theorem dX2_has_12 : decode cX2_has 12 = .ok (.iconst 1, 1) := by decide +kernel
theorem dX2_has_13 : decode cX2_has 13 = .ok (.goto 4, 3) := by decide +kernel
theorem dX2_has_16 : decode cX2_has 16 = .ok (.iconst 0, 1) := by decide +kernel
theorem dX2_has_17 : decode cX2_has 17 = .ok (.ireturn, 1) := by decide +kernel
theorem dX2_hasAll_0 : decode cX2_hasAll 0 = .ok (.iload_n 1, 1) := by decide +kernel
theorem dX2_hasAll_1 : decode cX2_hasAll 1 = .ok (.aload_n 0, 1) := by decide +kernel
theorem dX2_hasAll_2 : decode cX2_hasAll 2 = .ok (.getfield 38, 3) := by decide +kernel
theorem dX2_hasAll_5 : decode cX2_hasAll 5 = .ok (.iushr, 1) := by decide +kernel
theorem dX2_hasAll_6 : decode cX2_hasAll 6 = .ok (.ifCond .ne 7, 3) := by decide +kernel
theorem dX2_hasAll_9 : decode cX2_hasAll 9 = .ok (.iconst 1, 1) := by decide +kernel
theorem dX2_hasAll_10 : decode cX2_hasAll 10 = .ok (.goto 4, 3) := by decide +kernel
theorem dX2_hasAll_13 : decode cX2_hasAll 13 = .ok (.iconst 0, 1) := by decide +kernel
theorem dX2_hasAll_14 : decode cX2_hasAll 14 = .ok (.ireturn, 1) := by decide +kernel
theorem dX2_size_0 : decode cX2_size 0 = .ok (.aload_n 0, 1) := by decide +kernel
theorem dX2_size_1 : decode cX2_size 1 = .ok (.getfield 38, 3) := by decide +kernel
theorem dX2_size_4 : decode cX2_size 4 = .ok (.ireturn, 1) := by decide +kernel
theorem dX2_add_0 : decode cX2_add 0 = .ok (.aload_n 0, 1) := by decide +kernel
theorem dX2_add_1 : decode cX2_add 1 = .ok (.getfield 38, 3) := by decide +kernel
theorem dX2_add_4 : decode cX2_add 4 = .ok (.bipush 12, 2) := by decide +kernel
theorem dX2_add_6 : decode cX2_add 6 = .ok (.if_icmp .lt 6, 3) := by decide +kernel
theorem dX2_add_9 : decode cX2_add 9 = .ok (.bipush (-3), 2) := by decide +kernel
theorem dX2_add_11 : decode cX2_add 11 = .ok (.ireturn, 1) := by decide +kernel
theorem dX2_add_12 : decode cX2_add 12 = .ok (.aload_n 0, 1) := by decide +kernel
theorem dX2_add_13 : decode cX2_add 13 = .ok (.getfield 9, 3) := by decide +kernel
theorem dX2_add_16 : decode cX2_add 16 = .ok (.aload_n 0, 1) := by decide +kernel
theorem dX2_add_17 : decode cX2_add 17 = .ok (.getfield 38, 3) := by decide +kernel
theorem dX2_add_20 : decode cX2_add 20 = .ok (.iload_n 1, 1) := by decide +kernel
theorem dX2_add_21 : decode cX2_add 21 = .ok (.iastore, 1) := by decide +kernel
theorem dX2_add_22 : decode cX2_add 22 = .ok (.aload_n 0, 1) := by decide +kernel
theorem dX2_add_23 : decode cX2_add 23 = .ok (.getfield 15, 3) := by decide +kernel
theorem dX2_add_26 : decode cX2_add 26 = .ok (.aload_n 0, 1) := by decide +kernel
theorem dX2_add_27 : decode cX2_add 27 = .ok (.getfield 38, 3) := by decide +kernel
theorem dX2_add_30 : decode cX2_add 30 = .ok (.iload_n 2, 1) := by decide +kernel
theorem dX2_add_31 : decode cX2_add 31 = .ok (.iastore, 1) := by decide +kernel
theorem dX2_add_32 : decode cX2_add 32 = .ok (.aload_n 0, 1) := by decide +kernel
theorem dX2_add_33 : decode cX2_add 33 = .ok (.getfield 18, 3) := by decide +kernel
theorem dX2_add_36 : decode cX2_add 36 = .ok (.aload_n 0, 1) := by decide +kernel
theorem dX2_add_37 : decode cX2_add 37 = .ok (.getfield 38, 3) := by decide +kernel
theorem dX2_add_40 : decode cX2_add 40 = .ok (.iload_n 3, 1) := by decide +kernel
theorem dX2_add_41 : decode cX2_add 41 = .ok (.iastore, 1) := by decide +kernel
theorem dX2_add_42 : decode cX2_add 42 = .ok (.aload_n 0, 1) := by decide +kernel
theorem dX2_add_43 : decode cX2_add 43 = .ok (.getfield 21, 3) := by decide +kernel
theorem dX2_add_46 : decode cX2_add 46 = .ok (.aload_n 0, 1) := by decide +kernel
theorem dX2_add_47 : decode cX2_add 47 = .ok (.getfield 38, 3) := by decide +kernel
theorem dX2_add_50 : decode cX2_add 50 = .ok (.iconst 1, 1) := by decide +kernel
theorem dX2_add_51 : decode cX2_add 51 = .ok (.iastore, 1) := by decide +kernel
theorem dX2_add_52 : decode cX2_add 52 = .ok (.aload_n 0, 1) := by decide +kernel
theorem dX2_add_53 : decode cX2_add 53 = .ok (.dup, 1) := by decide +kernel
theorem dX2_add_54 : decode cX2_add 54 = .ok (.getfield 38, 3) := by decide +kernel
theorem dX2_add_57 : decode cX2_add 57 = .ok (.iconst 1, 1) := by decide +kernel
theorem dX2_add_58 : decode cX2_add 58 = .ok (.iadd, 1) := by decide +kernel
theorem dX2_add_59 : decode cX2_add 59 = .ok (.putfield 38, 3) := by decide +kernel
theorem dX2_add_62 : decode cX2_add 62 = .ok (.aload_n 0, 1) := by decide +kernel
theorem dX2_add_63 : decode cX2_add 63 = .ok (.getfield 38, 3) := by decide +kernel
theorem dX2_add_66 : decode cX2_add 66 = .ok (.iconst 1, 1) := by decide +kernel
theorem dX2_add_67 : decode cX2_add 67 = .ok (.isub, 1) := by decide +kernel
theorem dX2_add_68 : decode cX2_add 68 = .ok (.ireturn, 1) := by decide +kernel
theorem dX2_addTest_0 : decode cX2_addTest 0 = .ok (.aload_n 0, 1) := by decide +kernel
theorem dX2_addTest_1 : decode cX2_addTest 1 = .ok (.getfield 24, 3) := by decide +kernel
theorem dX2_addTest_4 : decode cX2_addTest 4 = .ok (.iload_n 1, 1) := by decide +kernel
theorem dX2_addTest_5 : decode cX2_addTest 5 = .ok (.iaload, 1) := by decide +kernel
theorem dX2_addTest_6 : decode cX2_addTest 6 = .ok (.istore_n 3, 1) := by decide +kernel
theorem dX2_addTest_7 : decode cX2_addTest 7 = .ok (.iload_n 3, 1) := by decide +kernel
theorem dX2_addTest_8 : decode cX2_addTest 8 = .ok (.ifCond .le 23, 3) := by decide +kernel
theorem dX2_addTest_11 : decode cX2_addTest 11 = .ok (.iload_n 2, 1) := by decide +kernel
theorem dX2_addTest_12 : decode cX2_addTest 12 = .ok (.aload_n 0, 1) := by decide +kernel
theorem dX2_addTest_13 : decode cX2_addTest 13 = .ok (.getfield 27, 3) := by decide +kernel
theorem dX2_addTest_16 : decode cX2_addTest 16 = .ok (.iload_n 1, 1) := by decide +kernel
theorem dX2_addTest_17 : decode cX2_addTest 17 = .ok (.bipush 12, 2) := by decide +kernel
theorem dX2_addTest_19 : decode cX2_addTest 19 = .ok (.imul, 1) := by decide +kernel
theorem dX2_addTest_20 : decode cX2_addTest 20 = .ok (.iload_n 3, 1) := by decide +kernel
theorem dX2_addTest_21 : decode cX2_addTest 21 = .ok (.iadd, 1) := by decide +kernel
theorem dX2_addTest_22 : decode cX2_addTest 22 = .ok (.iconst 1, 1) := by decide +kernel
theorem dX2_addTest_23 : decode cX2_addTest 23 = .ok (.isub, 1) := by decide +kernel
theorem dX2_addTest_24 : decode cX2_addTest 24 = .ok (.iaload, 1) := by decide +kernel
theorem dX2_addTest_25 : decode cX2_addTest 25 = .ok (.if_icmp .gt 6, 3) := by decide +kernel
theorem dX2_addTest_28 : decode cX2_addTest 28 = .ok (.bipush (-2), 2) := by decide +kernel
theorem dX2_addTest_30 : decode cX2_addTest 30 = .ok (.ireturn, 1) := by decide +kernel
theorem dX2_addTest_31 : decode cX2_addTest 31 = .ok (.iload_n 3, 1) := by decide +kernel
theorem dX2_addTest_32 : decode cX2_addTest 32 = .ok (.bipush 12, 2) := by decide +kernel
theorem dX2_addTest_34 : decode cX2_addTest 34 = .ok (.if_icmp .lt 6, 3) := by decide +kernel
theorem dX2_addTest_37 : decode cX2_addTest 37 = .ok (.bipush (-3), 2) := by decide +kernel
theorem dX2_addTest_39 : decode cX2_addTest 39 = .ok (.ireturn, 1) := by decide +kernel
theorem dX2_addTest_40 : decode cX2_addTest 40 = .ok (.aload_n 0, 1) := by decide +kernel
theorem dX2_addTest_41 : decode cX2_addTest 41 = .ok (.getfield 27, 3) := by decide +kernel
theorem dX2_addTest_44 : decode cX2_addTest 44 = .ok (.iload_n 1, 1) := by decide +kernel
theorem dX2_addTest_45 : decode cX2_addTest 45 = .ok (.bipush 12, 2) := by decide +kernel
theorem dX2_addTest_47 : decode cX2_addTest 47 = .ok (.imul, 1) := by decide +kernel
theorem dX2_addTest_48 : decode cX2_addTest 48 = .ok (.iload_n 3, 1) := by decide +kernel
theorem dX2_addTest_49 : decode cX2_addTest 49 = .ok (.iadd, 1) := by decide +kernel
theorem dX2_addTest_50 : decode cX2_addTest 50 = .ok (.iload_n 2, 1) := by decide +kernel
theorem dX2_addTest_51 : decode cX2_addTest 51 = .ok (.iastore, 1) := by decide +kernel
theorem dX2_addTest_52 : decode cX2_addTest 52 = .ok (.aload_n 0, 1) := by decide +kernel
theorem dX2_addTest_53 : decode cX2_addTest 53 = .ok (.getfield 24, 3) := by decide +kernel
theorem dX2_addTest_56 : decode cX2_addTest 56 = .ok (.iload_n 1, 1) := by decide +kernel
theorem dX2_addTest_57 : decode cX2_addTest 57 = .ok (.iload_n 3, 1) := by decide +kernel
theorem dX2_addTest_58 : decode cX2_addTest 58 = .ok (.iconst 1, 1) := by decide +kernel
theorem dX2_addTest_59 : decode cX2_addTest 59 = .ok (.iadd, 1) := by decide +kernel
theorem dX2_addTest_60 : decode cX2_addTest 60 = .ok (.iastore, 1) := by decide +kernel
theorem dX2_addTest_61 : decode cX2_addTest 61 = .ok (.iload_n 3, 1) := by decide +kernel
theorem dX2_addTest_62 : decode cX2_addTest 62 = .ok (.iconst 1, 1) := by decide +kernel
theorem dX2_addTest_63 : decode cX2_addTest 63 = .ok (.iadd, 1) := by decide +kernel
theorem dX2_addTest_64 : decode cX2_addTest 64 = .ok (.ireturn, 1) := by decide +kernel
theorem dX2_dropTests_0 : decode cX2_dropTests 0 = .ok (.aload_n 0, 1) := by decide +kernel
theorem dX2_dropTests_1 : decode cX2_dropTests 1 = .ok (.iload_n 1, 1) := by decide +kernel
theorem dX2_dropTests_2 : decode cX2_dropTests 2 = .ok (.iload_n 2, 1) := by decide +kernel
theorem dX2_dropTests_3 : decode cX2_dropTests 3 = .ok (.iconst 1, 1) := by decide +kernel
theorem dX2_dropTests_4 : decode cX2_dropTests 4 = .ok (.isub, 1) := by decide +kernel
theorem dX2_dropTests_5 : decode cX2_dropTests 5 = .ok (.invokevirtual 41, 3) := by decide +kernel
theorem dX2_dropTests_8 : decode cX2_dropTests 8 = .ok (.istore_n 3, 1) := by decide +kernel
theorem dX2_dropTests_9 : decode cX2_dropTests 9 = .ok (.aload_n 0, 1) := by decide +kernel
theorem dX2_dropTests_10 : decode cX2_dropTests 10 = .ok (.getfield 24, 3) := by decide +kernel
theorem dX2_dropTests_13 : decode cX2_dropTests 13 = .ok (.iload_n 1, 1) := by decide +kernel
theorem dX2_dropTests_14 : decode cX2_dropTests 14 = .ok (.iaload, 1) := by decide +kernel
theorem dX2_dropTests_15 : decode cX2_dropTests 15 = .ok (.iload_n 3, 1) := by decide +kernel
theorem dX2_dropTests_16 : decode cX2_dropTests 16 = .ok (.isub, 1) := by decide +kernel
theorem dX2_dropTests_17 : decode cX2_dropTests 17 = .ok (.istore 4, 2) := by decide +kernel
theorem dX2_dropTests_19 : decode cX2_dropTests 19 = .ok (.aload_n 0, 1) := by decide +kernel
theorem dX2_dropTests_20 : decode cX2_dropTests 20 = .ok (.getfield 24, 3) := by decide +kernel
theorem dX2_dropTests_23 : decode cX2_dropTests 23 = .ok (.iload_n 1, 1) := by decide +kernel
theorem dX2_dropTests_24 : decode cX2_dropTests 24 = .ok (.iload_n 3, 1) := by decide +kernel
theorem dX2_dropTests_25 : decode cX2_dropTests 25 = .ok (.iastore, 1) := by decide +kernel
