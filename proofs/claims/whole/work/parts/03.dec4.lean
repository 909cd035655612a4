theorem dX6_does_103 : decode cX6_does 103 = .ok (.aload_n 0, 1) := by decide +kernel
theorem dX6_does_104 : decode cX6_does 104 = .ok (.getfield 61, 3) := by decide +kernel
theorem dX6_does_107 : decode cX6_does 107 = .ok (.iload_n 3, 1) := by decide +kernel
theorem dX6_does_108 : decode cX6_does 108 = .ok (.iload 4, 2) := by decide +kernel
theorem dX6_does_110 : decode cX6_does 110 = .ok (.aload_n 0, 1) := by decide +kernel
theorem dX6_does_111 : decode cX6_does 111 = .ok (.getfield 49, 3) := by decide +kernel
theorem dX6_does_114 : decode cX6_does 114 = .ok (.iload_n 3, 1) := by decide +kernel
theorem dX6_does_115 : decode cX6_does 115 = .ok (.iaload, 1) := by decide +kernel
theorem dX6_does_116 : decode cX6_does 116 = .ok (.if_icmp .lt 7, 3) := by decide +kernel
theorem dX6_does_119 : decode cX6_does 119 = .ok (.iconst 1, 1) := by decide +kernel
theorem dX6_does_120 : decode cX6_does 120 = .ok (.goto 4, 3) := by decide +kernel
theorem dX6_does_123 : decode cX6_does 123 = .ok (.iconst 0, 1) := by decide +kernel
theorem dX6_does_124 : decode cX6_does 124 = .ok (.bastore, 1) := by decide +kernel
theorem dX6_does_125 : decode cX6_does 125 = .ok (.iinc 3 1, 3) := by decide +kernel
theorem dX6_does_128 : decode cX6_does 128 = .ok (.goto (-126), 3) := by decide +kernel
theorem dX6_does_131 : decode cX6_does 131 = .ok (.aload_n 0, 1) := by decide +kernel
theorem dX6_does_132 : decode cX6_does 132 = .ok (.getfield 61, 3) := by decide +kernel
theorem dX6_does_135 : decode cX6_does 135 = .ok (.iload_n 1, 1) := by decide +kernel
theorem dX6_does_136 : decode cX6_does 136 = .ok (.baload, 1) := by decide +kernel
theorem dX6_does_137 : decode cX6_does 137 = .ok (.ireturn, 1) := by decide +kernel
theorem dX6_adds_0 : decode cX6_adds 0 = .ok (.aload_n 0, 1) := by decide +kernel
theorem dX6_adds_1 : decode cX6_adds 1 = .ok (.getfield 65, 3) := by decide +kernel
theorem dX6_adds_4 : decode cX6_adds 4 = .ok (.aload_n 0, 1) := by decide +kernel
theorem dX6_adds_5 : decode cX6_adds 5 = .ok (.getfield 138, 3) := by decide +kernel
theorem dX6_adds_8 : decode cX6_adds 8 = .ok (.iload_n 1, 1) := by decide +kernel
theorem dX6_adds_9 : decode cX6_adds 9 = .ok (.iastore, 1) := by decide +kernel
theorem dX6_adds_10 : decode cX6_adds 10 = .ok (.aload_n 0, 1) := by decide +kernel
theorem dX6_adds_11 : decode cX6_adds 11 = .ok (.getfield 68, 3) := by decide +kernel
theorem dX6_adds_14 : decode cX6_adds 14 = .ok (.aload_n 0, 1) := by decide +kernel
theorem dX6_adds_15 : decode cX6_adds 15 = .ok (.getfield 138, 3) := by decide +kernel
theorem dX6_adds_18 : decode cX6_adds 18 = .ok (.iload_n 2, 1) := by decide +kernel
theorem dX6_adds_19 : decode cX6_adds 19 = .ok (.iastore, 1) := by decide +kernel
theorem dX6_adds_20 : decode cX6_adds 20 = .ok (.aload_n 0, 1) := by decide +kernel
theorem dX6_adds_21 : decode cX6_adds 21 = .ok (.dup, 1) := by decide +kernel
theorem dX6_adds_22 : decode cX6_adds 22 = .ok (.getfield 138, 3) := by decide +kernel
theorem dX6_adds_25 : decode cX6_adds 25 = .ok (.iconst 1, 1) := by decide +kernel
theorem dX6_adds_26 : decode cX6_adds 26 = .ok (.iadd, 1) := by decide +kernel
theorem dX6_adds_27 : decode cX6_adds 27 = .ok (.putfield 138, 3) := by decide +kernel
theorem dX6_adds_30 : decode cX6_adds 30 = .ok (.return_, 1) := by decide +kernel
theorem dX6_sums_0 : decode cX6_sums 0 = .ok (.lconst 0, 1) := by decide +kernel
theorem dX6_sums_1 : decode cX6_sums 1 = .ok (.lstore_n 3, 1) := by decide +kernel
theorem dX6_sums_2 : decode cX6_sums 2 = .ok (.iconst 0, 1) := by decide +kernel
theorem dX6_sums_3 : decode cX6_sums 3 = .ok (.istore 5, 2) := by decide +kernel
theorem dX6_sums_5 : decode cX6_sums 5 = .ok (.iload 5, 2) := by decide +kernel
theorem dX6_sums_7 : decode cX6_sums 7 = .ok (.iconst 1, 1) := by decide +kernel
theorem dX6_sums_8 : decode cX6_sums 8 = .ok (.aload_n 0, 1) := by decide +kernel
theorem dX6_sums_9 : decode cX6_sums 9 = .ok (.getfield 138, 3) := by decide +kernel
theorem dX6_sums_12 : decode cX6_sums 12 = .ok (.ishl, 1) := by decide +kernel
theorem dX6_sums_13 : decode cX6_sums 13 = .ok (.if_icmp .ge 138, 3) := by decide +kernel
theorem dX6_sums_16 : decode cX6_sums 16 = .ok (.iconst 0, 1) := by decide +kernel
theorem dX6_sums_17 : decode cX6_sums 17 = .ok (.istore 6, 2) := by decide +kernel
theorem dX6_sums_19 : decode cX6_sums 19 = .ok (.lconst 1, 1) := by decide +kernel
theorem dX6_sums_20 : decode cX6_sums 20 = .ok (.lstore 7, 2) := by decide +kernel
theorem dX6_sums_22 : decode cX6_sums 22 = .ok (.iconst 0, 1) := by decide +kernel
theorem dX6_sums_23 : decode cX6_sums 23 = .ok (.istore 9, 2) := by decide +kernel
theorem dX6_sums_25 : decode cX6_sums 25 = .ok (.iload 9, 2) := by decide +kernel
theorem dX6_sums_27 : decode cX6_sums 27 = .ok (.aload_n 0, 1) := by decide +kernel
theorem dX6_sums_28 : decode cX6_sums 28 = .ok (.getfield 138, 3) := by decide +kernel
theorem dX6_sums_31 : decode cX6_sums 31 = .ok (.if_icmp .ge 80, 3) := by decide +kernel
theorem dX6_sums_34 : decode cX6_sums 34 = .ok (.iload 5, 2) := by decide +kernel
theorem dX6_sums_36 : decode cX6_sums 36 = .ok (.iload 9, 2) := by decide +kernel
theorem dX6_sums_38 : decode cX6_sums 38 = .ok (.ishr, 1) := by decide +kernel
theorem dX6_sums_39 : decode cX6_sums 39 = .ok (.iconst 1, 1) := by decide +kernel
theorem dX6_sums_40 : decode cX6_sums 40 = .ok (.iand, 1) := by decide +kernel
theorem dX6_sums_41 : decode cX6_sums 41 = .ok (.iconst 1, 1) := by decide +kernel
theorem dX6_sums_42 : decode cX6_sums 42 = .ok (.if_icmp .ne 7, 3) := by decide +kernel
theorem dX6_sums_45 : decode cX6_sums 45 = .ok (.iconst 1, 1) := by decide +kernel
theorem dX6_sums_46 : decode cX6_sums 46 = .ok (.goto 4, 3) := by decide +kernel
theorem dX6_sums_49 : decode cX6_sums 49 = .ok (.iconst 0, 1) := by decide +kernel
theorem dX6_sums_50 : decode cX6_sums 50 = .ok (.istore 10, 2) := by decide +kernel
theorem dX6_sums_52 : decode cX6_sums 52 = .ok (.iload 6, 2) := by decide +kernel
theorem dX6_sums_54 : decode cX6_sums 54 = .ok (.iload 10, 2) := by decide +kernel
theorem dX6_sums_56 : decode cX6_sums 56 = .ok (.ifCond .eq 13, 3) := by decide +kernel
theorem dX6_sums_59 : decode cX6_sums 59 = .ok (.aload_n 0, 1) := by decide +kernel
theorem dX6_sums_60 : decode cX6_sums 60 = .ok (.getfield 68, 3) := by decide +kernel
theorem dX6_sums_63 : decode cX6_sums 63 = .ok (.iload 9, 2) := by decide +kernel
theorem dX6_sums_65 : decode cX6_sums 65 = .ok (.iaload, 1) := by decide +kernel
theorem dX6_sums_66 : decode cX6_sums 66 = .ok (.goto 4, 3) := by decide +kernel
theorem dX6_sums_69 : decode cX6_sums 69 = .ok (.iconst 0, 1) := by decide +kernel
theorem dX6_sums_70 : decode cX6_sums 70 = .ok (.ior, 1) := by decide +kernel
theorem dX6_sums_71 : decode cX6_sums 71 = .ok (.istore 6, 2) := by decide +kernel
theorem dX6_sums_73 : decode cX6_sums 73 = .ok (.lload 7, 2) := by decide +kernel
theorem dX6_sums_75 : decode cX6_sums 75 = .ok (.iload 10, 2) := by decide +kernel
theorem dX6_sums_77 : decode cX6_sums 77 = .ok (.ifCond .eq 14, 3) := by decide +kernel
theorem dX6_sums_80 : decode cX6_sums 80 = .ok (.aload_n 0, 1) := by decide +kernel
theorem dX6_sums_81 : decode cX6_sums 81 = .ok (.getfield 65, 3) := by decide +kernel
theorem dX6_sums_84 : decode cX6_sums 84 = .ok (.iload 9, 2) := by decide +kernel
theorem dX6_sums_86 : decode cX6_sums 86 = .ok (.iaload, 1) := by decide +kernel
theorem dX6_sums_87 : decode cX6_sums 87 = .ok (.i2l, 1) := by decide +kernel
theorem dX6_sums_88 : decode cX6_sums 88 = .ok (.goto 14, 3) := by decide +kernel
theorem dX6_sums_91 : decode cX6_sums 91 = .ok (.bipush 64, 2) := by decide +kernel
theorem dX6_sums_93 : decode cX6_sums 93 = .ok (.aload_n 0, 1) := by decide +kernel
theorem dX6_sums_94 : decode cX6_sums 94 = .ok (.getfield 65, 3) := by decide +kernel
theorem dX6_sums_97 : decode cX6_sums 97 = .ok (.iload 9, 2) := by decide +kernel
theorem dX6_sums_99 : decode cX6_sums 99 = .ok (.iaload, 1) := by decide +kernel
theorem dX6_sums_100 : decode cX6_sums 100 = .ok (.isub, 1) := by decide +kernel
theorem dX6_sums_101 : decode cX6_sums 101 = .ok (.i2l, 1) := by decide +kernel
theorem dX6_sums_102 : decode cX6_sums 102 = .ok (.lmul, 1) := by decide +kernel
theorem dX6_sums_103 : decode cX6_sums 103 = .ok (.lstore 7, 2) := by decide +kernel
theorem dX6_sums_105 : decode cX6_sums 105 = .ok (.iinc 9 1, 3) := by decide +kernel
theorem dX6_sums_108 : decode cX6_sums 108 = .ok (.goto (-83), 3) := by decide +kernel
theorem dX6_sums_111 : decode cX6_sums 111 = .ok (.lload 7, 2) := by decide +kernel
theorem dX6_sums_113 : decode cX6_sums 113 = .ok (.lconst 0, 1) := by decide +kernel
theorem dX6_sums_114 : decode cX6_sums 114 = .ok (.lcmp, 1) := by decide +kernel
theorem dX6_sums_115 : decode cX6_sums 115 = .ok (.ifCond .le 30, 3) := by decide +kernel
theorem dX6_sums_118 : decode cX6_sums 118 = .ok (.aload_n 0, 1) := by decide +kernel
theorem dX6_sums_119 : decode cX6_sums 119 = .ok (.iload_n 1, 1) := by decide +kernel
theorem dX6_sums_120 : decode cX6_sums 120 = .ok (.iload_n 2, 1) := by decide +kernel
theorem dX6_sums_121 : decode cX6_sums 121 = .ok (.ifCond .eq 10, 3) := by decide +kernel
theorem dX6_sums_124 : decode cX6_sums 124 = .ok (.iload 6, 2) := by decide +kernel
theorem dX6_sums_126 : decode cX6_sums 126 = .ok (.iconst (-1), 1) := by decide +kernel
theorem dX6_sums_127 : decode cX6_sums 127 = .ok (.ixor, 1) := by decide +kernel
theorem dX6_sums_128 : decode cX6_sums 128 = .ok (.goto 5, 3) := by decide +kernel
theorem dX6_sums_131 : decode cX6_sums 131 = .ok (.iload 6, 2) := by decide +kernel
theorem dX6_sums_133 : decode cX6_sums 133 = .ok (.invokevirtual 141, 3) := by decide +kernel
theorem dX6_sums_136 : decode cX6_sums 136 = .ok (.iload_n 2, 1) := by decide +kernel
theorem dX6_sums_137 : decode cX6_sums 137 = .ok (.if_icmp .eq 8, 3) := by decide +kernel
theorem dX6_sums_140 : decode cX6_sums 140 = .ok (.lload_n 3, 1) := by decide +kernel
theorem dX6_sums_141 : decode cX6_sums 141 = .ok (.lload 7, 2) := by decide +kernel
theorem dX6_sums_143 : decode cX6_sums 143 = .ok (.ladd, 1) := by decide +kernel
theorem dX6_sums_144 : decode cX6_sums 144 = .ok (.lstore_n 3, 1) := by decide +kernel
theorem dX6_sums_145 : decode cX6_sums 145 = .ok (.iinc 5 1, 3) := by decide +kernel
theorem dX6_sums_148 : decode cX6_sums 148 = .ok (.goto (-143), 3) := by decide +kernel
theorem dX6_sums_151 : decode cX6_sums 151 = .ok (.aload_n 0, 1) := by decide +kernel
theorem dX6_sums_152 : decode cX6_sums 152 = .ok (.getfield 138, 3) := by decide +kernel
theorem dX6_sums_155 : decode cX6_sums 155 = .ok (.istore 5, 2) := by decide +kernel
theorem dX6_sums_157 : decode cX6_sums 157 = .ok (.iload 5, 2) := by decide +kernel
theorem dX6_sums_159 : decode cX6_sums 159 = .ok (.bipush 8, 2) := by decide +kernel
theorem dX6_sums_161 : decode cX6_sums 161 = .ok (.if_icmp .ge 15, 3) := by decide +kernel
theorem dX6_sums_164 : decode cX6_sums 164 = .ok (.lload_n 3, 1) := by decide +kernel
theorem dX6_sums_165 : decode cX6_sums 165 = .ok (.ldc2_w 87, 3) := by decide +kernel
theorem dX6_sums_168 : decode cX6_sums 168 = .ok (.lmul, 1) := by decide +kernel
theorem dX6_sums_169 : decode cX6_sums 169 = .ok (.lstore_n 3, 1) := by decide +kernel
theorem dX6_sums_170 : decode cX6_sums 170 = .ok (.iinc 5 1, 3) := by decide +kernel
theorem dX6_sums_173 : decode cX6_sums 173 = .ok (.goto (-16), 3) := by decide +kernel
theorem dX6_sums_176 : decode cX6_sums 176 = .ok (.lload_n 3, 1) := by decide +kernel
theorem dX6_sums_177 : decode cX6_sums 177 = .ok (.lreturn, 1) := by decide +kernel
theorem dX6_chanceOf_0 : decode cX6_chanceOf 0 = .ok (.aload_n 0, 1) := by decide +kernel
theorem dX6_chanceOf_1 : decode cX6_chanceOf 1 = .ok (.iload_n 1, 1) := by decide +kernel
theorem dX6_chanceOf_2 : decode cX6_chanceOf 2 = .ok (.invokevirtual 124, 3) := by decide +kernel
theorem dX6_chanceOf_5 : decode cX6_chanceOf 5 = .ok (.istore_n 3, 1) := by decide +kernel
theorem dX6_chanceOf_6 : decode cX6_chanceOf 6 = .ok (.aload_n 0, 1) := by decide +kernel
theorem dX6_chanceOf_7 : decode cX6_chanceOf 7 = .ok (.iconst 0, 1) := by decide +kernel
theorem dX6_chanceOf_8 : decode cX6_chanceOf 8 = .ok (.putfield 138, 3) := by decide +kernel
theorem dX6_chanceOf_11 : decode cX6_chanceOf 11 = .ok (.iconst 0, 1) := by decide +kernel
theorem dX6_chanceOf_12 : decode cX6_chanceOf 12 = .ok (.istore 4, 2) := by decide +kernel
theorem dX6_chanceOf_14 : decode cX6_chanceOf 14 = .ok (.iload 4, 2) := by decide +kernel
theorem dX6_chanceOf_16 : decode cX6_chanceOf 16 = .ok (.aload_n 0, 1) := by decide +kernel
theorem dX6_chanceOf_17 : decode cX6_chanceOf 17 = .ok (.getfield 74, 3) := by decide +kernel
theorem dX6_chanceOf_20 : decode cX6_chanceOf 20 = .ok (.if_icmp .ge 34, 3) := by decide +kernel
theorem dX6_chanceOf_23 : decode cX6_chanceOf 23 = .ok (.iload_n 3, 1) := by decide +kernel
theorem dX6_chanceOf_24 : decode cX6_chanceOf 24 = .ok (.iload 4, 2) := by decide +kernel
theorem dX6_chanceOf_26 : decode cX6_chanceOf 26 = .ok (.ishr, 1) := by decide +kernel
theorem dX6_chanceOf_27 : decode cX6_chanceOf 27 = .ok (.iconst 1, 1) := by decide +kernel
theorem dX6_chanceOf_28 : decode cX6_chanceOf 28 = .ok (.iand, 1) := by decide +kernel
theorem dX6_chanceOf_29 : decode cX6_chanceOf 29 = .ok (.iconst 1, 1) := by decide +kernel
theorem dX6_chanceOf_30 : decode cX6_chanceOf 30 = .ok (.if_icmp .ne 18, 3) := by decide +kernel
theorem dX6_chanceOf_33 : decode cX6_chanceOf 33 = .ok (.aload_n 0, 1) := by decide +kernel
theorem dX6_chanceOf_34 : decode cX6_chanceOf 34 = .ok (.aload_n 0, 1) := by decide +kernel
theorem dX6_chanceOf_35 : decode cX6_chanceOf 35 = .ok (.iload 4, 2) := by decide +kernel
theorem dX6_chanceOf_37 : decode cX6_chanceOf 37 = .ok (.iload_n 2, 1) := by decide +kernel
theorem dX6_chanceOf_38 : decode cX6_chanceOf 38 = .ok (.invokevirtual 120, 3) := by decide +kernel
theorem dX6_chanceOf_41 : decode cX6_chanceOf 41 = .ok (.iconst 1, 1) := by decide +kernel
theorem dX6_chanceOf_42 : decode cX6_chanceOf 42 = .ok (.iload 4, 2) := by decide +kernel
theorem dX6_chanceOf_44 : decode cX6_chanceOf 44 = .ok (.ishl, 1) := by decide +kernel
theorem dX6_chanceOf_45 : decode cX6_chanceOf 45 = .ok (.invokevirtual 144, 3) := by decide +kernel
theorem dX6_chanceOf_48 : decode cX6_chanceOf 48 = .ok (.iinc 4 1, 3) := by decide +kernel
theorem dX6_chanceOf_51 : decode cX6_chanceOf 51 = .ok (.goto (-37), 3) := by decide +kernel
theorem dX6_chanceOf_54 : decode cX6_chanceOf 54 = .ok (.iconst 0, 1) := by decide +kernel
theorem dX6_chanceOf_55 : decode cX6_chanceOf 55 = .ok (.istore 4, 2) := by decide +kernel
theorem dX6_chanceOf_57 : decode cX6_chanceOf 57 = .ok (.iload 4, 2) := by decide +kernel
theorem dX6_chanceOf_59 : decode cX6_chanceOf 59 = .ok (.aload_n 0, 1) := by decide +kernel
theorem dX6_chanceOf_60 : decode cX6_chanceOf 60 = .ok (.getfield 110, 3) := by decide +kernel
theorem dX6_chanceOf_63 : decode cX6_chanceOf 63 = .ok (.if_icmp .ge 39, 3) := by decide +kernel
theorem dX6_chanceOf_66 : decode cX6_chanceOf 66 = .ok (.aload_n 0, 1) := by decide +kernel
theorem dX6_chanceOf_67 : decode cX6_chanceOf 67 = .ok (.getfield 46, 3) := by decide +kernel
theorem dX6_chanceOf_70 : decode cX6_chanceOf 70 = .ok (.iload 4, 2) := by decide +kernel
theorem dX6_chanceOf_72 : decode cX6_chanceOf 72 = .ok (.iaload, 1) := by decide +kernel
theorem dX6_chanceOf_73 : decode cX6_chanceOf 73 = .ok (.iload_n 3, 1) := by decide +kernel
theorem dX6_chanceOf_74 : decode cX6_chanceOf 74 = .ok (.iand, 1) := by decide +kernel
theorem dX6_chanceOf_75 : decode cX6_chanceOf 75 = .ok (.ifCond .eq 21, 3) := by decide +kernel
theorem dX6_chanceOf_78 : decode cX6_chanceOf 78 = .ok (.aload_n 0, 1) := by decide +kernel
theorem dX6_chanceOf_79 : decode cX6_chanceOf 79 = .ok (.aload_n 0, 1) := by decide +kernel
theorem dX6_chanceOf_80 : decode cX6_chanceOf 80 = .ok (.getfield 43, 3) := by decide +kernel
theorem dX6_chanceOf_83 : decode cX6_chanceOf 83 = .ok (.iload 4, 2) := by decide +kernel
theorem dX6_chanceOf_85 : decode cX6_chanceOf 85 = .ok (.iaload, 1) := by decide +kernel
theorem dX6_chanceOf_86 : decode cX6_chanceOf 86 = .ok (.aload_n 0, 1) := by decide +kernel
theorem dX6_chanceOf_87 : decode cX6_chanceOf 87 = .ok (.getfield 46, 3) := by decide +kernel
theorem dX6_chanceOf_90 : decode cX6_chanceOf 90 = .ok (.iload 4, 2) := by decide +kernel
theorem dX6_chanceOf_92 : decode cX6_chanceOf 92 = .ok (.iaload, 1) := by decide +kernel
theorem dX6_chanceOf_93 : decode cX6_chanceOf 93 = .ok (.invokevirtual 144, 3) := by decide +kernel
theorem dX6_chanceOf_96 : decode cX6_chanceOf 96 = .ok (.iinc 4 1, 3) := by decide +kernel
theorem dX6_chanceOf_99 : decode cX6_chanceOf 99 = .ok (.goto (-42), 3) := by decide +kernel
theorem dX6_chanceOf_102 : decode cX6_chanceOf 102 = .ok (.aload_n 0, 1) := by decide +kernel
theorem dX6_chanceOf_103 : decode cX6_chanceOf 103 = .ok (.iload_n 1, 1) := by decide +kernel
theorem dX6_chanceOf_104 : decode cX6_chanceOf 104 = .ok (.iconst 1, 1) := by decide +kernel
theorem dX6_chanceOf_105 : decode cX6_chanceOf 105 = .ok (.invokevirtual 148, 3) := by decide +kernel
theorem dX6_chanceOf_108 : decode cX6_chanceOf 108 = .ok (.lreturn, 1) := by decide +kernel
theorem dX6_chance_0 : decode cX6_chance 0 = .ok (.aload_n 0, 1) := by decide +kernel
theorem dX6_chance_1 : decode cX6_chance 1 = .ok (.iload_n 1, 1) := by decide +kernel
theorem dX6_chance_2 : decode cX6_chance 2 = .ok (.invokevirtual 130, 3) := by decide +kernel
theorem dX6_chance_5 : decode cX6_chance 5 = .ok (.ifCond .eq 10, 3) := by decide +kernel
theorem dX6_chance_8 : decode cX6_chance 8 = .ok (.iload_n 2, 1) := by decide +kernel
theorem dX6_chance_9 : decode cX6_chance 9 = .ok (.invokestatic 93, 3) := by decide +kernel
theorem dX6_chance_12 : decode cX6_chance 12 = .ok (.ifCond .ne 7, 3) := by decide +kernel
theorem dX6_chance_15 : decode cX6_chance 15 = .ok (.ldc2_w 152, 3) := by decide +kernel
theorem dX6_chance_18 : decode cX6_chance 18 = .ok (.lreturn, 1) := by decide +kernel
theorem dX6_chance_19 : decode cX6_chance 19 = .ok (.aload_n 0, 1) := by decide +kernel
theorem dX6_chance_20 : decode cX6_chance 20 = .ok (.iload_n 1, 1) := by decide +kernel
theorem dX6_chance_21 : decode cX6_chance 21 = .ok (.invokevirtual 135, 3) := by decide +kernel
theorem dX6_chance_24 : decode cX6_chance 24 = .ok (.bipush 8, 2) := by decide +kernel
theorem dX6_chance_26 : decode cX6_chance 26 = .ok (.if_icmp .le 9, 3) := by decide +kernel
theorem dX6_chance_29 : decode cX6_chance 29 = .ok (.ldc2_w 154, 3) := by decide +kernel
theorem dX6_chance_32 : decode cX6_chance 32 = .ok (.goto 9, 3) := by decide +kernel
theorem dX6_chance_35 : decode cX6_chance 35 = .ok (.aload_n 0, 1) := by decide +kernel
theorem dX6_chance_36 : decode cX6_chance 36 = .ok (.iload_n 1, 1) := by decide +kernel
theorem dX6_chance_37 : decode cX6_chance 37 = .ok (.iload_n 2, 1) := by decide +kernel
theorem dX6_chance_38 : decode cX6_chance 38 = .ok (.invokevirtual 156, 3) := by decide +kernel
theorem dX6_chance_41 : decode cX6_chance 41 = .ok (.lreturn, 1) := by decide +kernel
theorem dX6_isSpan_0 : decode cX6_isSpan 0 = .ok (.iload_n 1, 1) := by decide +kernel
theorem dX6_isSpan_1 : decode cX6_isSpan 1 = .ok (.iload_n 2, 1) := by decide +kernel
theorem dX6_isSpan_2 : decode cX6_isSpan 2 = .ok (.invokestatic 96, 3) := by decide +kernel
theorem dX6_isSpan_5 : decode cX6_isSpan 5 = .ok (.ifCond .eq 16, 3) := by decide +kernel
theorem dX6_isSpan_8 : decode cX6_isSpan 8 = .ok (.iload_n 2, 1) := by decide +kernel
theorem dX6_isSpan_9 : decode cX6_isSpan 9 = .ok (.iload_n 1, 1) := by decide +kernel
theorem dX6_isSpan_10 : decode cX6_isSpan 10 = .ok (.isub, 1) := by decide +kernel
theorem dX6_isSpan_11 : decode cX6_isSpan 11 = .ok (.sipush 200, 3) := by decide +kernel
theorem dX6_isSpan_14 : decode cX6_isSpan 14 = .ok (.if_icmp .ge 7, 3) := by decide +kernel
theorem dX6_isSpan_17 : decode cX6_isSpan 17 = .ok (.iconst 1, 1) := by decide +kernel
theorem dX6_isSpan_18 : decode cX6_isSpan 18 = .ok (.goto 4, 3) := by decide +kernel
theorem dX6_isSpan_21 : decode cX6_isSpan 21 = .ok (.iconst 0, 1) := by decide +kernel
theorem dX6_isSpan_22 : decode cX6_isSpan 22 = .ok (.ireturn, 1) := by decide +kernel
theorem dX6_over_0 : decode cX6_over 0 = .ok (.aload_n 0, 1) := by decide +kernel
theorem dX6_over_1 : decode cX6_over 1 = .ok (.iload_n 1, 1) := by decide +kernel
theorem dX6_over_2 : decode cX6_over 2 = .ok (.invokevirtual 130, 3) := by decide +kernel
theorem dX6_over_5 : decode cX6_over 5 = .ok (.ifCond .eq 12, 3) := by decide +kernel
theorem dX6_over_8 : decode cX6_over 8 = .ok (.aload_n 0, 1) := by decide +kernel
theorem dX6_over_9 : decode cX6_over 9 = .ok (.iload_n 2, 1) := by decide +kernel
theorem dX6_over_10 : decode cX6_over 10 = .ok (.iload_n 3, 1) := by decide +kernel
theorem dX6_over_11 : decode cX6_over 11 = .ok (.invokevirtual 160, 3) := by decide +kernel
theorem dX6_over_14 : decode cX6_over 14 = .ok (.ifCond .ne 7, 3) := by decide +kernel
theorem dX6_over_17 : decode cX6_over 17 = .ok (.ldc2_w 152, 3) := by decide +kernel
theorem dX6_over_20 : decode cX6_over 20 = .ok (.lreturn, 1) := by decide +kernel
theorem dX6_over_21 : decode cX6_over 21 = .ok (.aload_n 0, 1) := by decide +kernel
theorem dX6_over_22 : decode cX6_over 22 = .ok (.iload_n 1, 1) := by decide +kernel
theorem dX6_over_23 : decode cX6_over 23 = .ok (.invokevirtual 135, 3) := by decide +kernel
theorem dX6_over_26 : decode cX6_over 26 = .ok (.bipush 8, 2) := by decide +kernel
theorem dX6_over_28 : decode cX6_over 28 = .ok (.if_icmp .le 7, 3) := by decide +kernel
theorem dX6_over_31 : decode cX6_over 31 = .ok (.ldc2_w 154, 3) := by decide +kernel
theorem dX6_over_34 : decode cX6_over 34 = .ok (.lreturn, 1) := by decide +kernel
theorem dX6_over_35 : decode cX6_over 35 = .ok (.lconst 0, 1) := by decide +kernel
theorem dX6_over_36 : decode cX6_over 36 = .ok (.lstore 4, 2) := by decide +kernel
theorem dX6_over_38 : decode cX6_over 38 = .ok (.iload_n 2, 1) := by decide +kernel
theorem dX6_over_39 : decode cX6_over 39 = .ok (.istore 6, 2) := by decide +kernel
theorem dX6_over_41 : decode cX6_over 41 = .ok (.iload 6, 2) := by decide +kernel
theorem dX6_over_43 : decode cX6_over 43 = .ok (.iload_n 3, 1) := by decide +kernel
theorem dX6_over_44 : decode cX6_over 44 = .ok (.if_icmp .gt 21, 3) := by decide +kernel
theorem dX6_over_47 : decode cX6_over 47 = .ok (.lload 4, 2) := by decide +kernel
theorem dX6_over_49 : decode cX6_over 49 = .ok (.aload_n 0, 1) := by decide +kernel
theorem dX6_over_50 : decode cX6_over 50 = .ok (.iload_n 1, 1) := by decide +kernel
theorem dX6_over_51 : decode cX6_over 51 = .ok (.iload 6, 2) := by decide +kernel
theorem dX6_over_53 : decode cX6_over 53 = .ok (.invokevirtual 156, 3) := by decide +kernel
theorem dX6_over_56 : decode cX6_over 56 = .ok (.ladd, 1) := by decide +kernel
theorem dX6_over_57 : decode cX6_over 57 = .ok (.lstore 4, 2) := by decide +kernel
theorem dX6_over_59 : decode cX6_over 59 = .ok (.iinc 6 1, 3) := by decide +kernel
theorem dX6_over_62 : decode cX6_over 62 = .ok (.goto (-21), 3) := by decide +kernel
theorem dX6_over_65 : decode cX6_over 65 = .ok (.lload 4, 2) := by decide +kernel
theorem dX6_over_67 : decode cX6_over 67 = .ok (.lreturn, 1) := by decide +kernel
theorem dX6_broken_0 : decode cX6_broken 0 = .ok (.aload_n 0, 1) := by decide +kernel
theorem dX6_broken_1 : decode cX6_broken 1 = .ok (.iload_n 1, 1) := by decide +kernel
theorem dX6_broken_2 : decode cX6_broken 2 = .ok (.invokevirtual 130, 3) := by decide +kernel
theorem dX6_broken_5 : decode cX6_broken 5 = .ok (.ifCond .eq 24, 3) := by decide +kernel
theorem dX6_broken_8 : decode cX6_broken 8 = .ok (.aload_n 0, 1) := by decide +kernel
theorem dX6_broken_9 : decode cX6_broken 9 = .ok (.iload_n 2, 1) := by decide +kernel
theorem dX6_broken_10 : decode cX6_broken 10 = .ok (.iload_n 3, 1) := by decide +kernel
theorem dX6_broken_11 : decode cX6_broken 11 = .ok (.invokevirtual 160, 3) := by decide +kernel
theorem dX6_broken_14 : decode cX6_broken 14 = .ok (.ifCond .eq 15, 3) := by decide +kernel
theorem dX6_broken_17 : decode cX6_broken 17 = .ok (.lload 4, 2) := by decide +kernel
theorem dX6_broken_19 : decode cX6_broken 19 = .ok (.lconst 0, 1) := by decide +kernel
theorem dX6_broken_20 : decode cX6_broken 20 = .ok (.ldc2_w 163, 3) := by decide +kernel
theorem dX6_broken_23 : decode cX6_broken 23 = .ok (.invokestatic 78, 3) := by decide +kernel
theorem dX6_broken_26 : decode cX6_broken 26 = .ok (.ifCond .ne 5, 3) := by decide +kernel
theorem dX6_broken_29 : decode cX6_broken 29 = .ok (.iconst (-1), 1) := by decide +kernel
theorem dX6_broken_30 : decode cX6_broken 30 = .ok (.ireturn, 1) := by decide +kernel
theorem dX6_broken_31 : decode cX6_broken 31 = .ok (.aload_n 0, 1) := by decide +kernel
theorem dX6_broken_32 : decode cX6_broken 32 = .ok (.iload_n 1, 1) := by decide +kernel
theorem dX6_broken_33 : decode cX6_broken 33 = .ok (.invokevirtual 135, 3) := by decide +kernel
theorem dX6_broken_36 : decode cX6_broken 36 = .ok (.bipush 8, 2) := by decide +kernel
theorem dX6_broken_38 : decode cX6_broken 38 = .ok (.if_icmp .le 6, 3) := by decide +kernel
theorem dX6_broken_41 : decode cX6_broken 41 = .ok (.bipush (-2), 2) := by decide +kernel
theorem dX6_broken_43 : decode cX6_broken 43 = .ok (.ireturn, 1) := by decide +kernel
theorem dX6_broken_44 : decode cX6_broken 44 = .ok (.iload_n 2, 1) := by decide +kernel
theorem dX6_broken_45 : decode cX6_broken 45 = .ok (.istore 6, 2) := by decide +kernel
theorem dX6_broken_47 : decode cX6_broken 47 = .ok (.iload 6, 2) := by decide +kernel
theorem dX6_broken_49 : decode cX6_broken 49 = .ok (.iload_n 3, 1) := by decide +kernel
theorem dX6_broken_50 : decode cX6_broken 50 = .ok (.if_icmp .gt 25, 3) := by decide +kernel
theorem dX6_broken_53 : decode cX6_broken 53 = .ok (.aload_n 0, 1) := by decide +kernel
theorem dX6_broken_54 : decode cX6_broken 54 = .ok (.iload_n 1, 1) := by decide +kernel
theorem dX6_broken_55 : decode cX6_broken 55 = .ok (.iload 6, 2) := by decide +kernel
theorem dX6_broken_57 : decode cX6_broken 57 = .ok (.invokevirtual 156, 3) := by decide +kernel
theorem dX6_broken_60 : decode cX6_broken 60 = .ok (.lload 4, 2) := by decide +kernel
theorem dX6_broken_62 : decode cX6_broken 62 = .ok (.lcmp, 1) := by decide +kernel
theorem dX6_broken_63 : decode cX6_broken 63 = .ok (.ifCond .le 6, 3) := by decide +kernel
theorem dX6_broken_66 : decode cX6_broken 66 = .ok (.iload 6, 2) := by decide +kernel
theorem dX6_broken_68 : decode cX6_broken 68 = .ok (.ireturn, 1) := by decide +kernel
theorem dX6_broken_69 : decode cX6_broken 69 = .ok (.iinc 6 1, 3) := by decide +kernel
theorem dX6_broken_72 : decode cX6_broken 72 = .ok (.goto (-25), 3) := by decide +kernel
theorem dX6_broken_75 : decode cX6_broken 75 = .ok (.bipush (-4), 2) := by decide +kernel
theorem dX6_broken_77 : decode cX6_broken 77 = .ok (.ireturn, 1) := by decide +kernel
theorem dX6_nothing_0 : decode cX6_nothing 0 = .ok (.aload_n 0, 1) := by decide +kernel
theorem dX6_nothing_1 : decode cX6_nothing 1 = .ok (.iload_n 1, 1) := by decide +kernel
theorem dX6_nothing_2 : decode cX6_nothing 2 = .ok (.invokevirtual 130, 3) := by decide +kernel
theorem dX6_nothing_5 : decode cX6_nothing 5 = .ok (.ifCond .ne 7, 3) := by decide +kernel
theorem dX6_nothing_8 : decode cX6_nothing 8 = .ok (.ldc2_w 152, 3) := by decide +kernel
theorem dX6_nothing_11 : decode cX6_nothing 11 = .ok (.lreturn, 1) := by decide +kernel
theorem dX6_nothing_12 : decode cX6_nothing 12 = .ok (.aload_n 0, 1) := by decide +kernel
theorem dX6_nothing_13 : decode cX6_nothing 13 = .ok (.iload_n 1, 1) := by decide +kernel
theorem dX6_nothing_14 : decode cX6_nothing 14 = .ok (.invokevirtual 124, 3) := by decide +kernel
theorem dX6_nothing_17 : decode cX6_nothing 17 = .ok (.istore_n 2, 1) := by decide +kernel
theorem dX6_nothing_18 : decode cX6_nothing 18 = .ok (.iload_n 2, 1) := by decide +kernel
theorem dX6_nothing_19 : decode cX6_nothing 19 = .ok (.invokestatic 106, 3) := by decide +kernel
theorem dX6_nothing_22 : decode cX6_nothing 22 = .ok (.bipush 8, 2) := by decide +kernel
theorem dX6_nothing_24 : decode cX6_nothing 24 = .ok (.if_icmp .le 7, 3) := by decide +kernel
theorem dX6_nothing_27 : decode cX6_nothing 27 = .ok (.ldc2_w 154, 3) := by decide +kernel
theorem dX6_nothing_30 : decode cX6_nothing 30 = .ok (.lreturn, 1) := by decide +kernel
theorem dX6_nothing_31 : decode cX6_nothing 31 = .ok (.aload_n 0, 1) := by decide +kernel
theorem dX6_nothing_32 : decode cX6_nothing 32 = .ok (.iconst 0, 1) := by decide +kernel
theorem dX6_nothing_33 : decode cX6_nothing 33 = .ok (.putfield 138, 3) := by decide +kernel
theorem dX6_nothing_36 : decode cX6_nothing 36 = .ok (.iconst 0, 1) := by decide +kernel
theorem dX6_nothing_37 : decode cX6_nothing 37 = .ok (.istore_n 3, 1) := by decide +kernel
theorem dX6_nothing_38 : decode cX6_nothing 38 = .ok (.iload_n 3, 1) := by decide +kernel
theorem dX6_nothing_39 : decode cX6_nothing 39 = .ok (.aload_n 0, 1) := by decide +kernel
theorem dX6_nothing_40 : decode cX6_nothing 40 = .ok (.getfield 74, 3) := by decide +kernel
theorem dX6_nothing_43 : decode cX6_nothing 43 = .ok (.if_icmp .ge 31, 3) := by decide +kernel
theorem dX6_nothing_46 : decode cX6_nothing 46 = .ok (.iload_n 2, 1) := by decide +kernel
theorem dX6_nothing_47 : decode cX6_nothing 47 = .ok (.iload_n 3, 1) := by decide +kernel
theorem dX6_nothing_48 : decode cX6_nothing 48 = .ok (.ishr, 1) := by decide +kernel
theorem dX6_nothing_49 : decode cX6_nothing 49 = .ok (.iconst 1, 1) := by decide +kernel
theorem dX6_nothing_50 : decode cX6_nothing 50 = .ok (.iand, 1) := by decide +kernel
theorem dX6_nothing_51 : decode cX6_nothing 51 = .ok (.iconst 1, 1) := by decide +kernel
theorem dX6_nothing_52 : decode cX6_nothing 52 = .ok (.if_icmp .ne 16, 3) := by decide +kernel
theorem dX6_nothing_55 : decode cX6_nothing 55 = .ok (.aload_n 0, 1) := by decide +kernel
theorem dX6_nothing_56 : decode cX6_nothing 56 = .ok (.aload_n 0, 1) := by decide +kernel
theorem dX6_nothing_57 : decode cX6_nothing 57 = .ok (.getfield 16, 3) := by decide +kernel
theorem dX6_nothing_60 : decode cX6_nothing 60 = .ok (.iload_n 3, 1) := by decide +kernel
theorem dX6_nothing_61 : decode cX6_nothing 61 = .ok (.iaload, 1) := by decide +kernel
theorem dX6_nothing_62 : decode cX6_nothing 62 = .ok (.iconst 1, 1) := by decide +kernel
theorem dX6_nothing_63 : decode cX6_nothing 63 = .ok (.iload_n 3, 1) := by decide +kernel
theorem dX6_nothing_64 : decode cX6_nothing 64 = .ok (.ishl, 1) := by decide +kernel
theorem dX6_nothing_65 : decode cX6_nothing 65 = .ok (.invokevirtual 144, 3) := by decide +kernel
theorem dX6_nothing_68 : decode cX6_nothing 68 = .ok (.iinc 3 1, 3) := by decide +kernel
theorem dX6_nothing_71 : decode cX6_nothing 71 = .ok (.goto (-33), 3) := by decide +kernel
theorem dX6_nothing_74 : decode cX6_nothing 74 = .ok (.aload_n 0, 1) := by decide +kernel
theorem dX6_nothing_75 : decode cX6_nothing 75 = .ok (.iload_n 1, 1) := by decide +kernel
theorem dX6_nothing_76 : decode cX6_nothing 76 = .ok (.iconst 0, 1) := by decide +kernel
theorem dX6_nothing_77 : decode cX6_nothing 77 = .ok (.invokevirtual 148, 3) := by decide +kernel
theorem dX6_nothing_80 : decode cX6_nothing 80 = .ok (.lreturn, 1) := by decide +kernel
theorem dX6_mattersOf_0 : decode cX6_mattersOf 0 = .ok (.aload_n 0, 1) := by decide +kernel
theorem dX6_mattersOf_1 : decode cX6_mattersOf 1 = .ok (.iload_n 1, 1) := by decide +kernel
theorem dX6_mattersOf_2 : decode cX6_mattersOf 2 = .ok (.invokevirtual 124, 3) := by decide +kernel
theorem dX6_mattersOf_5 : decode cX6_mattersOf 5 = .ok (.iload_n 2, 1) := by decide +kernel
theorem dX6_mattersOf_6 : decode cX6_mattersOf 6 = .ok (.ishr, 1) := by decide +kernel
theorem dX6_mattersOf_7 : decode cX6_mattersOf 7 = .ok (.iconst 1, 1) := by decide +kernel
theorem dX6_mattersOf_8 : decode cX6_mattersOf 8 = .ok (.iand, 1) := by decide +kernel
theorem dX6_mattersOf_9 : decode cX6_mattersOf 9 = .ok (.ifCond .ne 5, 3) := by decide +kernel
theorem dX6_mattersOf_12 : decode cX6_mattersOf 12 = .ok (.lconst 0, 1) := by decide +kernel
theorem dX6_mattersOf_13 : decode cX6_mattersOf 13 = .ok (.lreturn, 1) := by decide +kernel
theorem dX6_mattersOf_14 : decode cX6_mattersOf 14 = .ok (.aload_n 0, 1) := by decide +kernel
theorem dX6_mattersOf_15 : decode cX6_mattersOf 15 = .ok (.getfield 31, 3) := by decide +kernel
theorem dX6_mattersOf_18 : decode cX6_mattersOf 18 = .ok (.iload_n 2, 1) := by decide +kernel
theorem dX6_mattersOf_19 : decode cX6_mattersOf 19 = .ok (.bipush 64, 2) := by decide +kernel
theorem dX6_mattersOf_21 : decode cX6_mattersOf 21 = .ok (.iastore, 1) := by decide +kernel
theorem dX6_mattersOf_22 : decode cX6_mattersOf 22 = .ok (.aload_n 0, 1) := by decide +kernel
theorem dX6_mattersOf_23 : decode cX6_mattersOf 23 = .ok (.iload_n 1, 1) := by decide +kernel
theorem dX6_mattersOf_24 : decode cX6_mattersOf 24 = .ok (.iload_n 3, 1) := by decide +kernel
theorem dX6_mattersOf_25 : decode cX6_mattersOf 25 = .ok (.invokevirtual 156, 3) := by decide +kernel
theorem dX6_mattersOf_28 : decode cX6_mattersOf 28 = .ok (.lstore 4, 2) := by decide +kernel
theorem dX6_mattersOf_30 : decode cX6_mattersOf 30 = .ok (.aload_n 0, 1) := by decide +kernel
theorem dX6_mattersOf_31 : decode cX6_mattersOf 31 = .ok (.getfield 31, 3) := by decide +kernel
theorem dX6_mattersOf_34 : decode cX6_mattersOf 34 = .ok (.iload_n 2, 1) := by decide +kernel
theorem dX6_mattersOf_35 : decode cX6_mattersOf 35 = .ok (.iconst 0, 1) := by decide +kernel
theorem dX6_mattersOf_36 : decode cX6_mattersOf 36 = .ok (.iastore, 1) := by decide +kernel
theorem dX6_mattersOf_37 : decode cX6_mattersOf 37 = .ok (.lload 4, 2) := by decide +kernel
theorem dX6_mattersOf_39 : decode cX6_mattersOf 39 = .ok (.aload_n 0, 1) := by decide +kernel
theorem dX6_mattersOf_40 : decode cX6_mattersOf 40 = .ok (.iload_n 1, 1) := by decide +kernel
theorem dX6_mattersOf_41 : decode cX6_mattersOf 41 = .ok (.iload_n 3, 1) := by decide +kernel
theorem dX6_mattersOf_42 : decode cX6_mattersOf 42 = .ok (.invokevirtual 156, 3) := by decide +kernel
theorem dX6_mattersOf_45 : decode cX6_mattersOf 45 = .ok (.lsub, 1) := by decide +kernel
theorem dX6_mattersOf_46 : decode cX6_mattersOf 46 = .ok (.lstore 4, 2) := by decide +kernel
theorem dX6_mattersOf_48 : decode cX6_mattersOf 48 = .ok (.aload_n 0, 1) := by decide +kernel
theorem dX6_mattersOf_49 : decode cX6_mattersOf 49 = .ok (.getfield 31, 3) := by decide +kernel
theorem dX6_mattersOf_52 : decode cX6_mattersOf 52 = .ok (.iload_n 2, 1) := by decide +kernel
theorem dX6_mattersOf_53 : decode cX6_mattersOf 53 = .ok (.iconst (-1), 1) := by decide +kernel
theorem dX6_mattersOf_54 : decode cX6_mattersOf 54 = .ok (.iastore, 1) := by decide +kernel
theorem dX6_mattersOf_55 : decode cX6_mattersOf 55 = .ok (.lload 4, 2) := by decide +kernel
theorem dX6_mattersOf_57 : decode cX6_mattersOf 57 = .ok (.lreturn, 1) := by decide +kernel
theorem dX6_matters_0 : decode cX6_matters 0 = .ok (.aload_n 0, 1) := by decide +kernel
theorem dX6_matters_1 : decode cX6_matters 1 = .ok (.iload_n 1, 1) := by decide +kernel
theorem dX6_matters_2 : decode cX6_matters 2 = .ok (.invokevirtual 130, 3) := by decide +kernel
theorem dX6_matters_5 : decode cX6_matters 5 = .ok (.ifCond .eq 18, 3) := by decide +kernel
theorem dX6_matters_8 : decode cX6_matters 8 = .ok (.aload_n 0, 1) := by decide +kernel
theorem dX6_matters_9 : decode cX6_matters 9 = .ok (.iload_n 2, 1) := by decide +kernel
theorem dX6_matters_10 : decode cX6_matters 10 = .ok (.invokevirtual 89, 3) := by decide +kernel
theorem dX6_matters_13 : decode cX6_matters 13 = .ok (.ifCond .eq 10, 3) := by decide +kernel
theorem dX6_matters_16 : decode cX6_matters 16 = .ok (.iload_n 3, 1) := by decide +kernel
theorem dX6_matters_17 : decode cX6_matters 17 = .ok (.invokestatic 93, 3) := by decide +kernel
theorem dX6_matters_20 : decode cX6_matters 20 = .ok (.ifCond .ne 7, 3) := by decide +kernel
theorem dX6_matters_23 : decode cX6_matters 23 = .ok (.ldc2_w 152, 3) := by decide +kernel
theorem dX6_matters_26 : decode cX6_matters 26 = .ok (.lreturn, 1) := by decide +kernel
theorem dX6_matters_27 : decode cX6_matters 27 = .ok (.aload_n 0, 1) := by decide +kernel
theorem dX6_matters_28 : decode cX6_matters 28 = .ok (.iload_n 1, 1) := by decide +kernel
theorem dX6_matters_29 : decode cX6_matters 29 = .ok (.invokevirtual 135, 3) := by decide +kernel
theorem dX6_matters_32 : decode cX6_matters 32 = .ok (.bipush 8, 2) := by decide +kernel
theorem dX6_matters_34 : decode cX6_matters 34 = .ok (.if_icmp .le 9, 3) := by decide +kernel
theorem dX6_matters_37 : decode cX6_matters 37 = .ok (.ldc2_w 154, 3) := by decide +kernel
theorem dX6_matters_40 : decode cX6_matters 40 = .ok (.goto 10, 3) := by decide +kernel
theorem dX6_matters_43 : decode cX6_matters 43 = .ok (.aload_n 0, 1) := by decide +kernel
theorem dX6_matters_44 : decode cX6_matters 44 = .ok (.iload_n 1, 1) := by decide +kernel
theorem dX6_matters_45 : decode cX6_matters 45 = .ok (.iload_n 2, 1) := by decide +kernel
theorem dX6_matters_46 : decode cX6_matters 46 = .ok (.iload_n 3, 1) := by decide +kernel
theorem dX6_matters_47 : decode cX6_matters 47 = .ok (.invokevirtual 165, 3) := by decide +kernel
theorem dX6_matters_50 : decode cX6_matters 50 = .ok (.lreturn, 1) := by decide +kernel
theorem dX6_most_0 : decode cX6_most 0 = .ok (.aload_n 0, 1) := by decide +kernel
theorem dX6_most_1 : decode cX6_most 1 = .ok (.iload_n 1, 1) := by decide +kernel
theorem dX6_most_2 : decode cX6_most 2 = .ok (.invokevirtual 130, 3) := by decide +kernel
theorem dX6_most_5 : decode cX6_most 5 = .ok (.ifCond .eq 10, 3) := by decide +kernel
theorem dX6_most_8 : decode cX6_most 8 = .ok (.iload_n 2, 1) := by decide +kernel
theorem dX6_most_9 : decode cX6_most 9 = .ok (.invokestatic 93, 3) := by decide +kernel
theorem dX6_most_12 : decode cX6_most 12 = .ok (.ifCond .ne 5, 3) := by decide +kernel
theorem dX6_most_15 : decode cX6_most 15 = .ok (.iconst (-1), 1) := by decide +kernel
theorem dX6_most_16 : decode cX6_most 16 = .ok (.ireturn, 1) := by decide +kernel
theorem dX6_most_17 : decode cX6_most 17 = .ok (.aload_n 0, 1) := by decide +kernel
theorem dX6_most_18 : decode cX6_most 18 = .ok (.iload_n 1, 1) := by decide +kernel
theorem dX6_most_19 : decode cX6_most 19 = .ok (.invokevirtual 135, 3) := by decide +kernel
theorem dX6_most_22 : decode cX6_most 22 = .ok (.bipush 8, 2) := by decide +kernel
theorem dX6_most_24 : decode cX6_most 24 = .ok (.if_icmp .le 6, 3) := by decide +kernel
theorem dX6_most_27 : decode cX6_most 27 = .ok (.bipush (-2), 2) := by decide +kernel
theorem dX6_most_29 : decode cX6_most 29 = .ok (.ireturn, 1) := by decide +kernel
theorem dX6_most_30 : decode cX6_most 30 = .ok (.aload_n 0, 1) := by decide +kernel
theorem dX6_most_31 : decode cX6_most 31 = .ok (.iload_n 1, 1) := by decide +kernel
theorem dX6_most_32 : decode cX6_most 32 = .ok (.invokevirtual 124, 3) := by decide +kernel
theorem dX6_most_35 : decode cX6_most 35 = .ok (.istore_n 3, 1) := by decide +kernel
theorem dX6_most_36 : decode cX6_most 36 = .ok (.iconst (-1), 1) := by decide +kernel
theorem dX6_most_37 : decode cX6_most 37 = .ok (.istore 4, 2) := by decide +kernel
theorem dX6_most_39 : decode cX6_most 39 = .ok (.ldc2_w 152, 3) := by decide +kernel
theorem dX6_most_42 : decode cX6_most 42 = .ok (.lstore 5, 2) := by decide +kernel
theorem dX6_most_44 : decode cX6_most 44 = .ok (.iconst 0, 1) := by decide +kernel
theorem dX6_most_45 : decode cX6_most 45 = .ok (.istore 7, 2) := by decide +kernel
theorem dX6_most_47 : decode cX6_most 47 = .ok (.iload 7, 2) := by decide +kernel
theorem dX6_most_49 : decode cX6_most 49 = .ok (.aload_n 0, 1) := by decide +kernel
theorem dX6_most_50 : decode cX6_most 50 = .ok (.getfield 74, 3) := by decide +kernel
theorem dX6_most_53 : decode cX6_most 53 = .ok (.if_icmp .ge 69, 3) := by decide +kernel
theorem dX6_most_56 : decode cX6_most 56 = .ok (.iload_n 3, 1) := by decide +kernel
theorem dX6_most_57 : decode cX6_most 57 = .ok (.iload 7, 2) := by decide +kernel
theorem dX6_most_59 : decode cX6_most 59 = .ok (.ishr, 1) := by decide +kernel
theorem dX6_most_60 : decode cX6_most 60 = .ok (.iconst 1, 1) := by decide +kernel
theorem dX6_most_61 : decode cX6_most 61 = .ok (.iand, 1) := by decide +kernel
theorem dX6_most_62 : decode cX6_most 62 = .ok (.iconst 1, 1) := by decide +kernel
theorem dX6_most_63 : decode cX6_most 63 = .ok (.if_icmp .ne 14, 3) := by decide +kernel
theorem dX6_most_66 : decode cX6_most 66 = .ok (.aload_n 0, 1) := by decide +kernel
theorem dX6_most_67 : decode cX6_most 67 = .ok (.iload_n 1, 1) := by decide +kernel
theorem dX6_most_68 : decode cX6_most 68 = .ok (.iload 7, 2) := by decide +kernel
theorem dX6_most_70 : decode cX6_most 70 = .ok (.iload_n 2, 1) := by decide +kernel
theorem dX6_most_71 : decode cX6_most 71 = .ok (.invokevirtual 165, 3) := by decide +kernel
theorem dX6_most_74 : decode cX6_most 74 = .ok (.goto 6, 3) := by decide +kernel
theorem dX6_most_77 : decode cX6_most 77 = .ok (.ldc2_w 152, 3) := by decide +kernel
theorem dX6_most_80 : decode cX6_most 80 = .ok (.lstore 8, 2) := by decide +kernel
theorem dX6_most_82 : decode cX6_most 82 = .ok (.lload 8, 2) := by decide +kernel
theorem dX6_most_84 : decode cX6_most 84 = .ok (.lload 5, 2) := by decide +kernel
theorem dX6_most_86 : decode cX6_most 86 = .ok (.lcmp, 1) := by decide +kernel
theorem dX6_most_87 : decode cX6_most 87 = .ok (.ifCond .le 8, 3) := by decide +kernel
theorem dX6_most_90 : decode cX6_most 90 = .ok (.iload 7, 2) := by decide +kernel
theorem dX6_most_92 : decode cX6_most 92 = .ok (.goto 5, 3) := by decide +kernel
theorem dX6_most_95 : decode cX6_most 95 = .ok (.iload 4, 2) := by decide +kernel
theorem dX6_most_97 : decode cX6_most 97 = .ok (.istore 4, 2) := by decide +kernel
theorem dX6_most_99 : decode cX6_most 99 = .ok (.lload 8, 2) := by decide +kernel
theorem dX6_most_101 : decode cX6_most 101 = .ok (.lload 5, 2) := by decide +kernel
theorem dX6_most_103 : decode cX6_most 103 = .ok (.lcmp, 1) := by decide +kernel
theorem dX6_most_104 : decode cX6_most 104 = .ok (.ifCond .le 8, 3) := by decide +kernel
theorem dX6_most_107 : decode cX6_most 107 = .ok (.lload 8, 2) := by decide +kernel
theorem dX6_most_109 : decode cX6_most 109 = .ok (.goto 5, 3) := by decide +kernel
theorem dX6_most_112 : decode cX6_most 112 = .ok (.lload 5, 2) := by decide +kernel
theorem dX6_most_114 : decode cX6_most 114 = .ok (.lstore 5, 2) := by decide +kernel
theorem dX6_most_116 : decode cX6_most 116 = .ok (.iinc 7 1, 3) := by decide +kernel
theorem dX6_most_119 : decode cX6_most 119 = .ok (.goto (-72), 3) := by decide +kernel
theorem dX6_most_122 : decode cX6_most 122 = .ok (.iload 4, 2) := by decide +kernel
theorem dX6_most_124 : decode cX6_most 124 = .ok (.ireturn, 1) := by decide +kernel
theorem dX6_cost_0 : decode cX6_cost 0 = .ok (.aload_n 0, 1) := by decide +kernel
theorem dX6_cost_1 : decode cX6_cost 1 = .ok (.iload_n 1, 1) := by decide +kernel
theorem dX6_cost_2 : decode cX6_cost 2 = .ok (.invokevirtual 89, 3) := by decide +kernel
theorem dX6_cost_5 : decode cX6_cost 5 = .ok (.ifCond .eq 15, 3) := by decide +kernel
theorem dX6_cost_8 : decode cX6_cost 8 = .ok (.iload_n 2, 1) := by decide +kernel
theorem dX6_cost_9 : decode cX6_cost 9 = .ok (.i2l, 1) := by decide +kernel
theorem dX6_cost_10 : decode cX6_cost 10 = .ok (.lconst 0, 1) := by decide +kernel
theorem dX6_cost_11 : decode cX6_cost 11 = .ok (.ldc2_w 169, 3) := by decide +kernel
theorem dX6_cost_14 : decode cX6_cost 14 = .ok (.invokestatic 78, 3) := by decide +kernel
theorem dX6_cost_17 : decode cX6_cost 17 = .ok (.ifCond .ne 5, 3) := by decide +kernel
theorem dX6_cost_20 : decode cX6_cost 20 = .ok (.iconst (-1), 1) := by decide +kernel
theorem dX6_cost_21 : decode cX6_cost 21 = .ok (.ireturn, 1) := by decide +kernel
theorem dX6_cost_22 : decode cX6_cost 22 = .ok (.aload_n 0, 1) := by decide +kernel
theorem dX6_cost_23 : decode cX6_cost 23 = .ok (.getfield 19, 3) := by decide +kernel
theorem dX6_cost_26 : decode cX6_cost 26 = .ok (.iload_n 1, 1) := by decide +kernel
theorem dX6_cost_27 : decode cX6_cost 27 = .ok (.iaload, 1) := by decide +kernel
theorem dX6_cost_28 : decode cX6_cost 28 = .ok (.istore_n 3, 1) := by decide +kernel
theorem dX6_cost_29 : decode cX6_cost 29 = .ok (.aload_n 0, 1) := by decide +kernel
theorem dX6_cost_30 : decode cX6_cost 30 = .ok (.getfield 19, 3) := by decide +kernel
theorem dX6_cost_33 : decode cX6_cost 33 = .ok (.iload_n 1, 1) := by decide +kernel
theorem dX6_cost_34 : decode cX6_cost 34 = .ok (.iload_n 2, 1) := by decide +kernel
theorem dX6_cost_35 : decode cX6_cost 35 = .ok (.iastore, 1) := by decide +kernel
theorem dX6_cost_36 : decode cX6_cost 36 = .ok (.iload_n 3, 1) := by decide +kernel
theorem dX6_cost_37 : decode cX6_cost 37 = .ok (.ireturn, 1) := by decide +kernel
theorem dX6_laid_0 : decode cX6_laid 0 = .ok (.iconst 0, 1) := by decide +kernel
theorem dX6_laid_1 : decode cX6_laid 1 = .ok (.istore 4, 2) := by decide +kernel
theorem dX6_laid_3 : decode cX6_laid 3 = .ok (.iconst 1, 1) := by decide +kernel
theorem dX6_laid_4 : decode cX6_laid 4 = .ok (.istore 5, 2) := by decide +kernel
theorem dX6_laid_6 : decode cX6_laid 6 = .ok (.iconst 1, 1) := by decide +kernel
theorem dX6_laid_7 : decode cX6_laid 7 = .ok (.istore 6, 2) := by decide +kernel
theorem dX6_laid_9 : decode cX6_laid 9 = .ok (.iload 6, 2) := by decide +kernel
theorem dX6_laid_11 : decode cX6_laid 11 = .ok (.iload_n 2, 1) := by decide +kernel
theorem dX6_laid_12 : decode cX6_laid 12 = .ok (.if_icmp .ge 15, 3) := by decide +kernel
theorem dX6_laid_15 : decode cX6_laid 15 = .ok (.iload 5, 2) := by decide +kernel
theorem dX6_laid_17 : decode cX6_laid 17 = .ok (.iconst 3, 1) := by decide +kernel
theorem dX6_laid_18 : decode cX6_laid 18 = .ok (.imul, 1) := by decide +kernel
theorem dX6_laid_19 : decode cX6_laid 19 = .ok (.istore 5, 2) := by decide +kernel
theorem dX6_laid_21 : decode cX6_laid 21 = .ok (.iinc 6 1, 3) := by decide +kernel
theorem dX6_laid_24 : decode cX6_laid 24 = .ok (.goto (-15), 3) := by decide +kernel
theorem dX6_laid_27 : decode cX6_laid 27 = .ok (.iconst 0, 1) := by decide +kernel
theorem dX6_laid_28 : decode cX6_laid 28 = .ok (.istore 6, 2) := by decide +kernel
theorem dX6_laid_30 : decode cX6_laid 30 = .ok (.iload 6, 2) := by decide +kernel
theorem dX6_laid_32 : decode cX6_laid 32 = .ok (.aload_n 0, 1) := by decide +kernel
theorem dX6_laid_33 : decode cX6_laid 33 = .ok (.getfield 74, 3) := by decide +kernel
theorem dX6_laid_36 : decode cX6_laid 36 = .ok (.if_icmp .ge 66, 3) := by decide +kernel
theorem dX6_laid_39 : decode cX6_laid 39 = .ok (.iload_n 1, 1) := by decide +kernel
theorem dX6_laid_40 : decode cX6_laid 40 = .ok (.iload 6, 2) := by decide +kernel
theorem dX6_laid_42 : decode cX6_laid 42 = .ok (.ishr, 1) := by decide +kernel
theorem dX6_laid_43 : decode cX6_laid 43 = .ok (.iconst 1, 1) := by decide +kernel
theorem dX6_laid_44 : decode cX6_laid 44 = .ok (.iand, 1) := by decide +kernel
theorem dX6_laid_45 : decode cX6_laid 45 = .ok (.iconst 1, 1) := by decide +kernel
theorem dX6_laid_46 : decode cX6_laid 46 = .ok (.if_icmp .ne 50, 3) := by decide +kernel
theorem dX6_laid_49 : decode cX6_laid 49 = .ok (.aload_n 0, 1) := by decide +kernel
theorem dX6_laid_50 : decode cX6_laid 50 = .ok (.getfield 28, 3) := by decide +kernel
theorem dX6_laid_53 : decode cX6_laid 53 = .ok (.iload 6, 2) := by decide +kernel
theorem dX6_laid_55 : decode cX6_laid 55 = .ok (.aload_n 0, 1) := by decide +kernel
theorem dX6_laid_56 : decode cX6_laid 56 = .ok (.getfield 71, 3) := by decide +kernel
theorem dX6_laid_59 : decode cX6_laid 59 = .ok (.iload_n 3, 1) := by decide +kernel
theorem dX6_laid_60 : decode cX6_laid 60 = .ok (.iload 5, 2) := by decide +kernel
theorem dX6_laid_62 : decode cX6_laid 62 = .ok (.idiv, 1) := by decide +kernel
theorem dX6_laid_63 : decode cX6_laid 63 = .ok (.iconst 3, 1) := by decide +kernel
theorem dX6_laid_64 : decode cX6_laid 64 = .ok (.irem, 1) := by decide +kernel
theorem dX6_laid_65 : decode cX6_laid 65 = .ok (.iaload, 1) := by decide +kernel
theorem dX6_laid_66 : decode cX6_laid 66 = .ok (.iastore, 1) := by decide +kernel
theorem dX6_laid_67 : decode cX6_laid 67 = .ok (.iload 4, 2) := by decide +kernel
theorem dX6_laid_69 : decode cX6_laid 69 = .ok (.aload_n 0, 1) := by decide +kernel
theorem dX6_laid_70 : decode cX6_laid 70 = .ok (.getfield 19, 3) := by decide +kernel
theorem dX6_laid_73 : decode cX6_laid 73 = .ok (.iload 6, 2) := by decide +kernel
theorem dX6_laid_75 : decode cX6_laid 75 = .ok (.iaload, 1) := by decide +kernel
theorem dX6_laid_76 : decode cX6_laid 76 = .ok (.bipush 100, 2) := by decide +kernel
theorem dX6_laid_78 : decode cX6_laid 78 = .ok (.aload_n 0, 1) := by decide +kernel
theorem dX6_laid_79 : decode cX6_laid 79 = .ok (.getfield 28, 3) := by decide +kernel
theorem dX6_laid_82 : decode cX6_laid 82 = .ok (.iload 6, 2) := by decide +kernel
theorem dX6_laid_84 : decode cX6_laid 84 = .ok (.iaload, 1) := by decide +kernel
theorem dX6_laid_85 : decode cX6_laid 85 = .ok (.idiv, 1) := by decide +kernel
theorem dX6_laid_86 : decode cX6_laid 86 = .ok (.imul, 1) := by decide +kernel
theorem dX6_laid_87 : decode cX6_laid 87 = .ok (.iadd, 1) := by decide +kernel
theorem dX6_laid_88 : decode cX6_laid 88 = .ok (.istore 4, 2) := by decide +kernel
theorem dX6_laid_90 : decode cX6_laid 90 = .ok (.iload 5, 2) := by decide +kernel
theorem dX6_laid_92 : decode cX6_laid 92 = .ok (.iconst 3, 1) := by decide +kernel
theorem dX6_laid_93 : decode cX6_laid 93 = .ok (.idiv, 1) := by decide +kernel
theorem dX6_laid_94 : decode cX6_laid 94 = .ok (.istore 5, 2) := by decide +kernel
theorem dX6_laid_96 : decode cX6_laid 96 = .ok (.iinc 6 1, 3) := by decide +kernel
theorem dX6_laid_99 : decode cX6_laid 99 = .ok (.goto (-69), 3) := by decide +kernel
theorem dX6_laid_102 : decode cX6_laid 102 = .ok (.iload 4, 2) := by decide +kernel
theorem dX6_laid_104 : decode cX6_laid 104 = .ok (.ireturn, 1) := by decide +kernel
theorem dX6_lifted_0 : decode cX6_lifted 0 = .ok (.iconst 0, 1) := by decide +kernel
theorem dX6_lifted_1 : decode cX6_lifted 1 = .ok (.istore_n 1, 1) := by decide +kernel
theorem dX6_lifted_2 : decode cX6_lifted 2 = .ok (.iload_n 1, 1) := by decide +kernel
theorem dX6_lifted_3 : decode cX6_lifted 3 = .ok (.bipush 12, 2) := by decide +kernel
theorem dX6_lifted_5 : decode cX6_lifted 5 = .ok (.if_icmp .ge 16, 3) := by decide +kernel
theorem dX6_lifted_8 : decode cX6_lifted 8 = .ok (.aload_n 0, 1) := by decide +kernel
theorem dX6_lifted_9 : decode cX6_lifted 9 = .ok (.getfield 28, 3) := by decide +kernel
theorem dX6_lifted_12 : decode cX6_lifted 12 = .ok (.iload_n 1, 1) := by decide +kernel
theorem dX6_lifted_13 : decode cX6_lifted 13 = .ok (.iconst 0, 1) := by decide +kernel
theorem dX6_lifted_14 : decode cX6_lifted 14 = .ok (.iastore, 1) := by decide +kernel
theorem dX6_lifted_15 : decode cX6_lifted 15 = .ok (.iinc 1 1, 3) := by decide +kernel
theorem dX6_lifted_18 : decode cX6_lifted 18 = .ok (.goto (-16), 3) := by decide +kernel
theorem dX6_lifted_21 : decode cX6_lifted 21 = .ok (.return_, 1) := by decide +kernel
theorem dX6_plan_0 : decode cX6_plan 0 = .ok (.aload_n 0, 1) := by decide +kernel
theorem dX6_plan_1 : decode cX6_plan 1 = .ok (.iload_n 1, 1) := by decide +kernel
theorem dX6_plan_2 : decode cX6_plan 2 = .ok (.invokevirtual 130, 3) := by decide +kernel
theorem dX6_plan_5 : decode cX6_plan 5 = .ok (.ifCond .eq 63, 3) := by decide +kernel
theorem dX6_plan_8 : decode cX6_plan 8 = .ok (.iload_n 2, 1) := by decide +kernel
theorem dX6_plan_9 : decode cX6_plan 9 = .ok (.i2l, 1) := by decide +kernel
theorem dX6_plan_10 : decode cX6_plan 10 = .ok (.lconst 1, 1) := by decide +kernel
theorem dX6_plan_11 : decode cX6_plan 11 = .ok (.ldc2_w 171, 3) := by decide +kernel
theorem dX6_plan_14 : decode cX6_plan 14 = .ok (.invokestatic 78, 3) := by decide +kernel
theorem dX6_plan_17 : decode cX6_plan 17 = .ok (.ifCond .eq 51, 3) := by decide +kernel
theorem dX6_plan_20 : decode cX6_plan 20 = .ok (.iload_n 3, 1) := by decide +kernel
theorem dX6_plan_21 : decode cX6_plan 21 = .ok (.i2l, 1) := by decide +kernel
theorem dX6_plan_22 : decode cX6_plan 22 = .ok (.lconst 1, 1) := by decide +kernel
theorem dX6_plan_23 : decode cX6_plan 23 = .ok (.ldc2_w 171, 3) := by decide +kernel
theorem dX6_plan_26 : decode cX6_plan 26 = .ok (.invokestatic 78, 3) := by decide +kernel
theorem dX6_plan_29 : decode cX6_plan 29 = .ok (.ifCond .eq 39, 3) := by decide +kernel
theorem dX6_plan_32 : decode cX6_plan 32 = .ok (.iload 4, 2) := by decide +kernel
theorem dX6_plan_34 : decode cX6_plan 34 = .ok (.i2l, 1) := by decide +kernel
theorem dX6_plan_35 : decode cX6_plan 35 = .ok (.lconst 1, 1) := by decide +kernel
theorem dX6_plan_36 : decode cX6_plan 36 = .ok (.ldc2_w 171, 3) := by decide +kernel
theorem dX6_plan_39 : decode cX6_plan 39 = .ok (.invokestatic 78, 3) := by decide +kernel
theorem dX6_plan_42 : decode cX6_plan 42 = .ok (.ifCond .eq 26, 3) := by decide +kernel
theorem dX6_plan_45 : decode cX6_plan 45 = .ok (.lload 5, 2) := by decide +kernel
theorem dX6_plan_47 : decode cX6_plan 47 = .ok (.lconst 0, 1) := by decide +kernel
theorem dX6_plan_48 : decode cX6_plan 48 = .ok (.ldc2_w 173, 3) := by decide +kernel
theorem dX6_plan_51 : decode cX6_plan 51 = .ok (.invokestatic 78, 3) := by decide +kernel
theorem dX6_plan_54 : decode cX6_plan 54 = .ok (.ifCond .eq 14, 3) := by decide +kernel
theorem dX6_plan_57 : decode cX6_plan 57 = .ok (.iload 7, 2) := by decide +kernel
theorem dX6_plan_59 : decode cX6_plan 59 = .ok (.i2l, 1) := by decide +kernel
theorem dX6_plan_60 : decode cX6_plan 60 = .ok (.lconst 0, 1) := by decide +kernel
theorem dX6_plan_61 : decode cX6_plan 61 = .ok (.lconst 1, 1) := by decide +kernel
theorem dX6_plan_62 : decode cX6_plan 62 = .ok (.invokestatic 78, 3) := by decide +kernel
theorem dX6_plan_65 : decode cX6_plan 65 = .ok (.ifCond .ne 5, 3) := by decide +kernel
theorem dX6_plan_68 : decode cX6_plan 68 = .ok (.iconst (-1), 1) := by decide +kernel
theorem dX6_plan_69 : decode cX6_plan 69 = .ok (.ireturn, 1) := by decide +kernel
theorem dX6_plan_70 : decode cX6_plan 70 = .ok (.aload_n 0, 1) := by decide +kernel
theorem dX6_plan_71 : decode cX6_plan 71 = .ok (.iload_n 1, 1) := by decide +kernel
theorem dX6_plan_72 : decode cX6_plan 72 = .ok (.invokevirtual 124, 3) := by decide +kernel
theorem dX6_plan_75 : decode cX6_plan 75 = .ok (.istore 8, 2) := by decide +kernel
theorem dX6_plan_77 : decode cX6_plan 77 = .ok (.iload 8, 2) := by decide +kernel
theorem dX6_plan_79 : decode cX6_plan 79 = .ok (.invokestatic 106, 3) := by decide +kernel
theorem dX6_plan_82 : decode cX6_plan 82 = .ok (.istore 9, 2) := by decide +kernel
theorem dX6_plan_84 : decode cX6_plan 84 = .ok (.iload 9, 2) := by decide +kernel
theorem dX6_plan_86 : decode cX6_plan 86 = .ok (.iconst 3, 1) := by decide +kernel
theorem dX6_plan_87 : decode cX6_plan 87 = .ok (.if_icmp .gt 13, 3) := by decide +kernel
theorem dX6_plan_90 : decode cX6_plan 90 = .ok (.aload_n 0, 1) := by decide +kernel
theorem dX6_plan_91 : decode cX6_plan 91 = .ok (.iload_n 1, 1) := by decide +kernel
theorem dX6_plan_92 : decode cX6_plan 92 = .ok (.invokevirtual 135, 3) := by decide +kernel
theorem dX6_plan_95 : decode cX6_plan 95 = .ok (.bipush 8, 2) := by decide +kernel
theorem dX6_plan_97 : decode cX6_plan 97 = .ok (.if_icmp .le 6, 3) := by decide +kernel
theorem dX6_plan_100 : decode cX6_plan 100 = .ok (.bipush (-2), 2) := by decide +kernel
theorem dX6_plan_102 : decode cX6_plan 102 = .ok (.ireturn, 1) := by decide +kernel
theorem dX6_plan_103 : decode cX6_plan 103 = .ok (.aload_n 0, 1) := by decide +kernel
theorem dX6_plan_104 : decode cX6_plan 104 = .ok (.getfield 71, 3) := by decide +kernel
theorem dX6_plan_107 : decode cX6_plan 107 = .ok (.iconst 0, 1) := by decide +kernel
theorem dX6_plan_108 : decode cX6_plan 108 = .ok (.iload_n 2, 1) := by decide +kernel
theorem dX6_plan_109 : decode cX6_plan 109 = .ok (.iastore, 1) := by decide +kernel
theorem dX6_plan_110 : decode cX6_plan 110 = .ok (.aload_n 0, 1) := by decide +kernel
theorem dX6_plan_111 : decode cX6_plan 111 = .ok (.getfield 71, 3) := by decide +kernel
theorem dX6_plan_114 : decode cX6_plan 114 = .ok (.iconst 1, 1) := by decide +kernel
theorem dX6_plan_115 : decode cX6_plan 115 = .ok (.iload_n 3, 1) := by decide +kernel
theorem dX6_plan_116 : decode cX6_plan 116 = .ok (.iastore, 1) := by decide +kernel
theorem dX6_plan_117 : decode cX6_plan 117 = .ok (.aload_n 0, 1) := by decide +kernel
theorem dX6_plan_118 : decode cX6_plan 118 = .ok (.getfield 71, 3) := by decide +kernel
theorem dX6_plan_121 : decode cX6_plan 121 = .ok (.iconst 2, 1) := by decide +kernel
theorem dX6_plan_122 : decode cX6_plan 122 = .ok (.iload 4, 2) := by decide +kernel
theorem dX6_plan_124 : decode cX6_plan 124 = .ok (.iastore, 1) := by decide +kernel
theorem dX6_plan_125 : decode cX6_plan 125 = .ok (.bipush (-4), 2) := by decide +kernel
theorem dX6_plan_127 : decode cX6_plan 127 = .ok (.istore 10, 2) := by decide +kernel
theorem dX6_plan_129 : decode cX6_plan 129 = .ok (.iconst (-1), 1) := by decide +kernel
theorem dX6_plan_130 : decode cX6_plan 130 = .ok (.istore 11, 2) := by decide +kernel
theorem dX6_plan_132 : decode cX6_plan 132 = .ok (.iload 9, 2) := by decide +kernel
theorem dX6_plan_134 : decode cX6_plan 134 = .ok (.iconst 1, 1) := by decide +kernel
theorem dX6_plan_135 : decode cX6_plan 135 = .ok (.if_icmp .ne 7, 3) := by decide +kernel
theorem dX6_plan_138 : decode cX6_plan 138 = .ok (.iconst 3, 1) := by decide +kernel
theorem dX6_plan_139 : decode cX6_plan 139 = .ok (.goto 16, 3) := by decide +kernel
theorem dX6_plan_142 : decode cX6_plan 142 = .ok (.iload 9, 2) := by decide +kernel
theorem dX6_plan_144 : decode cX6_plan 144 = .ok (.iconst 2, 1) := by decide +kernel
theorem dX6_plan_145 : decode cX6_plan 145 = .ok (.if_icmp .ne 8, 3) := by decide +kernel
theorem dX6_plan_148 : decode cX6_plan 148 = .ok (.bipush 9, 2) := by decide +kernel
theorem dX6_plan_150 : decode cX6_plan 150 = .ok (.goto 5, 3) := by decide +kernel
theorem dX6_plan_153 : decode cX6_plan 153 = .ok (.bipush 27, 2) := by decide +kernel
theorem dX6_plan_155 : decode cX6_plan 155 = .ok (.istore 12, 2) := by decide +kernel
theorem dX6_plan_157 : decode cX6_plan 157 = .ok (.iconst 0, 1) := by decide +kernel
theorem dX6_plan_158 : decode cX6_plan 158 = .ok (.istore 13, 2) := by decide +kernel
theorem dX6_plan_160 : decode cX6_plan 160 = .ok (.iload 13, 2) := by decide +kernel
theorem dX6_plan_162 : decode cX6_plan 162 = .ok (.iload 12, 2) := by decide +kernel
theorem dX6_plan_164 : decode cX6_plan 164 = .ok (.if_icmp .ge 92, 3) := by decide +kernel
theorem dX6_plan_167 : decode cX6_plan 167 = .ok (.aload_n 0, 1) := by decide +kernel
theorem dX6_plan_168 : decode cX6_plan 168 = .ok (.iload 8, 2) := by decide +kernel
theorem dX6_plan_170 : decode cX6_plan 170 = .ok (.iload 9, 2) := by decide +kernel
theorem dX6_plan_172 : decode cX6_plan 172 = .ok (.iload 13, 2) := by decide +kernel
theorem dX6_plan_174 : decode cX6_plan 174 = .ok (.invokevirtual 175, 3) := by decide +kernel
theorem dX6_plan_177 : decode cX6_plan 177 = .ok (.istore 14, 2) := by decide +kernel
theorem dX6_plan_179 : decode cX6_plan 179 = .ok (.lconst 0, 1) := by decide +kernel
theorem dX6_plan_180 : decode cX6_plan 180 = .ok (.lstore 15, 2) := by decide +kernel
theorem dX6_plan_182 : decode cX6_plan 182 = .ok (.iconst 0, 1) := by decide +kernel
theorem dX6_plan_183 : decode cX6_plan 183 = .ok (.istore 17, 2) := by decide +kernel
theorem dX6_plan_185 : decode cX6_plan 185 = .ok (.iload 17, 2) := by decide +kernel
theorem dX6_plan_187 : decode cX6_plan 187 = .ok (.bipush 100, 2) := by decide +kernel
theorem dX6_plan_189 : decode cX6_plan 189 = .ok (.if_icmp .ge 33, 3) := by decide +kernel
theorem dX6_plan_192 : decode cX6_plan 192 = .ok (.iload 10, 2) := by decide +kernel
theorem dX6_plan_194 : decode cX6_plan 194 = .ok (.ifCond .lt 10, 3) := by decide +kernel
theorem dX6_plan_197 : decode cX6_plan 197 = .ok (.iload 14, 2) := by decide +kernel
theorem dX6_plan_199 : decode cX6_plan 199 = .ok (.iload 10, 2) := by decide +kernel
theorem dX6_plan_201 : decode cX6_plan 201 = .ok (.if_icmp .ge 21, 3) := by decide +kernel
theorem dX6_plan_204 : decode cX6_plan 204 = .ok (.lload 15, 2) := by decide +kernel
theorem dX6_plan_206 : decode cX6_plan 206 = .ok (.aload_n 0, 1) := by decide +kernel
theorem dX6_plan_207 : decode cX6_plan 207 = .ok (.iload_n 1, 1) := by decide +kernel
theorem dX6_plan_208 : decode cX6_plan 208 = .ok (.iload 17, 2) := by decide +kernel
theorem dX6_plan_210 : decode cX6_plan 210 = .ok (.invokevirtual 156, 3) := by decide +kernel
theorem dX6_plan_213 : decode cX6_plan 213 = .ok (.ladd, 1) := by decide +kernel
theorem dX6_plan_214 : decode cX6_plan 214 = .ok (.lstore 15, 2) := by decide +kernel
theorem dX6_plan_216 : decode cX6_plan 216 = .ok (.iinc 17 1, 3) := by decide +kernel
theorem dX6_plan_219 : decode cX6_plan 219 = .ok (.goto (-34), 3) := by decide +kernel
theorem dX6_plan_222 : decode cX6_plan 222 = .ok (.iload 10, 2) := by decide +kernel
theorem dX6_plan_224 : decode cX6_plan 224 = .ok (.ifCond .lt 10, 3) := by decide +kernel
theorem dX6_plan_227 : decode cX6_plan 227 = .ok (.iload 14, 2) := by decide +kernel
theorem dX6_plan_229 : decode cX6_plan 229 = .ok (.iload 10, 2) := by decide +kernel
theorem dX6_plan_231 : decode cX6_plan 231 = .ok (.if_icmp .ge 19, 3) := by decide +kernel
theorem dX6_plan_234 : decode cX6_plan 234 = .ok (.lload 15, 2) := by decide +kernel
theorem dX6_plan_236 : decode cX6_plan 236 = .ok (.lload 5, 2) := by decide +kernel
theorem dX6_plan_238 : decode cX6_plan 238 = .ok (.lcmp, 1) := by decide +kernel
theorem dX6_plan_239 : decode cX6_plan 239 = .ok (.ifCond .gt 11, 3) := by decide +kernel
theorem dX6_plan_242 : decode cX6_plan 242 = .ok (.iload 14, 2) := by decide +kernel
theorem dX6_plan_244 : decode cX6_plan 244 = .ok (.istore 10, 2) := by decide +kernel
theorem dX6_plan_246 : decode cX6_plan 246 = .ok (.iload 13, 2) := by decide +kernel
theorem dX6_plan_248 : decode cX6_plan 248 = .ok (.istore 11, 2) := by decide +kernel
theorem dX6_plan_250 : decode cX6_plan 250 = .ok (.iinc 13 1, 3) := by decide +kernel
theorem dX6_plan_253 : decode cX6_plan 253 = .ok (.goto (-93), 3) := by decide +kernel
theorem dX6_plan_256 : decode cX6_plan 256 = .ok (.aload_n 0, 1) := by decide +kernel
theorem dX6_plan_257 : decode cX6_plan 257 = .ok (.invokevirtual 179, 3) := by decide +kernel
theorem dX6_plan_260 : decode cX6_plan 260 = .ok (.iload 7, 2) := by decide +kernel
theorem dX6_plan_262 : decode cX6_plan 262 = .ok (.ifCond .eq 8, 3) := by decide +kernel
theorem dX6_plan_265 : decode cX6_plan 265 = .ok (.iload 11, 2) := by decide +kernel
theorem dX6_plan_267 : decode cX6_plan 267 = .ok (.ifCond .ge 6, 3) := by decide +kernel
theorem dX6_plan_270 : decode cX6_plan 270 = .ok (.iload 10, 2) := by decide +kernel
theorem dX6_plan_272 : decode cX6_plan 272 = .ok (.ireturn, 1) := by decide +kernel
theorem dX6_plan_273 : decode cX6_plan 273 = .ok (.iconst 0, 1) := by decide +kernel
theorem dX6_plan_274 : decode cX6_plan 274 = .ok (.istore 13, 2) := by decide +kernel
theorem dX6_plan_276 : decode cX6_plan 276 = .ok (.iload 11, 2) := by decide +kernel
theorem dX6_plan_278 : decode cX6_plan 278 = .ok (.istore 14, 2) := by decide +kernel
theorem dX6_plan_280 : decode cX6_plan 280 = .ok (.iconst 0, 1) := by decide +kernel
theorem dX6_plan_281 : decode cX6_plan 281 = .ok (.istore 15, 2) := by decide +kernel
theorem dX6_plan_283 : decode cX6_plan 283 = .ok (.iload 15, 2) := by decide +kernel
theorem dX6_plan_285 : decode cX6_plan 285 = .ok (.iload 9, 2) := by decide +kernel
theorem dX6_plan_287 : decode cX6_plan 287 = .ok (.if_icmp .ge 26, 3) := by decide +kernel
theorem dX6_plan_290 : decode cX6_plan 290 = .ok (.iconst 3, 1) := by decide +kernel
theorem dX6_plan_291 : decode cX6_plan 291 = .ok (.iload 13, 2) := by decide +kernel
theorem dX6_plan_293 : decode cX6_plan 293 = .ok (.imul, 1) := by decide +kernel
theorem dX6_plan_294 : decode cX6_plan 294 = .ok (.iload 14, 2) := by decide +kernel
theorem dX6_plan_296 : decode cX6_plan 296 = .ok (.iconst 3, 1) := by decide +kernel
theorem dX6_plan_297 : decode cX6_plan 297 = .ok (.irem, 1) := by decide +kernel
theorem dX6_plan_298 : decode cX6_plan 298 = .ok (.iadd, 1) := by decide +kernel
theorem dX6_plan_299 : decode cX6_plan 299 = .ok (.istore 13, 2) := by decide +kernel
theorem dX6_plan_301 : decode cX6_plan 301 = .ok (.iload 14, 2) := by decide +kernel
theorem dX6_plan_303 : decode cX6_plan 303 = .ok (.iconst 3, 1) := by decide +kernel
theorem dX6_plan_304 : decode cX6_plan 304 = .ok (.idiv, 1) := by decide +kernel
theorem dX6_plan_305 : decode cX6_plan 305 = .ok (.istore 14, 2) := by decide +kernel
theorem dX6_plan_307 : decode cX6_plan 307 = .ok (.iinc 15 1, 3) := by decide +kernel
theorem dX6_plan_310 : decode cX6_plan 310 = .ok (.goto (-27), 3) := by decide +kernel
theorem dX6_plan_313 : decode cX6_plan 313 = .ok (.iload 13, 2) := by decide +kernel
theorem dX6_plan_315 : decode cX6_plan 315 = .ok (.ireturn, 1) := by decide +kernel
theorem dX6_count_0 : decode cX6_count 0 = .ok (.iconst 0, 1) := by decide +kernel
theorem dX6_count_1 : decode cX6_count 1 = .ok (.istore_n 2, 1) := by decide +kernel
theorem dX6_count_2 : decode cX6_count 2 = .ok (.iconst 0, 1) := by decide +kernel
theorem dX6_count_3 : decode cX6_count 3 = .ok (.istore_n 3, 1) := by decide +kernel
theorem dX6_count_4 : decode cX6_count 4 = .ok (.iload_n 3, 1) := by decide +kernel
theorem dX6_count_5 : decode cX6_count 5 = .ok (.bipush 12, 2) := by decide +kernel
theorem dX6_count_7 : decode cX6_count 7 = .ok (.if_icmp .ge 18, 3) := by decide +kernel
theorem dX6_count_10 : decode cX6_count 10 = .ok (.iload_n 2, 1) := by decide +kernel
theorem dX6_count_11 : decode cX6_count 11 = .ok (.aload_n 0, 1) := by decide +kernel
theorem dX6_count_12 : decode cX6_count 12 = .ok (.getfield 22, 3) := by decide +kernel
theorem dX6_count_15 : decode cX6_count 15 = .ok (.iload_n 3, 1) := by decide +kernel
theorem dX6_count_16 : decode cX6_count 16 = .ok (.iaload, 1) := by decide +kernel
theorem dX6_count_17 : decode cX6_count 17 = .ok (.iadd, 1) := by decide +kernel
theorem dX6_count_18 : decode cX6_count 18 = .ok (.istore_n 2, 1) := by decide +kernel
theorem dX6_count_19 : decode cX6_count 19 = .ok (.iinc 3 1, 3) := by decide +kernel
theorem dX6_count_22 : decode cX6_count 22 = .ok (.goto (-18), 3) := by decide +kernel
theorem dX6_count_25 : decode cX6_count 25 = .ok (.iload_n 1, 1) := by decide +kernel
theorem dX6_count_26 : decode cX6_count 26 = .ok (.tableswitch 56 0 4 #[34, 39, 41, 46, 51], 34) := by decide +kernel
theorem dX6_count_60 : decode cX6_count 60 = .ok (.aload_n 0, 1) := by decide +kernel
theorem dX6_count_61 : decode cX6_count 61 = .ok (.getfield 74, 3) := by decide +kernel
theorem dX6_count_64 : decode cX6_count 64 = .ok (.ireturn, 1) := by decide +kernel
theorem dX6_count_65 : decode cX6_count 65 = .ok (.iload_n 2, 1) := by decide +kernel
theorem dX6_count_66 : decode cX6_count 66 = .ok (.ireturn, 1) := by decide +kernel
theorem dX6_count_67 : decode cX6_count 67 = .ok (.aload_n 0, 1) := by decide +kernel
theorem dX6_count_68 : decode cX6_count 68 = .ok (.getfield 100, 3) := by decide +kernel
theorem dX6_count_71 : decode cX6_count 71 = .ok (.ireturn, 1) := by decide +kernel
theorem dX6_count_72 : decode cX6_count 72 = .ok (.aload_n 0, 1) := by decide +kernel
theorem dX6_count_73 : decode cX6_count 73 = .ok (.getfield 110, 3) := by decide +kernel
theorem dX6_count_76 : decode cX6_count 76 = .ok (.ireturn, 1) := by decide +kernel
theorem dX6_count_77 : decode cX6_count 77 = .ok (.aload_n 0, 1) := by decide +kernel
theorem dX6_count_78 : decode cX6_count 78 = .ok (.getfield 82, 3) := by decide +kernel
theorem dX6_count_81 : decode cX6_count 81 = .ok (.ireturn, 1) := by decide +kernel
theorem dX6_count_82 : decode cX6_count 82 = .ok (.iconst (-1), 1) := by decide +kernel
theorem dX6_count_83 : decode cX6_count 83 = .ok (.ireturn, 1) := by decide +kernel
