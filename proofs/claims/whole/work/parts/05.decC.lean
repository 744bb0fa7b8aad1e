theorem dX9_init_0 : decode cX9_init 0 = .ok (.aload_n 0, 1) := by decide +kernel
theorem dX9_init_1 : decode cX9_init 1 = .ok (.invokespecial 1, 3) := by decide +kernel
theorem dX9_init_4 : decode cX9_init 4 = .ok (.aload_n 0, 1) := by decide +kernel
theorem dX9_init_5 : decode cX9_init 5 = .ok (.bipush 78, 2) := by decide +kernel
theorem dX9_init_7 : decode cX9_init 7 = .ok (.newarray .int, 2) := by decide +kernel
theorem dX9_init_9 : decode cX9_init 9 = .ok (.putfield 7, 3) := by decide +kernel
theorem dX9_init_12 : decode cX9_init 12 = .ok (.aload_n 0, 1) := by decide +kernel
theorem dX9_init_13 : decode cX9_init 13 = .ok (.iconst 2, 1) := by decide +kernel
theorem dX9_init_14 : decode cX9_init 14 = .ok (.newarray .boolean, 2) := by decide +kernel
theorem dX9_init_16 : decode cX9_init 16 = .ok (.putfield 13, 3) := by decide +kernel
theorem dX9_init_19 : decode cX9_init 19 = .ok (.aload_n 0, 1) := by decide +kernel
theorem dX9_init_20 : decode cX9_init 20 = .ok (.bipush 108, 2) := by decide +kernel
theorem dX9_init_22 : decode cX9_init 22 = .ok (.newarray .int, 2) := by decide +kernel
theorem dX9_init_24 : decode cX9_init 24 = .ok (.putfield 17, 3) := by decide +kernel
theorem dX9_init_27 : decode cX9_init 27 = .ok (.aload_n 0, 1) := by decide +kernel
theorem dX9_init_28 : decode cX9_init 28 = .ok (.sipush 162, 3) := by decide +kernel
theorem dX9_init_31 : decode cX9_init 31 = .ok (.newarray .int, 2) := by decide +kernel
theorem dX9_init_33 : decode cX9_init 33 = .ok (.putfield 20, 3) := by decide +kernel
theorem dX9_init_36 : decode cX9_init 36 = .ok (.aload_n 0, 1) := by decide +kernel
theorem dX9_init_37 : decode cX9_init 37 = .ok (.bipush 24, 2) := by decide +kernel
theorem dX9_init_39 : decode cX9_init 39 = .ok (.newarray .int, 2) := by decide +kernel
theorem dX9_init_41 : decode cX9_init 41 = .ok (.putfield 23, 3) := by decide +kernel
theorem dX9_init_44 : decode cX9_init 44 = .ok (.aload_n 0, 1) := by decide +kernel
theorem dX9_init_45 : decode cX9_init 45 = .ok (.bipush 24, 2) := by decide +kernel
theorem dX9_init_47 : decode cX9_init 47 = .ok (.newarray .int, 2) := by decide +kernel
theorem dX9_init_49 : decode cX9_init 49 = .ok (.putfield 26, 3) := by decide +kernel
theorem dX9_init_52 : decode cX9_init 52 = .ok (.aload_n 0, 1) := by decide +kernel
theorem dX9_init_53 : decode cX9_init 53 = .ok (.bipush 24, 2) := by decide +kernel
theorem dX9_init_55 : decode cX9_init 55 = .ok (.newarray .int, 2) := by decide +kernel
theorem dX9_init_57 : decode cX9_init 57 = .ok (.putfield 29, 3) := by decide +kernel
theorem dX9_init_60 : decode cX9_init 60 = .ok (.aload_n 0, 1) := by decide +kernel
theorem dX9_init_61 : decode cX9_init 61 = .ok (.bipush 24, 2) := by decide +kernel
theorem dX9_init_63 : decode cX9_init 63 = .ok (.newarray .int, 2) := by decide +kernel
theorem dX9_init_65 : decode cX9_init 65 = .ok (.putfield 32, 3) := by decide +kernel
theorem dX9_init_68 : decode cX9_init 68 = .ok (.aload_n 0, 1) := by decide +kernel
theorem dX9_init_69 : decode cX9_init 69 = .ok (.iconst 4, 1) := by decide +kernel
theorem dX9_init_70 : decode cX9_init 70 = .ok (.newarray .int, 2) := by decide +kernel
theorem dX9_init_72 : decode cX9_init 72 = .ok (.putfield 35, 3) := by decide +kernel
theorem dX9_init_75 : decode cX9_init 75 = .ok (.aload_n 0, 1) := by decide +kernel
theorem dX9_init_76 : decode cX9_init 76 = .ok (.bipush 40, 2) := by decide +kernel
theorem dX9_init_78 : decode cX9_init 78 = .ok (.newarray .int, 2) := by decide +kernel
theorem dX9_init_80 : decode cX9_init 80 = .ok (.putfield 38, 3) := by decide +kernel
theorem dX9_init_83 : decode cX9_init 83 = .ok (.aload_n 0, 1) := by decide +kernel
theorem dX9_init_84 : decode cX9_init 84 = .ok (.bipush 40, 2) := by decide +kernel
theorem dX9_init_86 : decode cX9_init 86 = .ok (.newarray .int, 2) := by decide +kernel
theorem dX9_init_88 : decode cX9_init 88 = .ok (.putfield 41, 3) := by decide +kernel
theorem dX9_init_91 : decode cX9_init 91 = .ok (.aload_n 0, 1) := by decide +kernel
theorem dX9_init_92 : decode cX9_init 92 = .ok (.bipush 12, 2) := by decide +kernel
theorem dX9_init_94 : decode cX9_init 94 = .ok (.newarray .int, 2) := by decide +kernel
theorem dX9_init_96 : decode cX9_init 96 = .ok (.putfield 44, 3) := by decide +kernel
theorem dX9_init_99 : decode cX9_init 99 = .ok (.aload_n 0, 1) := by decide +kernel
theorem dX9_init_100 : decode cX9_init 100 = .ok (.sipush 600, 3) := by decide +kernel
theorem dX9_init_103 : decode cX9_init 103 = .ok (.newarray .int, 2) := by decide +kernel
theorem dX9_init_105 : decode cX9_init 105 = .ok (.putfield 47, 3) := by decide +kernel
theorem dX9_init_108 : decode cX9_init 108 = .ok (.aload_n 0, 1) := by decide +kernel
theorem dX9_init_109 : decode cX9_init 109 = .ok (.iconst (-1), 1) := by decide +kernel
theorem dX9_init_110 : decode cX9_init 110 = .ok (.putfield 50, 3) := by decide +kernel
theorem dX9_init_113 : decode cX9_init 113 = .ok (.aload_n 0, 1) := by decide +kernel
theorem dX9_init_114 : decode cX9_init 114 = .ok (.bipush 81, 2) := by decide +kernel
theorem dX9_init_116 : decode cX9_init 116 = .ok (.newarray .int, 2) := by decide +kernel
theorem dX9_init_118 : decode cX9_init 118 = .ok (.putfield 54, 3) := by decide +kernel
theorem dX9_init_121 : decode cX9_init 121 = .ok (.aload_n 0, 1) := by decide +kernel
theorem dX9_init_122 : decode cX9_init 122 = .ok (.bipush 9, 2) := by decide +kernel
theorem dX9_init_124 : decode cX9_init 124 = .ok (.newarray .int, 2) := by decide +kernel
theorem dX9_init_126 : decode cX9_init 126 = .ok (.putfield 57, 3) := by decide +kernel
theorem dX9_init_129 : decode cX9_init 129 = .ok (.aload_n 0, 1) := by decide +kernel
theorem dX9_init_130 : decode cX9_init 130 = .ok (.bipush 9, 2) := by decide +kernel
theorem dX9_init_132 : decode cX9_init 132 = .ok (.newarray .int, 2) := by decide +kernel
theorem dX9_init_134 : decode cX9_init 134 = .ok (.putfield 60, 3) := by decide +kernel
theorem dX9_init_137 : decode cX9_init 137 = .ok (.aload_n 0, 1) := by decide +kernel
theorem dX9_init_138 : decode cX9_init 138 = .ok (.bipush 20, 2) := by decide +kernel
theorem dX9_init_140 : decode cX9_init 140 = .ok (.newarray .int, 2) := by decide +kernel
theorem dX9_init_142 : decode cX9_init 142 = .ok (.putfield 63, 3) := by decide +kernel
theorem dX9_init_145 : decode cX9_init 145 = .ok (.aload_n 0, 1) := by decide +kernel
theorem dX9_init_146 : decode cX9_init 146 = .ok (.bipush 12, 2) := by decide +kernel
theorem dX9_init_148 : decode cX9_init 148 = .ok (.newarray .int, 2) := by decide +kernel
theorem dX9_init_150 : decode cX9_init 150 = .ok (.putfield 66, 3) := by decide +kernel
theorem dX9_init_153 : decode cX9_init 153 = .ok (.aload_n 0, 1) := by decide +kernel
theorem dX9_init_154 : decode cX9_init 154 = .ok (.bipush 12, 2) := by decide +kernel
theorem dX9_init_156 : decode cX9_init 156 = .ok (.newarray .int, 2) := by decide +kernel
theorem dX9_init_158 : decode cX9_init 158 = .ok (.putfield 69, 3) := by decide +kernel
theorem dX9_init_161 : decode cX9_init 161 = .ok (.aload_n 0, 1) := by decide +kernel
theorem dX9_init_162 : decode cX9_init 162 = .ok (.bipush 12, 2) := by decide +kernel
theorem dX9_init_164 : decode cX9_init 164 = .ok (.newarray .int, 2) := by decide +kernel
theorem dX9_init_166 : decode cX9_init 166 = .ok (.putfield 72, 3) := by decide +kernel
theorem dX9_init_169 : decode cX9_init 169 = .ok (.aload_n 0, 1) := by decide +kernel
theorem dX9_init_170 : decode cX9_init 170 = .ok (.bipush 12, 2) := by decide +kernel
theorem dX9_init_172 : decode cX9_init 172 = .ok (.newarray .int, 2) := by decide +kernel
theorem dX9_init_174 : decode cX9_init 174 = .ok (.putfield 75, 3) := by decide +kernel
theorem dX9_init_177 : decode cX9_init 177 = .ok (.aload_n 0, 1) := by decide +kernel
theorem dX9_init_178 : decode cX9_init 178 = .ok (.bipush 9, 2) := by decide +kernel
theorem dX9_init_180 : decode cX9_init 180 = .ok (.newarray .int, 2) := by decide +kernel
theorem dX9_init_182 : decode cX9_init 182 = .ok (.putfield 78, 3) := by decide +kernel
theorem dX9_init_185 : decode cX9_init 185 = .ok (.aload_n 0, 1) := by decide +kernel
theorem dX9_init_186 : decode cX9_init 186 = .ok (.bipush 9, 2) := by decide +kernel
theorem dX9_init_188 : decode cX9_init 188 = .ok (.newarray .int, 2) := by decide +kernel
theorem dX9_init_190 : decode cX9_init 190 = .ok (.putfield 81, 3) := by decide +kernel
theorem dX9_init_193 : decode cX9_init 193 = .ok (.aload_n 0, 1) := by decide +kernel
theorem dX9_init_194 : decode cX9_init 194 = .ok (.iconst 5, 1) := by decide +kernel
theorem dX9_init_195 : decode cX9_init 195 = .ok (.newarray .int, 2) := by decide +kernel
theorem dX9_init_197 : decode cX9_init 197 = .ok (.putfield 84, 3) := by decide +kernel
theorem dX9_init_200 : decode cX9_init 200 = .ok (.aload_n 0, 1) := by decide +kernel
theorem dX9_init_201 : decode cX9_init 201 = .ok (.sipush 4096, 3) := by decide +kernel
theorem dX9_init_204 : decode cX9_init 204 = .ok (.newarray .int, 2) := by decide +kernel
theorem dX9_init_206 : decode cX9_init 206 = .ok (.putfield 87, 3) := by decide +kernel
theorem dX9_init_209 : decode cX9_init 209 = .ok (.aload_n 0, 1) := by decide +kernel
theorem dX9_init_210 : decode cX9_init 210 = .ok (.bipush 12, 2) := by decide +kernel
theorem dX9_init_212 : decode cX9_init 212 = .ok (.newarray .int, 2) := by decide +kernel
theorem dX9_init_214 : decode cX9_init 214 = .ok (.putfield 90, 3) := by decide +kernel
theorem dX9_init_217 : decode cX9_init 217 = .ok (.return_, 1) := by decide +kernel
theorem dX9_in_0 : decode cX9_in 0 = .ok (.lload_n 0, 1) := by decide +kernel
theorem dX9_in_1 : decode cX9_in 1 = .ok (.lload_n 2, 1) := by decide +kernel
theorem dX9_in_2 : decode cX9_in 2 = .ok (.lcmp, 1) := by decide +kernel
theorem dX9_in_3 : decode cX9_in 3 = .ok (.ifCond .lt 14, 3) := by decide +kernel
theorem dX9_in_6 : decode cX9_in 6 = .ok (.lload_n 0, 1) := by decide +kernel
theorem dX9_in_7 : decode cX9_in 7 = .ok (.lload 4, 2) := by decide +kernel
theorem dX9_in_9 : decode cX9_in 9 = .ok (.lcmp, 1) := by decide +kernel
theorem dX9_in_10 : decode cX9_in 10 = .ok (.ifCond .gt 7, 3) := by decide +kernel
theorem dX9_in_13 : decode cX9_in 13 = .ok (.iconst 1, 1) := by decide +kernel
theorem dX9_in_14 : decode cX9_in 14 = .ok (.goto 4, 3) := by decide +kernel
theorem dX9_in_17 : decode cX9_in 17 = .ok (.iconst 0, 1) := by decide +kernel
theorem dX9_in_18 : decode cX9_in 18 = .ok (.ireturn, 1) := by decide +kernel
theorem dX9_one_0 : decode cX9_one 0 = .ok (.iload_n 0, 1) := by decide +kernel
theorem dX9_one_1 : decode cX9_one 1 = .ok (.ifCond .eq 7, 3) := by decide +kernel
theorem dX9_one_4 : decode cX9_one 4 = .ok (.iconst 1, 1) := by decide +kernel
theorem dX9_one_5 : decode cX9_one 5 = .ok (.goto 4, 3) := by decide +kernel
theorem dX9_one_8 : decode cX9_one 8 = .ok (.iconst 0, 1) := by decide +kernel
theorem dX9_one_9 : decode cX9_one 9 = .ok (.ireturn, 1) := by decide +kernel
theorem dX9_has_0 : decode cX9_has 0 = .ok (.iload_n 0, 1) := by decide +kernel
theorem dX9_has_1 : decode cX9_has 1 = .ok (.iload_n 1, 1) := by decide +kernel
theorem dX9_has_2 : decode cX9_has 2 = .ok (.ishr, 1) := by decide +kernel
theorem dX9_has_3 : decode cX9_has 3 = .ok (.iconst 1, 1) := by decide +kernel
theorem dX9_has_4 : decode cX9_has 4 = .ok (.iand, 1) := by decide +kernel
theorem dX9_has_5 : decode cX9_has 5 = .ok (.iconst 1, 1) := by decide +kernel
theorem dX9_has_6 : decode cX9_has 6 = .ok (.if_icmp .ne 7, 3) := by decide +kernel
theorem dX9_has_9 : decode cX9_has 9 = .ok (.iconst 1, 1) := by decide +kernel
theorem dX9_has_10 : decode cX9_has 10 = .ok (.goto 4, 3) := by decide +kernel
theorem dX9_has_13 : decode cX9_has 13 = .ok (.iconst 0, 1) := by decide +kernel
theorem dX9_has_14 : decode cX9_has 14 = .ok (.ireturn, 1) := by decide +kernel
theorem dX9_ones_0 : decode cX9_ones 0 = .ok (.iconst 0, 1) := by decide +kernel
theorem dX9_ones_1 : decode cX9_ones 1 = .ok (.istore_n 1, 1) := by decide +kernel
theorem dX9_ones_2 : decode cX9_ones 2 = .ok (.iconst 0, 1) := by decide +kernel
theorem dX9_ones_3 : decode cX9_ones 3 = .ok (.istore_n 2, 1) := by decide +kernel
theorem dX9_ones_4 : decode cX9_ones 4 = .ok (.iload_n 2, 1) := by decide +kernel
theorem dX9_ones_5 : decode cX9_ones 5 = .ok (.bipush 12, 2) := by decide +kernel
theorem dX9_ones_7 : decode cX9_ones 7 = .ok (.if_icmp .ge 17, 3) := by decide +kernel
theorem dX9_ones_10 : decode cX9_ones 10 = .ok (.iload_n 1, 1) := by decide +kernel
theorem dX9_ones_11 : decode cX9_ones 11 = .ok (.iload_n 0, 1) := by decide +kernel
theorem dX9_ones_12 : decode cX9_ones 12 = .ok (.iload_n 2, 1) := by decide +kernel
theorem dX9_ones_13 : decode cX9_ones 13 = .ok (.ishr, 1) := by decide +kernel
theorem dX9_ones_14 : decode cX9_ones 14 = .ok (.iconst 1, 1) := by decide +kernel
theorem dX9_ones_15 : decode cX9_ones 15 = .ok (.iand, 1) := by decide +kernel
theorem dX9_ones_16 : decode cX9_ones 16 = .ok (.iadd, 1) := by decide +kernel
theorem dX9_ones_17 : decode cX9_ones 17 = .ok (.istore_n 1, 1) := by decide +kernel
theorem dX9_ones_18 : decode cX9_ones 18 = .ok (.iinc 2 1, 3) := by decide +kernel
theorem dX9_ones_21 : decode cX9_ones 21 = .ok (.goto (-17), 3) := by decide +kernel
theorem dX9_ones_24 : decode cX9_ones 24 = .ok (.iload_n 1, 1) := by decide +kernel
theorem dX9_ones_25 : decode cX9_ones 25 = .ok (.ireturn, 1) := by decide +kernel
theorem dX9_feed_0 : decode cX9_feed 0 = .ok (.iload_n 1, 1) := by decide +kernel
theorem dX9_feed_1 : decode cX9_feed 1 = .ok (.i2l, 1) := by decide +kernel
theorem dX9_feed_2 : decode cX9_feed 2 = .ok (.lconst 1, 1) := by decide +kernel
theorem dX9_feed_3 : decode cX9_feed 3 = .ok (.ldc2_w 93, 3) := by decide +kernel
theorem dX9_feed_6 : decode cX9_feed 6 = .ok (.invokestatic 95, 3) := by decide +kernel
theorem dX9_feed_9 : decode cX9_feed 9 = .ok (.ifCond .ne 6, 3) := by decide +kernel
theorem dX9_feed_12 : decode cX9_feed 12 = .ok (.ldc 99, 2) := by decide +kernel
theorem dX9_feed_14 : decode cX9_feed 14 = .ok (.ireturn, 1) := by decide +kernel
theorem dX9_feed_15 : decode cX9_feed 15 = .ok (.aload_n 0, 1) := by decide +kernel
theorem dX9_feed_16 : decode cX9_feed 16 = .ok (.getfield 100, 3) := by decide +kernel
theorem dX9_feed_19 : decode cX9_feed 19 = .ok (.iload_n 1, 1) := by decide +kernel
theorem dX9_feed_20 : decode cX9_feed 20 = .ok (.iadd, 1) := by decide +kernel
theorem dX9_feed_21 : decode cX9_feed 21 = .ok (.sipush 600, 3) := by decide +kernel
theorem dX9_feed_24 : decode cX9_feed 24 = .ok (.if_icmp .le 6, 3) := by decide +kernel
theorem dX9_feed_27 : decode cX9_feed 27 = .ok (.ldc 103, 2) := by decide +kernel
theorem dX9_feed_29 : decode cX9_feed 29 = .ok (.ireturn, 1) := by decide +kernel
theorem dX9_feed_30 : decode cX9_feed 30 = .ok (.iload_n 1, 1) := by decide +kernel
theorem dX9_feed_31 : decode cX9_feed 31 = .ok (.iconst 1, 1) := by decide +kernel
theorem dX9_feed_32 : decode cX9_feed 32 = .ok (.isub, 1) := by decide +kernel
theorem dX9_feed_33 : decode cX9_feed 33 = .ok (.istore 4, 2) := by decide +kernel
theorem dX9_feed_35 : decode cX9_feed 35 = .ok (.iload 4, 2) := by decide +kernel
theorem dX9_feed_37 : decode cX9_feed 37 = .ok (.ifCond .lt 40, 3) := by decide +kernel
theorem dX9_feed_40 : decode cX9_feed 40 = .ok (.aload_n 0, 1) := by decide +kernel
theorem dX9_feed_41 : decode cX9_feed 41 = .ok (.getfield 47, 3) := by decide +kernel
theorem dX9_feed_44 : decode cX9_feed 44 = .ok (.aload_n 0, 1) := by decide +kernel
theorem dX9_feed_45 : decode cX9_feed 45 = .ok (.getfield 100, 3) := by decide +kernel
theorem dX9_feed_48 : decode cX9_feed 48 = .ok (.lload_n 2, 1) := by decide +kernel
theorem dX9_feed_49 : decode cX9_feed 49 = .ok (.bipush 8, 2) := by decide +kernel
theorem dX9_feed_51 : decode cX9_feed 51 = .ok (.iload 4, 2) := by decide +kernel
theorem dX9_feed_53 : decode cX9_feed 53 = .ok (.imul, 1) := by decide +kernel
theorem dX9_feed_54 : decode cX9_feed 54 = .ok (.lshr, 1) := by decide +kernel
theorem dX9_feed_55 : decode cX9_feed 55 = .ok (.ldc2_w 104, 3) := by decide +kernel
theorem dX9_feed_58 : decode cX9_feed 58 = .ok (.land, 1) := by decide +kernel
theorem dX9_feed_59 : decode cX9_feed 59 = .ok (.l2i, 1) := by decide +kernel
theorem dX9_feed_60 : decode cX9_feed 60 = .ok (.iastore, 1) := by decide +kernel
theorem dX9_feed_61 : decode cX9_feed 61 = .ok (.aload_n 0, 1) := by decide +kernel
theorem dX9_feed_62 : decode cX9_feed 62 = .ok (.dup, 1) := by decide +kernel
theorem dX9_feed_63 : decode cX9_feed 63 = .ok (.getfield 100, 3) := by decide +kernel
theorem dX9_feed_66 : decode cX9_feed 66 = .ok (.iconst 1, 1) := by decide +kernel
theorem dX9_feed_67 : decode cX9_feed 67 = .ok (.iadd, 1) := by decide +kernel
theorem dX9_feed_68 : decode cX9_feed 68 = .ok (.putfield 100, 3) := by decide +kernel
theorem dX9_feed_71 : decode cX9_feed 71 = .ok (.iinc 4 (-1), 3) := by decide +kernel
theorem dX9_feed_74 : decode cX9_feed 74 = .ok (.goto (-39), 3) := by decide +kernel
theorem dX9_feed_77 : decode cX9_feed 77 = .ok (.aload_n 0, 1) := by decide +kernel
theorem dX9_feed_78 : decode cX9_feed 78 = .ok (.getfield 100, 3) := by decide +kernel
theorem dX9_feed_81 : decode cX9_feed 81 = .ok (.ireturn, 1) := by decide +kernel
theorem dX9_here_0 : decode cX9_here 0 = .ok (.aload_n 0, 1) := by decide +kernel
theorem dX9_here_1 : decode cX9_here 1 = .ok (.getfield 106, 3) := by decide +kernel
theorem dX9_here_4 : decode cX9_here 4 = .ok (.aload_n 0, 1) := by decide +kernel
theorem dX9_here_5 : decode cX9_here 5 = .ok (.getfield 100, 3) := by decide +kernel
theorem dX9_here_8 : decode cX9_here 8 = .ok (.if_icmp .ge 30, 3) := by decide +kernel
theorem dX9_here_11 : decode cX9_here 11 = .ok (.aload_n 0, 1) := by decide +kernel
theorem dX9_here_12 : decode cX9_here 12 = .ok (.getfield 47, 3) := by decide +kernel
theorem dX9_here_15 : decode cX9_here 15 = .ok (.aload_n 0, 1) := by decide +kernel
theorem dX9_here_16 : decode cX9_here 16 = .ok (.getfield 106, 3) := by decide +kernel
theorem dX9_here_19 : decode cX9_here 19 = .ok (.iaload, 1) := by decide +kernel
theorem dX9_here_20 : decode cX9_here 20 = .ok (.bipush 32, 2) := by decide +kernel
theorem dX9_here_22 : decode cX9_here 22 = .ok (.if_icmp .ne 16, 3) := by decide +kernel
theorem dX9_here_25 : decode cX9_here 25 = .ok (.aload_n 0, 1) := by decide +kernel
theorem dX9_here_26 : decode cX9_here 26 = .ok (.dup, 1) := by decide +kernel
theorem dX9_here_27 : decode cX9_here 27 = .ok (.getfield 106, 3) := by decide +kernel
theorem dX9_here_30 : decode cX9_here 30 = .ok (.iconst 1, 1) := by decide +kernel
theorem dX9_here_31 : decode cX9_here 31 = .ok (.iadd, 1) := by decide +kernel
theorem dX9_here_32 : decode cX9_here 32 = .ok (.putfield 106, 3) := by decide +kernel
theorem dX9_here_35 : decode cX9_here 35 = .ok (.goto (-35), 3) := by decide +kernel
theorem dX9_here_38 : decode cX9_here 38 = .ok (.aload_n 0, 1) := by decide +kernel
theorem dX9_here_39 : decode cX9_here 39 = .ok (.getfield 106, 3) := by decide +kernel
theorem dX9_here_42 : decode cX9_here 42 = .ok (.aload_n 0, 1) := by decide +kernel
theorem dX9_here_43 : decode cX9_here 43 = .ok (.getfield 100, 3) := by decide +kernel
theorem dX9_here_46 : decode cX9_here 46 = .ok (.if_icmp .ge 15, 3) := by decide +kernel
theorem dX9_here_49 : decode cX9_here 49 = .ok (.aload_n 0, 1) := by decide +kernel
theorem dX9_here_50 : decode cX9_here 50 = .ok (.getfield 47, 3) := by decide +kernel
theorem dX9_here_53 : decode cX9_here 53 = .ok (.aload_n 0, 1) := by decide +kernel
theorem dX9_here_54 : decode cX9_here 54 = .ok (.getfield 106, 3) := by decide +kernel
theorem dX9_here_57 : decode cX9_here 57 = .ok (.iaload, 1) := by decide +kernel
theorem dX9_here_58 : decode cX9_here 58 = .ok (.goto 4, 3) := by decide +kernel
theorem dX9_here_61 : decode cX9_here 61 = .ok (.iconst (-1), 1) := by decide +kernel
theorem dX9_here_62 : decode cX9_here 62 = .ok (.ireturn, 1) := by decide +kernel
theorem dX9_want_0 : decode cX9_want 0 = .ok (.iload_n 1, 1) := by decide +kernel
theorem dX9_want_1 : decode cX9_want 1 = .ok (.ifCond .ne 20, 3) := by decide +kernel
theorem dX9_want_4 : decode cX9_want 4 = .ok (.aload_n 0, 1) := by decide +kernel
theorem dX9_want_5 : decode cX9_want 5 = .ok (.getfield 109, 3) := by decide +kernel
theorem dX9_want_8 : decode cX9_want 8 = .ok (.ifCond .ne 13, 3) := by decide +kernel
theorem dX9_want_11 : decode cX9_want 11 = .ok (.aload_n 0, 1) := by decide +kernel
theorem dX9_want_12 : decode cX9_want 12 = .ok (.iload_n 2, 1) := by decide +kernel
theorem dX9_want_13 : decode cX9_want 13 = .ok (.putfield 109, 3) := by decide +kernel
theorem dX9_want_16 : decode cX9_want 16 = .ok (.aload_n 0, 1) := by decide +kernel
theorem dX9_want_17 : decode cX9_want 17 = .ok (.iload_n 3, 1) := by decide +kernel
theorem dX9_want_18 : decode cX9_want 18 = .ok (.putfield 50, 3) := by decide +kernel
theorem dX9_want_21 : decode cX9_want 21 = .ok (.aload_n 0, 1) := by decide +kernel
theorem dX9_want_22 : decode cX9_want 22 = .ok (.getfield 109, 3) := by decide +kernel
theorem dX9_want_25 : decode cX9_want 25 = .ok (.ifCond .ne 7, 3) := by decide +kernel
theorem dX9_want_28 : decode cX9_want 28 = .ok (.iconst 1, 1) := by decide +kernel
theorem dX9_want_29 : decode cX9_want 29 = .ok (.goto 4, 3) := by decide +kernel
theorem dX9_want_32 : decode cX9_want 32 = .ok (.iconst 0, 1) := by decide +kernel
theorem dX9_want_33 : decode cX9_want 33 = .ok (.ireturn, 1) := by decide +kernel
theorem dX9_takeWord_0 : decode cX9_takeWord 0 = .ok (.aload_n 0, 1) := by decide +kernel
theorem dX9_takeWord_1 : decode cX9_takeWord 1 = .ok (.invokevirtual 112, 3) := by decide +kernel
theorem dX9_takeWord_4 : decode cX9_takeWord 4 = .ok (.istore_n 1, 1) := by decide +kernel
theorem dX9_takeWord_5 : decode cX9_takeWord 5 = .ok (.aload_n 0, 1) := by decide +kernel
theorem dX9_takeWord_6 : decode cX9_takeWord 6 = .ok (.aload_n 0, 1) := by decide +kernel
theorem dX9_takeWord_7 : decode cX9_takeWord 7 = .ok (.getfield 106, 3) := by decide +kernel
theorem dX9_takeWord_10 : decode cX9_takeWord 10 = .ok (.putfield 116, 3) := by decide +kernel
theorem dX9_takeWord_13 : decode cX9_takeWord 13 = .ok (.aload_n 0, 1) := by decide +kernel
theorem dX9_takeWord_14 : decode cX9_takeWord 14 = .ok (.getfield 106, 3) := by decide +kernel
theorem dX9_takeWord_17 : decode cX9_takeWord 17 = .ok (.aload_n 0, 1) := by decide +kernel
theorem dX9_takeWord_18 : decode cX9_takeWord 18 = .ok (.getfield 100, 3) := by decide +kernel
theorem dX9_takeWord_21 : decode cX9_takeWord 21 = .ok (.if_icmp .ge 38, 3) := by decide +kernel
theorem dX9_takeWord_24 : decode cX9_takeWord 24 = .ok (.aload_n 0, 1) := by decide +kernel
theorem dX9_takeWord_25 : decode cX9_takeWord 25 = .ok (.getfield 47, 3) := by decide +kernel
theorem dX9_takeWord_28 : decode cX9_takeWord 28 = .ok (.aload_n 0, 1) := by decide +kernel
theorem dX9_takeWord_29 : decode cX9_takeWord 29 = .ok (.getfield 106, 3) := by decide +kernel
theorem dX9_takeWord_32 : decode cX9_takeWord 32 = .ok (.iaload, 1) := by decide +kernel
theorem dX9_takeWord_33 : decode cX9_takeWord 33 = .ok (.i2l, 1) := by decide +kernel
theorem dX9_takeWord_34 : decode cX9_takeWord 34 = .ok (.ldc2_w 119, 3) := by decide +kernel
theorem dX9_takeWord_37 : decode cX9_takeWord 37 = .ok (.ldc2_w 121, 3) := by decide +kernel
theorem dX9_takeWord_40 : decode cX9_takeWord 40 = .ok (.invokestatic 95, 3) := by decide +kernel
theorem dX9_takeWord_43 : decode cX9_takeWord 43 = .ok (.ifCond .eq 16, 3) := by decide +kernel
theorem dX9_takeWord_46 : decode cX9_takeWord 46 = .ok (.aload_n 0, 1) := by decide +kernel
theorem dX9_takeWord_47 : decode cX9_takeWord 47 = .ok (.dup, 1) := by decide +kernel
theorem dX9_takeWord_48 : decode cX9_takeWord 48 = .ok (.getfield 106, 3) := by decide +kernel
theorem dX9_takeWord_51 : decode cX9_takeWord 51 = .ok (.iconst 1, 1) := by decide +kernel
theorem dX9_takeWord_52 : decode cX9_takeWord 52 = .ok (.iadd, 1) := by decide +kernel
theorem dX9_takeWord_53 : decode cX9_takeWord 53 = .ok (.putfield 106, 3) := by decide +kernel
theorem dX9_takeWord_56 : decode cX9_takeWord 56 = .ok (.goto (-43), 3) := by decide +kernel
theorem dX9_takeWord_59 : decode cX9_takeWord 59 = .ok (.aload_n 0, 1) := by decide +kernel
theorem dX9_takeWord_60 : decode cX9_takeWord 60 = .ok (.aload_n 0, 1) := by decide +kernel
theorem dX9_takeWord_61 : decode cX9_takeWord 61 = .ok (.getfield 106, 3) := by decide +kernel
theorem dX9_takeWord_64 : decode cX9_takeWord 64 = .ok (.aload_n 0, 1) := by decide +kernel
theorem dX9_takeWord_65 : decode cX9_takeWord 65 = .ok (.getfield 116, 3) := by decide +kernel
theorem dX9_takeWord_68 : decode cX9_takeWord 68 = .ok (.isub, 1) := by decide +kernel
theorem dX9_takeWord_69 : decode cX9_takeWord 69 = .ok (.putfield 123, 3) := by decide +kernel
theorem dX9_takeWord_72 : decode cX9_takeWord 72 = .ok (.return_, 1) := by decide +kernel
theorem dX9_isWord_0 : decode cX9_isWord 0 = .ok (.aload_n 0, 1) := by decide +kernel
theorem dX9_isWord_1 : decode cX9_isWord 1 = .ok (.getfield 123, 3) := by decide +kernel
theorem dX9_isWord_4 : decode cX9_isWord 4 = .ok (.iload_n 1, 1) := by decide +kernel
theorem dX9_isWord_5 : decode cX9_isWord 5 = .ok (.if_icmp .ne 7, 3) := by decide +kernel
theorem dX9_isWord_8 : decode cX9_isWord 8 = .ok (.iconst 1, 1) := by decide +kernel
theorem dX9_isWord_9 : decode cX9_isWord 9 = .ok (.goto 4, 3) := by decide +kernel
theorem dX9_isWord_12 : decode cX9_isWord 12 = .ok (.iconst 0, 1) := by decide +kernel
theorem dX9_isWord_13 : decode cX9_isWord 13 = .ok (.istore 7, 2) := by decide +kernel
theorem dX9_isWord_15 : decode cX9_isWord 15 = .ok (.iconst 0, 1) := by decide +kernel
theorem dX9_isWord_16 : decode cX9_isWord 16 = .ok (.istore 8, 2) := by decide +kernel
theorem dX9_isWord_18 : decode cX9_isWord 18 = .ok (.iload 8, 2) := by decide +kernel
theorem dX9_isWord_20 : decode cX9_isWord 20 = .ok (.iload_n 1, 1) := by decide +kernel
theorem dX9_isWord_21 : decode cX9_isWord 21 = .ok (.if_icmp .ge 79, 3) := by decide +kernel
theorem dX9_isWord_24 : decode cX9_isWord 24 = .ok (.iload 7, 2) := by decide +kernel
theorem dX9_isWord_26 : decode cX9_isWord 26 = .ok (.ifCond .eq 74, 3) := by decide +kernel
theorem dX9_isWord_29 : decode cX9_isWord 29 = .ok (.aload_n 0, 1) := by decide +kernel
theorem dX9_isWord_30 : decode cX9_isWord 30 = .ok (.getfield 47, 3) := by decide +kernel
theorem dX9_isWord_33 : decode cX9_isWord 33 = .ok (.aload_n 0, 1) := by decide +kernel
theorem dX9_isWord_34 : decode cX9_isWord 34 = .ok (.getfield 116, 3) := by decide +kernel
theorem dX9_isWord_37 : decode cX9_isWord 37 = .ok (.iload 8, 2) := by decide +kernel
theorem dX9_isWord_39 : decode cX9_isWord 39 = .ok (.iadd, 1) := by decide +kernel
theorem dX9_isWord_40 : decode cX9_isWord 40 = .ok (.iaload, 1) := by decide +kernel
theorem dX9_isWord_41 : decode cX9_isWord 41 = .ok (.iload 8, 2) := by decide +kernel
theorem dX9_isWord_43 : decode cX9_isWord 43 = .ok (.ifCond .ne 7, 3) := by decide +kernel
theorem dX9_isWord_46 : decode cX9_isWord 46 = .ok (.iload_n 2, 1) := by decide +kernel
theorem dX9_isWord_47 : decode cX9_isWord 47 = .ok (.goto 37, 3) := by decide +kernel
theorem dX9_isWord_50 : decode cX9_isWord 50 = .ok (.iload 8, 2) := by decide +kernel
theorem dX9_isWord_52 : decode cX9_isWord 52 = .ok (.iconst 1, 1) := by decide +kernel
theorem dX9_isWord_53 : decode cX9_isWord 53 = .ok (.if_icmp .ne 7, 3) := by decide +kernel
theorem dX9_isWord_56 : decode cX9_isWord 56 = .ok (.iload_n 3, 1) := by decide +kernel
theorem dX9_isWord_57 : decode cX9_isWord 57 = .ok (.goto 27, 3) := by decide +kernel
theorem dX9_isWord_60 : decode cX9_isWord 60 = .ok (.iload 8, 2) := by decide +kernel
theorem dX9_isWord_62 : decode cX9_isWord 62 = .ok (.iconst 2, 1) := by decide +kernel
theorem dX9_isWord_63 : decode cX9_isWord 63 = .ok (.if_icmp .ne 8, 3) := by decide +kernel
theorem dX9_isWord_66 : decode cX9_isWord 66 = .ok (.iload 4, 2) := by decide +kernel
theorem dX9_isWord_68 : decode cX9_isWord 68 = .ok (.goto 16, 3) := by decide +kernel
theorem dX9_isWord_71 : decode cX9_isWord 71 = .ok (.iload 8, 2) := by decide +kernel
theorem dX9_isWord_73 : decode cX9_isWord 73 = .ok (.iconst 3, 1) := by decide +kernel
theorem dX9_isWord_74 : decode cX9_isWord 74 = .ok (.if_icmp .ne 8, 3) := by decide +kernel
theorem dX9_isWord_77 : decode cX9_isWord 77 = .ok (.iload 5, 2) := by decide +kernel
theorem dX9_isWord_79 : decode cX9_isWord 79 = .ok (.goto 5, 3) := by decide +kernel
theorem dX9_isWord_82 : decode cX9_isWord 82 = .ok (.iload 6, 2) := by decide +kernel
theorem dX9_isWord_84 : decode cX9_isWord 84 = .ok (.if_icmp .ne 7, 3) := by decide +kernel
theorem dX9_isWord_87 : decode cX9_isWord 87 = .ok (.iconst 1, 1) := by decide +kernel
theorem dX9_isWord_88 : decode cX9_isWord 88 = .ok (.goto 4, 3) := by decide +kernel
theorem dX9_isWord_91 : decode cX9_isWord 91 = .ok (.iconst 0, 1) := by decide +kernel
theorem dX9_isWord_92 : decode cX9_isWord 92 = .ok (.istore 7, 2) := by decide +kernel
theorem dX9_isWord_94 : decode cX9_isWord 94 = .ok (.iinc 8 1, 3) := by decide +kernel
theorem dX9_isWord_97 : decode cX9_isWord 97 = .ok (.goto (-79), 3) := by decide +kernel
theorem dX9_isWord_100 : decode cX9_isWord 100 = .ok (.iload 7, 2) := by decide +kernel
theorem dX9_isWord_102 : decode cX9_isWord 102 = .ok (.ireturn, 1) := by decide +kernel
theorem dX9_takeNumber_0 : decode cX9_takeNumber 0 = .ok (.aload_n 0, 1) := by decide +kernel
theorem dX9_takeNumber_1 : decode cX9_takeNumber 1 = .ok (.getfield 109, 3) := by decide +kernel
theorem dX9_takeNumber_4 : decode cX9_takeNumber 4 = .ok (.ifCond .le 5, 3) := by decide +kernel
theorem dX9_takeNumber_7 : decode cX9_takeNumber 7 = .ok (.iconst 0, 1) := by decide +kernel
theorem dX9_takeNumber_8 : decode cX9_takeNumber 8 = .ok (.ireturn, 1) := by decide +kernel
theorem dX9_takeNumber_9 : decode cX9_takeNumber 9 = .ok (.aload_n 0, 1) := by decide +kernel
theorem dX9_takeNumber_10 : decode cX9_takeNumber 10 = .ok (.invokevirtual 112, 3) := by decide +kernel
theorem dX9_takeNumber_13 : decode cX9_takeNumber 13 = .ok (.istore_n 3, 1) := by decide +kernel
theorem dX9_takeNumber_14 : decode cX9_takeNumber 14 = .ok (.aload_n 0, 1) := by decide +kernel
theorem dX9_takeNumber_15 : decode cX9_takeNumber 15 = .ok (.aload_n 0, 1) := by decide +kernel
theorem dX9_takeNumber_16 : decode cX9_takeNumber 16 = .ok (.getfield 106, 3) := by decide +kernel
theorem dX9_takeNumber_19 : decode cX9_takeNumber 19 = .ok (.putfield 116, 3) := by decide +kernel
theorem dX9_takeNumber_22 : decode cX9_takeNumber 22 = .ok (.aload_n 0, 1) := by decide +kernel
theorem dX9_takeNumber_23 : decode cX9_takeNumber 23 = .ok (.iload_n 3, 1) := by decide +kernel
theorem dX9_takeNumber_24 : decode cX9_takeNumber 24 = .ok (.i2l, 1) := by decide +kernel
theorem dX9_takeNumber_25 : decode cX9_takeNumber 25 = .ok (.ldc2_w 126, 3) := by decide +kernel
theorem dX9_takeNumber_28 : decode cX9_takeNumber 28 = .ok (.ldc2_w 128, 3) := by decide +kernel
theorem dX9_takeNumber_31 : decode cX9_takeNumber 31 = .ok (.invokestatic 95, 3) := by decide +kernel
theorem dX9_takeNumber_34 : decode cX9_takeNumber 34 = .ok (.iconst 1, 1) := by decide +kernel
theorem dX9_takeNumber_35 : decode cX9_takeNumber 35 = .ok (.aload_n 0, 1) := by decide +kernel
theorem dX9_takeNumber_36 : decode cX9_takeNumber 36 = .ok (.getfield 106, 3) := by decide +kernel
theorem dX9_takeNumber_39 : decode cX9_takeNumber 39 = .ok (.invokevirtual 130, 3) := by decide +kernel
theorem dX9_takeNumber_42 : decode cX9_takeNumber 42 = .ok (.ifCond .ne 5, 3) := by decide +kernel
theorem dX9_takeNumber_45 : decode cX9_takeNumber 45 = .ok (.iconst 0, 1) := by decide +kernel
theorem dX9_takeNumber_46 : decode cX9_takeNumber 46 = .ok (.ireturn, 1) := by decide +kernel
theorem dX9_takeNumber_47 : decode cX9_takeNumber 47 = .ok (.iconst 0, 1) := by decide +kernel
theorem dX9_takeNumber_48 : decode cX9_takeNumber 48 = .ok (.istore 4, 2) := by decide +kernel
theorem dX9_takeNumber_50 : decode cX9_takeNumber 50 = .ok (.aload_n 0, 1) := by decide +kernel
theorem dX9_takeNumber_51 : decode cX9_takeNumber 51 = .ok (.getfield 106, 3) := by decide +kernel
theorem dX9_takeNumber_54 : decode cX9_takeNumber 54 = .ok (.aload_n 0, 1) := by decide +kernel
theorem dX9_takeNumber_55 : decode cX9_takeNumber 55 = .ok (.getfield 100, 3) := by decide +kernel
theorem dX9_takeNumber_58 : decode cX9_takeNumber 58 = .ok (.if_icmp .ge 70, 3) := by decide +kernel
theorem dX9_takeNumber_61 : decode cX9_takeNumber 61 = .ok (.aload_n 0, 1) := by decide +kernel
theorem dX9_takeNumber_62 : decode cX9_takeNumber 62 = .ok (.getfield 47, 3) := by decide +kernel
theorem dX9_takeNumber_65 : decode cX9_takeNumber 65 = .ok (.aload_n 0, 1) := by decide +kernel
theorem dX9_takeNumber_66 : decode cX9_takeNumber 66 = .ok (.getfield 106, 3) := by decide +kernel
theorem dX9_takeNumber_69 : decode cX9_takeNumber 69 = .ok (.iaload, 1) := by decide +kernel
theorem dX9_takeNumber_70 : decode cX9_takeNumber 70 = .ok (.i2l, 1) := by decide +kernel
theorem dX9_takeNumber_71 : decode cX9_takeNumber 71 = .ok (.ldc2_w 126, 3) := by decide +kernel
theorem dX9_takeNumber_74 : decode cX9_takeNumber 74 = .ok (.ldc2_w 128, 3) := by decide +kernel
theorem dX9_takeNumber_77 : decode cX9_takeNumber 77 = .ok (.invokestatic 95, 3) := by decide +kernel
theorem dX9_takeNumber_80 : decode cX9_takeNumber 80 = .ok (.ifCond .eq 48, 3) := by decide +kernel
theorem dX9_takeNumber_83 : decode cX9_takeNumber 83 = .ok (.iload 4, 2) := by decide +kernel
theorem dX9_takeNumber_85 : decode cX9_takeNumber 85 = .ok (.ldc 134, 2) := by decide +kernel
theorem dX9_takeNumber_87 : decode cX9_takeNumber 87 = .ok (.if_icmp .le 8, 3) := by decide +kernel
theorem dX9_takeNumber_90 : decode cX9_takeNumber 90 = .ok (.iload 4, 2) := by decide +kernel
theorem dX9_takeNumber_92 : decode cX9_takeNumber 92 = .ok (.goto 21, 3) := by decide +kernel
theorem dX9_takeNumber_95 : decode cX9_takeNumber 95 = .ok (.bipush 10, 2) := by decide +kernel
theorem dX9_takeNumber_97 : decode cX9_takeNumber 97 = .ok (.iload 4, 2) := by decide +kernel
theorem dX9_takeNumber_99 : decode cX9_takeNumber 99 = .ok (.imul, 1) := by decide +kernel
theorem dX9_takeNumber_100 : decode cX9_takeNumber 100 = .ok (.aload_n 0, 1) := by decide +kernel
theorem dX9_takeNumber_101 : decode cX9_takeNumber 101 = .ok (.getfield 47, 3) := by decide +kernel
theorem dX9_takeNumber_104 : decode cX9_takeNumber 104 = .ok (.aload_n 0, 1) := by decide +kernel
theorem dX9_takeNumber_105 : decode cX9_takeNumber 105 = .ok (.getfield 106, 3) := by decide +kernel
theorem dX9_takeNumber_108 : decode cX9_takeNumber 108 = .ok (.iaload, 1) := by decide +kernel
theorem dX9_takeNumber_109 : decode cX9_takeNumber 109 = .ok (.iadd, 1) := by decide +kernel
theorem dX9_takeNumber_110 : decode cX9_takeNumber 110 = .ok (.bipush 48, 2) := by decide +kernel
theorem dX9_takeNumber_112 : decode cX9_takeNumber 112 = .ok (.isub, 1) := by decide +kernel
theorem dX9_takeNumber_113 : decode cX9_takeNumber 113 = .ok (.istore 4, 2) := by decide +kernel
theorem dX9_takeNumber_115 : decode cX9_takeNumber 115 = .ok (.aload_n 0, 1) := by decide +kernel
theorem dX9_takeNumber_116 : decode cX9_takeNumber 116 = .ok (.dup, 1) := by decide +kernel
theorem dX9_takeNumber_117 : decode cX9_takeNumber 117 = .ok (.getfield 106, 3) := by decide +kernel
theorem dX9_takeNumber_120 : decode cX9_takeNumber 120 = .ok (.iconst 1, 1) := by decide +kernel
theorem dX9_takeNumber_121 : decode cX9_takeNumber 121 = .ok (.iadd, 1) := by decide +kernel
theorem dX9_takeNumber_122 : decode cX9_takeNumber 122 = .ok (.putfield 106, 3) := by decide +kernel
theorem dX9_takeNumber_125 : decode cX9_takeNumber 125 = .ok (.goto (-75), 3) := by decide +kernel
theorem dX9_takeNumber_128 : decode cX9_takeNumber 128 = .ok (.aload_n 0, 1) := by decide +kernel
theorem dX9_takeNumber_129 : decode cX9_takeNumber 129 = .ok (.aload_n 0, 1) := by decide +kernel
theorem dX9_takeNumber_130 : decode cX9_takeNumber 130 = .ok (.getfield 106, 3) := by decide +kernel
theorem dX9_takeNumber_133 : decode cX9_takeNumber 133 = .ok (.aload_n 0, 1) := by decide +kernel
theorem dX9_takeNumber_134 : decode cX9_takeNumber 134 = .ok (.getfield 116, 3) := by decide +kernel
theorem dX9_takeNumber_137 : decode cX9_takeNumber 137 = .ok (.isub, 1) := by decide +kernel
theorem dX9_takeNumber_138 : decode cX9_takeNumber 138 = .ok (.iconst 4, 1) := by decide +kernel
theorem dX9_takeNumber_139 : decode cX9_takeNumber 139 = .ok (.if_icmp .ge 20, 3) := by decide +kernel
theorem dX9_takeNumber_142 : decode cX9_takeNumber 142 = .ok (.iload 4, 2) := by decide +kernel
theorem dX9_takeNumber_144 : decode cX9_takeNumber 144 = .ok (.i2l, 1) := by decide +kernel
theorem dX9_takeNumber_145 : decode cX9_takeNumber 145 = .ok (.iload_n 1, 1) := by decide +kernel
theorem dX9_takeNumber_146 : decode cX9_takeNumber 146 = .ok (.i2l, 1) := by decide +kernel
theorem dX9_takeNumber_147 : decode cX9_takeNumber 147 = .ok (.iload_n 2, 1) := by decide +kernel
theorem dX9_takeNumber_148 : decode cX9_takeNumber 148 = .ok (.i2l, 1) := by decide +kernel
theorem dX9_takeNumber_149 : decode cX9_takeNumber 149 = .ok (.invokestatic 95, 3) := by decide +kernel
theorem dX9_takeNumber_152 : decode cX9_takeNumber 152 = .ok (.ifCond .eq 7, 3) := by decide +kernel
theorem dX9_takeNumber_155 : decode cX9_takeNumber 155 = .ok (.iconst 1, 1) := by decide +kernel
theorem dX9_takeNumber_156 : decode cX9_takeNumber 156 = .ok (.goto 4, 3) := by decide +kernel
theorem dX9_takeNumber_159 : decode cX9_takeNumber 159 = .ok (.iconst 0, 1) := by decide +kernel
theorem dX9_takeNumber_160 : decode cX9_takeNumber 160 = .ok (.iconst 2, 1) := by decide +kernel
theorem dX9_takeNumber_161 : decode cX9_takeNumber 161 = .ok (.aload_n 0, 1) := by decide +kernel
theorem dX9_takeNumber_162 : decode cX9_takeNumber 162 = .ok (.getfield 116, 3) := by decide +kernel
theorem dX9_takeNumber_165 : decode cX9_takeNumber 165 = .ok (.invokevirtual 130, 3) := by decide +kernel
theorem dX9_takeNumber_168 : decode cX9_takeNumber 168 = .ok (.istore 5, 2) := by decide +kernel
theorem dX9_takeNumber_170 : decode cX9_takeNumber 170 = .ok (.iload 4, 2) := by decide +kernel
theorem dX9_takeNumber_172 : decode cX9_takeNumber 172 = .ok (.ireturn, 1) := by decide +kernel
theorem dX9_takeEnd_0 : decode cX9_takeEnd 0 = .ok (.aload_n 0, 1) := by decide +kernel
theorem dX9_takeEnd_1 : decode cX9_takeEnd 1 = .ok (.getfield 109, 3) := by decide +kernel
theorem dX9_takeEnd_4 : decode cX9_takeEnd 4 = .ok (.ifCond .ne 39, 3) := by decide +kernel
theorem dX9_takeEnd_7 : decode cX9_takeEnd 7 = .ok (.aload_n 0, 1) := by decide +kernel
theorem dX9_takeEnd_8 : decode cX9_takeEnd 8 = .ok (.aload_n 0, 1) := by decide +kernel
theorem dX9_takeEnd_9 : decode cX9_takeEnd 9 = .ok (.invokevirtual 112, 3) := by decide +kernel
theorem dX9_takeEnd_12 : decode cX9_takeEnd 12 = .ok (.bipush 59, 2) := by decide +kernel
theorem dX9_takeEnd_14 : decode cX9_takeEnd 14 = .ok (.if_icmp .ne 7, 3) := by decide +kernel
theorem dX9_takeEnd_17 : decode cX9_takeEnd 17 = .ok (.iconst 1, 1) := by decide +kernel
theorem dX9_takeEnd_18 : decode cX9_takeEnd 18 = .ok (.goto 4, 3) := by decide +kernel
theorem dX9_takeEnd_21 : decode cX9_takeEnd 21 = .ok (.iconst 0, 1) := by decide +kernel
theorem dX9_takeEnd_22 : decode cX9_takeEnd 22 = .ok (.iconst 1, 1) := by decide +kernel
theorem dX9_takeEnd_23 : decode cX9_takeEnd 23 = .ok (.aload_n 0, 1) := by decide +kernel
theorem dX9_takeEnd_24 : decode cX9_takeEnd 24 = .ok (.getfield 106, 3) := by decide +kernel
theorem dX9_takeEnd_27 : decode cX9_takeEnd 27 = .ok (.invokevirtual 130, 3) := by decide +kernel
theorem dX9_takeEnd_30 : decode cX9_takeEnd 30 = .ok (.ifCond .eq 13, 3) := by decide +kernel
theorem dX9_takeEnd_33 : decode cX9_takeEnd 33 = .ok (.aload_n 0, 1) := by decide +kernel
theorem dX9_takeEnd_34 : decode cX9_takeEnd 34 = .ok (.dup, 1) := by decide +kernel
theorem dX9_takeEnd_35 : decode cX9_takeEnd 35 = .ok (.getfield 106, 3) := by decide +kernel
theorem dX9_takeEnd_38 : decode cX9_takeEnd 38 = .ok (.iconst 1, 1) := by decide +kernel
theorem dX9_takeEnd_39 : decode cX9_takeEnd 39 = .ok (.iadd, 1) := by decide +kernel
theorem dX9_takeEnd_40 : decode cX9_takeEnd 40 = .ok (.putfield 106, 3) := by decide +kernel
theorem dX9_takeEnd_43 : decode cX9_takeEnd 43 = .ok (.return_, 1) := by decide +kernel
theorem dX9_beginReading_0 : decode cX9_beginReading 0 = .ok (.aload_n 0, 1) := by decide +kernel
theorem dX9_beginReading_1 : decode cX9_beginReading 1 = .ok (.iconst 0, 1) := by decide +kernel
theorem dX9_beginReading_2 : decode cX9_beginReading 2 = .ok (.putfield 106, 3) := by decide +kernel
theorem dX9_beginReading_5 : decode cX9_beginReading 5 = .ok (.aload_n 0, 1) := by decide +kernel
theorem dX9_beginReading_6 : decode cX9_beginReading 6 = .ok (.iconst 0, 1) := by decide +kernel
theorem dX9_beginReading_7 : decode cX9_beginReading 7 = .ok (.putfield 109, 3) := by decide +kernel
theorem dX9_beginReading_10 : decode cX9_beginReading 10 = .ok (.aload_n 0, 1) := by decide +kernel
theorem dX9_beginReading_11 : decode cX9_beginReading 11 = .ok (.iconst (-1), 1) := by decide +kernel
theorem dX9_beginReading_12 : decode cX9_beginReading 12 = .ok (.putfield 50, 3) := by decide +kernel
theorem dX9_beginReading_15 : decode cX9_beginReading 15 = .ok (.return_, 1) := by decide +kernel
theorem dX9_takeHouse_0 : decode cX9_takeHouse 0 = .ok (.aload_n 0, 1) := by decide +kernel
theorem dX9_takeHouse_1 : decode cX9_takeHouse 1 = .ok (.getfield 35, 3) := by decide +kernel
theorem dX9_takeHouse_4 : decode cX9_takeHouse 4 = .ok (.iconst 2, 1) := by decide +kernel
theorem dX9_takeHouse_5 : decode cX9_takeHouse 5 = .ok (.iaload, 1) := by decide +kernel
theorem dX9_takeHouse_6 : decode cX9_takeHouse 6 = .ok (.istore_n 2, 1) := by decide +kernel
theorem dX9_takeHouse_7 : decode cX9_takeHouse 7 = .ok (.aload_n 0, 1) := by decide +kernel
theorem dX9_takeHouse_8 : decode cX9_takeHouse 8 = .ok (.iload_n 2, 1) := by decide +kernel
theorem dX9_takeHouse_9 : decode cX9_takeHouse 9 = .ok (.bipush 9, 2) := by decide +kernel
theorem dX9_takeHouse_11 : decode cX9_takeHouse 11 = .ok (.if_icmp .ge 7, 3) := by decide +kernel
theorem dX9_takeHouse_14 : decode cX9_takeHouse 14 = .ok (.iconst 1, 1) := by decide +kernel
theorem dX9_takeHouse_15 : decode cX9_takeHouse 15 = .ok (.goto 4, 3) := by decide +kernel
theorem dX9_takeHouse_18 : decode cX9_takeHouse 18 = .ok (.iconst 0, 1) := by decide +kernel
theorem dX9_takeHouse_19 : decode cX9_takeHouse 19 = .ok (.iconst 3, 1) := by decide +kernel
theorem dX9_takeHouse_20 : decode cX9_takeHouse 20 = .ok (.iload_n 1, 1) := by decide +kernel
theorem dX9_takeHouse_21 : decode cX9_takeHouse 21 = .ok (.invokevirtual 130, 3) := by decide +kernel
theorem dX9_takeHouse_24 : decode cX9_takeHouse 24 = .ok (.ifCond .eq 57, 3) := by decide +kernel
theorem dX9_takeHouse_27 : decode cX9_takeHouse 27 = .ok (.iconst 0, 1) := by decide +kernel
theorem dX9_takeHouse_28 : decode cX9_takeHouse 28 = .ok (.istore_n 3, 1) := by decide +kernel
theorem dX9_takeHouse_29 : decode cX9_takeHouse 29 = .ok (.iload_n 3, 1) := by decide +kernel
theorem dX9_takeHouse_30 : decode cX9_takeHouse 30 = .ok (.bipush 6, 2) := by decide +kernel
theorem dX9_takeHouse_32 : decode cX9_takeHouse 32 = .ok (.if_icmp .ge 40, 3) := by decide +kernel
theorem dX9_takeHouse_35 : decode cX9_takeHouse 35 = .ok (.aload_n 0, 1) := by decide +kernel
theorem dX9_takeHouse_36 : decode cX9_takeHouse 36 = .ok (.getfield 17, 3) := by decide +kernel
theorem dX9_takeHouse_39 : decode cX9_takeHouse 39 = .ok (.bipush 54, 2) := by decide +kernel
theorem dX9_takeHouse_41 : decode cX9_takeHouse 41 = .ok (.bipush 6, 2) := by decide +kernel
theorem dX9_takeHouse_43 : decode cX9_takeHouse 43 = .ok (.iload_n 2, 1) := by decide +kernel
theorem dX9_takeHouse_44 : decode cX9_takeHouse 44 = .ok (.imul, 1) := by decide +kernel
theorem dX9_takeHouse_45 : decode cX9_takeHouse 45 = .ok (.iadd, 1) := by decide +kernel
theorem dX9_takeHouse_46 : decode cX9_takeHouse 46 = .ok (.iload_n 3, 1) := by decide +kernel
theorem dX9_takeHouse_47 : decode cX9_takeHouse 47 = .ok (.iadd, 1) := by decide +kernel
theorem dX9_takeHouse_48 : decode cX9_takeHouse 48 = .ok (.aload_n 0, 1) := by decide +kernel
theorem dX9_takeHouse_49 : decode cX9_takeHouse 49 = .ok (.iconst 0, 1) := by decide +kernel
theorem dX9_takeHouse_50 : decode cX9_takeHouse 50 = .ok (.iload_n 3, 1) := by decide +kernel
theorem dX9_takeHouse_51 : decode cX9_takeHouse 51 = .ok (.iconst 2, 1) := by decide +kernel
theorem dX9_takeHouse_52 : decode cX9_takeHouse 52 = .ok (.if_icmp .ge 8, 3) := by decide +kernel
theorem dX9_takeHouse_55 : decode cX9_takeHouse 55 = .ok (.bipush 60, 2) := by decide +kernel
theorem dX9_takeHouse_57 : decode cX9_takeHouse 57 = .ok (.goto 5, 3) := by decide +kernel
theorem dX9_takeHouse_60 : decode cX9_takeHouse 60 = .ok (.bipush 100, 2) := by decide +kernel
theorem dX9_takeHouse_62 : decode cX9_takeHouse 62 = .ok (.invokevirtual 135, 3) := by decide +kernel
theorem dX9_takeHouse_65 : decode cX9_takeHouse 65 = .ok (.iastore, 1) := by decide +kernel
theorem dX9_takeHouse_66 : decode cX9_takeHouse 66 = .ok (.iinc 3 1, 3) := by decide +kernel
theorem dX9_takeHouse_69 : decode cX9_takeHouse 69 = .ok (.goto (-40), 3) := by decide +kernel
theorem dX9_takeHouse_72 : decode cX9_takeHouse 72 = .ok (.aload_n 0, 1) := by decide +kernel
theorem dX9_takeHouse_73 : decode cX9_takeHouse 73 = .ok (.getfield 35, 3) := by decide +kernel
theorem dX9_takeHouse_76 : decode cX9_takeHouse 76 = .ok (.iconst 2, 1) := by decide +kernel
theorem dX9_takeHouse_77 : decode cX9_takeHouse 77 = .ok (.iload_n 2, 1) := by decide +kernel
theorem dX9_takeHouse_78 : decode cX9_takeHouse 78 = .ok (.iconst 1, 1) := by decide +kernel
theorem dX9_takeHouse_79 : decode cX9_takeHouse 79 = .ok (.iadd, 1) := by decide +kernel
theorem dX9_takeHouse_80 : decode cX9_takeHouse 80 = .ok (.iastore, 1) := by decide +kernel
theorem dX9_takeHouse_81 : decode cX9_takeHouse 81 = .ok (.return_, 1) := by decide +kernel
theorem dX9_takeWay_0 : decode cX9_takeWay 0 = .ok (.aload_n 0, 1) := by decide +kernel
theorem dX9_takeWay_1 : decode cX9_takeWay 1 = .ok (.iconst 0, 1) := by decide +kernel
theorem dX9_takeWay_2 : decode cX9_takeWay 2 = .ok (.aload_n 0, 1) := by decide +kernel
theorem dX9_takeWay_3 : decode cX9_takeWay 3 = .ok (.getfield 35, 3) := by decide +kernel
theorem dX9_takeWay_6 : decode cX9_takeWay 6 = .ok (.iconst 2, 1) := by decide +kernel
theorem dX9_takeWay_7 : decode cX9_takeWay 7 = .ok (.iaload, 1) := by decide +kernel
theorem dX9_takeWay_8 : decode cX9_takeWay 8 = .ok (.iconst 1, 1) := by decide +kernel
theorem dX9_takeWay_9 : decode cX9_takeWay 9 = .ok (.isub, 1) := by decide +kernel
theorem dX9_takeWay_10 : decode cX9_takeWay 10 = .ok (.invokevirtual 135, 3) := by decide +kernel
theorem dX9_takeWay_13 : decode cX9_takeWay 13 = .ok (.istore_n 1, 1) := by decide +kernel
theorem dX9_takeWay_14 : decode cX9_takeWay 14 = .ok (.aload_n 0, 1) := by decide +kernel
theorem dX9_takeWay_15 : decode cX9_takeWay 15 = .ok (.iconst 0, 1) := by decide +kernel
theorem dX9_takeWay_16 : decode cX9_takeWay 16 = .ok (.aload_n 0, 1) := by decide +kernel
theorem dX9_takeWay_17 : decode cX9_takeWay 17 = .ok (.getfield 35, 3) := by decide +kernel
theorem dX9_takeWay_20 : decode cX9_takeWay 20 = .ok (.iconst 2, 1) := by decide +kernel
theorem dX9_takeWay_21 : decode cX9_takeWay 21 = .ok (.iaload, 1) := by decide +kernel
theorem dX9_takeWay_22 : decode cX9_takeWay 22 = .ok (.iconst 1, 1) := by decide +kernel
theorem dX9_takeWay_23 : decode cX9_takeWay 23 = .ok (.isub, 1) := by decide +kernel
theorem dX9_takeWay_24 : decode cX9_takeWay 24 = .ok (.invokevirtual 135, 3) := by decide +kernel
theorem dX9_takeWay_27 : decode cX9_takeWay 27 = .ok (.istore_n 2, 1) := by decide +kernel
theorem dX9_takeWay_28 : decode cX9_takeWay 28 = .ok (.aload_n 0, 1) := by decide +kernel
theorem dX9_takeWay_29 : decode cX9_takeWay 29 = .ok (.getfield 109, 3) := by decide +kernel
theorem dX9_takeWay_32 : decode cX9_takeWay 32 = .ok (.ifCond .ne 80, 3) := by decide +kernel
theorem dX9_takeWay_35 : decode cX9_takeWay 35 = .ok (.aload_n 0, 1) := by decide +kernel
theorem dX9_takeWay_36 : decode cX9_takeWay 36 = .ok (.iload_n 1, 1) := by decide +kernel
theorem dX9_takeWay_37 : decode cX9_takeWay 37 = .ok (.iload_n 2, 1) := by decide +kernel
theorem dX9_takeWay_38 : decode cX9_takeWay 38 = .ok (.if_icmp .eq 24, 3) := by decide +kernel
theorem dX9_takeWay_41 : decode cX9_takeWay 41 = .ok (.aload_n 0, 1) := by decide +kernel
theorem dX9_takeWay_42 : decode cX9_takeWay 42 = .ok (.getfield 20, 3) := by decide +kernel
theorem dX9_takeWay_45 : decode cX9_takeWay 45 = .ok (.bipush 81, 2) := by decide +kernel
theorem dX9_takeWay_47 : decode cX9_takeWay 47 = .ok (.bipush 9, 2) := by decide +kernel
theorem dX9_takeWay_49 : decode cX9_takeWay 49 = .ok (.iload_n 1, 1) := by decide +kernel
theorem dX9_takeWay_50 : decode cX9_takeWay 50 = .ok (.imul, 1) := by decide +kernel
theorem dX9_takeWay_51 : decode cX9_takeWay 51 = .ok (.iadd, 1) := by decide +kernel
theorem dX9_takeWay_52 : decode cX9_takeWay 52 = .ok (.iload_n 2, 1) := by decide +kernel
theorem dX9_takeWay_53 : decode cX9_takeWay 53 = .ok (.iadd, 1) := by decide +kernel
theorem dX9_takeWay_54 : decode cX9_takeWay 54 = .ok (.iaload, 1) := by decide +kernel
theorem dX9_takeWay_55 : decode cX9_takeWay 55 = .ok (.ifCond .ne 7, 3) := by decide +kernel
theorem dX9_takeWay_58 : decode cX9_takeWay 58 = .ok (.iconst 1, 1) := by decide +kernel
theorem dX9_takeWay_59 : decode cX9_takeWay 59 = .ok (.goto 4, 3) := by decide +kernel
theorem dX9_takeWay_62 : decode cX9_takeWay 62 = .ok (.iconst 0, 1) := by decide +kernel
theorem dX9_takeWay_63 : decode cX9_takeWay 63 = .ok (.iconst 4, 1) := by decide +kernel
theorem dX9_takeWay_64 : decode cX9_takeWay 64 = .ok (.aload_n 0, 1) := by decide +kernel
theorem dX9_takeWay_65 : decode cX9_takeWay 65 = .ok (.getfield 116, 3) := by decide +kernel
theorem dX9_takeWay_68 : decode cX9_takeWay 68 = .ok (.invokevirtual 130, 3) := by decide +kernel
theorem dX9_takeWay_71 : decode cX9_takeWay 71 = .ok (.ifCond .eq 41, 3) := by decide +kernel
theorem dX9_takeWay_74 : decode cX9_takeWay 74 = .ok (.aload_n 0, 1) := by decide +kernel
theorem dX9_takeWay_75 : decode cX9_takeWay 75 = .ok (.iconst 1, 1) := by decide +kernel
theorem dX9_takeWay_76 : decode cX9_takeWay 76 = .ok (.bipush 99, 2) := by decide +kernel
theorem dX9_takeWay_78 : decode cX9_takeWay 78 = .ok (.invokevirtual 135, 3) := by decide +kernel
theorem dX9_takeWay_81 : decode cX9_takeWay 81 = .ok (.istore_n 3, 1) := by decide +kernel
theorem dX9_takeWay_82 : decode cX9_takeWay 82 = .ok (.aload_n 0, 1) := by decide +kernel
theorem dX9_takeWay_83 : decode cX9_takeWay 83 = .ok (.getfield 20, 3) := by decide +kernel
theorem dX9_takeWay_86 : decode cX9_takeWay 86 = .ok (.bipush 81, 2) := by decide +kernel
theorem dX9_takeWay_88 : decode cX9_takeWay 88 = .ok (.bipush 9, 2) := by decide +kernel
theorem dX9_takeWay_90 : decode cX9_takeWay 90 = .ok (.iload_n 1, 1) := by decide +kernel
theorem dX9_takeWay_91 : decode cX9_takeWay 91 = .ok (.imul, 1) := by decide +kernel
theorem dX9_takeWay_92 : decode cX9_takeWay 92 = .ok (.iadd, 1) := by decide +kernel
theorem dX9_takeWay_93 : decode cX9_takeWay 93 = .ok (.iload_n 2, 1) := by decide +kernel
theorem dX9_takeWay_94 : decode cX9_takeWay 94 = .ok (.iadd, 1) := by decide +kernel
theorem dX9_takeWay_95 : decode cX9_takeWay 95 = .ok (.iload_n 3, 1) := by decide +kernel
theorem dX9_takeWay_96 : decode cX9_takeWay 96 = .ok (.iastore, 1) := by decide +kernel
theorem dX9_takeWay_97 : decode cX9_takeWay 97 = .ok (.aload_n 0, 1) := by decide +kernel
theorem dX9_takeWay_98 : decode cX9_takeWay 98 = .ok (.getfield 20, 3) := by decide +kernel
theorem dX9_takeWay_101 : decode cX9_takeWay 101 = .ok (.bipush 81, 2) := by decide +kernel
theorem dX9_takeWay_103 : decode cX9_takeWay 103 = .ok (.bipush 9, 2) := by decide +kernel
theorem dX9_takeWay_105 : decode cX9_takeWay 105 = .ok (.iload_n 2, 1) := by decide +kernel
theorem dX9_takeWay_106 : decode cX9_takeWay 106 = .ok (.imul, 1) := by decide +kernel
theorem dX9_takeWay_107 : decode cX9_takeWay 107 = .ok (.iadd, 1) := by decide +kernel
theorem dX9_takeWay_108 : decode cX9_takeWay 108 = .ok (.iload_n 1, 1) := by decide +kernel
theorem dX9_takeWay_109 : decode cX9_takeWay 109 = .ok (.iadd, 1) := by decide +kernel
theorem dX9_takeWay_110 : decode cX9_takeWay 110 = .ok (.iload_n 3, 1) := by decide +kernel
theorem dX9_takeWay_111 : decode cX9_takeWay 111 = .ok (.iastore, 1) := by decide +kernel
theorem dX9_takeWay_112 : decode cX9_takeWay 112 = .ok (.return_, 1) := by decide +kernel
theorem dX9_takePart_0 : decode cX9_takePart 0 = .ok (.aload_n 0, 1) := by decide +kernel
theorem dX9_takePart_1 : decode cX9_takePart 1 = .ok (.getfield 35, 3) := by decide +kernel
theorem dX9_takePart_4 : decode cX9_takePart 4 = .ok (.iconst 3, 1) := by decide +kernel
theorem dX9_takePart_5 : decode cX9_takePart 5 = .ok (.iaload, 1) := by decide +kernel
theorem dX9_takePart_6 : decode cX9_takePart 6 = .ok (.istore_n 2, 1) := by decide +kernel
theorem dX9_takePart_7 : decode cX9_takePart 7 = .ok (.aload_n 0, 1) := by decide +kernel
theorem dX9_takePart_8 : decode cX9_takePart 8 = .ok (.iload_n 2, 1) := by decide +kernel
theorem dX9_takePart_9 : decode cX9_takePart 9 = .ok (.bipush 12, 2) := by decide +kernel
theorem dX9_takePart_11 : decode cX9_takePart 11 = .ok (.if_icmp .ge 7, 3) := by decide +kernel
theorem dX9_takePart_14 : decode cX9_takePart 14 = .ok (.iconst 1, 1) := by decide +kernel
theorem dX9_takePart_15 : decode cX9_takePart 15 = .ok (.goto 4, 3) := by decide +kernel
theorem dX9_takePart_18 : decode cX9_takePart 18 = .ok (.iconst 0, 1) := by decide +kernel
theorem dX9_takePart_19 : decode cX9_takePart 19 = .ok (.iconst 3, 1) := by decide +kernel
theorem dX9_takePart_20 : decode cX9_takePart 20 = .ok (.iload_n 1, 1) := by decide +kernel
theorem dX9_takePart_21 : decode cX9_takePart 21 = .ok (.invokevirtual 130, 3) := by decide +kernel
theorem dX9_takePart_24 : decode cX9_takePart 24 = .ok (.ifCond .eq 231, 3) := by decide +kernel
theorem dX9_takePart_27 : decode cX9_takePart 27 = .ok (.aload_n 0, 1) := by decide +kernel
theorem dX9_takePart_28 : decode cX9_takePart 28 = .ok (.getfield 23, 3) := by decide +kernel
theorem dX9_takePart_31 : decode cX9_takePart 31 = .ok (.bipush 12, 2) := by decide +kernel
theorem dX9_takePart_33 : decode cX9_takePart 33 = .ok (.iload_n 2, 1) := by decide +kernel
theorem dX9_takePart_34 : decode cX9_takePart 34 = .ok (.iadd, 1) := by decide +kernel
theorem dX9_takePart_35 : decode cX9_takePart 35 = .ok (.aload_n 0, 1) := by decide +kernel
theorem dX9_takePart_36 : decode cX9_takePart 36 = .ok (.iconst 0, 1) := by decide +kernel
theorem dX9_takePart_37 : decode cX9_takePart 37 = .ok (.aload_n 0, 1) := by decide +kernel
theorem dX9_takePart_38 : decode cX9_takePart 38 = .ok (.getfield 35, 3) := by decide +kernel
theorem dX9_takePart_41 : decode cX9_takePart 41 = .ok (.iconst 2, 1) := by decide +kernel
theorem dX9_takePart_42 : decode cX9_takePart 42 = .ok (.iaload, 1) := by decide +kernel
theorem dX9_takePart_43 : decode cX9_takePart 43 = .ok (.iconst 1, 1) := by decide +kernel
theorem dX9_takePart_44 : decode cX9_takePart 44 = .ok (.isub, 1) := by decide +kernel
theorem dX9_takePart_45 : decode cX9_takePart 45 = .ok (.invokevirtual 135, 3) := by decide +kernel
theorem dX9_takePart_48 : decode cX9_takePart 48 = .ok (.iastore, 1) := by decide +kernel
theorem dX9_takePart_49 : decode cX9_takePart 49 = .ok (.aload_n 0, 1) := by decide +kernel
theorem dX9_takePart_50 : decode cX9_takePart 50 = .ok (.getfield 26, 3) := by decide +kernel
theorem dX9_takePart_53 : decode cX9_takePart 53 = .ok (.bipush 12, 2) := by decide +kernel
theorem dX9_takePart_55 : decode cX9_takePart 55 = .ok (.iload_n 2, 1) := by decide +kernel
theorem dX9_takePart_56 : decode cX9_takePart 56 = .ok (.iadd, 1) := by decide +kernel
theorem dX9_takePart_57 : decode cX9_takePart 57 = .ok (.aload_n 0, 1) := by decide +kernel
theorem dX9_takePart_58 : decode cX9_takePart 58 = .ok (.iconst 0, 1) := by decide +kernel
theorem dX9_takePart_59 : decode cX9_takePart 59 = .ok (.bipush 60, 2) := by decide +kernel
theorem dX9_takePart_61 : decode cX9_takePart 61 = .ok (.invokevirtual 135, 3) := by decide +kernel
theorem dX9_takePart_64 : decode cX9_takePart 64 = .ok (.iastore, 1) := by decide +kernel
theorem dX9_takePart_65 : decode cX9_takePart 65 = .ok (.aload_n 0, 1) := by decide +kernel
theorem dX9_takePart_66 : decode cX9_takePart 66 = .ok (.getfield 29, 3) := by decide +kernel
theorem dX9_takePart_69 : decode cX9_takePart 69 = .ok (.bipush 12, 2) := by decide +kernel
theorem dX9_takePart_71 : decode cX9_takePart 71 = .ok (.iload_n 2, 1) := by decide +kernel
theorem dX9_takePart_72 : decode cX9_takePart 72 = .ok (.iadd, 1) := by decide +kernel
theorem dX9_takePart_73 : decode cX9_takePart 73 = .ok (.aload_n 0, 1) := by decide +kernel
theorem dX9_takePart_74 : decode cX9_takePart 74 = .ok (.iconst 0, 1) := by decide +kernel
theorem dX9_takePart_75 : decode cX9_takePart 75 = .ok (.bipush 99, 2) := by decide +kernel
theorem dX9_takePart_77 : decode cX9_takePart 77 = .ok (.invokevirtual 135, 3) := by decide +kernel
theorem dX9_takePart_80 : decode cX9_takePart 80 = .ok (.iastore, 1) := by decide +kernel
theorem dX9_takePart_81 : decode cX9_takePart 81 = .ok (.aload_n 0, 1) := by decide +kernel
theorem dX9_takePart_82 : decode cX9_takePart 82 = .ok (.getfield 32, 3) := by decide +kernel
theorem dX9_takePart_85 : decode cX9_takePart 85 = .ok (.bipush 12, 2) := by decide +kernel
theorem dX9_takePart_87 : decode cX9_takePart 87 = .ok (.iload_n 2, 1) := by decide +kernel
theorem dX9_takePart_88 : decode cX9_takePart 88 = .ok (.iadd, 1) := by decide +kernel
theorem dX9_takePart_89 : decode cX9_takePart 89 = .ok (.iconst 0, 1) := by decide +kernel
theorem dX9_takePart_90 : decode cX9_takePart 90 = .ok (.iastore, 1) := by decide +kernel
theorem dX9_takePart_91 : decode cX9_takePart 91 = .ok (.aload_n 0, 1) := by decide +kernel
theorem dX9_takePart_92 : decode cX9_takePart 92 = .ok (.getfield 109, 3) := by decide +kernel
theorem dX9_takePart_95 : decode cX9_takePart 95 = .ok (.ifCond .ne 151, 3) := by decide +kernel
theorem dX9_takePart_98 : decode cX9_takePart 98 = .ok (.aload_n 0, 1) := by decide +kernel
theorem dX9_takePart_99 : decode cX9_takePart 99 = .ok (.invokevirtual 139, 3) := by decide +kernel
theorem dX9_takePart_102 : decode cX9_takePart 102 = .ok (.aload_n 0, 1) := by decide +kernel
theorem dX9_takePart_103 : decode cX9_takePart 103 = .ok (.iconst 2, 1) := by decide +kernel
theorem dX9_takePart_104 : decode cX9_takePart 104 = .ok (.bipush 111, 2) := by decide +kernel
theorem dX9_takePart_106 : decode cX9_takePart 106 = .ok (.bipush 110, 2) := by decide +kernel
theorem dX9_takePart_108 : decode cX9_takePart 108 = .ok (.iconst 0, 1) := by decide +kernel
theorem dX9_takePart_109 : decode cX9_takePart 109 = .ok (.iconst 0, 1) := by decide +kernel
theorem dX9_takePart_110 : decode cX9_takePart 110 = .ok (.iconst 0, 1) := by decide +kernel
theorem dX9_takePart_111 : decode cX9_takePart 111 = .ok (.invokevirtual 142, 3) := by decide +kernel
theorem dX9_takePart_114 : decode cX9_takePart 114 = .ok (.istore_n 3, 1) := by decide +kernel
theorem dX9_takePart_115 : decode cX9_takePart 115 = .ok (.aload_n 0, 1) := by decide +kernel
theorem dX9_takePart_116 : decode cX9_takePart 116 = .ok (.iload_n 3, 1) := by decide +kernel
theorem dX9_takePart_117 : decode cX9_takePart 117 = .ok (.ifCond .eq 10, 3) := by decide +kernel
theorem dX9_takePart_120 : decode cX9_takePart 120 = .ok (.aload_n 0, 1) := by decide +kernel
theorem dX9_takePart_121 : decode cX9_takePart 121 = .ok (.getfield 106, 3) := by decide +kernel
theorem dX9_takePart_124 : decode cX9_takePart 124 = .ok (.goto 7, 3) := by decide +kernel
theorem dX9_takePart_127 : decode cX9_takePart 127 = .ok (.aload_n 0, 1) := by decide +kernel
theorem dX9_takePart_128 : decode cX9_takePart 128 = .ok (.getfield 116, 3) := by decide +kernel
theorem dX9_takePart_131 : decode cX9_takePart 131 = .ok (.putfield 106, 3) := by decide +kernel
theorem dX9_takePart_134 : decode cX9_takePart 134 = .ok (.iload_n 3, 1) := by decide +kernel
theorem dX9_takePart_135 : decode cX9_takePart 135 = .ok (.ifCond .eq 111, 3) := by decide +kernel
theorem dX9_takePart_138 : decode cX9_takePart 138 = .ok (.aload_n 0, 1) := by decide +kernel
theorem dX9_takePart_139 : decode cX9_takePart 139 = .ok (.iconst 0, 1) := by decide +kernel
theorem dX9_takePart_140 : decode cX9_takePart 140 = .ok (.iload_n 2, 1) := by decide +kernel
theorem dX9_takePart_141 : decode cX9_takePart 141 = .ok (.iconst 1, 1) := by decide +kernel
theorem dX9_takePart_142 : decode cX9_takePart 142 = .ok (.isub, 1) := by decide +kernel
theorem dX9_takePart_143 : decode cX9_takePart 143 = .ok (.invokevirtual 135, 3) := by decide +kernel
theorem dX9_takePart_146 : decode cX9_takePart 146 = .ok (.istore 4, 2) := by decide +kernel
theorem dX9_takePart_148 : decode cX9_takePart 148 = .ok (.aload_n 0, 1) := by decide +kernel
theorem dX9_takePart_149 : decode cX9_takePart 149 = .ok (.getfield 109, 3) := by decide +kernel
theorem dX9_takePart_152 : decode cX9_takePart 152 = .ok (.ifCond .ne 41, 3) := by decide +kernel
theorem dX9_takePart_155 : decode cX9_takePart 155 = .ok (.aload_n 0, 1) := by decide +kernel
theorem dX9_takePart_156 : decode cX9_takePart 156 = .ok (.aload_n 0, 1) := by decide +kernel
theorem dX9_takePart_157 : decode cX9_takePart 157 = .ok (.getfield 32, 3) := by decide +kernel
theorem dX9_takePart_160 : decode cX9_takePart 160 = .ok (.bipush 12, 2) := by decide +kernel
theorem dX9_takePart_162 : decode cX9_takePart 162 = .ok (.iload_n 2, 1) := by decide +kernel
theorem dX9_takePart_163 : decode cX9_takePart 163 = .ok (.iadd, 1) := by decide +kernel
theorem dX9_takePart_164 : decode cX9_takePart 164 = .ok (.iaload, 1) := by decide +kernel
theorem dX9_takePart_165 : decode cX9_takePart 165 = .ok (.iload 4, 2) := by decide +kernel
theorem dX9_takePart_167 : decode cX9_takePart 167 = .ok (.invokestatic 146, 3) := by decide +kernel
theorem dX9_takePart_170 : decode cX9_takePart 170 = .ok (.ifCond .ne 7, 3) := by decide +kernel
theorem dX9_takePart_173 : decode cX9_takePart 173 = .ok (.iconst 1, 1) := by decide +kernel
theorem dX9_takePart_174 : decode cX9_takePart 174 = .ok (.goto 4, 3) := by decide +kernel
theorem dX9_takePart_177 : decode cX9_takePart 177 = .ok (.iconst 0, 1) := by decide +kernel
theorem dX9_takePart_178 : decode cX9_takePart 178 = .ok (.iconst 4, 1) := by decide +kernel
theorem dX9_takePart_179 : decode cX9_takePart 179 = .ok (.aload_n 0, 1) := by decide +kernel
theorem dX9_takePart_180 : decode cX9_takePart 180 = .ok (.getfield 116, 3) := by decide +kernel
theorem dX9_takePart_183 : decode cX9_takePart 183 = .ok (.invokevirtual 130, 3) := by decide +kernel
theorem dX9_takePart_186 : decode cX9_takePart 186 = .ok (.ifCond .eq 7, 3) := by decide +kernel
theorem dX9_takePart_189 : decode cX9_takePart 189 = .ok (.iconst 1, 1) := by decide +kernel
theorem dX9_takePart_190 : decode cX9_takePart 190 = .ok (.goto 4, 3) := by decide +kernel
theorem dX9_takePart_193 : decode cX9_takePart 193 = .ok (.iconst 0, 1) := by decide +kernel
theorem dX9_takePart_194 : decode cX9_takePart 194 = .ok (.istore_n 3, 1) := by decide +kernel
theorem dX9_takePart_195 : decode cX9_takePart 195 = .ok (.iload_n 3, 1) := by decide +kernel
theorem dX9_takePart_196 : decode cX9_takePart 196 = .ok (.ifCond .eq 47, 3) := by decide +kernel
theorem dX9_takePart_199 : decode cX9_takePart 199 = .ok (.aload_n 0, 1) := by decide +kernel
theorem dX9_takePart_200 : decode cX9_takePart 200 = .ok (.getfield 32, 3) := by decide +kernel
theorem dX9_takePart_203 : decode cX9_takePart 203 = .ok (.bipush 12, 2) := by decide +kernel
theorem dX9_takePart_205 : decode cX9_takePart 205 = .ok (.iload_n 2, 1) := by decide +kernel
theorem dX9_takePart_206 : decode cX9_takePart 206 = .ok (.iadd, 1) := by decide +kernel
theorem dX9_takePart_207 : decode cX9_takePart 207 = .ok (.dup2, 1) := by decide +kernel
theorem dX9_takePart_208 : decode cX9_takePart 208 = .ok (.iaload, 1) := by decide +kernel
theorem dX9_takePart_209 : decode cX9_takePart 209 = .ok (.iconst 1, 1) := by decide +kernel
theorem dX9_takePart_210 : decode cX9_takePart 210 = .ok (.iload 4, 2) := by decide +kernel
theorem dX9_takePart_212 : decode cX9_takePart 212 = .ok (.ishl, 1) := by decide +kernel
theorem dX9_takePart_213 : decode cX9_takePart 213 = .ok (.ior, 1) := by decide +kernel
theorem dX9_takePart_214 : decode cX9_takePart 214 = .ok (.iastore, 1) := by decide +kernel
theorem dX9_takePart_215 : decode cX9_takePart 215 = .ok (.aload_n 0, 1) := by decide +kernel
theorem dX9_takePart_216 : decode cX9_takePart 216 = .ok (.invokevirtual 112, 3) := by decide +kernel
theorem dX9_takePart_219 : decode cX9_takePart 219 = .ok (.bipush 44, 2) := by decide +kernel
theorem dX9_takePart_221 : decode cX9_takePart 221 = .ok (.if_icmp .ne 7, 3) := by decide +kernel
theorem dX9_takePart_224 : decode cX9_takePart 224 = .ok (.iconst 1, 1) := by decide +kernel
theorem dX9_takePart_225 : decode cX9_takePart 225 = .ok (.goto 4, 3) := by decide +kernel
theorem dX9_takePart_228 : decode cX9_takePart 228 = .ok (.iconst 0, 1) := by decide +kernel
theorem dX9_takePart_229 : decode cX9_takePart 229 = .ok (.istore_n 3, 1) := by decide +kernel
theorem dX9_takePart_230 : decode cX9_takePart 230 = .ok (.aload_n 0, 1) := by decide +kernel
theorem dX9_takePart_231 : decode cX9_takePart 231 = .ok (.dup, 1) := by decide +kernel
theorem dX9_takePart_232 : decode cX9_takePart 232 = .ok (.getfield 106, 3) := by decide +kernel
theorem dX9_takePart_235 : decode cX9_takePart 235 = .ok (.iload_n 3, 1) := by decide +kernel
theorem dX9_takePart_236 : decode cX9_takePart 236 = .ok (.invokestatic 150, 3) := by decide +kernel
theorem dX9_takePart_239 : decode cX9_takePart 239 = .ok (.iadd, 1) := by decide +kernel
theorem dX9_takePart_240 : decode cX9_takePart 240 = .ok (.putfield 106, 3) := by decide +kernel
theorem dX9_takePart_243 : decode cX9_takePart 243 = .ok (.goto (-109), 3) := by decide +kernel
theorem dX9_takePart_246 : decode cX9_takePart 246 = .ok (.aload_n 0, 1) := by decide +kernel
theorem dX9_takePart_247 : decode cX9_takePart 247 = .ok (.getfield 35, 3) := by decide +kernel
theorem dX9_takePart_250 : decode cX9_takePart 250 = .ok (.iconst 3, 1) := by decide +kernel
theorem dX9_takePart_251 : decode cX9_takePart 251 = .ok (.iload_n 2, 1) := by decide +kernel
theorem dX9_takePart_252 : decode cX9_takePart 252 = .ok (.iconst 1, 1) := by decide +kernel
theorem dX9_takePart_253 : decode cX9_takePart 253 = .ok (.iadd, 1) := by decide +kernel
theorem dX9_takePart_254 : decode cX9_takePart 254 = .ok (.iastore, 1) := by decide +kernel
theorem dX9_takePart_255 : decode cX9_takePart 255 = .ok (.return_, 1) := by decide +kernel
theorem dX9_takeClause_0 : decode cX9_takeClause 0 = .ok (.aload_n 0, 1) := by decide +kernel
theorem dX9_takeClause_1 : decode cX9_takeClause 1 = .ok (.invokevirtual 139, 3) := by decide +kernel
theorem dX9_takeClause_4 : decode cX9_takeClause 4 = .ok (.aload_n 0, 1) := by decide +kernel
theorem dX9_takeClause_5 : decode cX9_takeClause 5 = .ok (.getfield 116, 3) := by decide +kernel
theorem dX9_takeClause_8 : decode cX9_takeClause 8 = .ok (.istore_n 1, 1) := by decide +kernel
theorem dX9_takeClause_9 : decode cX9_takeClause 9 = .ok (.aload_n 0, 1) := by decide +kernel
theorem dX9_takeClause_10 : decode cX9_takeClause 10 = .ok (.iconst 5, 1) := by decide +kernel
theorem dX9_takeClause_11 : decode cX9_takeClause 11 = .ok (.bipush 104, 2) := by decide +kernel
theorem dX9_takeClause_13 : decode cX9_takeClause 13 = .ok (.bipush 111, 2) := by decide +kernel
theorem dX9_takeClause_15 : decode cX9_takeClause 15 = .ok (.bipush 117, 2) := by decide +kernel
theorem dX9_takeClause_17 : decode cX9_takeClause 17 = .ok (.bipush 115, 2) := by decide +kernel
theorem dX9_takeClause_19 : decode cX9_takeClause 19 = .ok (.bipush 101, 2) := by decide +kernel
theorem dX9_takeClause_21 : decode cX9_takeClause 21 = .ok (.invokevirtual 142, 3) := by decide +kernel
theorem dX9_takeClause_24 : decode cX9_takeClause 24 = .ok (.ifCond .eq 11, 3) := by decide +kernel
theorem dX9_takeClause_27 : decode cX9_takeClause 27 = .ok (.aload_n 0, 1) := by decide +kernel
theorem dX9_takeClause_28 : decode cX9_takeClause 28 = .ok (.iload_n 1, 1) := by decide +kernel
theorem dX9_takeClause_29 : decode cX9_takeClause 29 = .ok (.invokevirtual 154, 3) := by decide +kernel
theorem dX9_takeClause_32 : decode cX9_takeClause 32 = .ok (.goto 54, 3) := by decide +kernel
theorem dX9_takeClause_35 : decode cX9_takeClause 35 = .ok (.aload_n 0, 1) := by decide +kernel
theorem dX9_takeClause_36 : decode cX9_takeClause 36 = .ok (.iconst 3, 1) := by decide +kernel
theorem dX9_takeClause_37 : decode cX9_takeClause 37 = .ok (.bipush 119, 2) := by decide +kernel
theorem dX9_takeClause_39 : decode cX9_takeClause 39 = .ok (.bipush 97, 2) := by decide +kernel
theorem dX9_takeClause_41 : decode cX9_takeClause 41 = .ok (.bipush 121, 2) := by decide +kernel
theorem dX9_takeClause_43 : decode cX9_takeClause 43 = .ok (.iconst 0, 1) := by decide +kernel
theorem dX9_takeClause_44 : decode cX9_takeClause 44 = .ok (.iconst 0, 1) := by decide +kernel
theorem dX9_takeClause_45 : decode cX9_takeClause 45 = .ok (.invokevirtual 142, 3) := by decide +kernel
theorem dX9_takeClause_48 : decode cX9_takeClause 48 = .ok (.ifCond .eq 10, 3) := by decide +kernel
theorem dX9_takeClause_51 : decode cX9_takeClause 51 = .ok (.aload_n 0, 1) := by decide +kernel
theorem dX9_takeClause_52 : decode cX9_takeClause 52 = .ok (.invokevirtual 158, 3) := by decide +kernel
theorem dX9_takeClause_55 : decode cX9_takeClause 55 = .ok (.goto 31, 3) := by decide +kernel
theorem dX9_takeClause_58 : decode cX9_takeClause 58 = .ok (.aload_n 0, 1) := by decide +kernel
theorem dX9_takeClause_59 : decode cX9_takeClause 59 = .ok (.aload_n 0, 1) := by decide +kernel
theorem dX9_takeClause_60 : decode cX9_takeClause 60 = .ok (.iconst 4, 1) := by decide +kernel
theorem dX9_takeClause_61 : decode cX9_takeClause 61 = .ok (.bipush 112, 2) := by decide +kernel
theorem dX9_takeClause_63 : decode cX9_takeClause 63 = .ok (.bipush 97, 2) := by decide +kernel
theorem dX9_takeClause_65 : decode cX9_takeClause 65 = .ok (.bipush 114, 2) := by decide +kernel
theorem dX9_takeClause_67 : decode cX9_takeClause 67 = .ok (.bipush 116, 2) := by decide +kernel
theorem dX9_takeClause_69 : decode cX9_takeClause 69 = .ok (.iconst 0, 1) := by decide +kernel
theorem dX9_takeClause_70 : decode cX9_takeClause 70 = .ok (.invokevirtual 142, 3) := by decide +kernel
theorem dX9_takeClause_73 : decode cX9_takeClause 73 = .ok (.iconst 1, 1) := by decide +kernel
theorem dX9_takeClause_74 : decode cX9_takeClause 74 = .ok (.iload_n 1, 1) := by decide +kernel
theorem dX9_takeClause_75 : decode cX9_takeClause 75 = .ok (.invokevirtual 130, 3) := by decide +kernel
theorem dX9_takeClause_78 : decode cX9_takeClause 78 = .ok (.ifCond .eq 8, 3) := by decide +kernel
theorem dX9_takeClause_81 : decode cX9_takeClause 81 = .ok (.aload_n 0, 1) := by decide +kernel
theorem dX9_takeClause_82 : decode cX9_takeClause 82 = .ok (.iload_n 1, 1) := by decide +kernel
theorem dX9_takeClause_83 : decode cX9_takeClause 83 = .ok (.invokevirtual 161, 3) := by decide +kernel
theorem dX9_takeClause_86 : decode cX9_takeClause 86 = .ok (.aload_n 0, 1) := by decide +kernel
theorem dX9_takeClause_87 : decode cX9_takeClause 87 = .ok (.invokevirtual 164, 3) := by decide +kernel
theorem dX9_takeClause_90 : decode cX9_takeClause 90 = .ok (.return_, 1) := by decide +kernel
theorem dX9_parish_0 : decode cX9_parish 0 = .ok (.aload_n 0, 1) := by decide +kernel
theorem dX9_parish_1 : decode cX9_parish 1 = .ok (.invokevirtual 167, 3) := by decide +kernel
theorem dX9_parish_4 : decode cX9_parish 4 = .ok (.aload_n 0, 1) := by decide +kernel
theorem dX9_parish_5 : decode cX9_parish 5 = .ok (.getfield 35, 3) := by decide +kernel
theorem dX9_parish_8 : decode cX9_parish 8 = .ok (.iconst 2, 1) := by decide +kernel
theorem dX9_parish_9 : decode cX9_parish 9 = .ok (.iconst 0, 1) := by decide +kernel
theorem dX9_parish_10 : decode cX9_parish 10 = .ok (.iastore, 1) := by decide +kernel
theorem dX9_parish_11 : decode cX9_parish 11 = .ok (.aload_n 0, 1) := by decide +kernel
theorem dX9_parish_12 : decode cX9_parish 12 = .ok (.getfield 35, 3) := by decide +kernel
theorem dX9_parish_15 : decode cX9_parish 15 = .ok (.iconst 3, 1) := by decide +kernel
theorem dX9_parish_16 : decode cX9_parish 16 = .ok (.iconst 0, 1) := by decide +kernel
theorem dX9_parish_17 : decode cX9_parish 17 = .ok (.iastore, 1) := by decide +kernel
theorem dX9_parish_18 : decode cX9_parish 18 = .ok (.bipush 81, 2) := by decide +kernel
theorem dX9_parish_20 : decode cX9_parish 20 = .ok (.istore_n 1, 1) := by decide +kernel
theorem dX9_parish_21 : decode cX9_parish 21 = .ok (.iload_n 1, 1) := by decide +kernel
theorem dX9_parish_22 : decode cX9_parish 22 = .ok (.sipush 162, 3) := by decide +kernel
theorem dX9_parish_25 : decode cX9_parish 25 = .ok (.if_icmp .ge 16, 3) := by decide +kernel
theorem dX9_parish_28 : decode cX9_parish 28 = .ok (.aload_n 0, 1) := by decide +kernel
theorem dX9_parish_29 : decode cX9_parish 29 = .ok (.getfield 20, 3) := by decide +kernel
theorem dX9_parish_32 : decode cX9_parish 32 = .ok (.iload_n 1, 1) := by decide +kernel
theorem dX9_parish_33 : decode cX9_parish 33 = .ok (.iconst 0, 1) := by decide +kernel
theorem dX9_parish_34 : decode cX9_parish 34 = .ok (.iastore, 1) := by decide +kernel
theorem dX9_parish_35 : decode cX9_parish 35 = .ok (.iinc 1 1, 3) := by decide +kernel
theorem dX9_parish_38 : decode cX9_parish 38 = .ok (.goto (-17), 3) := by decide +kernel
theorem dX9_parish_41 : decode cX9_parish 41 = .ok (.aload_n 0, 1) := by decide +kernel
theorem dX9_parish_42 : decode cX9_parish 42 = .ok (.getfield 109, 3) := by decide +kernel
theorem dX9_parish_45 : decode cX9_parish 45 = .ok (.ifCond .ne 17, 3) := by decide +kernel
theorem dX9_parish_48 : decode cX9_parish 48 = .ok (.aload_n 0, 1) := by decide +kernel
theorem dX9_parish_49 : decode cX9_parish 49 = .ok (.invokevirtual 112, 3) := by decide +kernel
theorem dX9_parish_52 : decode cX9_parish 52 = .ok (.ifCond .lt 10, 3) := by decide +kernel
theorem dX9_parish_55 : decode cX9_parish 55 = .ok (.aload_n 0, 1) := by decide +kernel
theorem dX9_parish_56 : decode cX9_parish 56 = .ok (.invokevirtual 170, 3) := by decide +kernel
theorem dX9_parish_59 : decode cX9_parish 59 = .ok (.goto (-18), 3) := by decide +kernel
theorem dX9_parish_62 : decode cX9_parish 62 = .ok (.aload_n 0, 1) := by decide +kernel
theorem dX9_parish_63 : decode cX9_parish 63 = .ok (.iconst 0, 1) := by decide +kernel
theorem dX9_parish_64 : decode cX9_parish 64 = .ok (.putfield 100, 3) := by decide +kernel
theorem dX9_parish_67 : decode cX9_parish 67 = .ok (.aload_n 0, 1) := by decide +kernel
theorem dX9_parish_68 : decode cX9_parish 68 = .ok (.getfield 109, 3) := by decide +kernel
theorem dX9_parish_71 : decode cX9_parish 71 = .ok (.ifCond .le 11, 3) := by decide +kernel
theorem dX9_parish_74 : decode cX9_parish 74 = .ok (.bipush (-10), 2) := by decide +kernel
theorem dX9_parish_76 : decode cX9_parish 76 = .ok (.aload_n 0, 1) := by decide +kernel
theorem dX9_parish_77 : decode cX9_parish 77 = .ok (.getfield 109, 3) := by decide +kernel
theorem dX9_parish_80 : decode cX9_parish 80 = .ok (.isub, 1) := by decide +kernel
theorem dX9_parish_81 : decode cX9_parish 81 = .ok (.ireturn, 1) := by decide +kernel
theorem dX9_parish_82 : decode cX9_parish 82 = .ok (.aload_n 0, 1) := by decide +kernel
theorem dX9_parish_83 : decode cX9_parish 83 = .ok (.getfield 35, 3) := by decide +kernel
theorem dX9_parish_86 : decode cX9_parish 86 = .ok (.iconst 0, 1) := by decide +kernel
theorem dX9_parish_87 : decode cX9_parish 87 = .ok (.aload_n 0, 1) := by decide +kernel
theorem dX9_parish_88 : decode cX9_parish 88 = .ok (.getfield 35, 3) := by decide +kernel
theorem dX9_parish_91 : decode cX9_parish 91 = .ok (.iconst 2, 1) := by decide +kernel
theorem dX9_parish_92 : decode cX9_parish 92 = .ok (.iaload, 1) := by decide +kernel
theorem dX9_parish_93 : decode cX9_parish 93 = .ok (.iastore, 1) := by decide +kernel
theorem dX9_parish_94 : decode cX9_parish 94 = .ok (.aload_n 0, 1) := by decide +kernel
theorem dX9_parish_95 : decode cX9_parish 95 = .ok (.getfield 35, 3) := by decide +kernel
theorem dX9_parish_98 : decode cX9_parish 98 = .ok (.iconst 1, 1) := by decide +kernel
theorem dX9_parish_99 : decode cX9_parish 99 = .ok (.aload_n 0, 1) := by decide +kernel
theorem dX9_parish_100 : decode cX9_parish 100 = .ok (.getfield 35, 3) := by decide +kernel
theorem dX9_parish_103 : decode cX9_parish 103 = .ok (.iconst 3, 1) := by decide +kernel
theorem dX9_parish_104 : decode cX9_parish 104 = .ok (.iaload, 1) := by decide +kernel
theorem dX9_parish_105 : decode cX9_parish 105 = .ok (.iastore, 1) := by decide +kernel
theorem dX9_parish_106 : decode cX9_parish 106 = .ok (.iconst 0, 1) := by decide +kernel
theorem dX9_parish_107 : decode cX9_parish 107 = .ok (.istore_n 1, 1) := by decide +kernel
theorem dX9_parish_108 : decode cX9_parish 108 = .ok (.iload_n 1, 1) := by decide +kernel
theorem dX9_parish_109 : decode cX9_parish 109 = .ok (.bipush 54, 2) := by decide +kernel
theorem dX9_parish_111 : decode cX9_parish 111 = .ok (.if_icmp .ge 24, 3) := by decide +kernel
theorem dX9_parish_114 : decode cX9_parish 114 = .ok (.aload_n 0, 1) := by decide +kernel
theorem dX9_parish_115 : decode cX9_parish 115 = .ok (.getfield 17, 3) := by decide +kernel
theorem dX9_parish_118 : decode cX9_parish 118 = .ok (.iload_n 1, 1) := by decide +kernel
theorem dX9_parish_119 : decode cX9_parish 119 = .ok (.aload_n 0, 1) := by decide +kernel
theorem dX9_parish_120 : decode cX9_parish 120 = .ok (.getfield 17, 3) := by decide +kernel
theorem dX9_parish_123 : decode cX9_parish 123 = .ok (.bipush 54, 2) := by decide +kernel
theorem dX9_parish_125 : decode cX9_parish 125 = .ok (.iload_n 1, 1) := by decide +kernel
theorem dX9_parish_126 : decode cX9_parish 126 = .ok (.iadd, 1) := by decide +kernel
theorem dX9_parish_127 : decode cX9_parish 127 = .ok (.iaload, 1) := by decide +kernel
theorem dX9_parish_128 : decode cX9_parish 128 = .ok (.iastore, 1) := by decide +kernel
theorem dX9_parish_129 : decode cX9_parish 129 = .ok (.iinc 1 1, 3) := by decide +kernel
theorem dX9_parish_132 : decode cX9_parish 132 = .ok (.goto (-24), 3) := by decide +kernel
theorem dX9_parish_135 : decode cX9_parish 135 = .ok (.iconst 0, 1) := by decide +kernel
theorem dX9_parish_136 : decode cX9_parish 136 = .ok (.istore_n 1, 1) := by decide +kernel
theorem dX9_parish_137 : decode cX9_parish 137 = .ok (.iload_n 1, 1) := by decide +kernel
theorem dX9_parish_138 : decode cX9_parish 138 = .ok (.bipush 81, 2) := by decide +kernel
theorem dX9_parish_140 : decode cX9_parish 140 = .ok (.if_icmp .ge 24, 3) := by decide +kernel
theorem dX9_parish_143 : decode cX9_parish 143 = .ok (.aload_n 0, 1) := by decide +kernel
theorem dX9_parish_144 : decode cX9_parish 144 = .ok (.getfield 20, 3) := by decide +kernel
theorem dX9_parish_147 : decode cX9_parish 147 = .ok (.iload_n 1, 1) := by decide +kernel
theorem dX9_parish_148 : decode cX9_parish 148 = .ok (.aload_n 0, 1) := by decide +kernel
theorem dX9_parish_149 : decode cX9_parish 149 = .ok (.getfield 20, 3) := by decide +kernel
theorem dX9_parish_152 : decode cX9_parish 152 = .ok (.bipush 81, 2) := by decide +kernel
theorem dX9_parish_154 : decode cX9_parish 154 = .ok (.iload_n 1, 1) := by decide +kernel
theorem dX9_parish_155 : decode cX9_parish 155 = .ok (.iadd, 1) := by decide +kernel
theorem dX9_parish_156 : decode cX9_parish 156 = .ok (.iaload, 1) := by decide +kernel
theorem dX9_parish_157 : decode cX9_parish 157 = .ok (.iastore, 1) := by decide +kernel
theorem dX9_parish_158 : decode cX9_parish 158 = .ok (.iinc 1 1, 3) := by decide +kernel
theorem dX9_parish_161 : decode cX9_parish 161 = .ok (.goto (-24), 3) := by decide +kernel
theorem dX9_parish_164 : decode cX9_parish 164 = .ok (.iconst 0, 1) := by decide +kernel
theorem dX9_parish_165 : decode cX9_parish 165 = .ok (.istore_n 1, 1) := by decide +kernel
theorem dX9_parish_166 : decode cX9_parish 166 = .ok (.iload_n 1, 1) := by decide +kernel
theorem dX9_parish_167 : decode cX9_parish 167 = .ok (.bipush 12, 2) := by decide +kernel
theorem dX9_parish_169 : decode cX9_parish 169 = .ok (.if_icmp .ge 89, 3) := by decide +kernel
theorem dX9_parish_172 : decode cX9_parish 172 = .ok (.aload_n 0, 1) := by decide +kernel
theorem dX9_parish_173 : decode cX9_parish 173 = .ok (.getfield 7, 3) := by decide +kernel
theorem dX9_parish_176 : decode cX9_parish 176 = .ok (.iload_n 1, 1) := by decide +kernel
theorem dX9_parish_177 : decode cX9_parish 177 = .ok (.aload_n 0, 1) := by decide +kernel
theorem dX9_parish_178 : decode cX9_parish 178 = .ok (.getfield 23, 3) := by decide +kernel
theorem dX9_parish_181 : decode cX9_parish 181 = .ok (.bipush 12, 2) := by decide +kernel
theorem dX9_parish_183 : decode cX9_parish 183 = .ok (.iload_n 1, 1) := by decide +kernel
theorem dX9_parish_184 : decode cX9_parish 184 = .ok (.iadd, 1) := by decide +kernel
theorem dX9_parish_185 : decode cX9_parish 185 = .ok (.iaload, 1) := by decide +kernel
theorem dX9_parish_186 : decode cX9_parish 186 = .ok (.iastore, 1) := by decide +kernel
theorem dX9_parish_187 : decode cX9_parish 187 = .ok (.aload_n 0, 1) := by decide +kernel
theorem dX9_parish_188 : decode cX9_parish 188 = .ok (.getfield 26, 3) := by decide +kernel
theorem dX9_parish_191 : decode cX9_parish 191 = .ok (.iload_n 1, 1) := by decide +kernel
theorem dX9_parish_192 : decode cX9_parish 192 = .ok (.aload_n 0, 1) := by decide +kernel
theorem dX9_parish_193 : decode cX9_parish 193 = .ok (.getfield 26, 3) := by decide +kernel
theorem dX9_parish_196 : decode cX9_parish 196 = .ok (.bipush 12, 2) := by decide +kernel
theorem dX9_parish_198 : decode cX9_parish 198 = .ok (.iload_n 1, 1) := by decide +kernel
theorem dX9_parish_199 : decode cX9_parish 199 = .ok (.iadd, 1) := by decide +kernel
theorem dX9_parish_200 : decode cX9_parish 200 = .ok (.iaload, 1) := by decide +kernel
theorem dX9_parish_201 : decode cX9_parish 201 = .ok (.iastore, 1) := by decide +kernel
theorem dX9_parish_202 : decode cX9_parish 202 = .ok (.aload_n 0, 1) := by decide +kernel
theorem dX9_parish_203 : decode cX9_parish 203 = .ok (.getfield 29, 3) := by decide +kernel
theorem dX9_parish_206 : decode cX9_parish 206 = .ok (.iload_n 1, 1) := by decide +kernel
theorem dX9_parish_207 : decode cX9_parish 207 = .ok (.aload_n 0, 1) := by decide +kernel
theorem dX9_parish_208 : decode cX9_parish 208 = .ok (.getfield 29, 3) := by decide +kernel
theorem dX9_parish_211 : decode cX9_parish 211 = .ok (.bipush 12, 2) := by decide +kernel
theorem dX9_parish_213 : decode cX9_parish 213 = .ok (.iload_n 1, 1) := by decide +kernel
theorem dX9_parish_214 : decode cX9_parish 214 = .ok (.iadd, 1) := by decide +kernel
theorem dX9_parish_215 : decode cX9_parish 215 = .ok (.iaload, 1) := by decide +kernel
theorem dX9_parish_216 : decode cX9_parish 216 = .ok (.iastore, 1) := by decide +kernel
theorem dX9_parish_217 : decode cX9_parish 217 = .ok (.aload_n 0, 1) := by decide +kernel
theorem dX9_parish_218 : decode cX9_parish 218 = .ok (.getfield 32, 3) := by decide +kernel
theorem dX9_parish_221 : decode cX9_parish 221 = .ok (.iload_n 1, 1) := by decide +kernel
theorem dX9_parish_222 : decode cX9_parish 222 = .ok (.aload_n 0, 1) := by decide +kernel
theorem dX9_parish_223 : decode cX9_parish 223 = .ok (.getfield 32, 3) := by decide +kernel
theorem dX9_parish_226 : decode cX9_parish 226 = .ok (.bipush 12, 2) := by decide +kernel
theorem dX9_parish_228 : decode cX9_parish 228 = .ok (.iload_n 1, 1) := by decide +kernel
theorem dX9_parish_229 : decode cX9_parish 229 = .ok (.iadd, 1) := by decide +kernel
theorem dX9_parish_230 : decode cX9_parish 230 = .ok (.iaload, 1) := by decide +kernel
theorem dX9_parish_231 : decode cX9_parish 231 = .ok (.iastore, 1) := by decide +kernel
theorem dX9_parish_232 : decode cX9_parish 232 = .ok (.aload_n 0, 1) := by decide +kernel
theorem dX9_parish_233 : decode cX9_parish 233 = .ok (.getfield 7, 3) := by decide +kernel
theorem dX9_parish_236 : decode cX9_parish 236 = .ok (.bipush 12, 2) := by decide +kernel
theorem dX9_parish_238 : decode cX9_parish 238 = .ok (.iload_n 1, 1) := by decide +kernel
theorem dX9_parish_239 : decode cX9_parish 239 = .ok (.iadd, 1) := by decide +kernel
theorem dX9_parish_240 : decode cX9_parish 240 = .ok (.iconst 1, 1) := by decide +kernel
theorem dX9_parish_241 : decode cX9_parish 241 = .ok (.iload_n 1, 1) := by decide +kernel
theorem dX9_parish_242 : decode cX9_parish 242 = .ok (.ishl, 1) := by decide +kernel
theorem dX9_parish_243 : decode cX9_parish 243 = .ok (.iastore, 1) := by decide +kernel
theorem dX9_parish_244 : decode cX9_parish 244 = .ok (.aload_n 0, 1) := by decide +kernel
theorem dX9_parish_245 : decode cX9_parish 245 = .ok (.getfield 44, 3) := by decide +kernel
theorem dX9_parish_248 : decode cX9_parish 248 = .ok (.iload_n 1, 1) := by decide +kernel
theorem dX9_parish_249 : decode cX9_parish 249 = .ok (.bipush 10, 2) := by decide +kernel
theorem dX9_parish_251 : decode cX9_parish 251 = .ok (.iastore, 1) := by decide +kernel
theorem dX9_parish_252 : decode cX9_parish 252 = .ok (.iinc 1 1, 3) := by decide +kernel
theorem dX9_parish_255 : decode cX9_parish 255 = .ok (.goto (-89), 3) := by decide +kernel
theorem dX9_parish_258 : decode cX9_parish 258 = .ok (.aload_n 0, 1) := by decide +kernel
theorem dX9_parish_259 : decode cX9_parish 259 = .ok (.getfield 7, 3) := by decide +kernel
theorem dX9_parish_262 : decode cX9_parish 262 = .ok (.bipush 24, 2) := by decide +kernel
theorem dX9_parish_264 : decode cX9_parish 264 = .ok (.iconst 0, 1) := by decide +kernel
theorem dX9_parish_265 : decode cX9_parish 265 = .ok (.iastore, 1) := by decide +kernel
theorem dX9_parish_266 : decode cX9_parish 266 = .ok (.aload_n 0, 1) := by decide +kernel
theorem dX9_parish_267 : decode cX9_parish 267 = .ok (.iconst 0, 1) := by decide +kernel
theorem dX9_parish_268 : decode cX9_parish 268 = .ok (.putfield 173, 3) := by decide +kernel
theorem dX9_parish_271 : decode cX9_parish 271 = .ok (.aload_n 0, 1) := by decide +kernel
theorem dX9_parish_272 : decode cX9_parish 272 = .ok (.iconst 0, 1) := by decide +kernel
theorem dX9_parish_273 : decode cX9_parish 273 = .ok (.putfield 176, 3) := by decide +kernel
theorem dX9_parish_276 : decode cX9_parish 276 = .ok (.aload_n 0, 1) := by decide +kernel
theorem dX9_parish_277 : decode cX9_parish 277 = .ok (.iconst 0, 1) := by decide +kernel
theorem dX9_parish_278 : decode cX9_parish 278 = .ok (.putfield 179, 3) := by decide +kernel
theorem dX9_parish_281 : decode cX9_parish 281 = .ok (.aload_n 0, 1) := by decide +kernel
theorem dX9_parish_282 : decode cX9_parish 282 = .ok (.getfield 13, 3) := by decide +kernel
theorem dX9_parish_285 : decode cX9_parish 285 = .ok (.iconst 0, 1) := by decide +kernel
theorem dX9_parish_286 : decode cX9_parish 286 = .ok (.iconst 0, 1) := by decide +kernel
theorem dX9_parish_287 : decode cX9_parish 287 = .ok (.bastore, 1) := by decide +kernel
theorem dX9_parish_288 : decode cX9_parish 288 = .ok (.aload_n 0, 1) := by decide +kernel
theorem dX9_parish_289 : decode cX9_parish 289 = .ok (.getfield 13, 3) := by decide +kernel
theorem dX9_parish_292 : decode cX9_parish 292 = .ok (.iconst 1, 1) := by decide +kernel
theorem dX9_parish_293 : decode cX9_parish 293 = .ok (.iconst 0, 1) := by decide +kernel
theorem dX9_parish_294 : decode cX9_parish 294 = .ok (.bastore, 1) := by decide +kernel
theorem dX9_parish_295 : decode cX9_parish 295 = .ok (.aload_n 0, 1) := by decide +kernel
theorem dX9_parish_296 : decode cX9_parish 296 = .ok (.invokevirtual 182, 3) := by decide +kernel
theorem dX9_parish_299 : decode cX9_parish 299 = .ok (.aload_n 0, 1) := by decide +kernel
theorem dX9_parish_300 : decode cX9_parish 300 = .ok (.getfield 35, 3) := by decide +kernel
theorem dX9_parish_303 : decode cX9_parish 303 = .ok (.iconst 0, 1) := by decide +kernel
theorem dX9_parish_304 : decode cX9_parish 304 = .ok (.iaload, 1) := by decide +kernel
theorem dX9_parish_305 : decode cX9_parish 305 = .ok (.ireturn, 1) := by decide +kernel
theorem dX9_plan_0 : decode cX9_plan 0 = .ok (.aload_n 0, 1) := by decide +kernel
theorem dX9_plan_1 : decode cX9_plan 1 = .ok (.getfield 100, 3) := by decide +kernel
theorem dX9_plan_4 : decode cX9_plan 4 = .ok (.sipush 200, 3) := by decide +kernel
theorem dX9_plan_7 : decode cX9_plan 7 = .ok (.if_icmp .le 6, 3) := by decide +kernel
theorem dX9_plan_10 : decode cX9_plan 10 = .ok (.ldc 185, 2) := by decide +kernel
theorem dX9_plan_12 : decode cX9_plan 12 = .ok (.ireturn, 1) := by decide +kernel
theorem dX9_plan_13 : decode cX9_plan 13 = .ok (.aload_n 0, 1) := by decide +kernel
theorem dX9_plan_14 : decode cX9_plan 14 = .ok (.invokevirtual 167, 3) := by decide +kernel
theorem dX9_plan_17 : decode cX9_plan 17 = .ok (.aload_n 0, 1) := by decide +kernel
theorem dX9_plan_18 : decode cX9_plan 18 = .ok (.iconst 0, 1) := by decide +kernel
theorem dX9_plan_19 : decode cX9_plan 19 = .ok (.putfield 186, 3) := by decide +kernel
theorem dX9_plan_22 : decode cX9_plan 22 = .ok (.aload_n 0, 1) := by decide +kernel
theorem dX9_plan_23 : decode cX9_plan 23 = .ok (.getfield 109, 3) := by decide +kernel
theorem dX9_plan_26 : decode cX9_plan 26 = .ok (.ifCond .ne 219, 3) := by decide +kernel
theorem dX9_plan_29 : decode cX9_plan 29 = .ok (.aload_n 0, 1) := by decide +kernel
theorem dX9_plan_30 : decode cX9_plan 30 = .ok (.invokevirtual 112, 3) := by decide +kernel
theorem dX9_plan_33 : decode cX9_plan 33 = .ok (.ifCond .lt 212, 3) := by decide +kernel
theorem dX9_plan_36 : decode cX9_plan 36 = .ok (.aload_n 0, 1) := by decide +kernel
theorem dX9_plan_37 : decode cX9_plan 37 = .ok (.invokevirtual 139, 3) := by decide +kernel
theorem dX9_plan_40 : decode cX9_plan 40 = .ok (.aload_n 0, 1) := by decide +kernel
theorem dX9_plan_41 : decode cX9_plan 41 = .ok (.aload_n 0, 1) := by decide +kernel
theorem dX9_plan_42 : decode cX9_plan 42 = .ok (.iconst 4, 1) := by decide +kernel
theorem dX9_plan_43 : decode cX9_plan 43 = .ok (.bipush 119, 2) := by decide +kernel
theorem dX9_plan_45 : decode cX9_plan 45 = .ok (.bipush 97, 2) := by decide +kernel
theorem dX9_plan_47 : decode cX9_plan 47 = .ok (.bipush 107, 2) := by decide +kernel
theorem dX9_plan_49 : decode cX9_plan 49 = .ok (.bipush 101, 2) := by decide +kernel
theorem dX9_plan_51 : decode cX9_plan 51 = .ok (.iconst 0, 1) := by decide +kernel
theorem dX9_plan_52 : decode cX9_plan 52 = .ok (.invokevirtual 142, 3) := by decide +kernel
theorem dX9_plan_55 : decode cX9_plan 55 = .ok (.iconst 1, 1) := by decide +kernel
theorem dX9_plan_56 : decode cX9_plan 56 = .ok (.aload_n 0, 1) := by decide +kernel
theorem dX9_plan_57 : decode cX9_plan 57 = .ok (.getfield 116, 3) := by decide +kernel
theorem dX9_plan_60 : decode cX9_plan 60 = .ok (.invokevirtual 130, 3) := by decide +kernel
theorem dX9_plan_63 : decode cX9_plan 63 = .ok (.ifCond .eq 175, 3) := by decide +kernel
theorem dX9_plan_66 : decode cX9_plan 66 = .ok (.aload_n 0, 1) := by decide +kernel
theorem dX9_plan_67 : decode cX9_plan 67 = .ok (.aload_n 0, 1) := by decide +kernel
theorem dX9_plan_68 : decode cX9_plan 68 = .ok (.getfield 186, 3) := by decide +kernel
theorem dX9_plan_71 : decode cX9_plan 71 = .ok (.bipush 20, 2) := by decide +kernel
theorem dX9_plan_73 : decode cX9_plan 73 = .ok (.if_icmp .ge 7, 3) := by decide +kernel
theorem dX9_plan_76 : decode cX9_plan 76 = .ok (.iconst 1, 1) := by decide +kernel
theorem dX9_plan_77 : decode cX9_plan 77 = .ok (.goto 4, 3) := by decide +kernel
theorem dX9_plan_80 : decode cX9_plan 80 = .ok (.iconst 0, 1) := by decide +kernel
theorem dX9_plan_81 : decode cX9_plan 81 = .ok (.iconst 3, 1) := by decide +kernel
theorem dX9_plan_82 : decode cX9_plan 82 = .ok (.aload_n 0, 1) := by decide +kernel
theorem dX9_plan_83 : decode cX9_plan 83 = .ok (.getfield 116, 3) := by decide +kernel
theorem dX9_plan_86 : decode cX9_plan 86 = .ok (.invokevirtual 130, 3) := by decide +kernel
theorem dX9_plan_89 : decode cX9_plan 89 = .ok (.ifCond .eq 149, 3) := by decide +kernel
theorem dX9_plan_92 : decode cX9_plan 92 = .ok (.aload_n 0, 1) := by decide +kernel
theorem dX9_plan_93 : decode cX9_plan 93 = .ok (.iconst 0, 1) := by decide +kernel
theorem dX9_plan_94 : decode cX9_plan 94 = .ok (.aload_n 0, 1) := by decide +kernel
theorem dX9_plan_95 : decode cX9_plan 95 = .ok (.getfield 35, 3) := by decide +kernel
theorem dX9_plan_98 : decode cX9_plan 98 = .ok (.iconst 0, 1) := by decide +kernel
theorem dX9_plan_99 : decode cX9_plan 99 = .ok (.iaload, 1) := by decide +kernel
theorem dX9_plan_100 : decode cX9_plan 100 = .ok (.iconst 1, 1) := by decide +kernel
theorem dX9_plan_101 : decode cX9_plan 101 = .ok (.isub, 1) := by decide +kernel
theorem dX9_plan_102 : decode cX9_plan 102 = .ok (.invokevirtual 135, 3) := by decide +kernel
theorem dX9_plan_105 : decode cX9_plan 105 = .ok (.istore_n 1, 1) := by decide +kernel
theorem dX9_plan_106 : decode cX9_plan 106 = .ok (.aload_n 0, 1) := by decide +kernel
theorem dX9_plan_107 : decode cX9_plan 107 = .ok (.iconst 0, 1) := by decide +kernel
theorem dX9_plan_108 : decode cX9_plan 108 = .ok (.aload_n 0, 1) := by decide +kernel
theorem dX9_plan_109 : decode cX9_plan 109 = .ok (.getfield 35, 3) := by decide +kernel
theorem dX9_plan_112 : decode cX9_plan 112 = .ok (.iconst 0, 1) := by decide +kernel
theorem dX9_plan_113 : decode cX9_plan 113 = .ok (.iaload, 1) := by decide +kernel
theorem dX9_plan_114 : decode cX9_plan 114 = .ok (.iconst 1, 1) := by decide +kernel
theorem dX9_plan_115 : decode cX9_plan 115 = .ok (.isub, 1) := by decide +kernel
theorem dX9_plan_116 : decode cX9_plan 116 = .ok (.invokevirtual 135, 3) := by decide +kernel
theorem dX9_plan_119 : decode cX9_plan 119 = .ok (.istore_n 2, 1) := by decide +kernel
theorem dX9_plan_120 : decode cX9_plan 120 = .ok (.iload_n 1, 1) := by decide +kernel
theorem dX9_plan_121 : decode cX9_plan 121 = .ok (.iload_n 2, 1) := by decide +kernel
theorem dX9_plan_122 : decode cX9_plan 122 = .ok (.if_icmp .ne 7, 3) := by decide +kernel
theorem dX9_plan_125 : decode cX9_plan 125 = .ok (.iconst 1, 1) := by decide +kernel
theorem dX9_plan_126 : decode cX9_plan 126 = .ok (.goto 4, 3) := by decide +kernel
theorem dX9_plan_129 : decode cX9_plan 129 = .ok (.iconst 0, 1) := by decide +kernel
theorem dX9_plan_130 : decode cX9_plan 130 = .ok (.istore_n 3, 1) := by decide +kernel
theorem dX9_plan_131 : decode cX9_plan 131 = .ok (.bipush 20, 2) := by decide +kernel
theorem dX9_plan_133 : decode cX9_plan 133 = .ok (.istore 4, 2) := by decide +kernel
theorem dX9_plan_135 : decode cX9_plan 135 = .ok (.iload 4, 2) := by decide +kernel
theorem dX9_plan_137 : decode cX9_plan 137 = .ok (.bipush 20, 2) := by decide +kernel
theorem dX9_plan_139 : decode cX9_plan 139 = .ok (.aload_n 0, 1) := by decide +kernel
theorem dX9_plan_140 : decode cX9_plan 140 = .ok (.getfield 186, 3) := by decide +kernel
theorem dX9_plan_143 : decode cX9_plan 143 = .ok (.iadd, 1) := by decide +kernel
theorem dX9_plan_144 : decode cX9_plan 144 = .ok (.if_icmp .ge 30, 3) := by decide +kernel
theorem dX9_plan_147 : decode cX9_plan 147 = .ok (.iload_n 3, 1) := by decide +kernel
theorem dX9_plan_148 : decode cX9_plan 148 = .ok (.ifCond .ne 14, 3) := by decide +kernel
theorem dX9_plan_151 : decode cX9_plan 151 = .ok (.aload_n 0, 1) := by decide +kernel
theorem dX9_plan_152 : decode cX9_plan 152 = .ok (.getfield 41, 3) := by decide +kernel
theorem dX9_plan_155 : decode cX9_plan 155 = .ok (.iload 4, 2) := by decide +kernel
theorem dX9_plan_157 : decode cX9_plan 157 = .ok (.iaload, 1) := by decide +kernel
theorem dX9_plan_158 : decode cX9_plan 158 = .ok (.iload_n 2, 1) := by decide +kernel
theorem dX9_plan_159 : decode cX9_plan 159 = .ok (.if_icmp .ne 7, 3) := by decide +kernel
theorem dX9_plan_162 : decode cX9_plan 162 = .ok (.iconst 1, 1) := by decide +kernel
theorem dX9_plan_163 : decode cX9_plan 163 = .ok (.goto 4, 3) := by decide +kernel
theorem dX9_plan_166 : decode cX9_plan 166 = .ok (.iconst 0, 1) := by decide +kernel
theorem dX9_plan_167 : decode cX9_plan 167 = .ok (.istore_n 3, 1) := by decide +kernel
theorem dX9_plan_168 : decode cX9_plan 168 = .ok (.iinc 4 1, 3) := by decide +kernel
theorem dX9_plan_171 : decode cX9_plan 171 = .ok (.goto (-36), 3) := by decide +kernel
theorem dX9_plan_174 : decode cX9_plan 174 = .ok (.aload_n 0, 1) := by decide +kernel
theorem dX9_plan_175 : decode cX9_plan 175 = .ok (.getfield 109, 3) := by decide +kernel
theorem dX9_plan_178 : decode cX9_plan 178 = .ok (.ifCond .ne 60, 3) := by decide +kernel
theorem dX9_plan_181 : decode cX9_plan 181 = .ok (.aload_n 0, 1) := by decide +kernel
theorem dX9_plan_182 : decode cX9_plan 182 = .ok (.iload_n 3, 1) := by decide +kernel
theorem dX9_plan_183 : decode cX9_plan 183 = .ok (.ifCond .ne 7, 3) := by decide +kernel
theorem dX9_plan_186 : decode cX9_plan 186 = .ok (.iconst 1, 1) := by decide +kernel
theorem dX9_plan_187 : decode cX9_plan 187 = .ok (.goto 4, 3) := by decide +kernel
theorem dX9_plan_190 : decode cX9_plan 190 = .ok (.iconst 0, 1) := by decide +kernel
theorem dX9_plan_191 : decode cX9_plan 191 = .ok (.iconst 4, 1) := by decide +kernel
theorem dX9_plan_192 : decode cX9_plan 192 = .ok (.aload_n 0, 1) := by decide +kernel
theorem dX9_plan_193 : decode cX9_plan 193 = .ok (.getfield 116, 3) := by decide +kernel
theorem dX9_plan_196 : decode cX9_plan 196 = .ok (.invokevirtual 130, 3) := by decide +kernel
theorem dX9_plan_199 : decode cX9_plan 199 = .ok (.ifCond .eq 39, 3) := by decide +kernel
theorem dX9_plan_202 : decode cX9_plan 202 = .ok (.aload_n 0, 1) := by decide +kernel
theorem dX9_plan_203 : decode cX9_plan 203 = .ok (.getfield 38, 3) := by decide +kernel
theorem dX9_plan_206 : decode cX9_plan 206 = .ok (.bipush 20, 2) := by decide +kernel
theorem dX9_plan_208 : decode cX9_plan 208 = .ok (.aload_n 0, 1) := by decide +kernel
theorem dX9_plan_209 : decode cX9_plan 209 = .ok (.getfield 186, 3) := by decide +kernel
theorem dX9_plan_212 : decode cX9_plan 212 = .ok (.iadd, 1) := by decide +kernel
theorem dX9_plan_213 : decode cX9_plan 213 = .ok (.iload_n 1, 1) := by decide +kernel
theorem dX9_plan_214 : decode cX9_plan 214 = .ok (.iastore, 1) := by decide +kernel
theorem dX9_plan_215 : decode cX9_plan 215 = .ok (.aload_n 0, 1) := by decide +kernel
theorem dX9_plan_216 : decode cX9_plan 216 = .ok (.getfield 41, 3) := by decide +kernel
theorem dX9_plan_219 : decode cX9_plan 219 = .ok (.bipush 20, 2) := by decide +kernel
theorem dX9_plan_221 : decode cX9_plan 221 = .ok (.aload_n 0, 1) := by decide +kernel
theorem dX9_plan_222 : decode cX9_plan 222 = .ok (.getfield 186, 3) := by decide +kernel
theorem dX9_plan_225 : decode cX9_plan 225 = .ok (.iadd, 1) := by decide +kernel
theorem dX9_plan_226 : decode cX9_plan 226 = .ok (.iload_n 2, 1) := by decide +kernel
theorem dX9_plan_227 : decode cX9_plan 227 = .ok (.iastore, 1) := by decide +kernel
theorem dX9_plan_228 : decode cX9_plan 228 = .ok (.aload_n 0, 1) := by decide +kernel
theorem dX9_plan_229 : decode cX9_plan 229 = .ok (.dup, 1) := by decide +kernel
theorem dX9_plan_230 : decode cX9_plan 230 = .ok (.getfield 186, 3) := by decide +kernel
theorem dX9_plan_233 : decode cX9_plan 233 = .ok (.iconst 1, 1) := by decide +kernel
theorem dX9_plan_234 : decode cX9_plan 234 = .ok (.iadd, 1) := by decide +kernel
theorem dX9_plan_235 : decode cX9_plan 235 = .ok (.putfield 186, 3) := by decide +kernel
theorem dX9_plan_238 : decode cX9_plan 238 = .ok (.aload_n 0, 1) := by decide +kernel
theorem dX9_plan_239 : decode cX9_plan 239 = .ok (.invokevirtual 164, 3) := by decide +kernel
theorem dX9_plan_242 : decode cX9_plan 242 = .ok (.goto (-220), 3) := by decide +kernel
theorem dX9_plan_245 : decode cX9_plan 245 = .ok (.aload_n 0, 1) := by decide +kernel
theorem dX9_plan_246 : decode cX9_plan 246 = .ok (.iconst 0, 1) := by decide +kernel
theorem dX9_plan_247 : decode cX9_plan 247 = .ok (.putfield 100, 3) := by decide +kernel
theorem dX9_plan_250 : decode cX9_plan 250 = .ok (.aload_n 0, 1) := by decide +kernel
theorem dX9_plan_251 : decode cX9_plan 251 = .ok (.getfield 109, 3) := by decide +kernel
theorem dX9_plan_254 : decode cX9_plan 254 = .ok (.ifCond .le 11, 3) := by decide +kernel
theorem dX9_plan_257 : decode cX9_plan 257 = .ok (.bipush (-10), 2) := by decide +kernel
theorem dX9_plan_259 : decode cX9_plan 259 = .ok (.aload_n 0, 1) := by decide +kernel
theorem dX9_plan_260 : decode cX9_plan 260 = .ok (.getfield 109, 3) := by decide +kernel
theorem dX9_plan_263 : decode cX9_plan 263 = .ok (.isub, 1) := by decide +kernel
theorem dX9_plan_264 : decode cX9_plan 264 = .ok (.ireturn, 1) := by decide +kernel
theorem dX9_plan_265 : decode cX9_plan 265 = .ok (.iconst 0, 1) := by decide +kernel
theorem dX9_plan_266 : decode cX9_plan 266 = .ok (.istore_n 1, 1) := by decide +kernel
theorem dX9_plan_267 : decode cX9_plan 267 = .ok (.iload_n 1, 1) := by decide +kernel
theorem dX9_plan_268 : decode cX9_plan 268 = .ok (.aload_n 0, 1) := by decide +kernel
theorem dX9_plan_269 : decode cX9_plan 269 = .ok (.getfield 186, 3) := by decide +kernel
theorem dX9_plan_272 : decode cX9_plan 272 = .ok (.if_icmp .ge 39, 3) := by decide +kernel
theorem dX9_plan_275 : decode cX9_plan 275 = .ok (.aload_n 0, 1) := by decide +kernel
theorem dX9_plan_276 : decode cX9_plan 276 = .ok (.getfield 38, 3) := by decide +kernel
theorem dX9_plan_279 : decode cX9_plan 279 = .ok (.iload_n 1, 1) := by decide +kernel
theorem dX9_plan_280 : decode cX9_plan 280 = .ok (.aload_n 0, 1) := by decide +kernel
theorem dX9_plan_281 : decode cX9_plan 281 = .ok (.getfield 38, 3) := by decide +kernel
theorem dX9_plan_284 : decode cX9_plan 284 = .ok (.bipush 20, 2) := by decide +kernel
theorem dX9_plan_286 : decode cX9_plan 286 = .ok (.iload_n 1, 1) := by decide +kernel
theorem dX9_plan_287 : decode cX9_plan 287 = .ok (.iadd, 1) := by decide +kernel
theorem dX9_plan_288 : decode cX9_plan 288 = .ok (.iaload, 1) := by decide +kernel
theorem dX9_plan_289 : decode cX9_plan 289 = .ok (.iastore, 1) := by decide +kernel
theorem dX9_plan_290 : decode cX9_plan 290 = .ok (.aload_n 0, 1) := by decide +kernel
theorem dX9_plan_291 : decode cX9_plan 291 = .ok (.getfield 41, 3) := by decide +kernel
theorem dX9_plan_294 : decode cX9_plan 294 = .ok (.iload_n 1, 1) := by decide +kernel
theorem dX9_plan_295 : decode cX9_plan 295 = .ok (.aload_n 0, 1) := by decide +kernel
theorem dX9_plan_296 : decode cX9_plan 296 = .ok (.getfield 41, 3) := by decide +kernel
theorem dX9_plan_299 : decode cX9_plan 299 = .ok (.bipush 20, 2) := by decide +kernel
theorem dX9_plan_301 : decode cX9_plan 301 = .ok (.iload_n 1, 1) := by decide +kernel
theorem dX9_plan_302 : decode cX9_plan 302 = .ok (.iadd, 1) := by decide +kernel
theorem dX9_plan_303 : decode cX9_plan 303 = .ok (.iaload, 1) := by decide +kernel
theorem dX9_plan_304 : decode cX9_plan 304 = .ok (.iastore, 1) := by decide +kernel
theorem dX9_plan_305 : decode cX9_plan 305 = .ok (.iinc 1 1, 3) := by decide +kernel
theorem dX9_plan_308 : decode cX9_plan 308 = .ok (.goto (-41), 3) := by decide +kernel
theorem dX9_plan_311 : decode cX9_plan 311 = .ok (.aload_n 0, 1) := by decide +kernel
theorem dX9_plan_312 : decode cX9_plan 312 = .ok (.aload_n 0, 1) := by decide +kernel
theorem dX9_plan_313 : decode cX9_plan 313 = .ok (.getfield 186, 3) := by decide +kernel
theorem dX9_plan_316 : decode cX9_plan 316 = .ok (.putfield 173, 3) := by decide +kernel
theorem dX9_plan_319 : decode cX9_plan 319 = .ok (.aload_n 0, 1) := by decide +kernel
theorem dX9_plan_320 : decode cX9_plan 320 = .ok (.getfield 173, 3) := by decide +kernel
theorem dX9_plan_323 : decode cX9_plan 323 = .ok (.ireturn, 1) := by decide +kernel
theorem dX9_fault_0 : decode cX9_fault 0 = .ok (.aload_n 0, 1) := by decide +kernel
theorem dX9_fault_1 : decode cX9_fault 1 = .ok (.getfield 50, 3) := by decide +kernel
theorem dX9_fault_4 : decode cX9_fault 4 = .ok (.ireturn, 1) := by decide +kernel
theorem dX9_findFar_0 : decode cX9_findFar 0 = .ok (.iconst 0, 1) := by decide +kernel
theorem dX9_findFar_1 : decode cX9_findFar 1 = .ok (.istore_n 1, 1) := by decide +kernel
theorem dX9_findFar_2 : decode cX9_findFar 2 = .ok (.iload_n 1, 1) := by decide +kernel
theorem dX9_findFar_3 : decode cX9_findFar 3 = .ok (.bipush 81, 2) := by decide +kernel
theorem dX9_findFar_5 : decode cX9_findFar 5 = .ok (.if_icmp .ge 51, 3) := by decide +kernel
theorem dX9_findFar_8 : decode cX9_findFar 8 = .ok (.aload_n 0, 1) := by decide +kernel
theorem dX9_findFar_9 : decode cX9_findFar 9 = .ok (.getfield 54, 3) := by decide +kernel
theorem dX9_findFar_12 : decode cX9_findFar 12 = .ok (.iload_n 1, 1) := by decide +kernel
theorem dX9_findFar_13 : decode cX9_findFar 13 = .ok (.iload_n 1, 1) := by decide +kernel
theorem dX9_findFar_14 : decode cX9_findFar 14 = .ok (.bipush 9, 2) := by decide +kernel
theorem dX9_findFar_16 : decode cX9_findFar 16 = .ok (.idiv, 1) := by decide +kernel
theorem dX9_findFar_17 : decode cX9_findFar 17 = .ok (.iload_n 1, 1) := by decide +kernel
theorem dX9_findFar_18 : decode cX9_findFar 18 = .ok (.bipush 9, 2) := by decide +kernel
theorem dX9_findFar_20 : decode cX9_findFar 20 = .ok (.irem, 1) := by decide +kernel
theorem dX9_findFar_21 : decode cX9_findFar 21 = .ok (.if_icmp .ne 7, 3) := by decide +kernel
theorem dX9_findFar_24 : decode cX9_findFar 24 = .ok (.iconst 0, 1) := by decide +kernel
theorem dX9_findFar_25 : decode cX9_findFar 25 = .ok (.goto 24, 3) := by decide +kernel
theorem dX9_findFar_28 : decode cX9_findFar 28 = .ok (.aload_n 0, 1) := by decide +kernel
theorem dX9_findFar_29 : decode cX9_findFar 29 = .ok (.getfield 20, 3) := by decide +kernel
theorem dX9_findFar_32 : decode cX9_findFar 32 = .ok (.iload_n 1, 1) := by decide +kernel
theorem dX9_findFar_33 : decode cX9_findFar 33 = .ok (.iaload, 1) := by decide +kernel
theorem dX9_findFar_34 : decode cX9_findFar 34 = .ok (.ifCond .le 12, 3) := by decide +kernel
theorem dX9_findFar_37 : decode cX9_findFar 37 = .ok (.aload_n 0, 1) := by decide +kernel
theorem dX9_findFar_38 : decode cX9_findFar 38 = .ok (.getfield 20, 3) := by decide +kernel
theorem dX9_findFar_41 : decode cX9_findFar 41 = .ok (.iload_n 1, 1) := by decide +kernel
theorem dX9_findFar_42 : decode cX9_findFar 42 = .ok (.iaload, 1) := by decide +kernel
theorem dX9_findFar_43 : decode cX9_findFar 43 = .ok (.goto 6, 3) := by decide +kernel
theorem dX9_findFar_46 : decode cX9_findFar 46 = .ok (.sipush 500, 3) := by decide +kernel
theorem dX9_findFar_49 : decode cX9_findFar 49 = .ok (.iastore, 1) := by decide +kernel
theorem dX9_findFar_50 : decode cX9_findFar 50 = .ok (.iinc 1 1, 3) := by decide +kernel
theorem dX9_findFar_53 : decode cX9_findFar 53 = .ok (.goto (-51), 3) := by decide +kernel
theorem dX9_findFar_56 : decode cX9_findFar 56 = .ok (.iconst 0, 1) := by decide +kernel
theorem dX9_findFar_57 : decode cX9_findFar 57 = .ok (.istore_n 1, 1) := by decide +kernel
theorem dX9_findFar_58 : decode cX9_findFar 58 = .ok (.iload_n 1, 1) := by decide +kernel
theorem dX9_findFar_59 : decode cX9_findFar 59 = .ok (.bipush 9, 2) := by decide +kernel
theorem dX9_findFar_61 : decode cX9_findFar 61 = .ok (.if_icmp .ge 79, 3) := by decide +kernel
theorem dX9_findFar_64 : decode cX9_findFar 64 = .ok (.iconst 0, 1) := by decide +kernel
theorem dX9_findFar_65 : decode cX9_findFar 65 = .ok (.istore_n 2, 1) := by decide +kernel
theorem dX9_findFar_66 : decode cX9_findFar 66 = .ok (.iload_n 2, 1) := by decide +kernel
theorem dX9_findFar_67 : decode cX9_findFar 67 = .ok (.bipush 81, 2) := by decide +kernel
theorem dX9_findFar_69 : decode cX9_findFar 69 = .ok (.if_icmp .ge 65, 3) := by decide +kernel
theorem dX9_findFar_72 : decode cX9_findFar 72 = .ok (.aload_n 0, 1) := by decide +kernel
theorem dX9_findFar_73 : decode cX9_findFar 73 = .ok (.getfield 54, 3) := by decide +kernel
theorem dX9_findFar_76 : decode cX9_findFar 76 = .ok (.iload_n 2, 1) := by decide +kernel
theorem dX9_findFar_77 : decode cX9_findFar 77 = .ok (.bipush 9, 2) := by decide +kernel
theorem dX9_findFar_79 : decode cX9_findFar 79 = .ok (.idiv, 1) := by decide +kernel
theorem dX9_findFar_80 : decode cX9_findFar 80 = .ok (.bipush 9, 2) := by decide +kernel
theorem dX9_findFar_82 : decode cX9_findFar 82 = .ok (.imul, 1) := by decide +kernel
theorem dX9_findFar_83 : decode cX9_findFar 83 = .ok (.iload_n 1, 1) := by decide +kernel
theorem dX9_findFar_84 : decode cX9_findFar 84 = .ok (.iadd, 1) := by decide +kernel
theorem dX9_findFar_85 : decode cX9_findFar 85 = .ok (.iaload, 1) := by decide +kernel
theorem dX9_findFar_86 : decode cX9_findFar 86 = .ok (.aload_n 0, 1) := by decide +kernel
theorem dX9_findFar_87 : decode cX9_findFar 87 = .ok (.getfield 54, 3) := by decide +kernel
theorem dX9_findFar_90 : decode cX9_findFar 90 = .ok (.bipush 9, 2) := by decide +kernel
theorem dX9_findFar_92 : decode cX9_findFar 92 = .ok (.iload_n 1, 1) := by decide +kernel
theorem dX9_findFar_93 : decode cX9_findFar 93 = .ok (.imul, 1) := by decide +kernel
theorem dX9_findFar_94 : decode cX9_findFar 94 = .ok (.iload_n 2, 1) := by decide +kernel
theorem dX9_findFar_95 : decode cX9_findFar 95 = .ok (.bipush 9, 2) := by decide +kernel
theorem dX9_findFar_97 : decode cX9_findFar 97 = .ok (.irem, 1) := by decide +kernel
theorem dX9_findFar_98 : decode cX9_findFar 98 = .ok (.iadd, 1) := by decide +kernel
theorem dX9_findFar_99 : decode cX9_findFar 99 = .ok (.iaload, 1) := by decide +kernel
theorem dX9_findFar_100 : decode cX9_findFar 100 = .ok (.iadd, 1) := by decide +kernel
theorem dX9_findFar_101 : decode cX9_findFar 101 = .ok (.istore_n 3, 1) := by decide +kernel
theorem dX9_findFar_102 : decode cX9_findFar 102 = .ok (.aload_n 0, 1) := by decide +kernel
theorem dX9_findFar_103 : decode cX9_findFar 103 = .ok (.getfield 54, 3) := by decide +kernel
theorem dX9_findFar_106 : decode cX9_findFar 106 = .ok (.iload_n 2, 1) := by decide +kernel
theorem dX9_findFar_107 : decode cX9_findFar 107 = .ok (.iload_n 3, 1) := by decide +kernel
theorem dX9_findFar_108 : decode cX9_findFar 108 = .ok (.aload_n 0, 1) := by decide +kernel
theorem dX9_findFar_109 : decode cX9_findFar 109 = .ok (.getfield 54, 3) := by decide +kernel
theorem dX9_findFar_112 : decode cX9_findFar 112 = .ok (.iload_n 2, 1) := by decide +kernel
theorem dX9_findFar_113 : decode cX9_findFar 113 = .ok (.iaload, 1) := by decide +kernel
theorem dX9_findFar_114 : decode cX9_findFar 114 = .ok (.if_icmp .ge 7, 3) := by decide +kernel
theorem dX9_findFar_117 : decode cX9_findFar 117 = .ok (.iload_n 3, 1) := by decide +kernel
theorem dX9_findFar_118 : decode cX9_findFar 118 = .ok (.goto 9, 3) := by decide +kernel
theorem dX9_findFar_121 : decode cX9_findFar 121 = .ok (.aload_n 0, 1) := by decide +kernel
theorem dX9_findFar_122 : decode cX9_findFar 122 = .ok (.getfield 54, 3) := by decide +kernel
theorem dX9_findFar_125 : decode cX9_findFar 125 = .ok (.iload_n 2, 1) := by decide +kernel
theorem dX9_findFar_126 : decode cX9_findFar 126 = .ok (.iaload, 1) := by decide +kernel
theorem dX9_findFar_127 : decode cX9_findFar 127 = .ok (.iastore, 1) := by decide +kernel
theorem dX9_findFar_128 : decode cX9_findFar 128 = .ok (.iinc 2 1, 3) := by decide +kernel
theorem dX9_findFar_131 : decode cX9_findFar 131 = .ok (.goto (-65), 3) := by decide +kernel
theorem dX9_findFar_134 : decode cX9_findFar 134 = .ok (.iinc 1 1, 3) := by decide +kernel
theorem dX9_findFar_137 : decode cX9_findFar 137 = .ok (.goto (-79), 3) := by decide +kernel
theorem dX9_findFar_140 : decode cX9_findFar 140 = .ok (.return_, 1) := by decide +kernel
theorem dX9_farOf_0 : decode cX9_farOf 0 = .ok (.aload_n 0, 1) := by decide +kernel
theorem dX9_farOf_1 : decode cX9_farOf 1 = .ok (.getfield 54, 3) := by decide +kernel
theorem dX9_farOf_4 : decode cX9_farOf 4 = .ok (.bipush 9, 2) := by decide +kernel
theorem dX9_farOf_6 : decode cX9_farOf 6 = .ok (.iload_n 1, 1) := by decide +kernel
theorem dX9_farOf_7 : decode cX9_farOf 7 = .ok (.imul, 1) := by decide +kernel
theorem dX9_farOf_8 : decode cX9_farOf 8 = .ok (.iload_n 2, 1) := by decide +kernel
theorem dX9_farOf_9 : decode cX9_farOf 9 = .ok (.iadd, 1) := by decide +kernel
theorem dX9_farOf_10 : decode cX9_farOf 10 = .ok (.iaload, 1) := by decide +kernel
theorem dX9_farOf_11 : decode cX9_farOf 11 = .ok (.ireturn, 1) := by decide +kernel
theorem dX9_isHouse_0 : decode cX9_isHouse 0 = .ok (.iload_n 1, 1) := by decide +kernel
theorem dX9_isHouse_1 : decode cX9_isHouse 1 = .ok (.i2l, 1) := by decide +kernel
theorem dX9_isHouse_2 : decode cX9_isHouse 2 = .ok (.lconst 0, 1) := by decide +kernel
theorem dX9_isHouse_3 : decode cX9_isHouse 3 = .ok (.aload_n 0, 1) := by decide +kernel
theorem dX9_isHouse_4 : decode cX9_isHouse 4 = .ok (.getfield 35, 3) := by decide +kernel
theorem dX9_isHouse_7 : decode cX9_isHouse 7 = .ok (.iconst 0, 1) := by decide +kernel
theorem dX9_isHouse_8 : decode cX9_isHouse 8 = .ok (.iaload, 1) := by decide +kernel
theorem dX9_isHouse_9 : decode cX9_isHouse 9 = .ok (.iconst 1, 1) := by decide +kernel
theorem dX9_isHouse_10 : decode cX9_isHouse 10 = .ok (.isub, 1) := by decide +kernel
theorem dX9_isHouse_11 : decode cX9_isHouse 11 = .ok (.i2l, 1) := by decide +kernel
theorem dX9_isHouse_12 : decode cX9_isHouse 12 = .ok (.invokestatic 95, 3) := by decide +kernel
theorem dX9_isHouse_15 : decode cX9_isHouse 15 = .ok (.ireturn, 1) := by decide +kernel
theorem dX9_isPart_0 : decode cX9_isPart 0 = .ok (.iload_n 1, 1) := by decide +kernel
theorem dX9_isPart_1 : decode cX9_isPart 1 = .ok (.i2l, 1) := by decide +kernel
theorem dX9_isPart_2 : decode cX9_isPart 2 = .ok (.lconst 0, 1) := by decide +kernel
theorem dX9_isPart_3 : decode cX9_isPart 3 = .ok (.aload_n 0, 1) := by decide +kernel
theorem dX9_isPart_4 : decode cX9_isPart 4 = .ok (.getfield 35, 3) := by decide +kernel
theorem dX9_isPart_7 : decode cX9_isPart 7 = .ok (.iconst 1, 1) := by decide +kernel
theorem dX9_isPart_8 : decode cX9_isPart 8 = .ok (.iaload, 1) := by decide +kernel
theorem dX9_isPart_9 : decode cX9_isPart 9 = .ok (.iconst 1, 1) := by decide +kernel
theorem dX9_isPart_10 : decode cX9_isPart 10 = .ok (.isub, 1) := by decide +kernel
theorem dX9_isPart_11 : decode cX9_isPart 11 = .ok (.i2l, 1) := by decide +kernel
theorem dX9_isPart_12 : decode cX9_isPart 12 = .ok (.invokestatic 95, 3) := by decide +kernel
theorem dX9_isPart_15 : decode cX9_isPart 15 = .ok (.ireturn, 1) := by decide +kernel
theorem dX9_isParts_0 : decode cX9_isParts 0 = .ok (.iload_n 1, 1) := by decide +kernel
theorem dX9_isParts_1 : decode cX9_isParts 1 = .ok (.i2l, 1) := by decide +kernel
theorem dX9_isParts_2 : decode cX9_isParts 2 = .ok (.lconst 0, 1) := by decide +kernel
theorem dX9_isParts_3 : decode cX9_isParts 3 = .ok (.iconst 1, 1) := by decide +kernel
theorem dX9_isParts_4 : decode cX9_isParts 4 = .ok (.aload_n 0, 1) := by decide +kernel
theorem dX9_isParts_5 : decode cX9_isParts 5 = .ok (.getfield 35, 3) := by decide +kernel
theorem dX9_isParts_8 : decode cX9_isParts 8 = .ok (.iconst 1, 1) := by decide +kernel
theorem dX9_isParts_9 : decode cX9_isParts 9 = .ok (.iaload, 1) := by decide +kernel
theorem dX9_isParts_10 : decode cX9_isParts 10 = .ok (.ishl, 1) := by decide +kernel
theorem dX9_isParts_11 : decode cX9_isParts 11 = .ok (.iconst 1, 1) := by decide +kernel
theorem dX9_isParts_12 : decode cX9_isParts 12 = .ok (.isub, 1) := by decide +kernel
theorem dX9_isParts_13 : decode cX9_isParts 13 = .ok (.i2l, 1) := by decide +kernel
theorem dX9_isParts_14 : decode cX9_isParts 14 = .ok (.invokestatic 95, 3) := by decide +kernel
theorem dX9_isParts_17 : decode cX9_isParts 17 = .ok (.ireturn, 1) := by decide +kernel
theorem dX9_told_0 : decode cX9_told 0 = .ok (.iload_n 1, 1) := by decide +kernel
theorem dX9_told_1 : decode cX9_told 1 = .ok (.tableswitch 88 0 6 #[43, 50, 57, 62, 67, 75, 80], 43) := by decide +kernel
theorem dX9_told_44 : decode cX9_told 44 = .ok (.aload_n 0, 1) := by decide +kernel
theorem dX9_told_45 : decode cX9_told 45 = .ok (.getfield 35, 3) := by decide +kernel
theorem dX9_told_48 : decode cX9_told 48 = .ok (.iconst 0, 1) := by decide +kernel
theorem dX9_told_49 : decode cX9_told 49 = .ok (.iaload, 1) := by decide +kernel
theorem dX9_told_50 : decode cX9_told 50 = .ok (.ireturn, 1) := by decide +kernel
theorem dX9_told_51 : decode cX9_told 51 = .ok (.aload_n 0, 1) := by decide +kernel
theorem dX9_told_52 : decode cX9_told 52 = .ok (.getfield 35, 3) := by decide +kernel
theorem dX9_told_55 : decode cX9_told 55 = .ok (.iconst 1, 1) := by decide +kernel
theorem dX9_told_56 : decode cX9_told 56 = .ok (.iaload, 1) := by decide +kernel
theorem dX9_told_57 : decode cX9_told 57 = .ok (.ireturn, 1) := by decide +kernel
theorem dX9_told_58 : decode cX9_told 58 = .ok (.aload_n 0, 1) := by decide +kernel
theorem dX9_told_59 : decode cX9_told 59 = .ok (.getfield 173, 3) := by decide +kernel
theorem dX9_told_62 : decode cX9_told 62 = .ok (.ireturn, 1) := by decide +kernel
theorem dX9_told_63 : decode cX9_told 63 = .ok (.aload_n 0, 1) := by decide +kernel
theorem dX9_told_64 : decode cX9_told 64 = .ok (.getfield 100, 3) := by decide +kernel
theorem dX9_told_67 : decode cX9_told 67 = .ok (.ireturn, 1) := by decide +kernel
theorem dX9_told_68 : decode cX9_told 68 = .ok (.aload_n 0, 1) := by decide +kernel
theorem dX9_told_69 : decode cX9_told 69 = .ok (.getfield 7, 3) := by decide +kernel
theorem dX9_told_72 : decode cX9_told 72 = .ok (.bipush 24, 2) := by decide +kernel
theorem dX9_told_74 : decode cX9_told 74 = .ok (.iaload, 1) := by decide +kernel
theorem dX9_told_75 : decode cX9_told 75 = .ok (.ireturn, 1) := by decide +kernel
theorem dX9_told_76 : decode cX9_told 76 = .ok (.aload_n 0, 1) := by decide +kernel
theorem dX9_told_77 : decode cX9_told 77 = .ok (.getfield 176, 3) := by decide +kernel
theorem dX9_told_80 : decode cX9_told 80 = .ok (.ireturn, 1) := by decide +kernel
theorem dX9_told_81 : decode cX9_told 81 = .ok (.aload_n 0, 1) := by decide +kernel
theorem dX9_told_82 : decode cX9_told 82 = .ok (.getfield 179, 3) := by decide +kernel
theorem dX9_told_85 : decode cX9_told 85 = .ok (.invokestatic 189, 3) := by decide +kernel
theorem dX9_told_88 : decode cX9_told 88 = .ok (.ireturn, 1) := by decide +kernel
theorem dX9_told_89 : decode cX9_told 89 = .ok (.ldc 99, 2) := by decide +kernel
theorem dX9_told_91 : decode cX9_told 91 = .ok (.ireturn, 1) := by decide +kernel
theorem dX9_partsAt_0 : decode cX9_partsAt 0 = .ok (.iconst 0, 1) := by decide +kernel
theorem dX9_partsAt_1 : decode cX9_partsAt 1 = .ok (.istore_n 2, 1) := by decide +kernel
theorem dX9_partsAt_2 : decode cX9_partsAt 2 = .ok (.iconst 0, 1) := by decide +kernel
theorem dX9_partsAt_3 : decode cX9_partsAt 3 = .ok (.istore_n 3, 1) := by decide +kernel
theorem dX9_partsAt_4 : decode cX9_partsAt 4 = .ok (.iload_n 3, 1) := by decide +kernel
theorem dX9_partsAt_5 : decode cX9_partsAt 5 = .ok (.aload_n 0, 1) := by decide +kernel
theorem dX9_partsAt_6 : decode cX9_partsAt 6 = .ok (.getfield 35, 3) := by decide +kernel
theorem dX9_partsAt_9 : decode cX9_partsAt 9 = .ok (.iconst 1, 1) := by decide +kernel
theorem dX9_partsAt_10 : decode cX9_partsAt 10 = .ok (.iaload, 1) := by decide +kernel
theorem dX9_partsAt_11 : decode cX9_partsAt 11 = .ok (.if_icmp .ge 32, 3) := by decide +kernel
theorem dX9_partsAt_14 : decode cX9_partsAt 14 = .ok (.iload_n 2, 1) := by decide +kernel
theorem dX9_partsAt_15 : decode cX9_partsAt 15 = .ok (.aload_n 0, 1) := by decide +kernel
theorem dX9_partsAt_16 : decode cX9_partsAt 16 = .ok (.getfield 7, 3) := by decide +kernel
theorem dX9_partsAt_19 : decode cX9_partsAt 19 = .ok (.iload_n 3, 1) := by decide +kernel
theorem dX9_partsAt_20 : decode cX9_partsAt 20 = .ok (.iaload, 1) := by decide +kernel
theorem dX9_partsAt_21 : decode cX9_partsAt 21 = .ok (.iload_n 1, 1) := by decide +kernel
theorem dX9_partsAt_22 : decode cX9_partsAt 22 = .ok (.if_icmp .ne 7, 3) := by decide +kernel
theorem dX9_partsAt_25 : decode cX9_partsAt 25 = .ok (.iconst 1, 1) := by decide +kernel
theorem dX9_partsAt_26 : decode cX9_partsAt 26 = .ok (.goto 4, 3) := by decide +kernel
theorem dX9_partsAt_29 : decode cX9_partsAt 29 = .ok (.iconst 0, 1) := by decide +kernel
theorem dX9_partsAt_30 : decode cX9_partsAt 30 = .ok (.invokestatic 150, 3) := by decide +kernel
theorem dX9_partsAt_33 : decode cX9_partsAt 33 = .ok (.iload_n 3, 1) := by decide +kernel
theorem dX9_partsAt_34 : decode cX9_partsAt 34 = .ok (.ishl, 1) := by decide +kernel
theorem dX9_partsAt_35 : decode cX9_partsAt 35 = .ok (.ior, 1) := by decide +kernel
theorem dX9_partsAt_36 : decode cX9_partsAt 36 = .ok (.istore_n 2, 1) := by decide +kernel
theorem dX9_partsAt_37 : decode cX9_partsAt 37 = .ok (.iinc 3 1, 3) := by decide +kernel
theorem dX9_partsAt_40 : decode cX9_partsAt 40 = .ok (.goto (-36), 3) := by decide +kernel
theorem dX9_partsAt_43 : decode cX9_partsAt 43 = .ok (.iload_n 2, 1) := by decide +kernel
theorem dX9_partsAt_44 : decode cX9_partsAt 44 = .ok (.ireturn, 1) := by decide +kernel
theorem dX9_house_0 : decode cX9_house 0 = .ok (.aload_n 0, 1) := by decide +kernel
theorem dX9_house_1 : decode cX9_house 1 = .ok (.iload_n 1, 1) := by decide +kernel
theorem dX9_house_2 : decode cX9_house 2 = .ok (.invokevirtual 193, 3) := by decide +kernel
theorem dX9_house_5 : decode cX9_house 5 = .ok (.ifCond .ne 6, 3) := by decide +kernel
theorem dX9_house_8 : decode cX9_house 8 = .ok (.ldc 197, 2) := by decide +kernel
theorem dX9_house_10 : decode cX9_house 10 = .ok (.ireturn, 1) := by decide +kernel
theorem dX9_house_11 : decode cX9_house 11 = .ok (.iload_n 2, 1) := by decide +kernel
theorem dX9_house_12 : decode cX9_house 12 = .ok (.i2l, 1) := by decide +kernel
theorem dX9_house_13 : decode cX9_house 13 = .ok (.lconst 0, 1) := by decide +kernel
theorem dX9_house_14 : decode cX9_house 14 = .ok (.ldc2_w 198, 3) := by decide +kernel
theorem dX9_house_17 : decode cX9_house 17 = .ok (.invokestatic 95, 3) := by decide +kernel
theorem dX9_house_20 : decode cX9_house 20 = .ok (.ifCond .eq 17, 3) := by decide +kernel
theorem dX9_house_23 : decode cX9_house 23 = .ok (.aload_n 0, 1) := by decide +kernel
theorem dX9_house_24 : decode cX9_house 24 = .ok (.getfield 17, 3) := by decide +kernel
theorem dX9_house_27 : decode cX9_house 27 = .ok (.bipush 6, 2) := by decide +kernel
theorem dX9_house_29 : decode cX9_house 29 = .ok (.iload_n 1, 1) := by decide +kernel
theorem dX9_house_30 : decode cX9_house 30 = .ok (.imul, 1) := by decide +kernel
theorem dX9_house_31 : decode cX9_house 31 = .ok (.iload_n 2, 1) := by decide +kernel
theorem dX9_house_32 : decode cX9_house 32 = .ok (.iadd, 1) := by decide +kernel
theorem dX9_house_33 : decode cX9_house 33 = .ok (.iaload, 1) := by decide +kernel
theorem dX9_house_34 : decode cX9_house 34 = .ok (.goto 19, 3) := by decide +kernel
theorem dX9_house_37 : decode cX9_house 37 = .ok (.iload_n 2, 1) := by decide +kernel
theorem dX9_house_38 : decode cX9_house 38 = .ok (.bipush 6, 2) := by decide +kernel
theorem dX9_house_40 : decode cX9_house 40 = .ok (.if_icmp .ne 11, 3) := by decide +kernel
theorem dX9_house_43 : decode cX9_house 43 = .ok (.aload_n 0, 1) := by decide +kernel
theorem dX9_house_44 : decode cX9_house 44 = .ok (.iload_n 1, 1) := by decide +kernel
theorem dX9_house_45 : decode cX9_house 45 = .ok (.invokevirtual 200, 3) := by decide +kernel
theorem dX9_house_48 : decode cX9_house 48 = .ok (.goto 5, 3) := by decide +kernel
theorem dX9_house_51 : decode cX9_house 51 = .ok (.ldc 99, 2) := by decide +kernel
theorem dX9_house_53 : decode cX9_house 53 = .ok (.ireturn, 1) := by decide +kernel
theorem dX9_far_0 : decode cX9_far 0 = .ok (.aload_n 0, 1) := by decide +kernel
theorem dX9_far_1 : decode cX9_far 1 = .ok (.iload_n 1, 1) := by decide +kernel
theorem dX9_far_2 : decode cX9_far 2 = .ok (.invokevirtual 193, 3) := by decide +kernel
theorem dX9_far_5 : decode cX9_far 5 = .ok (.ifCond .eq 20, 3) := by decide +kernel
theorem dX9_far_8 : decode cX9_far 8 = .ok (.aload_n 0, 1) := by decide +kernel
theorem dX9_far_9 : decode cX9_far 9 = .ok (.iload_n 2, 1) := by decide +kernel
theorem dX9_far_10 : decode cX9_far 10 = .ok (.invokevirtual 193, 3) := by decide +kernel
theorem dX9_far_13 : decode cX9_far 13 = .ok (.ifCond .eq 12, 3) := by decide +kernel
theorem dX9_far_16 : decode cX9_far 16 = .ok (.aload_n 0, 1) := by decide +kernel
theorem dX9_far_17 : decode cX9_far 17 = .ok (.iload_n 1, 1) := by decide +kernel
theorem dX9_far_18 : decode cX9_far 18 = .ok (.iload_n 2, 1) := by decide +kernel
theorem dX9_far_19 : decode cX9_far 19 = .ok (.invokevirtual 203, 3) := by decide +kernel
theorem dX9_far_22 : decode cX9_far 22 = .ok (.goto 5, 3) := by decide +kernel
theorem dX9_far_25 : decode cX9_far 25 = .ok (.ldc 197, 2) := by decide +kernel
theorem dX9_far_27 : decode cX9_far 27 = .ok (.ireturn, 1) := by decide +kernel
theorem dX9_part_0 : decode cX9_part 0 = .ok (.aload_n 0, 1) := by decide +kernel
theorem dX9_part_1 : decode cX9_part 1 = .ok (.iload_n 1, 1) := by decide +kernel
theorem dX9_part_2 : decode cX9_part 2 = .ok (.invokevirtual 206, 3) := by decide +kernel
theorem dX9_part_5 : decode cX9_part 5 = .ok (.ifCond .ne 6, 3) := by decide +kernel
theorem dX9_part_8 : decode cX9_part 8 = .ok (.ldc 197, 2) := by decide +kernel
theorem dX9_part_10 : decode cX9_part 10 = .ok (.ireturn, 1) := by decide +kernel
theorem dX9_part_11 : decode cX9_part 11 = .ok (.iload_n 2, 1) := by decide +kernel
theorem dX9_part_12 : decode cX9_part 12 = .ok (.tableswitch 85 0 5 #[40, 47, 54, 61, 68, 75], 40) := by decide +kernel
theorem dX9_part_52 : decode cX9_part 52 = .ok (.aload_n 0, 1) := by decide +kernel
theorem dX9_part_53 : decode cX9_part 53 = .ok (.getfield 7, 3) := by decide +kernel
theorem dX9_part_56 : decode cX9_part 56 = .ok (.iload_n 1, 1) := by decide +kernel
theorem dX9_part_57 : decode cX9_part 57 = .ok (.iaload, 1) := by decide +kernel
theorem dX9_part_58 : decode cX9_part 58 = .ok (.ireturn, 1) := by decide +kernel
theorem dX9_part_59 : decode cX9_part 59 = .ok (.aload_n 0, 1) := by decide +kernel
theorem dX9_part_60 : decode cX9_part 60 = .ok (.getfield 26, 3) := by decide +kernel
theorem dX9_part_63 : decode cX9_part 63 = .ok (.iload_n 1, 1) := by decide +kernel
theorem dX9_part_64 : decode cX9_part 64 = .ok (.iaload, 1) := by decide +kernel
theorem dX9_part_65 : decode cX9_part 65 = .ok (.ireturn, 1) := by decide +kernel
theorem dX9_part_66 : decode cX9_part 66 = .ok (.aload_n 0, 1) := by decide +kernel
theorem dX9_part_67 : decode cX9_part 67 = .ok (.getfield 29, 3) := by decide +kernel
theorem dX9_part_70 : decode cX9_part 70 = .ok (.iload_n 1, 1) := by decide +kernel
theorem dX9_part_71 : decode cX9_part 71 = .ok (.iaload, 1) := by decide +kernel
theorem dX9_part_72 : decode cX9_part 72 = .ok (.ireturn, 1) := by decide +kernel
theorem dX9_part_73 : decode cX9_part 73 = .ok (.aload_n 0, 1) := by decide +kernel
theorem dX9_part_74 : decode cX9_part 74 = .ok (.getfield 32, 3) := by decide +kernel
theorem dX9_part_77 : decode cX9_part 77 = .ok (.iload_n 1, 1) := by decide +kernel
theorem dX9_part_78 : decode cX9_part 78 = .ok (.iaload, 1) := by decide +kernel
theorem dX9_part_79 : decode cX9_part 79 = .ok (.ireturn, 1) := by decide +kernel
theorem dX9_part_80 : decode cX9_part 80 = .ok (.aload_n 0, 1) := by decide +kernel
theorem dX9_part_81 : decode cX9_part 81 = .ok (.getfield 44, 3) := by decide +kernel
theorem dX9_part_84 : decode cX9_part 84 = .ok (.iload_n 1, 1) := by decide +kernel
theorem dX9_part_85 : decode cX9_part 85 = .ok (.iaload, 1) := by decide +kernel
theorem dX9_part_86 : decode cX9_part 86 = .ok (.ireturn, 1) := by decide +kernel
theorem dX9_part_87 : decode cX9_part 87 = .ok (.aload_n 0, 1) := by decide +kernel
theorem dX9_part_88 : decode cX9_part 88 = .ok (.getfield 7, 3) := by decide +kernel
theorem dX9_part_91 : decode cX9_part 91 = .ok (.bipush 12, 2) := by decide +kernel
theorem dX9_part_93 : decode cX9_part 93 = .ok (.iload_n 1, 1) := by decide +kernel
theorem dX9_part_94 : decode cX9_part 94 = .ok (.iadd, 1) := by decide +kernel
theorem dX9_part_95 : decode cX9_part 95 = .ok (.iaload, 1) := by decide +kernel
theorem dX9_part_96 : decode cX9_part 96 = .ok (.ireturn, 1) := by decide +kernel
theorem dX9_part_97 : decode cX9_part 97 = .ok (.ldc 99, 2) := by decide +kernel
theorem dX9_part_99 : decode cX9_part 99 = .ok (.ireturn, 1) := by decide +kernel
theorem dX9_isAway_0 : decode cX9_isAway 0 = .ok (.iload_n 0, 1) := by decide +kernel
theorem dX9_isAway_1 : decode cX9_isAway 1 = .ok (.iload_n 2, 1) := by decide +kernel
theorem dX9_isAway_2 : decode cX9_isAway 2 = .ok (.if_icmp .eq 15, 3) := by decide +kernel
theorem dX9_isAway_5 : decode cX9_isAway 5 = .ok (.iload_n 1, 1) := by decide +kernel
theorem dX9_isAway_6 : decode cX9_isAway 6 = .ok (.iload_n 0, 1) := by decide +kernel
theorem dX9_isAway_7 : decode cX9_isAway 7 = .ok (.invokestatic 146, 3) := by decide +kernel
theorem dX9_isAway_10 : decode cX9_isAway 10 = .ok (.ifCond .eq 7, 3) := by decide +kernel
theorem dX9_isAway_13 : decode cX9_isAway 13 = .ok (.iconst 1, 1) := by decide +kernel
theorem dX9_isAway_14 : decode cX9_isAway 14 = .ok (.goto 4, 3) := by decide +kernel
theorem dX9_isAway_17 : decode cX9_isAway 17 = .ok (.iconst 0, 1) := by decide +kernel
theorem dX9_isAway_18 : decode cX9_isAway 18 = .ok (.ireturn, 1) := by decide +kernel
theorem dX9_goRound_0 : decode cX9_goRound 0 = .ok (.iload_n 2, 1) := by decide +kernel
theorem dX9_goRound_1 : decode cX9_goRound 1 = .ok (.istore 6, 2) := by decide +kernel
theorem dX9_goRound_3 : decode cX9_goRound 3 = .ok (.iload_n 1, 1) := by decide +kernel
theorem dX9_goRound_4 : decode cX9_goRound 4 = .ok (.istore 7, 2) := by decide +kernel
theorem dX9_goRound_6 : decode cX9_goRound 6 = .ok (.iconst 0, 1) := by decide +kernel
theorem dX9_goRound_7 : decode cX9_goRound 7 = .ok (.istore 8, 2) := by decide +kernel
theorem dX9_goRound_9 : decode cX9_goRound 9 = .ok (.iconst 0, 1) := by decide +kernel
theorem dX9_goRound_10 : decode cX9_goRound 10 = .ok (.istore 9, 2) := by decide +kernel
theorem dX9_goRound_12 : decode cX9_goRound 12 = .ok (.iload 9, 2) := by decide +kernel
theorem dX9_goRound_14 : decode cX9_goRound 14 = .ok (.aload_n 0, 1) := by decide +kernel
theorem dX9_goRound_15 : decode cX9_goRound 15 = .ok (.getfield 209, 3) := by decide +kernel
theorem dX9_goRound_18 : decode cX9_goRound 18 = .ok (.if_icmp .ge 104, 3) := by decide +kernel
theorem dX9_goRound_21 : decode cX9_goRound 21 = .ok (.iload 6, 2) := by decide +kernel
theorem dX9_goRound_23 : decode cX9_goRound 23 = .ok (.aload_n 0, 1) := by decide +kernel
theorem dX9_goRound_24 : decode cX9_goRound 24 = .ok (.iload 7, 2) := by decide +kernel
theorem dX9_goRound_26 : decode cX9_goRound 26 = .ok (.aload_n 0, 1) := by decide +kernel
theorem dX9_goRound_27 : decode cX9_goRound 27 = .ok (.getfield 63, 3) := by decide +kernel
theorem dX9_goRound_30 : decode cX9_goRound 30 = .ok (.iload 9, 2) := by decide +kernel
theorem dX9_goRound_32 : decode cX9_goRound 32 = .ok (.iaload, 1) := by decide +kernel
theorem dX9_goRound_33 : decode cX9_goRound 33 = .ok (.invokevirtual 203, 3) := by decide +kernel
theorem dX9_goRound_36 : decode cX9_goRound 36 = .ok (.iadd, 1) := by decide +kernel
theorem dX9_goRound_37 : decode cX9_goRound 37 = .ok (.istore 6, 2) := by decide +kernel
theorem dX9_goRound_39 : decode cX9_goRound 39 = .ok (.aload_n 0, 1) := by decide +kernel
theorem dX9_goRound_40 : decode cX9_goRound 40 = .ok (.getfield 63, 3) := by decide +kernel
theorem dX9_goRound_43 : decode cX9_goRound 43 = .ok (.iload 9, 2) := by decide +kernel
theorem dX9_goRound_45 : decode cX9_goRound 45 = .ok (.iaload, 1) := by decide +kernel
theorem dX9_goRound_46 : decode cX9_goRound 46 = .ok (.istore 7, 2) := by decide +kernel
theorem dX9_goRound_48 : decode cX9_goRound 48 = .ok (.iload 7, 2) := by decide +kernel
theorem dX9_goRound_50 : decode cX9_goRound 50 = .ok (.iload 5, 2) := by decide +kernel
theorem dX9_goRound_52 : decode cX9_goRound 52 = .ok (.iload 4, 2) := by decide +kernel
theorem dX9_goRound_54 : decode cX9_goRound 54 = .ok (.invokestatic 212, 3) := by decide +kernel
theorem dX9_goRound_57 : decode cX9_goRound 57 = .ok (.ifCond .eq 32, 3) := by decide +kernel
theorem dX9_goRound_60 : decode cX9_goRound 60 = .ok (.iload 6, 2) := by decide +kernel
theorem dX9_goRound_62 : decode cX9_goRound 62 = .ok (.aload_n 0, 1) := by decide +kernel
theorem dX9_goRound_63 : decode cX9_goRound 63 = .ok (.getfield 17, 3) := by decide +kernel
theorem dX9_goRound_66 : decode cX9_goRound 66 = .ok (.bipush 6, 2) := by decide +kernel
theorem dX9_goRound_68 : decode cX9_goRound 68 = .ok (.iload 7, 2) := by decide +kernel
theorem dX9_goRound_70 : decode cX9_goRound 70 = .ok (.imul, 1) := by decide +kernel
theorem dX9_goRound_71 : decode cX9_goRound 71 = .ok (.iconst 1, 1) := by decide +kernel
theorem dX9_goRound_72 : decode cX9_goRound 72 = .ok (.iadd, 1) := by decide +kernel
theorem dX9_goRound_73 : decode cX9_goRound 73 = .ok (.iaload, 1) := by decide +kernel
theorem dX9_goRound_74 : decode cX9_goRound 74 = .ok (.iadd, 1) := by decide +kernel
theorem dX9_goRound_75 : decode cX9_goRound 75 = .ok (.istore 6, 2) := by decide +kernel
theorem dX9_goRound_77 : decode cX9_goRound 77 = .ok (.iload 8, 2) := by decide +kernel
theorem dX9_goRound_79 : decode cX9_goRound 79 = .ok (.iconst 1, 1) := by decide +kernel
theorem dX9_goRound_80 : decode cX9_goRound 80 = .ok (.iload 7, 2) := by decide +kernel
theorem dX9_goRound_82 : decode cX9_goRound 82 = .ok (.ishl, 1) := by decide +kernel
theorem dX9_goRound_83 : decode cX9_goRound 83 = .ok (.ior, 1) := by decide +kernel
theorem dX9_goRound_84 : decode cX9_goRound 84 = .ok (.istore 8, 2) := by decide +kernel
theorem dX9_goRound_86 : decode cX9_goRound 86 = .ok (.goto 30, 3) := by decide +kernel
theorem dX9_goRound_89 : decode cX9_goRound 89 = .ok (.iload 7, 2) := by decide +kernel
theorem dX9_goRound_91 : decode cX9_goRound 91 = .ok (.iload 4, 2) := by decide +kernel
theorem dX9_goRound_93 : decode cX9_goRound 93 = .ok (.if_icmp .eq 23, 3) := by decide +kernel
theorem dX9_goRound_96 : decode cX9_goRound 96 = .ok (.aload_n 0, 1) := by decide +kernel
theorem dX9_goRound_97 : decode cX9_goRound 97 = .ok (.getfield 57, 3) := by decide +kernel
theorem dX9_goRound_100 : decode cX9_goRound 100 = .ok (.iload 7, 2) := by decide +kernel
theorem dX9_goRound_102 : decode cX9_goRound 102 = .ok (.iload 6, 2) := by decide +kernel
theorem dX9_goRound_104 : decode cX9_goRound 104 = .ok (.aload_n 0, 1) := by decide +kernel
theorem dX9_goRound_105 : decode cX9_goRound 105 = .ok (.getfield 17, 3) := by decide +kernel
theorem dX9_goRound_108 : decode cX9_goRound 108 = .ok (.bipush 6, 2) := by decide +kernel
theorem dX9_goRound_110 : decode cX9_goRound 110 = .ok (.iload 7, 2) := by decide +kernel
theorem dX9_goRound_112 : decode cX9_goRound 112 = .ok (.imul, 1) := by decide +kernel
theorem dX9_goRound_113 : decode cX9_goRound 113 = .ok (.iaload, 1) := by decide +kernel
theorem dX9_goRound_114 : decode cX9_goRound 114 = .ok (.iadd, 1) := by decide +kernel
theorem dX9_goRound_115 : decode cX9_goRound 115 = .ok (.iastore, 1) := by decide +kernel
theorem dX9_goRound_116 : decode cX9_goRound 116 = .ok (.iinc 9 1, 3) := by decide +kernel
theorem dX9_goRound_119 : decode cX9_goRound 119 = .ok (.goto (-107), 3) := by decide +kernel
theorem dX9_goRound_122 : decode cX9_goRound 122 = .ok (.iconst 0, 1) := by decide +kernel
theorem dX9_goRound_123 : decode cX9_goRound 123 = .ok (.istore 9, 2) := by decide +kernel
theorem dX9_goRound_125 : decode cX9_goRound 125 = .ok (.iload 9, 2) := by decide +kernel
theorem dX9_goRound_127 : decode cX9_goRound 127 = .ok (.aload_n 0, 1) := by decide +kernel
theorem dX9_goRound_128 : decode cX9_goRound 128 = .ok (.getfield 35, 3) := by decide +kernel
theorem dX9_goRound_131 : decode cX9_goRound 131 = .ok (.iconst 0, 1) := by decide +kernel
theorem dX9_goRound_132 : decode cX9_goRound 132 = .ok (.iaload, 1) := by decide +kernel
theorem dX9_goRound_133 : decode cX9_goRound 133 = .ok (.if_icmp .ge 46, 3) := by decide +kernel
theorem dX9_goRound_136 : decode cX9_goRound 136 = .ok (.aload_n 0, 1) := by decide +kernel
theorem dX9_goRound_137 : decode cX9_goRound 137 = .ok (.getfield 60, 3) := by decide +kernel
theorem dX9_goRound_140 : decode cX9_goRound 140 = .ok (.iload 9, 2) := by decide +kernel
theorem dX9_goRound_142 : decode cX9_goRound 142 = .ok (.iload 8, 2) := by decide +kernel
theorem dX9_goRound_144 : decode cX9_goRound 144 = .ok (.iload 9, 2) := by decide +kernel
theorem dX9_goRound_146 : decode cX9_goRound 146 = .ok (.invokestatic 146, 3) := by decide +kernel
theorem dX9_goRound_149 : decode cX9_goRound 149 = .ok (.ifCond .eq 16, 3) := by decide +kernel
theorem dX9_goRound_152 : decode cX9_goRound 152 = .ok (.iload 6, 2) := by decide +kernel
theorem dX9_goRound_154 : decode cX9_goRound 154 = .ok (.aload_n 0, 1) := by decide +kernel
theorem dX9_goRound_155 : decode cX9_goRound 155 = .ok (.iload 7, 2) := by decide +kernel
theorem dX9_goRound_157 : decode cX9_goRound 157 = .ok (.iload_n 3, 1) := by decide +kernel
theorem dX9_goRound_158 : decode cX9_goRound 158 = .ok (.invokevirtual 203, 3) := by decide +kernel
theorem dX9_goRound_161 : decode cX9_goRound 161 = .ok (.iadd, 1) := by decide +kernel
theorem dX9_goRound_162 : decode cX9_goRound 162 = .ok (.goto 10, 3) := by decide +kernel
theorem dX9_goRound_165 : decode cX9_goRound 165 = .ok (.aload_n 0, 1) := by decide +kernel
theorem dX9_goRound_166 : decode cX9_goRound 166 = .ok (.getfield 60, 3) := by decide +kernel
theorem dX9_goRound_169 : decode cX9_goRound 169 = .ok (.iload 9, 2) := by decide +kernel
theorem dX9_goRound_171 : decode cX9_goRound 171 = .ok (.iaload, 1) := by decide +kernel
theorem dX9_goRound_172 : decode cX9_goRound 172 = .ok (.iastore, 1) := by decide +kernel
theorem dX9_goRound_173 : decode cX9_goRound 173 = .ok (.iinc 9 1, 3) := by decide +kernel
theorem dX9_goRound_176 : decode cX9_goRound 176 = .ok (.goto (-51), 3) := by decide +kernel
theorem dX9_goRound_179 : decode cX9_goRound 179 = .ok (.return_, 1) := by decide +kernel
theorem dX9_begin_0 : decode cX9_begin 0 = .ok (.iconst 0, 1) := by decide +kernel
theorem dX9_begin_1 : decode cX9_begin 1 = .ok (.istore_n 2, 1) := by decide +kernel
theorem dX9_begin_2 : decode cX9_begin 2 = .ok (.iload_n 2, 1) := by decide +kernel
theorem dX9_begin_3 : decode cX9_begin 3 = .ok (.bipush 9, 2) := by decide +kernel
theorem dX9_begin_5 : decode cX9_begin 5 = .ok (.if_icmp .ge 32, 3) := by decide +kernel
theorem dX9_begin_8 : decode cX9_begin 8 = .ok (.aload_n 0, 1) := by decide +kernel
theorem dX9_begin_9 : decode cX9_begin 9 = .ok (.getfield 57, 3) := by decide +kernel
theorem dX9_begin_12 : decode cX9_begin 12 = .ok (.iload_n 2, 1) := by decide +kernel
theorem dX9_begin_13 : decode cX9_begin 13 = .ok (.iload_n 2, 1) := by decide +kernel
theorem dX9_begin_14 : decode cX9_begin 14 = .ok (.iload_n 1, 1) := by decide +kernel
theorem dX9_begin_15 : decode cX9_begin 15 = .ok (.if_icmp .ne 7, 3) := by decide +kernel
theorem dX9_begin_18 : decode cX9_begin 18 = .ok (.iconst 0, 1) := by decide +kernel
theorem dX9_begin_19 : decode cX9_begin 19 = .ok (.goto 4, 3) := by decide +kernel
theorem dX9_begin_22 : decode cX9_begin 22 = .ok (.iconst (-1), 1) := by decide +kernel
theorem dX9_begin_23 : decode cX9_begin 23 = .ok (.iastore, 1) := by decide +kernel
theorem dX9_begin_24 : decode cX9_begin 24 = .ok (.aload_n 0, 1) := by decide +kernel
theorem dX9_begin_25 : decode cX9_begin 25 = .ok (.getfield 60, 3) := by decide +kernel
theorem dX9_begin_28 : decode cX9_begin 28 = .ok (.iload_n 2, 1) := by decide +kernel
theorem dX9_begin_29 : decode cX9_begin 29 = .ok (.iconst (-1), 1) := by decide +kernel
theorem dX9_begin_30 : decode cX9_begin 30 = .ok (.iastore, 1) := by decide +kernel
theorem dX9_begin_31 : decode cX9_begin 31 = .ok (.iinc 2 1, 3) := by decide +kernel
theorem dX9_begin_34 : decode cX9_begin 34 = .ok (.goto (-32), 3) := by decide +kernel
theorem dX9_begin_37 : decode cX9_begin 37 = .ok (.return_, 1) := by decide +kernel
theorem dX9_arriveAwake_0 : decode cX9_arriveAwake 0 = .ok (.iconst 0, 1) := by decide +kernel
theorem dX9_arriveAwake_1 : decode cX9_arriveAwake 1 = .ok (.istore_n 2, 1) := by decide +kernel
theorem dX9_arriveAwake_2 : decode cX9_arriveAwake 2 = .ok (.iload_n 2, 1) := by decide +kernel
theorem dX9_arriveAwake_3 : decode cX9_arriveAwake 3 = .ok (.aload_n 0, 1) := by decide +kernel
theorem dX9_arriveAwake_4 : decode cX9_arriveAwake 4 = .ok (.getfield 35, 3) := by decide +kernel
theorem dX9_arriveAwake_7 : decode cX9_arriveAwake 7 = .ok (.iconst 0, 1) := by decide +kernel
theorem dX9_arriveAwake_8 : decode cX9_arriveAwake 8 = .ok (.iaload, 1) := by decide +kernel
theorem dX9_arriveAwake_9 : decode cX9_arriveAwake 9 = .ok (.if_icmp .ge 46, 3) := by decide +kernel
theorem dX9_arriveAwake_12 : decode cX9_arriveAwake 12 = .ok (.aload_n 0, 1) := by decide +kernel
theorem dX9_arriveAwake_13 : decode cX9_arriveAwake 13 = .ok (.getfield 60, 3) := by decide +kernel
theorem dX9_arriveAwake_16 : decode cX9_arriveAwake 16 = .ok (.iload_n 2, 1) := by decide +kernel
theorem dX9_arriveAwake_17 : decode cX9_arriveAwake 17 = .ok (.aload_n 0, 1) := by decide +kernel
theorem dX9_arriveAwake_18 : decode cX9_arriveAwake 18 = .ok (.getfield 57, 3) := by decide +kernel
theorem dX9_arriveAwake_21 : decode cX9_arriveAwake 21 = .ok (.iload_n 2, 1) := by decide +kernel
theorem dX9_arriveAwake_22 : decode cX9_arriveAwake 22 = .ok (.iaload, 1) := by decide +kernel
theorem dX9_arriveAwake_23 : decode cX9_arriveAwake 23 = .ok (.ifCond .lt 19, 3) := by decide +kernel
theorem dX9_arriveAwake_26 : decode cX9_arriveAwake 26 = .ok (.aload_n 0, 1) := by decide +kernel
theorem dX9_arriveAwake_27 : decode cX9_arriveAwake 27 = .ok (.getfield 57, 3) := by decide +kernel
theorem dX9_arriveAwake_30 : decode cX9_arriveAwake 30 = .ok (.iload_n 2, 1) := by decide +kernel
theorem dX9_arriveAwake_31 : decode cX9_arriveAwake 31 = .ok (.iaload, 1) := by decide +kernel
theorem dX9_arriveAwake_32 : decode cX9_arriveAwake 32 = .ok (.aload_n 0, 1) := by decide +kernel
theorem dX9_arriveAwake_33 : decode cX9_arriveAwake 33 = .ok (.iload_n 2, 1) := by decide +kernel
theorem dX9_arriveAwake_34 : decode cX9_arriveAwake 34 = .ok (.iload_n 1, 1) := by decide +kernel
theorem dX9_arriveAwake_35 : decode cX9_arriveAwake 35 = .ok (.invokevirtual 203, 3) := by decide +kernel
theorem dX9_arriveAwake_38 : decode cX9_arriveAwake 38 = .ok (.iadd, 1) := by decide +kernel
theorem dX9_arriveAwake_39 : decode cX9_arriveAwake 39 = .ok (.goto 9, 3) := by decide +kernel
theorem dX9_arriveAwake_42 : decode cX9_arriveAwake 42 = .ok (.aload_n 0, 1) := by decide +kernel
theorem dX9_arriveAwake_43 : decode cX9_arriveAwake 43 = .ok (.getfield 60, 3) := by decide +kernel
theorem dX9_arriveAwake_46 : decode cX9_arriveAwake 46 = .ok (.iload_n 2, 1) := by decide +kernel
theorem dX9_arriveAwake_47 : decode cX9_arriveAwake 47 = .ok (.iaload, 1) := by decide +kernel
theorem dX9_arriveAwake_48 : decode cX9_arriveAwake 48 = .ok (.iastore, 1) := by decide +kernel
theorem dX9_arriveAwake_49 : decode cX9_arriveAwake 49 = .ok (.iinc 2 1, 3) := by decide +kernel
theorem dX9_arriveAwake_52 : decode cX9_arriveAwake 52 = .ok (.goto (-50), 3) := by decide +kernel
theorem dX9_arriveAwake_55 : decode cX9_arriveAwake 55 = .ok (.return_, 1) := by decide +kernel
theorem dX9_burn_0 : decode cX9_burn 0 = .ok (.aload_n 0, 1) := by decide +kernel
theorem dX9_burn_1 : decode cX9_burn 1 = .ok (.iload_n 2, 1) := by decide +kernel
theorem dX9_burn_2 : decode cX9_burn 2 = .ok (.invokevirtual 216, 3) := by decide +kernel
theorem dX9_burn_5 : decode cX9_burn 5 = .ok (.iconst 0, 1) := by decide +kernel
theorem dX9_burn_6 : decode cX9_burn 6 = .ok (.istore 4, 2) := by decide +kernel
theorem dX9_burn_8 : decode cX9_burn 8 = .ok (.iconst 1, 1) := by decide +kernel
theorem dX9_burn_9 : decode cX9_burn 9 = .ok (.istore 5, 2) := by decide +kernel
theorem dX9_burn_11 : decode cX9_burn 11 = .ok (.iload 5, 2) := by decide +kernel
theorem dX9_burn_13 : decode cX9_burn 13 = .ok (.ifCond .eq 138, 3) := by decide +kernel
theorem dX9_burn_16 : decode cX9_burn 16 = .ok (.iconst 0, 1) := by decide +kernel
theorem dX9_burn_17 : decode cX9_burn 17 = .ok (.istore 5, 2) := by decide +kernel
theorem dX9_burn_19 : decode cX9_burn 19 = .ok (.iconst 0, 1) := by decide +kernel
theorem dX9_burn_20 : decode cX9_burn 20 = .ok (.istore 6, 2) := by decide +kernel
theorem dX9_burn_22 : decode cX9_burn 22 = .ok (.iload 6, 2) := by decide +kernel
theorem dX9_burn_24 : decode cX9_burn 24 = .ok (.aload_n 0, 1) := by decide +kernel
theorem dX9_burn_25 : decode cX9_burn 25 = .ok (.getfield 35, 3) := by decide +kernel
theorem dX9_burn_28 : decode cX9_burn 28 = .ok (.iconst 0, 1) := by decide +kernel
theorem dX9_burn_29 : decode cX9_burn 29 = .ok (.iaload, 1) := by decide +kernel
theorem dX9_burn_30 : decode cX9_burn 30 = .ok (.if_icmp .ge 118, 3) := by decide +kernel
theorem dX9_burn_33 : decode cX9_burn 33 = .ok (.aload_n 0, 1) := by decide +kernel
theorem dX9_burn_34 : decode cX9_burn 34 = .ok (.getfield 57, 3) := by decide +kernel
theorem dX9_burn_37 : decode cX9_burn 37 = .ok (.iload 6, 2) := by decide +kernel
theorem dX9_burn_39 : decode cX9_burn 39 = .ok (.iaload, 1) := by decide +kernel
theorem dX9_burn_40 : decode cX9_burn 40 = .ok (.ifCond .lt 102, 3) := by decide +kernel
theorem dX9_burn_43 : decode cX9_burn 43 = .ok (.iload 4, 2) := by decide +kernel
theorem dX9_burn_45 : decode cX9_burn 45 = .ok (.iload 6, 2) := by decide +kernel
theorem dX9_burn_47 : decode cX9_burn 47 = .ok (.invokestatic 146, 3) := by decide +kernel
theorem dX9_burn_50 : decode cX9_burn 50 = .ok (.ifCond .ne 92, 3) := by decide +kernel
theorem dX9_burn_53 : decode cX9_burn 53 = .ok (.iload 4, 2) := by decide +kernel
theorem dX9_burn_55 : decode cX9_burn 55 = .ok (.iconst 1, 1) := by decide +kernel
theorem dX9_burn_56 : decode cX9_burn 56 = .ok (.iload 6, 2) := by decide +kernel
theorem dX9_burn_58 : decode cX9_burn 58 = .ok (.ishl, 1) := by decide +kernel
theorem dX9_burn_59 : decode cX9_burn 59 = .ok (.ior, 1) := by decide +kernel
theorem dX9_burn_60 : decode cX9_burn 60 = .ok (.istore 4, 2) := by decide +kernel
theorem dX9_burn_62 : decode cX9_burn 62 = .ok (.iconst 1, 1) := by decide +kernel
theorem dX9_burn_63 : decode cX9_burn 63 = .ok (.istore 5, 2) := by decide +kernel
theorem dX9_burn_65 : decode cX9_burn 65 = .ok (.aload_n 0, 1) := by decide +kernel
theorem dX9_burn_66 : decode cX9_burn 66 = .ok (.iconst 0, 1) := by decide +kernel
theorem dX9_burn_67 : decode cX9_burn 67 = .ok (.putfield 209, 3) := by decide +kernel
theorem dX9_burn_70 : decode cX9_burn 70 = .ok (.iconst 0, 1) := by decide +kernel
theorem dX9_burn_71 : decode cX9_burn 71 = .ok (.istore 7, 2) := by decide +kernel
theorem dX9_burn_73 : decode cX9_burn 73 = .ok (.iload 7, 2) := by decide +kernel
theorem dX9_burn_75 : decode cX9_burn 75 = .ok (.aload_n 0, 1) := by decide +kernel
theorem dX9_burn_76 : decode cX9_burn 76 = .ok (.getfield 173, 3) := by decide +kernel
theorem dX9_burn_79 : decode cX9_burn 79 = .ok (.if_icmp .ge 47, 3) := by decide +kernel
theorem dX9_burn_82 : decode cX9_burn 82 = .ok (.aload_n 0, 1) := by decide +kernel
theorem dX9_burn_83 : decode cX9_burn 83 = .ok (.getfield 38, 3) := by decide +kernel
theorem dX9_burn_86 : decode cX9_burn 86 = .ok (.iload 7, 2) := by decide +kernel
theorem dX9_burn_88 : decode cX9_burn 88 = .ok (.iaload, 1) := by decide +kernel
theorem dX9_burn_89 : decode cX9_burn 89 = .ok (.iload 6, 2) := by decide +kernel
theorem dX9_burn_91 : decode cX9_burn 91 = .ok (.if_icmp .ne 29, 3) := by decide +kernel
theorem dX9_burn_94 : decode cX9_burn 94 = .ok (.aload_n 0, 1) := by decide +kernel
theorem dX9_burn_95 : decode cX9_burn 95 = .ok (.getfield 63, 3) := by decide +kernel
theorem dX9_burn_98 : decode cX9_burn 98 = .ok (.aload_n 0, 1) := by decide +kernel
theorem dX9_burn_99 : decode cX9_burn 99 = .ok (.getfield 209, 3) := by decide +kernel
theorem dX9_burn_102 : decode cX9_burn 102 = .ok (.aload_n 0, 1) := by decide +kernel
theorem dX9_burn_103 : decode cX9_burn 103 = .ok (.getfield 41, 3) := by decide +kernel
theorem dX9_burn_106 : decode cX9_burn 106 = .ok (.iload 7, 2) := by decide +kernel
theorem dX9_burn_108 : decode cX9_burn 108 = .ok (.iaload, 1) := by decide +kernel
theorem dX9_burn_109 : decode cX9_burn 109 = .ok (.iastore, 1) := by decide +kernel
theorem dX9_burn_110 : decode cX9_burn 110 = .ok (.aload_n 0, 1) := by decide +kernel
theorem dX9_burn_111 : decode cX9_burn 111 = .ok (.dup, 1) := by decide +kernel
theorem dX9_burn_112 : decode cX9_burn 112 = .ok (.getfield 209, 3) := by decide +kernel
theorem dX9_burn_115 : decode cX9_burn 115 = .ok (.iconst 1, 1) := by decide +kernel
theorem dX9_burn_116 : decode cX9_burn 116 = .ok (.iadd, 1) := by decide +kernel
theorem dX9_burn_117 : decode cX9_burn 117 = .ok (.putfield 209, 3) := by decide +kernel
theorem dX9_burn_120 : decode cX9_burn 120 = .ok (.iinc 7 1, 3) := by decide +kernel
theorem dX9_burn_123 : decode cX9_burn 123 = .ok (.goto (-50), 3) := by decide +kernel
theorem dX9_burn_126 : decode cX9_burn 126 = .ok (.aload_n 0, 1) := by decide +kernel
theorem dX9_burn_127 : decode cX9_burn 127 = .ok (.iload 6, 2) := by decide +kernel
theorem dX9_burn_129 : decode cX9_burn 129 = .ok (.aload_n 0, 1) := by decide +kernel
theorem dX9_burn_130 : decode cX9_burn 130 = .ok (.getfield 57, 3) := by decide +kernel
theorem dX9_burn_133 : decode cX9_burn 133 = .ok (.iload 6, 2) := by decide +kernel
theorem dX9_burn_135 : decode cX9_burn 135 = .ok (.iaload, 1) := by decide +kernel
theorem dX9_burn_136 : decode cX9_burn 136 = .ok (.iload_n 1, 1) := by decide +kernel
theorem dX9_burn_137 : decode cX9_burn 137 = .ok (.iload_n 2, 1) := by decide +kernel
theorem dX9_burn_138 : decode cX9_burn 138 = .ok (.iload_n 3, 1) := by decide +kernel
theorem dX9_burn_139 : decode cX9_burn 139 = .ok (.invokevirtual 219, 3) := by decide +kernel
theorem dX9_burn_142 : decode cX9_burn 142 = .ok (.iinc 6 1, 3) := by decide +kernel
theorem dX9_burn_145 : decode cX9_burn 145 = .ok (.goto (-123), 3) := by decide +kernel
theorem dX9_burn_148 : decode cX9_burn 148 = .ok (.goto (-137), 3) := by decide +kernel
theorem dX9_burn_151 : decode cX9_burn 151 = .ok (.aload_n 0, 1) := by decide +kernel
theorem dX9_burn_152 : decode cX9_burn 152 = .ok (.iload_n 1, 1) := by decide +kernel
theorem dX9_burn_153 : decode cX9_burn 153 = .ok (.invokevirtual 223, 3) := by decide +kernel
theorem dX9_burn_156 : decode cX9_burn 156 = .ok (.return_, 1) := by decide +kernel
theorem dX9_comeAll_0 : decode cX9_comeAll 0 = .ok (.iconst 0, 1) := by decide +kernel
theorem dX9_comeAll_1 : decode cX9_comeAll 1 = .ok (.istore_n 1, 1) := by decide +kernel
theorem dX9_comeAll_2 : decode cX9_comeAll 2 = .ok (.iload_n 1, 1) := by decide +kernel
theorem dX9_comeAll_3 : decode cX9_comeAll 3 = .ok (.aload_n 0, 1) := by decide +kernel
theorem dX9_comeAll_4 : decode cX9_comeAll 4 = .ok (.getfield 35, 3) := by decide +kernel
theorem dX9_comeAll_7 : decode cX9_comeAll 7 = .ok (.iconst 1, 1) := by decide +kernel
theorem dX9_comeAll_8 : decode cX9_comeAll 8 = .ok (.iaload, 1) := by decide +kernel
theorem dX9_comeAll_9 : decode cX9_comeAll 9 = .ok (.if_icmp .ge 26, 3) := by decide +kernel
theorem dX9_comeAll_12 : decode cX9_comeAll 12 = .ok (.aload_n 0, 1) := by decide +kernel
theorem dX9_comeAll_13 : decode cX9_comeAll 13 = .ok (.getfield 66, 3) := by decide +kernel
theorem dX9_comeAll_16 : decode cX9_comeAll 16 = .ok (.iload_n 1, 1) := by decide +kernel
theorem dX9_comeAll_17 : decode cX9_comeAll 17 = .ok (.aload_n 0, 1) := by decide +kernel
theorem dX9_comeAll_18 : decode cX9_comeAll 18 = .ok (.getfield 60, 3) := by decide +kernel
theorem dX9_comeAll_21 : decode cX9_comeAll 21 = .ok (.aload_n 0, 1) := by decide +kernel
theorem dX9_comeAll_22 : decode cX9_comeAll 22 = .ok (.getfield 7, 3) := by decide +kernel
theorem dX9_comeAll_25 : decode cX9_comeAll 25 = .ok (.iload_n 1, 1) := by decide +kernel
theorem dX9_comeAll_26 : decode cX9_comeAll 26 = .ok (.iaload, 1) := by decide +kernel
theorem dX9_comeAll_27 : decode cX9_comeAll 27 = .ok (.iaload, 1) := by decide +kernel
theorem dX9_comeAll_28 : decode cX9_comeAll 28 = .ok (.iastore, 1) := by decide +kernel
theorem dX9_comeAll_29 : decode cX9_comeAll 29 = .ok (.iinc 1 1, 3) := by decide +kernel
theorem dX9_comeAll_32 : decode cX9_comeAll 32 = .ok (.goto (-30), 3) := by decide +kernel
theorem dX9_comeAll_35 : decode cX9_comeAll 35 = .ok (.return_, 1) := by decide +kernel
theorem dX9_putIn_0 : decode cX9_putIn 0 = .ok (.aload_n 0, 1) := by decide +kernel
theorem dX9_putIn_1 : decode cX9_putIn 1 = .ok (.iconst 0, 1) := by decide +kernel
theorem dX9_putIn_2 : decode cX9_putIn 2 = .ok (.putfield 226, 3) := by decide +kernel
theorem dX9_putIn_5 : decode cX9_putIn 5 = .ok (.iconst 0, 1) := by decide +kernel
theorem dX9_putIn_6 : decode cX9_putIn 6 = .ok (.istore_n 2, 1) := by decide +kernel
theorem dX9_putIn_7 : decode cX9_putIn 7 = .ok (.iload_n 2, 1) := by decide +kernel
theorem dX9_putIn_8 : decode cX9_putIn 8 = .ok (.aload_n 0, 1) := by decide +kernel
theorem dX9_putIn_9 : decode cX9_putIn 9 = .ok (.getfield 35, 3) := by decide +kernel
theorem dX9_putIn_12 : decode cX9_putIn 12 = .ok (.iconst 1, 1) := by decide +kernel
theorem dX9_putIn_13 : decode cX9_putIn 13 = .ok (.iaload, 1) := by decide +kernel
theorem dX9_putIn_14 : decode cX9_putIn 14 = .ok (.if_icmp .ge 181, 3) := by decide +kernel
theorem dX9_putIn_17 : decode cX9_putIn 17 = .ok (.iload_n 1, 1) := by decide +kernel
theorem dX9_putIn_18 : decode cX9_putIn 18 = .ok (.iload_n 2, 1) := by decide +kernel
theorem dX9_putIn_19 : decode cX9_putIn 19 = .ok (.invokestatic 146, 3) := by decide +kernel
theorem dX9_putIn_22 : decode cX9_putIn 22 = .ok (.ifCond .eq 167, 3) := by decide +kernel
theorem dX9_putIn_25 : decode cX9_putIn 25 = .ok (.aload_n 0, 1) := by decide +kernel
theorem dX9_putIn_26 : decode cX9_putIn 26 = .ok (.getfield 66, 3) := by decide +kernel
theorem dX9_putIn_29 : decode cX9_putIn 29 = .ok (.iload_n 2, 1) := by decide +kernel
theorem dX9_putIn_30 : decode cX9_putIn 30 = .ok (.iaload, 1) := by decide +kernel
theorem dX9_putIn_31 : decode cX9_putIn 31 = .ok (.ifCond .ge 5, 3) := by decide +kernel
theorem dX9_putIn_34 : decode cX9_putIn 34 = .ok (.iconst (-1), 1) := by decide +kernel
theorem dX9_putIn_35 : decode cX9_putIn 35 = .ok (.ireturn, 1) := by decide +kernel
theorem dX9_putIn_36 : decode cX9_putIn 36 = .ok (.aload_n 0, 1) := by decide +kernel
theorem dX9_putIn_37 : decode cX9_putIn 37 = .ok (.getfield 69, 3) := by decide +kernel
theorem dX9_putIn_40 : decode cX9_putIn 40 = .ok (.iload_n 2, 1) := by decide +kernel
theorem dX9_putIn_41 : decode cX9_putIn 41 = .ok (.aload_n 0, 1) := by decide +kernel
theorem dX9_putIn_42 : decode cX9_putIn 42 = .ok (.getfield 66, 3) := by decide +kernel
theorem dX9_putIn_45 : decode cX9_putIn 45 = .ok (.iload_n 2, 1) := by decide +kernel
theorem dX9_putIn_46 : decode cX9_putIn 46 = .ok (.iaload, 1) := by decide +kernel
theorem dX9_putIn_47 : decode cX9_putIn 47 = .ok (.iastore, 1) := by decide +kernel
theorem dX9_putIn_48 : decode cX9_putIn 48 = .ok (.iconst 0, 1) := by decide +kernel
theorem dX9_putIn_49 : decode cX9_putIn 49 = .ok (.istore_n 3, 1) := by decide +kernel
theorem dX9_putIn_50 : decode cX9_putIn 50 = .ok (.iload_n 3, 1) := by decide +kernel
theorem dX9_putIn_51 : decode cX9_putIn 51 = .ok (.iload_n 2, 1) := by decide +kernel
theorem dX9_putIn_52 : decode cX9_putIn 52 = .ok (.if_icmp .ge 69, 3) := by decide +kernel
theorem dX9_putIn_55 : decode cX9_putIn 55 = .ok (.aload_n 0, 1) := by decide +kernel
theorem dX9_putIn_56 : decode cX9_putIn 56 = .ok (.getfield 32, 3) := by decide +kernel
theorem dX9_putIn_59 : decode cX9_putIn 59 = .ok (.iload_n 2, 1) := by decide +kernel
theorem dX9_putIn_60 : decode cX9_putIn 60 = .ok (.iaload, 1) := by decide +kernel
theorem dX9_putIn_61 : decode cX9_putIn 61 = .ok (.iload_n 3, 1) := by decide +kernel
theorem dX9_putIn_62 : decode cX9_putIn 62 = .ok (.invokestatic 146, 3) := by decide +kernel
theorem dX9_putIn_65 : decode cX9_putIn 65 = .ok (.ifCond .eq 19, 3) := by decide +kernel
theorem dX9_putIn_68 : decode cX9_putIn 68 = .ok (.aload_n 0, 1) := by decide +kernel
theorem dX9_putIn_69 : decode cX9_putIn 69 = .ok (.getfield 69, 3) := by decide +kernel
theorem dX9_putIn_72 : decode cX9_putIn 72 = .ok (.iload_n 3, 1) := by decide +kernel
theorem dX9_putIn_73 : decode cX9_putIn 73 = .ok (.iaload, 1) := by decide +kernel
theorem dX9_putIn_74 : decode cX9_putIn 74 = .ok (.aload_n 0, 1) := by decide +kernel
theorem dX9_putIn_75 : decode cX9_putIn 75 = .ok (.getfield 26, 3) := by decide +kernel
theorem dX9_putIn_78 : decode cX9_putIn 78 = .ok (.iload_n 3, 1) := by decide +kernel
theorem dX9_putIn_79 : decode cX9_putIn 79 = .ok (.iaload, 1) := by decide +kernel
theorem dX9_putIn_80 : decode cX9_putIn 80 = .ok (.iadd, 1) := by decide +kernel
theorem dX9_putIn_81 : decode cX9_putIn 81 = .ok (.goto 4, 3) := by decide +kernel
theorem dX9_putIn_84 : decode cX9_putIn 84 = .ok (.iconst 0, 1) := by decide +kernel
theorem dX9_putIn_85 : decode cX9_putIn 85 = .ok (.istore 4, 2) := by decide +kernel
theorem dX9_putIn_87 : decode cX9_putIn 87 = .ok (.aload_n 0, 1) := by decide +kernel
theorem dX9_putIn_88 : decode cX9_putIn 88 = .ok (.getfield 69, 3) := by decide +kernel
theorem dX9_putIn_91 : decode cX9_putIn 91 = .ok (.iload_n 2, 1) := by decide +kernel
theorem dX9_putIn_92 : decode cX9_putIn 92 = .ok (.iload 4, 2) := by decide +kernel
theorem dX9_putIn_94 : decode cX9_putIn 94 = .ok (.aload_n 0, 1) := by decide +kernel
theorem dX9_putIn_95 : decode cX9_putIn 95 = .ok (.getfield 69, 3) := by decide +kernel
theorem dX9_putIn_98 : decode cX9_putIn 98 = .ok (.iload_n 2, 1) := by decide +kernel
theorem dX9_putIn_99 : decode cX9_putIn 99 = .ok (.iaload, 1) := by decide +kernel
theorem dX9_putIn_100 : decode cX9_putIn 100 = .ok (.if_icmp .le 8, 3) := by decide +kernel
theorem dX9_putIn_103 : decode cX9_putIn 103 = .ok (.iload 4, 2) := by decide +kernel
theorem dX9_putIn_105 : decode cX9_putIn 105 = .ok (.goto 9, 3) := by decide +kernel
theorem dX9_putIn_108 : decode cX9_putIn 108 = .ok (.aload_n 0, 1) := by decide +kernel
theorem dX9_putIn_109 : decode cX9_putIn 109 = .ok (.getfield 69, 3) := by decide +kernel
theorem dX9_putIn_112 : decode cX9_putIn 112 = .ok (.iload_n 2, 1) := by decide +kernel
theorem dX9_putIn_113 : decode cX9_putIn 113 = .ok (.iaload, 1) := by decide +kernel
theorem dX9_putIn_114 : decode cX9_putIn 114 = .ok (.iastore, 1) := by decide +kernel
theorem dX9_putIn_115 : decode cX9_putIn 115 = .ok (.iinc 3 1, 3) := by decide +kernel
theorem dX9_putIn_118 : decode cX9_putIn 118 = .ok (.goto (-68), 3) := by decide +kernel
theorem dX9_putIn_121 : decode cX9_putIn 121 = .ok (.aload_n 0, 1) := by decide +kernel
theorem dX9_putIn_122 : decode cX9_putIn 122 = .ok (.getfield 226, 3) := by decide +kernel
theorem dX9_putIn_125 : decode cX9_putIn 125 = .ok (.istore_n 3, 1) := by decide +kernel
theorem dX9_putIn_126 : decode cX9_putIn 126 = .ok (.iload_n 3, 1) := by decide +kernel
theorem dX9_putIn_127 : decode cX9_putIn 127 = .ok (.ifCond .le 45, 3) := by decide +kernel
theorem dX9_putIn_130 : decode cX9_putIn 130 = .ok (.aload_n 0, 1) := by decide +kernel
theorem dX9_putIn_131 : decode cX9_putIn 131 = .ok (.getfield 69, 3) := by decide +kernel
theorem dX9_putIn_134 : decode cX9_putIn 134 = .ok (.aload_n 0, 1) := by decide +kernel
theorem dX9_putIn_135 : decode cX9_putIn 135 = .ok (.getfield 72, 3) := by decide +kernel
theorem dX9_putIn_138 : decode cX9_putIn 138 = .ok (.iload_n 3, 1) := by decide +kernel
theorem dX9_putIn_139 : decode cX9_putIn 139 = .ok (.iconst 1, 1) := by decide +kernel
theorem dX9_putIn_140 : decode cX9_putIn 140 = .ok (.isub, 1) := by decide +kernel
theorem dX9_putIn_141 : decode cX9_putIn 141 = .ok (.iaload, 1) := by decide +kernel
theorem dX9_putIn_142 : decode cX9_putIn 142 = .ok (.iaload, 1) := by decide +kernel
theorem dX9_putIn_143 : decode cX9_putIn 143 = .ok (.aload_n 0, 1) := by decide +kernel
theorem dX9_putIn_144 : decode cX9_putIn 144 = .ok (.getfield 69, 3) := by decide +kernel
theorem dX9_putIn_147 : decode cX9_putIn 147 = .ok (.iload_n 2, 1) := by decide +kernel
theorem dX9_putIn_148 : decode cX9_putIn 148 = .ok (.iaload, 1) := by decide +kernel
theorem dX9_putIn_149 : decode cX9_putIn 149 = .ok (.if_icmp .le 23, 3) := by decide +kernel
theorem dX9_putIn_152 : decode cX9_putIn 152 = .ok (.aload_n 0, 1) := by decide +kernel
theorem dX9_putIn_153 : decode cX9_putIn 153 = .ok (.getfield 72, 3) := by decide +kernel
theorem dX9_putIn_156 : decode cX9_putIn 156 = .ok (.iload_n 3, 1) := by decide +kernel
theorem dX9_putIn_157 : decode cX9_putIn 157 = .ok (.aload_n 0, 1) := by decide +kernel
theorem dX9_putIn_158 : decode cX9_putIn 158 = .ok (.getfield 72, 3) := by decide +kernel
theorem dX9_putIn_161 : decode cX9_putIn 161 = .ok (.iload_n 3, 1) := by decide +kernel
theorem dX9_putIn_162 : decode cX9_putIn 162 = .ok (.iconst 1, 1) := by decide +kernel
theorem dX9_putIn_163 : decode cX9_putIn 163 = .ok (.isub, 1) := by decide +kernel
theorem dX9_putIn_164 : decode cX9_putIn 164 = .ok (.iaload, 1) := by decide +kernel
theorem dX9_putIn_165 : decode cX9_putIn 165 = .ok (.iastore, 1) := by decide +kernel
theorem dX9_putIn_166 : decode cX9_putIn 166 = .ok (.iinc 3 (-1), 3) := by decide +kernel
theorem dX9_putIn_169 : decode cX9_putIn 169 = .ok (.goto (-43), 3) := by decide +kernel
theorem dX9_putIn_172 : decode cX9_putIn 172 = .ok (.aload_n 0, 1) := by decide +kernel
theorem dX9_putIn_173 : decode cX9_putIn 173 = .ok (.getfield 72, 3) := by decide +kernel
theorem dX9_putIn_176 : decode cX9_putIn 176 = .ok (.iload_n 3, 1) := by decide +kernel
theorem dX9_putIn_177 : decode cX9_putIn 177 = .ok (.iload_n 2, 1) := by decide +kernel
theorem dX9_putIn_178 : decode cX9_putIn 178 = .ok (.iastore, 1) := by decide +kernel
theorem dX9_putIn_179 : decode cX9_putIn 179 = .ok (.aload_n 0, 1) := by decide +kernel
theorem dX9_putIn_180 : decode cX9_putIn 180 = .ok (.dup, 1) := by decide +kernel
theorem dX9_putIn_181 : decode cX9_putIn 181 = .ok (.getfield 226, 3) := by decide +kernel
theorem dX9_putIn_184 : decode cX9_putIn 184 = .ok (.iconst 1, 1) := by decide +kernel
theorem dX9_putIn_185 : decode cX9_putIn 185 = .ok (.iadd, 1) := by decide +kernel
theorem dX9_putIn_186 : decode cX9_putIn 186 = .ok (.putfield 226, 3) := by decide +kernel
theorem dX9_putIn_189 : decode cX9_putIn 189 = .ok (.iinc 2 1, 3) := by decide +kernel
theorem dX9_putIn_192 : decode cX9_putIn 192 = .ok (.goto (-185), 3) := by decide +kernel
theorem dX9_putIn_195 : decode cX9_putIn 195 = .ok (.iconst 0, 1) := by decide +kernel
theorem dX9_putIn_196 : decode cX9_putIn 196 = .ok (.istore_n 2, 1) := by decide +kernel
theorem dX9_putIn_197 : decode cX9_putIn 197 = .ok (.iconst 0, 1) := by decide +kernel
theorem dX9_putIn_198 : decode cX9_putIn 198 = .ok (.istore_n 3, 1) := by decide +kernel
theorem dX9_putIn_199 : decode cX9_putIn 199 = .ok (.iload_n 3, 1) := by decide +kernel
theorem dX9_putIn_200 : decode cX9_putIn 200 = .ok (.aload_n 0, 1) := by decide +kernel
theorem dX9_putIn_201 : decode cX9_putIn 201 = .ok (.getfield 226, 3) := by decide +kernel
theorem dX9_putIn_204 : decode cX9_putIn 204 = .ok (.if_icmp .ge 60, 3) := by decide +kernel
theorem dX9_putIn_207 : decode cX9_putIn 207 = .ok (.aload_n 0, 1) := by decide +kernel
theorem dX9_putIn_208 : decode cX9_putIn 208 = .ok (.getfield 72, 3) := by decide +kernel
theorem dX9_putIn_211 : decode cX9_putIn 211 = .ok (.iload_n 3, 1) := by decide +kernel
theorem dX9_putIn_212 : decode cX9_putIn 212 = .ok (.iaload, 1) := by decide +kernel
theorem dX9_putIn_213 : decode cX9_putIn 213 = .ok (.istore 4, 2) := by decide +kernel
theorem dX9_putIn_215 : decode cX9_putIn 215 = .ok (.aload_n 0, 1) := by decide +kernel
theorem dX9_putIn_216 : decode cX9_putIn 216 = .ok (.getfield 75, 3) := by decide +kernel
theorem dX9_putIn_219 : decode cX9_putIn 219 = .ok (.iload_n 3, 1) := by decide +kernel
theorem dX9_putIn_220 : decode cX9_putIn 220 = .ok (.aload_n 0, 1) := by decide +kernel
theorem dX9_putIn_221 : decode cX9_putIn 221 = .ok (.getfield 66, 3) := by decide +kernel
theorem dX9_putIn_224 : decode cX9_putIn 224 = .ok (.iload 4, 2) := by decide +kernel
theorem dX9_putIn_226 : decode cX9_putIn 226 = .ok (.iaload, 1) := by decide +kernel
theorem dX9_putIn_227 : decode cX9_putIn 227 = .ok (.iload_n 2, 1) := by decide +kernel
theorem dX9_putIn_228 : decode cX9_putIn 228 = .ok (.if_icmp .le 13, 3) := by decide +kernel
theorem dX9_putIn_231 : decode cX9_putIn 231 = .ok (.aload_n 0, 1) := by decide +kernel
theorem dX9_putIn_232 : decode cX9_putIn 232 = .ok (.getfield 66, 3) := by decide +kernel
theorem dX9_putIn_235 : decode cX9_putIn 235 = .ok (.iload 4, 2) := by decide +kernel
theorem dX9_putIn_237 : decode cX9_putIn 237 = .ok (.iaload, 1) := by decide +kernel
theorem dX9_putIn_238 : decode cX9_putIn 238 = .ok (.goto 4, 3) := by decide +kernel
theorem dX9_putIn_241 : decode cX9_putIn 241 = .ok (.iload_n 2, 1) := by decide +kernel
theorem dX9_putIn_242 : decode cX9_putIn 242 = .ok (.iastore, 1) := by decide +kernel
theorem dX9_putIn_243 : decode cX9_putIn 243 = .ok (.aload_n 0, 1) := by decide +kernel
theorem dX9_putIn_244 : decode cX9_putIn 244 = .ok (.getfield 75, 3) := by decide +kernel
theorem dX9_putIn_247 : decode cX9_putIn 247 = .ok (.iload_n 3, 1) := by decide +kernel
theorem dX9_putIn_248 : decode cX9_putIn 248 = .ok (.iaload, 1) := by decide +kernel
theorem dX9_putIn_249 : decode cX9_putIn 249 = .ok (.aload_n 0, 1) := by decide +kernel
theorem dX9_putIn_250 : decode cX9_putIn 250 = .ok (.getfield 26, 3) := by decide +kernel
theorem dX9_putIn_253 : decode cX9_putIn 253 = .ok (.iload 4, 2) := by decide +kernel
theorem dX9_putIn_255 : decode cX9_putIn 255 = .ok (.iaload, 1) := by decide +kernel
theorem dX9_putIn_256 : decode cX9_putIn 256 = .ok (.iadd, 1) := by decide +kernel
theorem dX9_putIn_257 : decode cX9_putIn 257 = .ok (.istore_n 2, 1) := by decide +kernel
theorem dX9_putIn_258 : decode cX9_putIn 258 = .ok (.iinc 3 1, 3) := by decide +kernel
theorem dX9_putIn_261 : decode cX9_putIn 261 = .ok (.goto (-62), 3) := by decide +kernel
theorem dX9_putIn_264 : decode cX9_putIn 264 = .ok (.iload_n 2, 1) := by decide +kernel
theorem dX9_putIn_265 : decode cX9_putIn 265 = .ok (.ireturn, 1) := by decide +kernel
theorem dX9_allParts_0 : decode cX9_allParts 0 = .ok (.iconst 1, 1) := by decide +kernel
theorem dX9_allParts_1 : decode cX9_allParts 1 = .ok (.aload_n 0, 1) := by decide +kernel
theorem dX9_allParts_2 : decode cX9_allParts 2 = .ok (.getfield 35, 3) := by decide +kernel
theorem dX9_allParts_5 : decode cX9_allParts 5 = .ok (.iconst 1, 1) := by decide +kernel
theorem dX9_allParts_6 : decode cX9_allParts 6 = .ok (.iaload, 1) := by decide +kernel
theorem dX9_allParts_7 : decode cX9_allParts 7 = .ok (.ishl, 1) := by decide +kernel
theorem dX9_allParts_8 : decode cX9_allParts 8 = .ok (.iconst 1, 1) := by decide +kernel
theorem dX9_allParts_9 : decode cX9_allParts 9 = .ok (.isub, 1) := by decide +kernel
theorem dX9_allParts_10 : decode cX9_allParts 10 = .ok (.ireturn, 1) := by decide +kernel
theorem dX9_standsBy_0 : decode cX9_standsBy 0 = .ok (.aload_n 0, 1) := by decide +kernel
theorem dX9_standsBy_1 : decode cX9_standsBy 1 = .ok (.iload_n 1, 1) := by decide +kernel
theorem dX9_standsBy_2 : decode cX9_standsBy 2 = .ok (.iload_n 2, 1) := by decide +kernel
theorem dX9_standsBy_3 : decode cX9_standsBy 3 = .ok (.iload_n 3, 1) := by decide +kernel
theorem dX9_standsBy_4 : decode cX9_standsBy 4 = .ok (.invokevirtual 229, 3) := by decide +kernel
theorem dX9_standsBy_7 : decode cX9_standsBy 7 = .ok (.aload_n 0, 1) := by decide +kernel
theorem dX9_standsBy_8 : decode cX9_standsBy 8 = .ok (.invokevirtual 233, 3) := by decide +kernel
theorem dX9_standsBy_11 : decode cX9_standsBy 11 = .ok (.aload_n 0, 1) := by decide +kernel
theorem dX9_standsBy_12 : decode cX9_standsBy 12 = .ok (.aload_n 0, 1) := by decide +kernel
theorem dX9_standsBy_13 : decode cX9_standsBy 13 = .ok (.invokevirtual 236, 3) := by decide +kernel
theorem dX9_standsBy_16 : decode cX9_standsBy 16 = .ok (.invokevirtual 239, 3) := by decide +kernel
theorem dX9_standsBy_19 : decode cX9_standsBy 19 = .ok (.ireturn, 1) := by decide +kernel
theorem dX9_held_0 : decode cX9_held 0 = .ok (.iload_n 0, 1) := by decide +kernel
theorem dX9_held_1 : decode cX9_held 1 = .ok (.ifCond .ge 9, 3) := by decide +kernel
theorem dX9_held_4 : decode cX9_held 4 = .ok (.sipush 500, 3) := by decide +kernel
theorem dX9_held_7 : decode cX9_held 7 = .ok (.goto 4, 3) := by decide +kernel
theorem dX9_held_10 : decode cX9_held 10 = .ok (.iload_n 0, 1) := by decide +kernel
theorem dX9_held_11 : decode cX9_held 11 = .ok (.ireturn, 1) := by decide +kernel
theorem dX9_away_0 : decode cX9_away 0 = .ok (.iload_n 1, 1) := by decide +kernel
theorem dX9_away_1 : decode cX9_away 1 = .ok (.i2l, 1) := by decide +kernel
theorem dX9_away_2 : decode cX9_away 2 = .ok (.lconst 0, 1) := by decide +kernel
theorem dX9_away_3 : decode cX9_away 3 = .ok (.iconst 1, 1) := by decide +kernel
theorem dX9_away_4 : decode cX9_away 4 = .ok (.aload_n 0, 1) := by decide +kernel
theorem dX9_away_5 : decode cX9_away 5 = .ok (.getfield 35, 3) := by decide +kernel
theorem dX9_away_8 : decode cX9_away 8 = .ok (.iconst 0, 1) := by decide +kernel
theorem dX9_away_9 : decode cX9_away 9 = .ok (.iaload, 1) := by decide +kernel
theorem dX9_away_10 : decode cX9_away 10 = .ok (.ishl, 1) := by decide +kernel
theorem dX9_away_11 : decode cX9_away 11 = .ok (.iconst 1, 1) := by decide +kernel
theorem dX9_away_12 : decode cX9_away 12 = .ok (.isub, 1) := by decide +kernel
theorem dX9_away_13 : decode cX9_away 13 = .ok (.i2l, 1) := by decide +kernel
theorem dX9_away_14 : decode cX9_away 14 = .ok (.invokestatic 95, 3) := by decide +kernel
theorem dX9_away_17 : decode cX9_away 17 = .ok (.ifCond .ne 6, 3) := by decide +kernel
theorem dX9_away_20 : decode cX9_away 20 = .ok (.ldc 197, 2) := by decide +kernel
theorem dX9_away_22 : decode cX9_away 22 = .ok (.ireturn, 1) := by decide +kernel
theorem dX9_away_23 : decode cX9_away 23 = .ok (.aload_n 0, 1) := by decide +kernel
theorem dX9_away_24 : decode cX9_away 24 = .ok (.getfield 7, 3) := by decide +kernel
theorem dX9_away_27 : decode cX9_away 27 = .ok (.bipush 24, 2) := by decide +kernel
theorem dX9_away_29 : decode cX9_away 29 = .ok (.iaload, 1) := by decide +kernel
theorem dX9_away_30 : decode cX9_away 30 = .ok (.istore_n 2, 1) := by decide +kernel
theorem dX9_away_31 : decode cX9_away 31 = .ok (.aload_n 0, 1) := by decide +kernel
theorem dX9_away_32 : decode cX9_away 32 = .ok (.getfield 7, 3) := by decide +kernel
theorem dX9_away_35 : decode cX9_away 35 = .ok (.bipush 24, 2) := by decide +kernel
theorem dX9_away_37 : decode cX9_away 37 = .ok (.iload_n 1, 1) := by decide +kernel
theorem dX9_away_38 : decode cX9_away 38 = .ok (.iastore, 1) := by decide +kernel
theorem dX9_away_39 : decode cX9_away 39 = .ok (.iload_n 2, 1) := by decide +kernel
theorem dX9_away_40 : decode cX9_away 40 = .ok (.ireturn, 1) := by decide +kernel
theorem dX9_awake_0 : decode cX9_awake 0 = .ok (.aload_n 0, 1) := by decide +kernel
theorem dX9_awake_1 : decode cX9_awake 1 = .ok (.iload_n 1, 1) := by decide +kernel
theorem dX9_awake_2 : decode cX9_awake 2 = .ok (.invokevirtual 193, 3) := by decide +kernel
theorem dX9_awake_5 : decode cX9_awake 5 = .ok (.ifCond .eq 11, 3) := by decide +kernel
theorem dX9_awake_8 : decode cX9_awake 8 = .ok (.aload_n 0, 1) := by decide +kernel
theorem dX9_awake_9 : decode cX9_awake 9 = .ok (.iload_n 2, 1) := by decide +kernel
theorem dX9_awake_10 : decode cX9_awake 10 = .ok (.invokevirtual 193, 3) := by decide +kernel
theorem dX9_awake_13 : decode cX9_awake 13 = .ok (.ifCond .ne 6, 3) := by decide +kernel
theorem dX9_awake_16 : decode cX9_awake 16 = .ok (.ldc 197, 2) := by decide +kernel
theorem dX9_awake_18 : decode cX9_awake 18 = .ok (.ireturn, 1) := by decide +kernel
theorem dX9_awake_19 : decode cX9_awake 19 = .ok (.aload_n 0, 1) := by decide +kernel
theorem dX9_awake_20 : decode cX9_awake 20 = .ok (.iconst 0, 1) := by decide +kernel
theorem dX9_awake_21 : decode cX9_awake 21 = .ok (.iload_n 1, 1) := by decide +kernel
theorem dX9_awake_22 : decode cX9_awake 22 = .ok (.aload_n 0, 1) := by decide +kernel
theorem dX9_awake_23 : decode cX9_awake 23 = .ok (.getfield 7, 3) := by decide +kernel
theorem dX9_awake_26 : decode cX9_awake 26 = .ok (.bipush 24, 2) := by decide +kernel
theorem dX9_awake_28 : decode cX9_awake 28 = .ok (.iaload, 1) := by decide +kernel
theorem dX9_awake_29 : decode cX9_awake 29 = .ok (.invokevirtual 229, 3) := by decide +kernel
theorem dX9_awake_32 : decode cX9_awake 32 = .ok (.aload_n 0, 1) := by decide +kernel
theorem dX9_awake_33 : decode cX9_awake 33 = .ok (.getfield 57, 3) := by decide +kernel
theorem dX9_awake_36 : decode cX9_awake 36 = .ok (.iload_n 2, 1) := by decide +kernel
theorem dX9_awake_37 : decode cX9_awake 37 = .ok (.iaload, 1) := by decide +kernel
theorem dX9_awake_38 : decode cX9_awake 38 = .ok (.ireturn, 1) := by decide +kernel
theorem dX9_comes_0 : decode cX9_comes 0 = .ok (.aload_n 0, 1) := by decide +kernel
theorem dX9_comes_1 : decode cX9_comes 1 = .ok (.iload_n 1, 1) := by decide +kernel
theorem dX9_comes_2 : decode cX9_comes 2 = .ok (.invokevirtual 193, 3) := by decide +kernel
theorem dX9_comes_5 : decode cX9_comes 5 = .ok (.ifCond .eq 19, 3) := by decide +kernel
theorem dX9_comes_8 : decode cX9_comes 8 = .ok (.aload_n 0, 1) := by decide +kernel
theorem dX9_comes_9 : decode cX9_comes 9 = .ok (.iload_n 2, 1) := by decide +kernel
theorem dX9_comes_10 : decode cX9_comes 10 = .ok (.invokevirtual 193, 3) := by decide +kernel
theorem dX9_comes_13 : decode cX9_comes 13 = .ok (.ifCond .eq 11, 3) := by decide +kernel
theorem dX9_comes_16 : decode cX9_comes 16 = .ok (.aload_n 0, 1) := by decide +kernel
theorem dX9_comes_17 : decode cX9_comes 17 = .ok (.iload_n 3, 1) := by decide +kernel
theorem dX9_comes_18 : decode cX9_comes 18 = .ok (.invokevirtual 206, 3) := by decide +kernel
theorem dX9_comes_21 : decode cX9_comes 21 = .ok (.ifCond .ne 6, 3) := by decide +kernel
theorem dX9_comes_24 : decode cX9_comes 24 = .ok (.ldc 197, 2) := by decide +kernel
theorem dX9_comes_26 : decode cX9_comes 26 = .ok (.ireturn, 1) := by decide +kernel
theorem dX9_comes_27 : decode cX9_comes 27 = .ok (.aload_n 0, 1) := by decide +kernel
theorem dX9_comes_28 : decode cX9_comes 28 = .ok (.iload_n 1, 1) := by decide +kernel
theorem dX9_comes_29 : decode cX9_comes 29 = .ok (.iload_n 2, 1) := by decide +kernel
theorem dX9_comes_30 : decode cX9_comes 30 = .ok (.aload_n 0, 1) := by decide +kernel
theorem dX9_comes_31 : decode cX9_comes 31 = .ok (.getfield 7, 3) := by decide +kernel
theorem dX9_comes_34 : decode cX9_comes 34 = .ok (.bipush 24, 2) := by decide +kernel
theorem dX9_comes_36 : decode cX9_comes 36 = .ok (.iaload, 1) := by decide +kernel
theorem dX9_comes_37 : decode cX9_comes 37 = .ok (.invokevirtual 229, 3) := by decide +kernel
theorem dX9_comes_40 : decode cX9_comes 40 = .ok (.aload_n 0, 1) := by decide +kernel
theorem dX9_comes_41 : decode cX9_comes 41 = .ok (.invokevirtual 233, 3) := by decide +kernel
theorem dX9_comes_44 : decode cX9_comes 44 = .ok (.aload_n 0, 1) := by decide +kernel
theorem dX9_comes_45 : decode cX9_comes 45 = .ok (.getfield 66, 3) := by decide +kernel
theorem dX9_comes_48 : decode cX9_comes 48 = .ok (.iload_n 3, 1) := by decide +kernel
theorem dX9_comes_49 : decode cX9_comes 49 = .ok (.iaload, 1) := by decide +kernel
theorem dX9_comes_50 : decode cX9_comes 50 = .ok (.ireturn, 1) := by decide +kernel
theorem dX9_stands_0 : decode cX9_stands 0 = .ok (.aload_n 0, 1) := by decide +kernel
theorem dX9_stands_1 : decode cX9_stands 1 = .ok (.iload_n 1, 1) := by decide +kernel
theorem dX9_stands_2 : decode cX9_stands 2 = .ok (.invokevirtual 193, 3) := by decide +kernel
theorem dX9_stands_5 : decode cX9_stands 5 = .ok (.ifCond .eq 27, 3) := by decide +kernel
theorem dX9_stands_8 : decode cX9_stands 8 = .ok (.aload_n 0, 1) := by decide +kernel
theorem dX9_stands_9 : decode cX9_stands 9 = .ok (.iload_n 2, 1) := by decide +kernel
theorem dX9_stands_10 : decode cX9_stands 10 = .ok (.invokevirtual 193, 3) := by decide +kernel
theorem dX9_stands_13 : decode cX9_stands 13 = .ok (.ifCond .eq 19, 3) := by decide +kernel
theorem dX9_stands_16 : decode cX9_stands 16 = .ok (.aload_n 0, 1) := by decide +kernel
theorem dX9_stands_17 : decode cX9_stands 17 = .ok (.iload_n 1, 1) := by decide +kernel
theorem dX9_stands_18 : decode cX9_stands 18 = .ok (.iload_n 2, 1) := by decide +kernel
theorem dX9_stands_19 : decode cX9_stands 19 = .ok (.aload_n 0, 1) := by decide +kernel
theorem dX9_stands_20 : decode cX9_stands 20 = .ok (.getfield 7, 3) := by decide +kernel
theorem dX9_stands_23 : decode cX9_stands 23 = .ok (.bipush 24, 2) := by decide +kernel
theorem dX9_stands_25 : decode cX9_stands 25 = .ok (.iaload, 1) := by decide +kernel
theorem dX9_stands_26 : decode cX9_stands 26 = .ok (.invokevirtual 242, 3) := by decide +kernel
theorem dX9_stands_29 : decode cX9_stands 29 = .ok (.goto 5, 3) := by decide +kernel
theorem dX9_stands_32 : decode cX9_stands 32 = .ok (.ldc 197, 2) := by decide +kernel
theorem dX9_stands_34 : decode cX9_stands 34 = .ok (.ireturn, 1) := by decide +kernel
theorem dX9_put_0 : decode cX9_put 0 = .ok (.aload_n 0, 1) := by decide +kernel
theorem dX9_put_1 : decode cX9_put 1 = .ok (.iload_n 1, 1) := by decide +kernel
theorem dX9_put_2 : decode cX9_put 2 = .ok (.invokevirtual 193, 3) := by decide +kernel
theorem dX9_put_5 : decode cX9_put 5 = .ok (.ifCond .eq 11, 3) := by decide +kernel
theorem dX9_put_8 : decode cX9_put 8 = .ok (.aload_n 0, 1) := by decide +kernel
theorem dX9_put_9 : decode cX9_put 9 = .ok (.iload_n 2, 1) := by decide +kernel
theorem dX9_put_10 : decode cX9_put 10 = .ok (.invokevirtual 193, 3) := by decide +kernel
theorem dX9_put_13 : decode cX9_put 13 = .ok (.ifCond .ne 6, 3) := by decide +kernel
theorem dX9_put_16 : decode cX9_put 16 = .ok (.ldc 197, 2) := by decide +kernel
theorem dX9_put_18 : decode cX9_put 18 = .ok (.ireturn, 1) := by decide +kernel
theorem dX9_put_19 : decode cX9_put 19 = .ok (.aload_n 0, 1) := by decide +kernel
theorem dX9_put_20 : decode cX9_put 20 = .ok (.iload_n 1, 1) := by decide +kernel
theorem dX9_put_21 : decode cX9_put 21 = .ok (.iload_n 2, 1) := by decide +kernel
theorem dX9_put_22 : decode cX9_put 22 = .ok (.aload_n 0, 1) := by decide +kernel
theorem dX9_put_23 : decode cX9_put 23 = .ok (.getfield 7, 3) := by decide +kernel
theorem dX9_put_26 : decode cX9_put 26 = .ok (.bipush 24, 2) := by decide +kernel
theorem dX9_put_28 : decode cX9_put 28 = .ok (.iaload, 1) := by decide +kernel
theorem dX9_put_29 : decode cX9_put 29 = .ok (.invokevirtual 242, 3) := by decide +kernel
theorem dX9_put_32 : decode cX9_put 32 = .ok (.istore 4, 2) := by decide +kernel
theorem dX9_put_34 : decode cX9_put 34 = .ok (.iload 4, 2) := by decide +kernel
theorem dX9_put_36 : decode cX9_put 36 = .ok (.ifCond .lt 28, 3) := by decide +kernel
theorem dX9_put_39 : decode cX9_put 39 = .ok (.iload_n 3, 1) := by decide +kernel
theorem dX9_put_40 : decode cX9_put 40 = .ok (.i2l, 1) := by decide +kernel
theorem dX9_put_41 : decode cX9_put 41 = .ok (.lconst 0, 1) := by decide +kernel
theorem dX9_put_42 : decode cX9_put 42 = .ok (.aload_n 0, 1) := by decide +kernel
theorem dX9_put_43 : decode cX9_put 43 = .ok (.getfield 226, 3) := by decide +kernel
theorem dX9_put_46 : decode cX9_put 46 = .ok (.iconst 1, 1) := by decide +kernel
theorem dX9_put_47 : decode cX9_put 47 = .ok (.isub, 1) := by decide +kernel
theorem dX9_put_48 : decode cX9_put 48 = .ok (.i2l, 1) := by decide +kernel
theorem dX9_put_49 : decode cX9_put 49 = .ok (.invokestatic 95, 3) := by decide +kernel
theorem dX9_put_52 : decode cX9_put 52 = .ok (.ifCond .eq 12, 3) := by decide +kernel
theorem dX9_put_55 : decode cX9_put 55 = .ok (.aload_n 0, 1) := by decide +kernel
theorem dX9_put_56 : decode cX9_put 56 = .ok (.getfield 72, 3) := by decide +kernel
theorem dX9_put_59 : decode cX9_put 59 = .ok (.iload_n 3, 1) := by decide +kernel
theorem dX9_put_60 : decode cX9_put 60 = .ok (.iaload, 1) := by decide +kernel
theorem dX9_put_61 : decode cX9_put 61 = .ok (.goto 4, 3) := by decide +kernel
theorem dX9_put_64 : decode cX9_put 64 = .ok (.iconst (-1), 1) := by decide +kernel
theorem dX9_put_65 : decode cX9_put 65 = .ok (.ireturn, 1) := by decide +kernel
theorem dX9_waited_0 : decode cX9_waited 0 = .ok (.aload_n 0, 1) := by decide +kernel
theorem dX9_waited_1 : decode cX9_waited 1 = .ok (.iload_n 1, 1) := by decide +kernel
theorem dX9_waited_2 : decode cX9_waited 2 = .ok (.invokevirtual 193, 3) := by decide +kernel
theorem dX9_waited_5 : decode cX9_waited 5 = .ok (.ifCond .eq 11, 3) := by decide +kernel
theorem dX9_waited_8 : decode cX9_waited 8 = .ok (.aload_n 0, 1) := by decide +kernel
theorem dX9_waited_9 : decode cX9_waited 9 = .ok (.iload_n 2, 1) := by decide +kernel
theorem dX9_waited_10 : decode cX9_waited 10 = .ok (.invokevirtual 193, 3) := by decide +kernel
theorem dX9_waited_13 : decode cX9_waited 13 = .ok (.ifCond .ne 6, 3) := by decide +kernel
theorem dX9_waited_16 : decode cX9_waited 16 = .ok (.ldc 197, 2) := by decide +kernel
theorem dX9_waited_18 : decode cX9_waited 18 = .ok (.ireturn, 1) := by decide +kernel
theorem dX9_waited_19 : decode cX9_waited 19 = .ok (.aload_n 0, 1) := by decide +kernel
theorem dX9_waited_20 : decode cX9_waited 20 = .ok (.iload_n 1, 1) := by decide +kernel
theorem dX9_waited_21 : decode cX9_waited 21 = .ok (.iload_n 2, 1) := by decide +kernel
theorem dX9_waited_22 : decode cX9_waited 22 = .ok (.aload_n 0, 1) := by decide +kernel
theorem dX9_waited_23 : decode cX9_waited 23 = .ok (.getfield 7, 3) := by decide +kernel
theorem dX9_waited_26 : decode cX9_waited 26 = .ok (.bipush 24, 2) := by decide +kernel
theorem dX9_waited_28 : decode cX9_waited 28 = .ok (.iaload, 1) := by decide +kernel
theorem dX9_waited_29 : decode cX9_waited 29 = .ok (.invokevirtual 242, 3) := by decide +kernel
theorem dX9_waited_32 : decode cX9_waited 32 = .ok (.istore_n 3, 1) := by decide +kernel
theorem dX9_waited_33 : decode cX9_waited 33 = .ok (.iconst (-1), 1) := by decide +kernel
theorem dX9_waited_34 : decode cX9_waited 34 = .ok (.istore 4, 2) := by decide +kernel
theorem dX9_waited_36 : decode cX9_waited 36 = .ok (.iconst 0, 1) := by decide +kernel
theorem dX9_waited_37 : decode cX9_waited 37 = .ok (.istore 5, 2) := by decide +kernel
theorem dX9_waited_39 : decode cX9_waited 39 = .ok (.iload 5, 2) := by decide +kernel
theorem dX9_waited_41 : decode cX9_waited 41 = .ok (.aload_n 0, 1) := by decide +kernel
theorem dX9_waited_42 : decode cX9_waited 42 = .ok (.getfield 226, 3) := by decide +kernel
theorem dX9_waited_45 : decode cX9_waited 45 = .ok (.if_icmp .ge 99, 3) := by decide +kernel
theorem dX9_waited_48 : decode cX9_waited 48 = .ok (.iload_n 3, 1) := by decide +kernel
theorem dX9_waited_49 : decode cX9_waited 49 = .ok (.ifCond .lt 95, 3) := by decide +kernel
theorem dX9_waited_52 : decode cX9_waited 52 = .ok (.aload_n 0, 1) := by decide +kernel
theorem dX9_waited_53 : decode cX9_waited 53 = .ok (.getfield 72, 3) := by decide +kernel
theorem dX9_waited_56 : decode cX9_waited 56 = .ok (.iload 5, 2) := by decide +kernel
theorem dX9_waited_58 : decode cX9_waited 58 = .ok (.iaload, 1) := by decide +kernel
theorem dX9_waited_59 : decode cX9_waited 59 = .ok (.istore 6, 2) := by decide +kernel
theorem dX9_waited_61 : decode cX9_waited 61 = .ok (.iload 5, 2) := by decide +kernel
theorem dX9_waited_63 : decode cX9_waited 63 = .ok (.ifCond .eq 54, 3) := by decide +kernel
theorem dX9_waited_66 : decode cX9_waited 66 = .ok (.aload_n 0, 1) := by decide +kernel
theorem dX9_waited_67 : decode cX9_waited 67 = .ok (.getfield 75, 3) := by decide +kernel
theorem dX9_waited_70 : decode cX9_waited 70 = .ok (.iload 5, 2) := by decide +kernel
theorem dX9_waited_72 : decode cX9_waited 72 = .ok (.iaload, 1) := by decide +kernel
theorem dX9_waited_73 : decode cX9_waited 73 = .ok (.aload_n 0, 1) := by decide +kernel
theorem dX9_waited_74 : decode cX9_waited 74 = .ok (.getfield 66, 3) := by decide +kernel
theorem dX9_waited_77 : decode cX9_waited 77 = .ok (.iload 6, 2) := by decide +kernel
theorem dX9_waited_79 : decode cX9_waited 79 = .ok (.iaload, 1) := by decide +kernel
theorem dX9_waited_80 : decode cX9_waited 80 = .ok (.if_icmp .ne 41, 3) := by decide +kernel
theorem dX9_waited_83 : decode cX9_waited 83 = .ok (.aload_n 0, 1) := by decide +kernel
theorem dX9_waited_84 : decode cX9_waited 84 = .ok (.getfield 75, 3) := by decide +kernel
theorem dX9_waited_87 : decode cX9_waited 87 = .ok (.iload 5, 2) := by decide +kernel
theorem dX9_waited_89 : decode cX9_waited 89 = .ok (.iaload, 1) := by decide +kernel
theorem dX9_waited_90 : decode cX9_waited 90 = .ok (.aload_n 0, 1) := by decide +kernel
theorem dX9_waited_91 : decode cX9_waited 91 = .ok (.getfield 75, 3) := by decide +kernel
theorem dX9_waited_94 : decode cX9_waited 94 = .ok (.iload 5, 2) := by decide +kernel
theorem dX9_waited_96 : decode cX9_waited 96 = .ok (.iconst 1, 1) := by decide +kernel
theorem dX9_waited_97 : decode cX9_waited 97 = .ok (.isub, 1) := by decide +kernel
theorem dX9_waited_98 : decode cX9_waited 98 = .ok (.iaload, 1) := by decide +kernel
theorem dX9_waited_99 : decode cX9_waited 99 = .ok (.aload_n 0, 1) := by decide +kernel
theorem dX9_waited_100 : decode cX9_waited 100 = .ok (.getfield 26, 3) := by decide +kernel
theorem dX9_waited_103 : decode cX9_waited 103 = .ok (.aload_n 0, 1) := by decide +kernel
theorem dX9_waited_104 : decode cX9_waited 104 = .ok (.getfield 72, 3) := by decide +kernel
theorem dX9_waited_107 : decode cX9_waited 107 = .ok (.iload 5, 2) := by decide +kernel
theorem dX9_waited_109 : decode cX9_waited 109 = .ok (.iconst 1, 1) := by decide +kernel
theorem dX9_waited_110 : decode cX9_waited 110 = .ok (.isub, 1) := by decide +kernel
theorem dX9_waited_111 : decode cX9_waited 111 = .ok (.iaload, 1) := by decide +kernel
theorem dX9_waited_112 : decode cX9_waited 112 = .ok (.iaload, 1) := by decide +kernel
theorem dX9_waited_113 : decode cX9_waited 113 = .ok (.iadd, 1) := by decide +kernel
theorem dX9_waited_114 : decode cX9_waited 114 = .ok (.if_icmp .le 7, 3) := by decide +kernel
theorem dX9_waited_117 : decode cX9_waited 117 = .ok (.iconst 1, 1) := by decide +kernel
theorem dX9_waited_118 : decode cX9_waited 118 = .ok (.goto 4, 3) := by decide +kernel
theorem dX9_waited_121 : decode cX9_waited 121 = .ok (.iconst 0, 1) := by decide +kernel
theorem dX9_waited_122 : decode cX9_waited 122 = .ok (.istore 7, 2) := by decide +kernel
theorem dX9_waited_124 : decode cX9_waited 124 = .ok (.iload 7, 2) := by decide +kernel
theorem dX9_waited_126 : decode cX9_waited 126 = .ok (.ifCond .eq 8, 3) := by decide +kernel
theorem dX9_waited_129 : decode cX9_waited 129 = .ok (.iload 6, 2) := by decide +kernel
theorem dX9_waited_131 : decode cX9_waited 131 = .ok (.goto 5, 3) := by decide +kernel
theorem dX9_waited_134 : decode cX9_waited 134 = .ok (.iload 4, 2) := by decide +kernel
theorem dX9_waited_136 : decode cX9_waited 136 = .ok (.istore 4, 2) := by decide +kernel
theorem dX9_waited_138 : decode cX9_waited 138 = .ok (.iinc 5 1, 3) := by decide +kernel
theorem dX9_waited_141 : decode cX9_waited 141 = .ok (.goto (-102), 3) := by decide +kernel
theorem dX9_waited_144 : decode cX9_waited 144 = .ok (.iload 4, 2) := by decide +kernel
theorem dX9_waited_146 : decode cX9_waited 146 = .ok (.ireturn, 1) := by decide +kernel
theorem dX9_oddsOf_0 : decode cX9_oddsOf 0 = .ok (.ldc2_w 246, 3) := by decide +kernel
theorem dX9_oddsOf_3 : decode cX9_oddsOf 3 = .ok (.lstore 4, 2) := by decide +kernel
theorem dX9_oddsOf_5 : decode cX9_oddsOf 5 = .ok (.iconst 0, 1) := by decide +kernel
theorem dX9_oddsOf_6 : decode cX9_oddsOf 6 = .ok (.istore 6, 2) := by decide +kernel
theorem dX9_oddsOf_8 : decode cX9_oddsOf 8 = .ok (.iload 6, 2) := by decide +kernel
theorem dX9_oddsOf_10 : decode cX9_oddsOf 10 = .ok (.aload_n 0, 1) := by decide +kernel
theorem dX9_oddsOf_11 : decode cX9_oddsOf 11 = .ok (.getfield 35, 3) := by decide +kernel
theorem dX9_oddsOf_14 : decode cX9_oddsOf 14 = .ok (.iconst 0, 1) := by decide +kernel
theorem dX9_oddsOf_15 : decode cX9_oddsOf 15 = .ok (.iaload, 1) := by decide +kernel
theorem dX9_oddsOf_16 : decode cX9_oddsOf 16 = .ok (.if_icmp .ge 60, 3) := by decide +kernel
theorem dX9_oddsOf_19 : decode cX9_oddsOf 19 = .ok (.iload 6, 2) := by decide +kernel
theorem dX9_oddsOf_21 : decode cX9_oddsOf 21 = .ok (.iload_n 2, 1) := by decide +kernel
theorem dX9_oddsOf_22 : decode cX9_oddsOf 22 = .ok (.if_icmp .eq 48, 3) := by decide +kernel
theorem dX9_oddsOf_25 : decode cX9_oddsOf 25 = .ok (.lload 4, 2) := by decide +kernel
theorem dX9_oddsOf_27 : decode cX9_oddsOf 27 = .ok (.aload_n 0, 1) := by decide +kernel
theorem dX9_oddsOf_28 : decode cX9_oddsOf 28 = .ok (.getfield 17, 3) := by decide +kernel
theorem dX9_oddsOf_31 : decode cX9_oddsOf 31 = .ok (.bipush 6, 2) := by decide +kernel
theorem dX9_oddsOf_33 : decode cX9_oddsOf 33 = .ok (.iload 6, 2) := by decide +kernel
theorem dX9_oddsOf_35 : decode cX9_oddsOf 35 = .ok (.imul, 1) := by decide +kernel
theorem dX9_oddsOf_36 : decode cX9_oddsOf 36 = .ok (.iconst 2, 1) := by decide +kernel
theorem dX9_oddsOf_37 : decode cX9_oddsOf 37 = .ok (.iadd, 1) := by decide +kernel
theorem dX9_oddsOf_38 : decode cX9_oddsOf 38 = .ok (.iload_n 3, 1) := by decide +kernel
theorem dX9_oddsOf_39 : decode cX9_oddsOf 39 = .ok (.iadd, 1) := by decide +kernel
theorem dX9_oddsOf_40 : decode cX9_oddsOf 40 = .ok (.iaload, 1) := by decide +kernel
theorem dX9_oddsOf_41 : decode cX9_oddsOf 41 = .ok (.i2l, 1) := by decide +kernel
theorem dX9_oddsOf_42 : decode cX9_oddsOf 42 = .ok (.lmul, 1) := by decide +kernel
theorem dX9_oddsOf_43 : decode cX9_oddsOf 43 = .ok (.ldc2_w 248, 3) := by decide +kernel
theorem dX9_oddsOf_46 : decode cX9_oddsOf 46 = .ok (.ldiv, 1) := by decide +kernel
theorem dX9_oddsOf_47 : decode cX9_oddsOf 47 = .ok (.lstore 7, 2) := by decide +kernel
theorem dX9_oddsOf_49 : decode cX9_oddsOf 49 = .ok (.iload_n 1, 1) := by decide +kernel
theorem dX9_oddsOf_50 : decode cX9_oddsOf 50 = .ok (.iload 6, 2) := by decide +kernel
theorem dX9_oddsOf_52 : decode cX9_oddsOf 52 = .ok (.invokestatic 146, 3) := by decide +kernel
theorem dX9_oddsOf_55 : decode cX9_oddsOf 55 = .ok (.ifCond .eq 8, 3) := by decide +kernel
theorem dX9_oddsOf_58 : decode cX9_oddsOf 58 = .ok (.lload 7, 2) := by decide +kernel
theorem dX9_oddsOf_60 : decode cX9_oddsOf 60 = .ok (.goto 8, 3) := by decide +kernel
theorem dX9_oddsOf_63 : decode cX9_oddsOf 63 = .ok (.lload 4, 2) := by decide +kernel
theorem dX9_oddsOf_65 : decode cX9_oddsOf 65 = .ok (.lload 7, 2) := by decide +kernel
theorem dX9_oddsOf_67 : decode cX9_oddsOf 67 = .ok (.lsub, 1) := by decide +kernel
theorem dX9_oddsOf_68 : decode cX9_oddsOf 68 = .ok (.lstore 4, 2) := by decide +kernel
theorem dX9_oddsOf_70 : decode cX9_oddsOf 70 = .ok (.iinc 6 1, 3) := by decide +kernel
theorem dX9_oddsOf_73 : decode cX9_oddsOf 73 = .ok (.goto (-65), 3) := by decide +kernel
theorem dX9_oddsOf_76 : decode cX9_oddsOf 76 = .ok (.lload 4, 2) := by decide +kernel
theorem dX9_oddsOf_78 : decode cX9_oddsOf 78 = .ok (.lreturn, 1) := by decide +kernel
theorem dX9_odds_0 : decode cX9_odds 0 = .ok (.aload_n 0, 1) := by decide +kernel
theorem dX9_odds_1 : decode cX9_odds 1 = .ok (.iload_n 1, 1) := by decide +kernel
theorem dX9_odds_2 : decode cX9_odds 2 = .ok (.invokevirtual 193, 3) := by decide +kernel
theorem dX9_odds_5 : decode cX9_odds 5 = .ok (.ifCond .eq 11, 3) := by decide +kernel
theorem dX9_odds_8 : decode cX9_odds 8 = .ok (.aload_n 0, 1) := by decide +kernel
theorem dX9_odds_9 : decode cX9_odds 9 = .ok (.iload_n 2, 1) := by decide +kernel
theorem dX9_odds_10 : decode cX9_odds 10 = .ok (.invokevirtual 193, 3) := by decide +kernel
theorem dX9_odds_13 : decode cX9_odds 13 = .ok (.ifCond .ne 6, 3) := by decide +kernel
theorem dX9_odds_16 : decode cX9_odds 16 = .ok (.ldc 197, 2) := by decide +kernel
theorem dX9_odds_18 : decode cX9_odds 18 = .ok (.ireturn, 1) := by decide +kernel
theorem dX9_odds_19 : decode cX9_odds 19 = .ok (.iload_n 3, 1) := by decide +kernel
theorem dX9_odds_20 : decode cX9_odds 20 = .ok (.i2l, 1) := by decide +kernel
theorem dX9_odds_21 : decode cX9_odds 21 = .ok (.lconst 0, 1) := by decide +kernel
theorem dX9_odds_22 : decode cX9_odds 22 = .ok (.ldc2_w 250, 3) := by decide +kernel
theorem dX9_odds_25 : decode cX9_odds 25 = .ok (.invokestatic 95, 3) := by decide +kernel
theorem dX9_odds_28 : decode cX9_odds 28 = .ok (.ifCond .eq 14, 3) := by decide +kernel
theorem dX9_odds_31 : decode cX9_odds 31 = .ok (.iload 4, 2) := by decide +kernel
theorem dX9_odds_33 : decode cX9_odds 33 = .ok (.i2l, 1) := by decide +kernel
theorem dX9_odds_34 : decode cX9_odds 34 = .ok (.lconst 0, 1) := by decide +kernel
theorem dX9_odds_35 : decode cX9_odds 35 = .ok (.lconst 1, 1) := by decide +kernel
theorem dX9_odds_36 : decode cX9_odds 36 = .ok (.invokestatic 95, 3) := by decide +kernel
theorem dX9_odds_39 : decode cX9_odds 39 = .ok (.ifCond .ne 6, 3) := by decide +kernel
theorem dX9_odds_42 : decode cX9_odds 42 = .ok (.ldc 99, 2) := by decide +kernel
theorem dX9_odds_44 : decode cX9_odds 44 = .ok (.ireturn, 1) := by decide +kernel
theorem dX9_odds_45 : decode cX9_odds 45 = .ok (.lconst 0, 1) := by decide +kernel
theorem dX9_odds_46 : decode cX9_odds 46 = .ok (.lstore 5, 2) := by decide +kernel
theorem dX9_odds_48 : decode cX9_odds 48 = .ok (.iconst 0, 1) := by decide +kernel
theorem dX9_odds_49 : decode cX9_odds 49 = .ok (.istore 7, 2) := by decide +kernel
theorem dX9_odds_51 : decode cX9_odds 51 = .ok (.iconst 0, 1) := by decide +kernel
theorem dX9_odds_52 : decode cX9_odds 52 = .ok (.istore 8, 2) := by decide +kernel
theorem dX9_odds_54 : decode cX9_odds 54 = .ok (.iload 8, 2) := by decide +kernel
theorem dX9_odds_56 : decode cX9_odds 56 = .ok (.iconst 1, 1) := by decide +kernel
theorem dX9_odds_57 : decode cX9_odds 57 = .ok (.aload_n 0, 1) := by decide +kernel
theorem dX9_odds_58 : decode cX9_odds 58 = .ok (.getfield 35, 3) := by decide +kernel
theorem dX9_odds_61 : decode cX9_odds 61 = .ok (.iconst 0, 1) := by decide +kernel
theorem dX9_odds_62 : decode cX9_odds 62 = .ok (.iaload, 1) := by decide +kernel
theorem dX9_odds_63 : decode cX9_odds 63 = .ok (.ishl, 1) := by decide +kernel
theorem dX9_odds_64 : decode cX9_odds 64 = .ok (.if_icmp .ge 79, 3) := by decide +kernel
theorem dX9_odds_67 : decode cX9_odds 67 = .ok (.iload 8, 2) := by decide +kernel
theorem dX9_odds_69 : decode cX9_odds 69 = .ok (.iload_n 2, 1) := by decide +kernel
theorem dX9_odds_70 : decode cX9_odds 70 = .ok (.invokestatic 146, 3) := by decide +kernel
theorem dX9_odds_73 : decode cX9_odds 73 = .ok (.ifCond .eq 7, 3) := by decide +kernel
theorem dX9_odds_76 : decode cX9_odds 76 = .ok (.lconst 0, 1) := by decide +kernel
theorem dX9_odds_77 : decode cX9_odds 77 = .ok (.goto 11, 3) := by decide +kernel
theorem dX9_odds_80 : decode cX9_odds 80 = .ok (.aload_n 0, 1) := by decide +kernel
theorem dX9_odds_81 : decode cX9_odds 81 = .ok (.iload 8, 2) := by decide +kernel
theorem dX9_odds_83 : decode cX9_odds 83 = .ok (.iload_n 2, 1) := by decide +kernel
theorem dX9_odds_84 : decode cX9_odds 84 = .ok (.iload_n 3, 1) := by decide +kernel
theorem dX9_odds_85 : decode cX9_odds 85 = .ok (.invokevirtual 252, 3) := by decide +kernel
theorem dX9_odds_88 : decode cX9_odds 88 = .ok (.lstore 9, 2) := by decide +kernel
theorem dX9_odds_90 : decode cX9_odds 90 = .ok (.lload 9, 2) := by decide +kernel
theorem dX9_odds_92 : decode cX9_odds 92 = .ok (.lconst 0, 1) := by decide +kernel
theorem dX9_odds_93 : decode cX9_odds 93 = .ok (.lcmp, 1) := by decide +kernel
theorem dX9_odds_94 : decode cX9_odds 94 = .ok (.ifCond .le 43, 3) := by decide +kernel
theorem dX9_odds_97 : decode cX9_odds 97 = .ok (.aload_n 0, 1) := by decide +kernel
theorem dX9_odds_98 : decode cX9_odds 98 = .ok (.iload_n 1, 1) := by decide +kernel
theorem dX9_odds_99 : decode cX9_odds 99 = .ok (.iload_n 2, 1) := by decide +kernel
theorem dX9_odds_100 : decode cX9_odds 100 = .ok (.iload 8, 2) := by decide +kernel
theorem dX9_odds_102 : decode cX9_odds 102 = .ok (.invokevirtual 242, 3) := by decide +kernel
theorem dX9_odds_105 : decode cX9_odds 105 = .ok (.invokestatic 256, 3) := by decide +kernel
theorem dX9_odds_108 : decode cX9_odds 108 = .ok (.istore 11, 2) := by decide +kernel
theorem dX9_odds_110 : decode cX9_odds 110 = .ok (.lload 5, 2) := by decide +kernel
theorem dX9_odds_112 : decode cX9_odds 112 = .ok (.lload 9, 2) := by decide +kernel
theorem dX9_odds_114 : decode cX9_odds 114 = .ok (.iload 11, 2) := by decide +kernel
theorem dX9_odds_116 : decode cX9_odds 116 = .ok (.i2l, 1) := by decide +kernel
theorem dX9_odds_117 : decode cX9_odds 117 = .ok (.lmul, 1) := by decide +kernel
theorem dX9_odds_118 : decode cX9_odds 118 = .ok (.ladd, 1) := by decide +kernel
theorem dX9_odds_119 : decode cX9_odds 119 = .ok (.lstore 5, 2) := by decide +kernel
theorem dX9_odds_121 : decode cX9_odds 121 = .ok (.iload 11, 2) := by decide +kernel
theorem dX9_odds_123 : decode cX9_odds 123 = .ok (.iload 7, 2) := by decide +kernel
theorem dX9_odds_125 : decode cX9_odds 125 = .ok (.if_icmp .le 8, 3) := by decide +kernel
theorem dX9_odds_128 : decode cX9_odds 128 = .ok (.iload 11, 2) := by decide +kernel
theorem dX9_odds_130 : decode cX9_odds 130 = .ok (.goto 5, 3) := by decide +kernel
theorem dX9_odds_133 : decode cX9_odds 133 = .ok (.iload 7, 2) := by decide +kernel
theorem dX9_odds_135 : decode cX9_odds 135 = .ok (.istore 7, 2) := by decide +kernel
theorem dX9_odds_137 : decode cX9_odds 137 = .ok (.iinc 8 1, 3) := by decide +kernel
theorem dX9_odds_140 : decode cX9_odds 140 = .ok (.goto (-86), 3) := by decide +kernel
theorem dX9_odds_143 : decode cX9_odds 143 = .ok (.iload 4, 2) := by decide +kernel
theorem dX9_odds_145 : decode cX9_odds 145 = .ok (.ifCond .ne 13, 3) := by decide +kernel
theorem dX9_odds_148 : decode cX9_odds 148 = .ok (.lload 5, 2) := by decide +kernel
theorem dX9_odds_150 : decode cX9_odds 150 = .ok (.ldc2_w 259, 3) := by decide +kernel
theorem dX9_odds_153 : decode cX9_odds 153 = .ok (.ldiv, 1) := by decide +kernel
theorem dX9_odds_154 : decode cX9_odds 154 = .ok (.l2i, 1) := by decide +kernel
theorem dX9_odds_155 : decode cX9_odds 155 = .ok (.goto 5, 3) := by decide +kernel
theorem dX9_odds_158 : decode cX9_odds 158 = .ok (.iload 7, 2) := by decide +kernel
theorem dX9_odds_160 : decode cX9_odds 160 = .ok (.ireturn, 1) := by decide +kernel
theorem dX9_draw_0 : decode cX9_draw 0 = .ok (.aload_n 0, 1) := by decide +kernel
theorem dX9_draw_1 : decode cX9_draw 1 = .ok (.getfield 7, 3) := by decide +kernel
theorem dX9_draw_4 : decode cX9_draw 4 = .ok (.bipush 25, 2) := by decide +kernel
theorem dX9_draw_6 : decode cX9_draw 6 = .ok (.aload_n 0, 1) := by decide +kernel
theorem dX9_draw_7 : decode cX9_draw 7 = .ok (.getfield 7, 3) := by decide +kernel
theorem dX9_draw_10 : decode cX9_draw 10 = .ok (.bipush 25, 2) := by decide +kernel
theorem dX9_draw_12 : decode cX9_draw 12 = .ok (.iaload, 1) := by decide +kernel
theorem dX9_draw_13 : decode cX9_draw 13 = .ok (.i2l, 1) := by decide +kernel
theorem dX9_draw_14 : decode cX9_draw 14 = .ok (.ldc2_w 261, 3) := by decide +kernel
theorem dX9_draw_17 : decode cX9_draw 17 = .ok (.lmul, 1) := by decide +kernel
theorem dX9_draw_18 : decode cX9_draw 18 = .ok (.ldc2_w 263, 3) := by decide +kernel
theorem dX9_draw_21 : decode cX9_draw 21 = .ok (.ladd, 1) := by decide +kernel
theorem dX9_draw_22 : decode cX9_draw 22 = .ok (.ldc2_w 265, 3) := by decide +kernel
theorem dX9_draw_25 : decode cX9_draw 25 = .ok (.lrem, 1) := by decide +kernel
theorem dX9_draw_26 : decode cX9_draw 26 = .ok (.l2i, 1) := by decide +kernel
theorem dX9_draw_27 : decode cX9_draw 27 = .ok (.iastore, 1) := by decide +kernel
theorem dX9_draw_28 : decode cX9_draw 28 = .ok (.aload_n 0, 1) := by decide +kernel
theorem dX9_draw_29 : decode cX9_draw 29 = .ok (.getfield 7, 3) := by decide +kernel
theorem dX9_draw_32 : decode cX9_draw 32 = .ok (.bipush 25, 2) := by decide +kernel
theorem dX9_draw_34 : decode cX9_draw 34 = .ok (.iaload, 1) := by decide +kernel
theorem dX9_draw_35 : decode cX9_draw 35 = .ok (.ldc_w 267, 3) := by decide +kernel
theorem dX9_draw_38 : decode cX9_draw 38 = .ok (.idiv, 1) := by decide +kernel
theorem dX9_draw_39 : decode cX9_draw 39 = .ok (.iload_n 1, 1) := by decide +kernel
theorem dX9_draw_40 : decode cX9_draw 40 = .ok (.irem, 1) := by decide +kernel
theorem dX9_draw_41 : decode cX9_draw 41 = .ok (.ireturn, 1) := by decide +kernel
theorem dX9_night_0 : decode cX9_night 0 = .ok (.iload_n 1, 1) := by decide +kernel
theorem dX9_night_1 : decode cX9_night 1 = .ok (.i2l, 1) := by decide +kernel
theorem dX9_night_2 : decode cX9_night 2 = .ok (.lconst 0, 1) := by decide +kernel
theorem dX9_night_3 : decode cX9_night 3 = .ok (.ldc2_w 250, 3) := by decide +kernel
theorem dX9_night_6 : decode cX9_night 6 = .ok (.invokestatic 95, 3) := by decide +kernel
theorem dX9_night_9 : decode cX9_night 9 = .ok (.ifCond .ne 6, 3) := by decide +kernel
theorem dX9_night_12 : decode cX9_night 12 = .ok (.ldc 99, 2) := by decide +kernel
theorem dX9_night_14 : decode cX9_night 14 = .ok (.ireturn, 1) := by decide +kernel
theorem dX9_night_15 : decode cX9_night 15 = .ok (.iconst 0, 1) := by decide +kernel
theorem dX9_night_16 : decode cX9_night 16 = .ok (.istore_n 2, 1) := by decide +kernel
theorem dX9_night_17 : decode cX9_night 17 = .ok (.iconst 0, 1) := by decide +kernel
theorem dX9_night_18 : decode cX9_night 18 = .ok (.istore_n 3, 1) := by decide +kernel
theorem dX9_night_19 : decode cX9_night 19 = .ok (.iload_n 3, 1) := by decide +kernel
theorem dX9_night_20 : decode cX9_night 20 = .ok (.aload_n 0, 1) := by decide +kernel
theorem dX9_night_21 : decode cX9_night 21 = .ok (.getfield 35, 3) := by decide +kernel
theorem dX9_night_24 : decode cX9_night 24 = .ok (.iconst 0, 1) := by decide +kernel
theorem dX9_night_25 : decode cX9_night 25 = .ok (.iaload, 1) := by decide +kernel
theorem dX9_night_26 : decode cX9_night 26 = .ok (.if_icmp .ge 44, 3) := by decide +kernel
theorem dX9_night_29 : decode cX9_night 29 = .ok (.iload_n 2, 1) := by decide +kernel
theorem dX9_night_30 : decode cX9_night 30 = .ok (.aload_n 0, 1) := by decide +kernel
theorem dX9_night_31 : decode cX9_night 31 = .ok (.bipush 100, 2) := by decide +kernel
theorem dX9_night_33 : decode cX9_night 33 = .ok (.invokevirtual 268, 3) := by decide +kernel
theorem dX9_night_36 : decode cX9_night 36 = .ok (.aload_n 0, 1) := by decide +kernel
theorem dX9_night_37 : decode cX9_night 37 = .ok (.getfield 17, 3) := by decide +kernel
theorem dX9_night_40 : decode cX9_night 40 = .ok (.bipush 6, 2) := by decide +kernel
theorem dX9_night_42 : decode cX9_night 42 = .ok (.iload_n 3, 1) := by decide +kernel
theorem dX9_night_43 : decode cX9_night 43 = .ok (.imul, 1) := by decide +kernel
theorem dX9_night_44 : decode cX9_night 44 = .ok (.iconst 2, 1) := by decide +kernel
theorem dX9_night_45 : decode cX9_night 45 = .ok (.iadd, 1) := by decide +kernel
theorem dX9_night_46 : decode cX9_night 46 = .ok (.iload_n 1, 1) := by decide +kernel
theorem dX9_night_47 : decode cX9_night 47 = .ok (.iadd, 1) := by decide +kernel
theorem dX9_night_48 : decode cX9_night 48 = .ok (.iaload, 1) := by decide +kernel
theorem dX9_night_49 : decode cX9_night 49 = .ok (.if_icmp .ge 7, 3) := by decide +kernel
theorem dX9_night_52 : decode cX9_night 52 = .ok (.iconst 1, 1) := by decide +kernel
theorem dX9_night_53 : decode cX9_night 53 = .ok (.goto 4, 3) := by decide +kernel
theorem dX9_night_56 : decode cX9_night 56 = .ok (.iconst 0, 1) := by decide +kernel
theorem dX9_night_57 : decode cX9_night 57 = .ok (.invokestatic 150, 3) := by decide +kernel
theorem dX9_night_60 : decode cX9_night 60 = .ok (.iload_n 3, 1) := by decide +kernel
theorem dX9_night_61 : decode cX9_night 61 = .ok (.ishl, 1) := by decide +kernel
theorem dX9_night_62 : decode cX9_night 62 = .ok (.ior, 1) := by decide +kernel
theorem dX9_night_63 : decode cX9_night 63 = .ok (.istore_n 2, 1) := by decide +kernel
theorem dX9_night_64 : decode cX9_night 64 = .ok (.iinc 3 1, 3) := by decide +kernel
theorem dX9_night_67 : decode cX9_night 67 = .ok (.goto (-48), 3) := by decide +kernel
theorem dX9_night_70 : decode cX9_night 70 = .ok (.aload_n 0, 1) := by decide +kernel
theorem dX9_night_71 : decode cX9_night 71 = .ok (.getfield 7, 3) := by decide +kernel
theorem dX9_night_74 : decode cX9_night 74 = .ok (.bipush 24, 2) := by decide +kernel
theorem dX9_night_76 : decode cX9_night 76 = .ok (.iload_n 2, 1) := by decide +kernel
theorem dX9_night_77 : decode cX9_night 77 = .ok (.iastore, 1) := by decide +kernel
theorem dX9_night_78 : decode cX9_night 78 = .ok (.iload_n 2, 1) := by decide +kernel
theorem dX9_night_79 : decode cX9_night 79 = .ok (.ireturn, 1) := by decide +kernel
theorem dX9_nextRound_0 : decode cX9_nextRound 0 = .ok (.aload_n 0, 1) := by decide +kernel
theorem dX9_nextRound_1 : decode cX9_nextRound 1 = .ok (.getfield 271, 3) := by decide +kernel
theorem dX9_nextRound_4 : decode cX9_nextRound 4 = .ok (.iconst 2, 1) := by decide +kernel
theorem dX9_nextRound_5 : decode cX9_nextRound 5 = .ok (.isub, 1) := by decide +kernel
theorem dX9_nextRound_6 : decode cX9_nextRound 6 = .ok (.istore_n 1, 1) := by decide +kernel
theorem dX9_nextRound_7 : decode cX9_nextRound 7 = .ok (.iload_n 1, 1) := by decide +kernel
theorem dX9_nextRound_8 : decode cX9_nextRound 8 = .ok (.ifCond .lt 26, 3) := by decide +kernel
theorem dX9_nextRound_11 : decode cX9_nextRound 11 = .ok (.aload_n 0, 1) := by decide +kernel
theorem dX9_nextRound_12 : decode cX9_nextRound 12 = .ok (.getfield 78, 3) := by decide +kernel
theorem dX9_nextRound_15 : decode cX9_nextRound 15 = .ok (.iload_n 1, 1) := by decide +kernel
theorem dX9_nextRound_16 : decode cX9_nextRound 16 = .ok (.iaload, 1) := by decide +kernel
theorem dX9_nextRound_17 : decode cX9_nextRound 17 = .ok (.aload_n 0, 1) := by decide +kernel
theorem dX9_nextRound_18 : decode cX9_nextRound 18 = .ok (.getfield 78, 3) := by decide +kernel
theorem dX9_nextRound_21 : decode cX9_nextRound 21 = .ok (.iload_n 1, 1) := by decide +kernel
theorem dX9_nextRound_22 : decode cX9_nextRound 22 = .ok (.iconst 1, 1) := by decide +kernel
theorem dX9_nextRound_23 : decode cX9_nextRound 23 = .ok (.iadd, 1) := by decide +kernel
theorem dX9_nextRound_24 : decode cX9_nextRound 24 = .ok (.iaload, 1) := by decide +kernel
theorem dX9_nextRound_25 : decode cX9_nextRound 25 = .ok (.if_icmp .le 9, 3) := by decide +kernel
theorem dX9_nextRound_28 : decode cX9_nextRound 28 = .ok (.iinc 1 (-1), 3) := by decide +kernel
theorem dX9_nextRound_31 : decode cX9_nextRound 31 = .ok (.goto (-24), 3) := by decide +kernel
theorem dX9_nextRound_34 : decode cX9_nextRound 34 = .ok (.iload_n 1, 1) := by decide +kernel
theorem dX9_nextRound_35 : decode cX9_nextRound 35 = .ok (.ifCond .ge 5, 3) := by decide +kernel
theorem dX9_nextRound_38 : decode cX9_nextRound 38 = .ok (.iconst 0, 1) := by decide +kernel
theorem dX9_nextRound_39 : decode cX9_nextRound 39 = .ok (.ireturn, 1) := by decide +kernel
theorem dX9_nextRound_40 : decode cX9_nextRound 40 = .ok (.aload_n 0, 1) := by decide +kernel
theorem dX9_nextRound_41 : decode cX9_nextRound 41 = .ok (.getfield 271, 3) := by decide +kernel
theorem dX9_nextRound_44 : decode cX9_nextRound 44 = .ok (.iconst 1, 1) := by decide +kernel
theorem dX9_nextRound_45 : decode cX9_nextRound 45 = .ok (.isub, 1) := by decide +kernel
theorem dX9_nextRound_46 : decode cX9_nextRound 46 = .ok (.istore_n 2, 1) := by decide +kernel
theorem dX9_nextRound_47 : decode cX9_nextRound 47 = .ok (.aload_n 0, 1) := by decide +kernel
theorem dX9_nextRound_48 : decode cX9_nextRound 48 = .ok (.getfield 78, 3) := by decide +kernel
theorem dX9_nextRound_51 : decode cX9_nextRound 51 = .ok (.iload_n 2, 1) := by decide +kernel
theorem dX9_nextRound_52 : decode cX9_nextRound 52 = .ok (.iaload, 1) := by decide +kernel
theorem dX9_nextRound_53 : decode cX9_nextRound 53 = .ok (.aload_n 0, 1) := by decide +kernel
theorem dX9_nextRound_54 : decode cX9_nextRound 54 = .ok (.getfield 78, 3) := by decide +kernel
theorem dX9_nextRound_57 : decode cX9_nextRound 57 = .ok (.iload_n 1, 1) := by decide +kernel
theorem dX9_nextRound_58 : decode cX9_nextRound 58 = .ok (.iaload, 1) := by decide +kernel
theorem dX9_nextRound_59 : decode cX9_nextRound 59 = .ok (.if_icmp .ge 9, 3) := by decide +kernel
theorem dX9_nextRound_62 : decode cX9_nextRound 62 = .ok (.iinc 2 (-1), 3) := by decide +kernel
theorem dX9_nextRound_65 : decode cX9_nextRound 65 = .ok (.goto (-18), 3) := by decide +kernel
theorem dX9_nextRound_68 : decode cX9_nextRound 68 = .ok (.aload_n 0, 1) := by decide +kernel
theorem dX9_nextRound_69 : decode cX9_nextRound 69 = .ok (.getfield 78, 3) := by decide +kernel
theorem dX9_nextRound_72 : decode cX9_nextRound 72 = .ok (.iload_n 1, 1) := by decide +kernel
theorem dX9_nextRound_73 : decode cX9_nextRound 73 = .ok (.iaload, 1) := by decide +kernel
theorem dX9_nextRound_74 : decode cX9_nextRound 74 = .ok (.istore_n 3, 1) := by decide +kernel
theorem dX9_nextRound_75 : decode cX9_nextRound 75 = .ok (.aload_n 0, 1) := by decide +kernel
theorem dX9_nextRound_76 : decode cX9_nextRound 76 = .ok (.getfield 78, 3) := by decide +kernel
theorem dX9_nextRound_79 : decode cX9_nextRound 79 = .ok (.iload_n 1, 1) := by decide +kernel
theorem dX9_nextRound_80 : decode cX9_nextRound 80 = .ok (.aload_n 0, 1) := by decide +kernel
theorem dX9_nextRound_81 : decode cX9_nextRound 81 = .ok (.getfield 78, 3) := by decide +kernel
theorem dX9_nextRound_84 : decode cX9_nextRound 84 = .ok (.iload_n 2, 1) := by decide +kernel
theorem dX9_nextRound_85 : decode cX9_nextRound 85 = .ok (.iaload, 1) := by decide +kernel
theorem dX9_nextRound_86 : decode cX9_nextRound 86 = .ok (.iastore, 1) := by decide +kernel
theorem dX9_nextRound_87 : decode cX9_nextRound 87 = .ok (.aload_n 0, 1) := by decide +kernel
theorem dX9_nextRound_88 : decode cX9_nextRound 88 = .ok (.getfield 78, 3) := by decide +kernel
theorem dX9_nextRound_91 : decode cX9_nextRound 91 = .ok (.iload_n 2, 1) := by decide +kernel
theorem dX9_nextRound_92 : decode cX9_nextRound 92 = .ok (.iload_n 3, 1) := by decide +kernel
theorem dX9_nextRound_93 : decode cX9_nextRound 93 = .ok (.iastore, 1) := by decide +kernel
theorem dX9_nextRound_94 : decode cX9_nextRound 94 = .ok (.iload_n 1, 1) := by decide +kernel
theorem dX9_nextRound_95 : decode cX9_nextRound 95 = .ok (.iconst 1, 1) := by decide +kernel
theorem dX9_nextRound_96 : decode cX9_nextRound 96 = .ok (.iadd, 1) := by decide +kernel
theorem dX9_nextRound_97 : decode cX9_nextRound 97 = .ok (.istore 4, 2) := by decide +kernel
theorem dX9_nextRound_99 : decode cX9_nextRound 99 = .ok (.aload_n 0, 1) := by decide +kernel
theorem dX9_nextRound_100 : decode cX9_nextRound 100 = .ok (.getfield 271, 3) := by decide +kernel
theorem dX9_nextRound_103 : decode cX9_nextRound 103 = .ok (.iconst 1, 1) := by decide +kernel
theorem dX9_nextRound_104 : decode cX9_nextRound 104 = .ok (.isub, 1) := by decide +kernel
theorem dX9_nextRound_105 : decode cX9_nextRound 105 = .ok (.istore 5, 2) := by decide +kernel
theorem dX9_nextRound_107 : decode cX9_nextRound 107 = .ok (.iload 4, 2) := by decide +kernel
theorem dX9_nextRound_109 : decode cX9_nextRound 109 = .ok (.iload 5, 2) := by decide +kernel
theorem dX9_nextRound_111 : decode cX9_nextRound 111 = .ok (.if_icmp .ge 42, 3) := by decide +kernel
theorem dX9_nextRound_114 : decode cX9_nextRound 114 = .ok (.aload_n 0, 1) := by decide +kernel
theorem dX9_nextRound_115 : decode cX9_nextRound 115 = .ok (.getfield 78, 3) := by decide +kernel
theorem dX9_nextRound_118 : decode cX9_nextRound 118 = .ok (.iload 4, 2) := by decide +kernel
theorem dX9_nextRound_120 : decode cX9_nextRound 120 = .ok (.iaload, 1) := by decide +kernel
theorem dX9_nextRound_121 : decode cX9_nextRound 121 = .ok (.istore_n 3, 1) := by decide +kernel
theorem dX9_nextRound_122 : decode cX9_nextRound 122 = .ok (.aload_n 0, 1) := by decide +kernel
theorem dX9_nextRound_123 : decode cX9_nextRound 123 = .ok (.getfield 78, 3) := by decide +kernel
theorem dX9_nextRound_126 : decode cX9_nextRound 126 = .ok (.iload 4, 2) := by decide +kernel
theorem dX9_nextRound_128 : decode cX9_nextRound 128 = .ok (.aload_n 0, 1) := by decide +kernel
theorem dX9_nextRound_129 : decode cX9_nextRound 129 = .ok (.getfield 78, 3) := by decide +kernel
theorem dX9_nextRound_132 : decode cX9_nextRound 132 = .ok (.iload 5, 2) := by decide +kernel
theorem dX9_nextRound_134 : decode cX9_nextRound 134 = .ok (.iaload, 1) := by decide +kernel
theorem dX9_nextRound_135 : decode cX9_nextRound 135 = .ok (.iastore, 1) := by decide +kernel
theorem dX9_nextRound_136 : decode cX9_nextRound 136 = .ok (.aload_n 0, 1) := by decide +kernel
theorem dX9_nextRound_137 : decode cX9_nextRound 137 = .ok (.getfield 78, 3) := by decide +kernel
theorem dX9_nextRound_140 : decode cX9_nextRound 140 = .ok (.iload 5, 2) := by decide +kernel
theorem dX9_nextRound_142 : decode cX9_nextRound 142 = .ok (.iload_n 3, 1) := by decide +kernel
theorem dX9_nextRound_143 : decode cX9_nextRound 143 = .ok (.iastore, 1) := by decide +kernel
theorem dX9_nextRound_144 : decode cX9_nextRound 144 = .ok (.iinc 4 1, 3) := by decide +kernel
theorem dX9_nextRound_147 : decode cX9_nextRound 147 = .ok (.iinc 5 (-1), 3) := by decide +kernel
theorem dX9_nextRound_150 : decode cX9_nextRound 150 = .ok (.goto (-43), 3) := by decide +kernel
theorem dX9_nextRound_153 : decode cX9_nextRound 153 = .ok (.iconst 1, 1) := by decide +kernel
theorem dX9_nextRound_154 : decode cX9_nextRound 154 = .ok (.ireturn, 1) := by decide +kernel
theorem dX9_cried_0 : decode cX9_cried 0 = .ok (.aload_n 0, 1) := by decide +kernel
theorem dX9_cried_1 : decode cX9_cried 1 = .ok (.iload_n 2, 1) := by decide +kernel
theorem dX9_cried_2 : decode cX9_cried 2 = .ok (.invokevirtual 216, 3) := by decide +kernel
theorem dX9_cried_5 : decode cX9_cried 5 = .ok (.aload_n 0, 1) := by decide +kernel
theorem dX9_cried_6 : decode cX9_cried 6 = .ok (.aload_n 0, 1) := by decide +kernel
theorem dX9_cried_7 : decode cX9_cried 7 = .ok (.getfield 271, 3) := by decide +kernel
theorem dX9_cried_10 : decode cX9_cried 10 = .ok (.putfield 209, 3) := by decide +kernel
theorem dX9_cried_13 : decode cX9_cried 13 = .ok (.iconst 0, 1) := by decide +kernel
theorem dX9_cried_14 : decode cX9_cried 14 = .ok (.istore_n 3, 1) := by decide +kernel
theorem dX9_cried_15 : decode cX9_cried 15 = .ok (.iload_n 3, 1) := by decide +kernel
theorem dX9_cried_16 : decode cX9_cried 16 = .ok (.aload_n 0, 1) := by decide +kernel
theorem dX9_cried_17 : decode cX9_cried 17 = .ok (.getfield 271, 3) := by decide +kernel
theorem dX9_cried_20 : decode cX9_cried 20 = .ok (.if_icmp .ge 21, 3) := by decide +kernel
theorem dX9_cried_23 : decode cX9_cried 23 = .ok (.aload_n 0, 1) := by decide +kernel
theorem dX9_cried_24 : decode cX9_cried 24 = .ok (.getfield 63, 3) := by decide +kernel
theorem dX9_cried_27 : decode cX9_cried 27 = .ok (.iload_n 3, 1) := by decide +kernel
theorem dX9_cried_28 : decode cX9_cried 28 = .ok (.aload_n 0, 1) := by decide +kernel
theorem dX9_cried_29 : decode cX9_cried 29 = .ok (.getfield 78, 3) := by decide +kernel
theorem dX9_cried_32 : decode cX9_cried 32 = .ok (.iload_n 3, 1) := by decide +kernel
theorem dX9_cried_33 : decode cX9_cried 33 = .ok (.iaload, 1) := by decide +kernel
theorem dX9_cried_34 : decode cX9_cried 34 = .ok (.iastore, 1) := by decide +kernel
theorem dX9_cried_35 : decode cX9_cried 35 = .ok (.iinc 3 1, 3) := by decide +kernel
theorem dX9_cried_38 : decode cX9_cried 38 = .ok (.goto (-23), 3) := by decide +kernel
theorem dX9_cried_41 : decode cX9_cried 41 = .ok (.aload_n 0, 1) := by decide +kernel
theorem dX9_cried_42 : decode cX9_cried 42 = .ok (.iload_n 2, 1) := by decide +kernel
theorem dX9_cried_43 : decode cX9_cried 43 = .ok (.iconst 0, 1) := by decide +kernel
theorem dX9_cried_44 : decode cX9_cried 44 = .ok (.iload_n 1, 1) := by decide +kernel
theorem dX9_cried_45 : decode cX9_cried 45 = .ok (.iload_n 2, 1) := by decide +kernel
theorem dX9_cried_46 : decode cX9_cried 46 = .ok (.aload_n 0, 1) := by decide +kernel
theorem dX9_cried_47 : decode cX9_cried 47 = .ok (.getfield 7, 3) := by decide +kernel
theorem dX9_cried_50 : decode cX9_cried 50 = .ok (.bipush 24, 2) := by decide +kernel
theorem dX9_cried_52 : decode cX9_cried 52 = .ok (.iaload, 1) := by decide +kernel
theorem dX9_cried_53 : decode cX9_cried 53 = .ok (.invokevirtual 219, 3) := by decide +kernel
theorem dX9_cried_56 : decode cX9_cried 56 = .ok (.aload_n 0, 1) := by decide +kernel
theorem dX9_cried_57 : decode cX9_cried 57 = .ok (.iload_n 1, 1) := by decide +kernel
theorem dX9_cried_58 : decode cX9_cried 58 = .ok (.invokevirtual 223, 3) := by decide +kernel
theorem dX9_cried_61 : decode cX9_cried 61 = .ok (.aload_n 0, 1) := by decide +kernel
theorem dX9_cried_62 : decode cX9_cried 62 = .ok (.invokevirtual 233, 3) := by decide +kernel
theorem dX9_cried_65 : decode cX9_cried 65 = .ok (.aload_n 0, 1) := by decide +kernel
theorem dX9_cried_66 : decode cX9_cried 66 = .ok (.aload_n 0, 1) := by decide +kernel
theorem dX9_cried_67 : decode cX9_cried 67 = .ok (.invokevirtual 236, 3) := by decide +kernel
theorem dX9_cried_70 : decode cX9_cried 70 = .ok (.invokevirtual 239, 3) := by decide +kernel
theorem dX9_cried_73 : decode cX9_cried 73 = .ok (.invokestatic 256, 3) := by decide +kernel
theorem dX9_cried_76 : decode cX9_cried 76 = .ok (.ireturn, 1) := by decide +kernel
theorem dX9_crier_0 : decode cX9_crier 0 = .ok (.aload_n 0, 1) := by decide +kernel
theorem dX9_crier_1 : decode cX9_crier 1 = .ok (.iload_n 1, 1) := by decide +kernel
theorem dX9_crier_2 : decode cX9_crier 2 = .ok (.invokevirtual 193, 3) := by decide +kernel
theorem dX9_crier_5 : decode cX9_crier 5 = .ok (.ifCond .eq 11, 3) := by decide +kernel
theorem dX9_crier_8 : decode cX9_crier 8 = .ok (.aload_n 0, 1) := by decide +kernel
theorem dX9_crier_9 : decode cX9_crier 9 = .ok (.iload_n 2, 1) := by decide +kernel
theorem dX9_crier_10 : decode cX9_crier 10 = .ok (.invokevirtual 193, 3) := by decide +kernel
theorem dX9_crier_13 : decode cX9_crier 13 = .ok (.ifCond .ne 6, 3) := by decide +kernel
theorem dX9_crier_16 : decode cX9_crier 16 = .ok (.ldc 197, 2) := by decide +kernel
theorem dX9_crier_18 : decode cX9_crier 18 = .ok (.ireturn, 1) := by decide +kernel
theorem dX9_crier_19 : decode cX9_crier 19 = .ok (.aload_n 0, 1) := by decide +kernel
theorem dX9_crier_20 : decode cX9_crier 20 = .ok (.iconst 0, 1) := by decide +kernel
theorem dX9_crier_21 : decode cX9_crier 21 = .ok (.putfield 271, 3) := by decide +kernel
theorem dX9_crier_24 : decode cX9_crier 24 = .ok (.iconst 0, 1) := by decide +kernel
theorem dX9_crier_25 : decode cX9_crier 25 = .ok (.istore 4, 2) := by decide +kernel
theorem dX9_crier_27 : decode cX9_crier 27 = .ok (.iload 4, 2) := by decide +kernel
theorem dX9_crier_29 : decode cX9_crier 29 = .ok (.aload_n 0, 1) := by decide +kernel
theorem dX9_crier_30 : decode cX9_crier 30 = .ok (.getfield 35, 3) := by decide +kernel
theorem dX9_crier_33 : decode cX9_crier 33 = .ok (.iconst 0, 1) := by decide +kernel
theorem dX9_crier_34 : decode cX9_crier 34 = .ok (.iaload, 1) := by decide +kernel
theorem dX9_crier_35 : decode cX9_crier 35 = .ok (.if_icmp .ge 45, 3) := by decide +kernel
theorem dX9_crier_38 : decode cX9_crier 38 = .ok (.iload 4, 2) := by decide +kernel
theorem dX9_crier_40 : decode cX9_crier 40 = .ok (.iload_n 2, 1) := by decide +kernel
theorem dX9_crier_41 : decode cX9_crier 41 = .ok (.if_icmp .eq 33, 3) := by decide +kernel
theorem dX9_crier_44 : decode cX9_crier 44 = .ok (.aload_n 0, 1) := by decide +kernel
theorem dX9_crier_45 : decode cX9_crier 45 = .ok (.iload 4, 2) := by decide +kernel
theorem dX9_crier_47 : decode cX9_crier 47 = .ok (.invokevirtual 200, 3) := by decide +kernel
theorem dX9_crier_50 : decode cX9_crier 50 = .ok (.ifCond .eq 24, 3) := by decide +kernel
theorem dX9_crier_53 : decode cX9_crier 53 = .ok (.aload_n 0, 1) := by decide +kernel
theorem dX9_crier_54 : decode cX9_crier 54 = .ok (.getfield 78, 3) := by decide +kernel
theorem dX9_crier_57 : decode cX9_crier 57 = .ok (.aload_n 0, 1) := by decide +kernel
theorem dX9_crier_58 : decode cX9_crier 58 = .ok (.getfield 271, 3) := by decide +kernel
theorem dX9_crier_61 : decode cX9_crier 61 = .ok (.iload 4, 2) := by decide +kernel
theorem dX9_crier_63 : decode cX9_crier 63 = .ok (.iastore, 1) := by decide +kernel
theorem dX9_crier_64 : decode cX9_crier 64 = .ok (.aload_n 0, 1) := by decide +kernel
theorem dX9_crier_65 : decode cX9_crier 65 = .ok (.dup, 1) := by decide +kernel
theorem dX9_crier_66 : decode cX9_crier 66 = .ok (.getfield 271, 3) := by decide +kernel
theorem dX9_crier_69 : decode cX9_crier 69 = .ok (.iconst 1, 1) := by decide +kernel
theorem dX9_crier_70 : decode cX9_crier 70 = .ok (.iadd, 1) := by decide +kernel
theorem dX9_crier_71 : decode cX9_crier 71 = .ok (.putfield 271, 3) := by decide +kernel
theorem dX9_crier_74 : decode cX9_crier 74 = .ok (.iinc 4 1, 3) := by decide +kernel
theorem dX9_crier_77 : decode cX9_crier 77 = .ok (.goto (-50), 3) := by decide +kernel
theorem dX9_crier_80 : decode cX9_crier 80 = .ok (.aload_n 0, 1) := by decide +kernel
theorem dX9_crier_81 : decode cX9_crier 81 = .ok (.getfield 271, 3) := by decide +kernel
theorem dX9_crier_84 : decode cX9_crier 84 = .ok (.bipush 7, 2) := by decide +kernel
theorem dX9_crier_86 : decode cX9_crier 86 = .ok (.if_icmp .le 6, 3) := by decide +kernel
theorem dX9_crier_89 : decode cX9_crier 89 = .ok (.ldc 185, 2) := by decide +kernel
theorem dX9_crier_91 : decode cX9_crier 91 = .ok (.ireturn, 1) := by decide +kernel
theorem dX9_crier_92 : decode cX9_crier 92 = .ok (.iconst (-1), 1) := by decide +kernel
theorem dX9_crier_93 : decode cX9_crier 93 = .ok (.istore 4, 2) := by decide +kernel
theorem dX9_crier_95 : decode cX9_crier 95 = .ok (.iconst 1, 1) := by decide +kernel
theorem dX9_crier_96 : decode cX9_crier 96 = .ok (.istore 5, 2) := by decide +kernel
theorem dX9_crier_98 : decode cX9_crier 98 = .ok (.iload 5, 2) := by decide +kernel
theorem dX9_crier_100 : decode cX9_crier 100 = .ok (.ifCond .eq 68, 3) := by decide +kernel
theorem dX9_crier_103 : decode cX9_crier 103 = .ok (.aload_n 0, 1) := by decide +kernel
theorem dX9_crier_104 : decode cX9_crier 104 = .ok (.iload_n 1, 1) := by decide +kernel
theorem dX9_crier_105 : decode cX9_crier 105 = .ok (.iload_n 2, 1) := by decide +kernel
theorem dX9_crier_106 : decode cX9_crier 106 = .ok (.invokevirtual 274, 3) := by decide +kernel
theorem dX9_crier_109 : decode cX9_crier 109 = .ok (.istore 6, 2) := by decide +kernel
theorem dX9_crier_111 : decode cX9_crier 111 = .ok (.iload 4, 2) := by decide +kernel
theorem dX9_crier_113 : decode cX9_crier 113 = .ok (.ifCond .lt 10, 3) := by decide +kernel
theorem dX9_crier_116 : decode cX9_crier 116 = .ok (.iload 6, 2) := by decide +kernel
theorem dX9_crier_118 : decode cX9_crier 118 = .ok (.iload 4, 2) := by decide +kernel
theorem dX9_crier_120 : decode cX9_crier 120 = .ok (.if_icmp .ge 39, 3) := by decide +kernel
theorem dX9_crier_123 : decode cX9_crier 123 = .ok (.iload 6, 2) := by decide +kernel
theorem dX9_crier_125 : decode cX9_crier 125 = .ok (.istore 4, 2) := by decide +kernel
theorem dX9_crier_127 : decode cX9_crier 127 = .ok (.iconst 0, 1) := by decide +kernel
theorem dX9_crier_128 : decode cX9_crier 128 = .ok (.istore 7, 2) := by decide +kernel
theorem dX9_crier_130 : decode cX9_crier 130 = .ok (.iload 7, 2) := by decide +kernel
theorem dX9_crier_132 : decode cX9_crier 132 = .ok (.aload_n 0, 1) := by decide +kernel
theorem dX9_crier_133 : decode cX9_crier 133 = .ok (.getfield 271, 3) := by decide +kernel
theorem dX9_crier_136 : decode cX9_crier 136 = .ok (.if_icmp .ge 23, 3) := by decide +kernel
theorem dX9_crier_139 : decode cX9_crier 139 = .ok (.aload_n 0, 1) := by decide +kernel
theorem dX9_crier_140 : decode cX9_crier 140 = .ok (.getfield 81, 3) := by decide +kernel
theorem dX9_crier_143 : decode cX9_crier 143 = .ok (.iload 7, 2) := by decide +kernel
theorem dX9_crier_145 : decode cX9_crier 145 = .ok (.aload_n 0, 1) := by decide +kernel
theorem dX9_crier_146 : decode cX9_crier 146 = .ok (.getfield 78, 3) := by decide +kernel
theorem dX9_crier_149 : decode cX9_crier 149 = .ok (.iload 7, 2) := by decide +kernel
theorem dX9_crier_151 : decode cX9_crier 151 = .ok (.iaload, 1) := by decide +kernel
theorem dX9_crier_152 : decode cX9_crier 152 = .ok (.iastore, 1) := by decide +kernel
theorem dX9_crier_153 : decode cX9_crier 153 = .ok (.iinc 7 1, 3) := by decide +kernel
theorem dX9_crier_156 : decode cX9_crier 156 = .ok (.goto (-26), 3) := by decide +kernel
theorem dX9_crier_159 : decode cX9_crier 159 = .ok (.aload_n 0, 1) := by decide +kernel
theorem dX9_crier_160 : decode cX9_crier 160 = .ok (.invokevirtual 277, 3) := by decide +kernel
theorem dX9_crier_163 : decode cX9_crier 163 = .ok (.istore 5, 2) := by decide +kernel
theorem dX9_crier_165 : decode cX9_crier 165 = .ok (.goto (-67), 3) := by decide +kernel
theorem dX9_crier_168 : decode cX9_crier 168 = .ok (.iload_n 3, 1) := by decide +kernel
theorem dX9_crier_169 : decode cX9_crier 169 = .ok (.iconst (-1), 1) := by decide +kernel
theorem dX9_crier_170 : decode cX9_crier 170 = .ok (.if_icmp .ne 8, 3) := by decide +kernel
theorem dX9_crier_173 : decode cX9_crier 173 = .ok (.iload 4, 2) := by decide +kernel
theorem dX9_crier_175 : decode cX9_crier 175 = .ok (.goto 29, 3) := by decide +kernel
theorem dX9_crier_178 : decode cX9_crier 178 = .ok (.iload_n 3, 1) := by decide +kernel
theorem dX9_crier_179 : decode cX9_crier 179 = .ok (.i2l, 1) := by decide +kernel
theorem dX9_crier_180 : decode cX9_crier 180 = .ok (.lconst 0, 1) := by decide +kernel
theorem dX9_crier_181 : decode cX9_crier 181 = .ok (.aload_n 0, 1) := by decide +kernel
theorem dX9_crier_182 : decode cX9_crier 182 = .ok (.getfield 271, 3) := by decide +kernel
theorem dX9_crier_185 : decode cX9_crier 185 = .ok (.iconst 1, 1) := by decide +kernel
theorem dX9_crier_186 : decode cX9_crier 186 = .ok (.isub, 1) := by decide +kernel
theorem dX9_crier_187 : decode cX9_crier 187 = .ok (.i2l, 1) := by decide +kernel
theorem dX9_crier_188 : decode cX9_crier 188 = .ok (.invokestatic 95, 3) := by decide +kernel
theorem dX9_crier_191 : decode cX9_crier 191 = .ok (.ifCond .eq 12, 3) := by decide +kernel
theorem dX9_crier_194 : decode cX9_crier 194 = .ok (.aload_n 0, 1) := by decide +kernel
theorem dX9_crier_195 : decode cX9_crier 195 = .ok (.getfield 81, 3) := by decide +kernel
theorem dX9_crier_198 : decode cX9_crier 198 = .ok (.iload_n 3, 1) := by decide +kernel
theorem dX9_crier_199 : decode cX9_crier 199 = .ok (.iaload, 1) := by decide +kernel
theorem dX9_crier_200 : decode cX9_crier 200 = .ok (.goto 4, 3) := by decide +kernel
theorem dX9_crier_203 : decode cX9_crier 203 = .ok (.iconst (-1), 1) := by decide +kernel
theorem dX9_crier_204 : decode cX9_crier 204 = .ok (.ireturn, 1) := by decide +kernel
theorem dX9_keepAt_0 : decode cX9_keepAt 0 = .ok (.aload_n 0, 1) := by decide +kernel
theorem dX9_keepAt_1 : decode cX9_keepAt 1 = .ok (.iload_n 1, 1) := by decide +kernel
theorem dX9_keepAt_2 : decode cX9_keepAt 2 = .ok (.invokevirtual 206, 3) := by decide +kernel
theorem dX9_keepAt_5 : decode cX9_keepAt 5 = .ok (.ifCond .eq 11, 3) := by decide +kernel
theorem dX9_keepAt_8 : decode cX9_keepAt 8 = .ok (.aload_n 0, 1) := by decide +kernel
theorem dX9_keepAt_9 : decode cX9_keepAt 9 = .ok (.iload_n 2, 1) := by decide +kernel
theorem dX9_keepAt_10 : decode cX9_keepAt 10 = .ok (.invokevirtual 193, 3) := by decide +kernel
theorem dX9_keepAt_13 : decode cX9_keepAt 13 = .ok (.ifCond .ne 6, 3) := by decide +kernel
theorem dX9_keepAt_16 : decode cX9_keepAt 16 = .ok (.ldc 197, 2) := by decide +kernel
theorem dX9_keepAt_18 : decode cX9_keepAt 18 = .ok (.ireturn, 1) := by decide +kernel
theorem dX9_keepAt_19 : decode cX9_keepAt 19 = .ok (.aload_n 0, 1) := by decide +kernel
theorem dX9_keepAt_20 : decode cX9_keepAt 20 = .ok (.getfield 7, 3) := by decide +kernel
theorem dX9_keepAt_23 : decode cX9_keepAt 23 = .ok (.iload_n 1, 1) := by decide +kernel
theorem dX9_keepAt_24 : decode cX9_keepAt 24 = .ok (.iaload, 1) := by decide +kernel
theorem dX9_keepAt_25 : decode cX9_keepAt 25 = .ok (.istore_n 3, 1) := by decide +kernel
theorem dX9_keepAt_26 : decode cX9_keepAt 26 = .ok (.aload_n 0, 1) := by decide +kernel
theorem dX9_keepAt_27 : decode cX9_keepAt 27 = .ok (.getfield 7, 3) := by decide +kernel
theorem dX9_keepAt_30 : decode cX9_keepAt 30 = .ok (.iload_n 1, 1) := by decide +kernel
theorem dX9_keepAt_31 : decode cX9_keepAt 31 = .ok (.iload_n 2, 1) := by decide +kernel
theorem dX9_keepAt_32 : decode cX9_keepAt 32 = .ok (.iastore, 1) := by decide +kernel
theorem dX9_keepAt_33 : decode cX9_keepAt 33 = .ok (.iload_n 3, 1) := by decide +kernel
theorem dX9_keepAt_34 : decode cX9_keepAt 34 = .ok (.ireturn, 1) := by decide +kernel
theorem dX9_holds_0 : decode cX9_holds 0 = .ok (.iconst 1, 1) := by decide +kernel
theorem dX9_holds_1 : decode cX9_holds 1 = .ok (.istore_n 3, 1) := by decide +kernel
theorem dX9_holds_2 : decode cX9_holds 2 = .ok (.iconst 0, 1) := by decide +kernel
theorem dX9_holds_3 : decode cX9_holds 3 = .ok (.istore 4, 2) := by decide +kernel
theorem dX9_holds_5 : decode cX9_holds 5 = .ok (.iload 4, 2) := by decide +kernel
theorem dX9_holds_7 : decode cX9_holds 7 = .ok (.aload_n 0, 1) := by decide +kernel
theorem dX9_holds_8 : decode cX9_holds 8 = .ok (.getfield 35, 3) := by decide +kernel
theorem dX9_holds_11 : decode cX9_holds 11 = .ok (.iconst 0, 1) := by decide +kernel
theorem dX9_holds_12 : decode cX9_holds 12 = .ok (.iaload, 1) := by decide +kernel
theorem dX9_holds_13 : decode cX9_holds 13 = .ok (.if_icmp .ge 40, 3) := by decide +kernel
theorem dX9_holds_16 : decode cX9_holds 16 = .ok (.iload_n 3, 1) := by decide +kernel
theorem dX9_holds_17 : decode cX9_holds 17 = .ok (.ifCond .eq 36, 3) := by decide +kernel
theorem dX9_holds_20 : decode cX9_holds 20 = .ok (.aload_n 0, 1) := by decide +kernel
theorem dX9_holds_21 : decode cX9_holds 21 = .ok (.iload 4, 2) := by decide +kernel
theorem dX9_holds_23 : decode cX9_holds 23 = .ok (.iload_n 1, 1) := by decide +kernel
theorem dX9_holds_24 : decode cX9_holds 24 = .ok (.iconst 0, 1) := by decide +kernel
theorem dX9_holds_25 : decode cX9_holds 25 = .ok (.invokevirtual 242, 3) := by decide +kernel
theorem dX9_holds_28 : decode cX9_holds 28 = .ok (.istore 5, 2) := by decide +kernel
theorem dX9_holds_30 : decode cX9_holds 30 = .ok (.iload 5, 2) := by decide +kernel
theorem dX9_holds_32 : decode cX9_holds 32 = .ok (.ifCond .lt 13, 3) := by decide +kernel
theorem dX9_holds_35 : decode cX9_holds 35 = .ok (.iload 5, 2) := by decide +kernel
theorem dX9_holds_37 : decode cX9_holds 37 = .ok (.iload_n 2, 1) := by decide +kernel
theorem dX9_holds_38 : decode cX9_holds 38 = .ok (.if_icmp .gt 7, 3) := by decide +kernel
theorem dX9_holds_41 : decode cX9_holds 41 = .ok (.iconst 1, 1) := by decide +kernel
theorem dX9_holds_42 : decode cX9_holds 42 = .ok (.goto 4, 3) := by decide +kernel
theorem dX9_holds_45 : decode cX9_holds 45 = .ok (.iconst 0, 1) := by decide +kernel
theorem dX9_holds_46 : decode cX9_holds 46 = .ok (.istore_n 3, 1) := by decide +kernel
theorem dX9_holds_47 : decode cX9_holds 47 = .ok (.iinc 4 1, 3) := by decide +kernel
theorem dX9_holds_50 : decode cX9_holds 50 = .ok (.goto (-45), 3) := by decide +kernel
theorem dX9_holds_53 : decode cX9_holds 53 = .ok (.iload_n 3, 1) := by decide +kernel
theorem dX9_holds_54 : decode cX9_holds 54 = .ok (.ireturn, 1) := by decide +kernel
theorem dX9_movesTwo_0 : decode cX9_movesTwo 0 = .ok (.iload_n 3, 1) := by decide +kernel
theorem dX9_movesTwo_1 : decode cX9_movesTwo 1 = .ok (.iconst 1, 1) := by decide +kernel
theorem dX9_movesTwo_2 : decode cX9_movesTwo 2 = .ok (.iadd, 1) := by decide +kernel
theorem dX9_movesTwo_3 : decode cX9_movesTwo 3 = .ok (.istore 4, 2) := by decide +kernel
theorem dX9_movesTwo_5 : decode cX9_movesTwo 5 = .ok (.iload 4, 2) := by decide +kernel
theorem dX9_movesTwo_7 : decode cX9_movesTwo 7 = .ok (.aload_n 0, 1) := by decide +kernel
theorem dX9_movesTwo_8 : decode cX9_movesTwo 8 = .ok (.getfield 35, 3) := by decide +kernel
theorem dX9_movesTwo_11 : decode cX9_movesTwo 11 = .ok (.iconst 1, 1) := by decide +kernel
theorem dX9_movesTwo_12 : decode cX9_movesTwo 12 = .ok (.iaload, 1) := by decide +kernel
theorem dX9_movesTwo_13 : decode cX9_movesTwo 13 = .ok (.if_icmp .ge 102, 3) := by decide +kernel
theorem dX9_movesTwo_16 : decode cX9_movesTwo 16 = .ok (.aload_n 0, 1) := by decide +kernel
theorem dX9_movesTwo_17 : decode cX9_movesTwo 17 = .ok (.getfield 7, 3) := by decide +kernel
theorem dX9_movesTwo_20 : decode cX9_movesTwo 20 = .ok (.iload 4, 2) := by decide +kernel
theorem dX9_movesTwo_22 : decode cX9_movesTwo 22 = .ok (.iaload, 1) := by decide +kernel
theorem dX9_movesTwo_23 : decode cX9_movesTwo 23 = .ok (.istore 5, 2) := by decide +kernel
theorem dX9_movesTwo_25 : decode cX9_movesTwo 25 = .ok (.iconst 0, 1) := by decide +kernel
theorem dX9_movesTwo_26 : decode cX9_movesTwo 26 = .ok (.istore 6, 2) := by decide +kernel
theorem dX9_movesTwo_28 : decode cX9_movesTwo 28 = .ok (.iload 6, 2) := by decide +kernel
theorem dX9_movesTwo_30 : decode cX9_movesTwo 30 = .ok (.aload_n 0, 1) := by decide +kernel
theorem dX9_movesTwo_31 : decode cX9_movesTwo 31 = .ok (.getfield 35, 3) := by decide +kernel
theorem dX9_movesTwo_34 : decode cX9_movesTwo 34 = .ok (.iconst 0, 1) := by decide +kernel
theorem dX9_movesTwo_35 : decode cX9_movesTwo 35 = .ok (.iaload, 1) := by decide +kernel
theorem dX9_movesTwo_36 : decode cX9_movesTwo 36 = .ok (.if_icmp .ge 73, 3) := by decide +kernel
theorem dX9_movesTwo_39 : decode cX9_movesTwo 39 = .ok (.aload_n 0, 1) := by decide +kernel
theorem dX9_movesTwo_40 : decode cX9_movesTwo 40 = .ok (.getfield 7, 3) := by decide +kernel
theorem dX9_movesTwo_43 : decode cX9_movesTwo 43 = .ok (.iload 4, 2) := by decide +kernel
theorem dX9_movesTwo_45 : decode cX9_movesTwo 45 = .ok (.iload 6, 2) := by decide +kernel
theorem dX9_movesTwo_47 : decode cX9_movesTwo 47 = .ok (.iastore, 1) := by decide +kernel
theorem dX9_movesTwo_48 : decode cX9_movesTwo 48 = .ok (.iload 6, 2) := by decide +kernel
theorem dX9_movesTwo_50 : decode cX9_movesTwo 50 = .ok (.iload 5, 2) := by decide +kernel
theorem dX9_movesTwo_52 : decode cX9_movesTwo 52 = .ok (.if_icmp .eq 16, 3) := by decide +kernel
theorem dX9_movesTwo_55 : decode cX9_movesTwo 55 = .ok (.aload_n 0, 1) := by decide +kernel
theorem dX9_movesTwo_56 : decode cX9_movesTwo 56 = .ok (.iload_n 1, 1) := by decide +kernel
theorem dX9_movesTwo_57 : decode cX9_movesTwo 57 = .ok (.iload_n 2, 1) := by decide +kernel
theorem dX9_movesTwo_58 : decode cX9_movesTwo 58 = .ok (.invokevirtual 281, 3) := by decide +kernel
theorem dX9_movesTwo_61 : decode cX9_movesTwo 61 = .ok (.ifCond .eq 7, 3) := by decide +kernel
theorem dX9_movesTwo_64 : decode cX9_movesTwo 64 = .ok (.iconst 1, 1) := by decide +kernel
theorem dX9_movesTwo_65 : decode cX9_movesTwo 65 = .ok (.goto 4, 3) := by decide +kernel
theorem dX9_movesTwo_68 : decode cX9_movesTwo 68 = .ok (.iconst 0, 1) := by decide +kernel
theorem dX9_movesTwo_69 : decode cX9_movesTwo 69 = .ok (.istore 7, 2) := by decide +kernel
theorem dX9_movesTwo_71 : decode cX9_movesTwo 71 = .ok (.aload_n 0, 1) := by decide +kernel
theorem dX9_movesTwo_72 : decode cX9_movesTwo 72 = .ok (.getfield 7, 3) := by decide +kernel
theorem dX9_movesTwo_75 : decode cX9_movesTwo 75 = .ok (.iload 4, 2) := by decide +kernel
theorem dX9_movesTwo_77 : decode cX9_movesTwo 77 = .ok (.iload 5, 2) := by decide +kernel
theorem dX9_movesTwo_79 : decode cX9_movesTwo 79 = .ok (.iastore, 1) := by decide +kernel
theorem dX9_movesTwo_80 : decode cX9_movesTwo 80 = .ok (.iload 7, 2) := by decide +kernel
theorem dX9_movesTwo_82 : decode cX9_movesTwo 82 = .ok (.ifCond .eq 21, 3) := by decide +kernel
theorem dX9_movesTwo_85 : decode cX9_movesTwo 85 = .ok (.aload_n 0, 1) := by decide +kernel
theorem dX9_movesTwo_86 : decode cX9_movesTwo 86 = .ok (.getfield 84, 3) := by decide +kernel
theorem dX9_movesTwo_89 : decode cX9_movesTwo 89 = .ok (.iconst 3, 1) := by decide +kernel
theorem dX9_movesTwo_90 : decode cX9_movesTwo 90 = .ok (.iload 4, 2) := by decide +kernel
theorem dX9_movesTwo_92 : decode cX9_movesTwo 92 = .ok (.iastore, 1) := by decide +kernel
theorem dX9_movesTwo_93 : decode cX9_movesTwo 93 = .ok (.aload_n 0, 1) := by decide +kernel
theorem dX9_movesTwo_94 : decode cX9_movesTwo 94 = .ok (.getfield 84, 3) := by decide +kernel
theorem dX9_movesTwo_97 : decode cX9_movesTwo 97 = .ok (.iconst 4, 1) := by decide +kernel
theorem dX9_movesTwo_98 : decode cX9_movesTwo 98 = .ok (.iload 6, 2) := by decide +kernel
theorem dX9_movesTwo_100 : decode cX9_movesTwo 100 = .ok (.iastore, 1) := by decide +kernel
theorem dX9_movesTwo_101 : decode cX9_movesTwo 101 = .ok (.iconst 1, 1) := by decide +kernel
theorem dX9_movesTwo_102 : decode cX9_movesTwo 102 = .ok (.ireturn, 1) := by decide +kernel
theorem dX9_movesTwo_103 : decode cX9_movesTwo 103 = .ok (.iinc 6 1, 3) := by decide +kernel
theorem dX9_movesTwo_106 : decode cX9_movesTwo 106 = .ok (.goto (-78), 3) := by decide +kernel
theorem dX9_movesTwo_109 : decode cX9_movesTwo 109 = .ok (.iinc 4 1, 3) := by decide +kernel
theorem dX9_movesTwo_112 : decode cX9_movesTwo 112 = .ok (.goto (-107), 3) := by decide +kernel
theorem dX9_movesTwo_115 : decode cX9_movesTwo 115 = .ok (.iconst 0, 1) := by decide +kernel
theorem dX9_movesTwo_116 : decode cX9_movesTwo 116 = .ok (.ireturn, 1) := by decide +kernel
theorem dX9_findMoved_0 : decode cX9_findMoved 0 = .ok (.aload_n 0, 1) := by decide +kernel
theorem dX9_findMoved_1 : decode cX9_findMoved 1 = .ok (.iload_n 1, 1) := by decide +kernel
theorem dX9_findMoved_2 : decode cX9_findMoved 2 = .ok (.iload_n 2, 1) := by decide +kernel
theorem dX9_findMoved_3 : decode cX9_findMoved 3 = .ok (.invokevirtual 281, 3) := by decide +kernel
theorem dX9_findMoved_6 : decode cX9_findMoved 6 = .ok (.ifCond .eq 5, 3) := by decide +kernel
theorem dX9_findMoved_9 : decode cX9_findMoved 9 = .ok (.iconst 0, 1) := by decide +kernel
theorem dX9_findMoved_10 : decode cX9_findMoved 10 = .ok (.ireturn, 1) := by decide +kernel
theorem dX9_findMoved_11 : decode cX9_findMoved 11 = .ok (.iconst 1, 1) := by decide +kernel
theorem dX9_findMoved_12 : decode cX9_findMoved 12 = .ok (.istore_n 3, 1) := by decide +kernel
theorem dX9_findMoved_13 : decode cX9_findMoved 13 = .ok (.iload_n 3, 1) := by decide +kernel
theorem dX9_findMoved_14 : decode cX9_findMoved 14 = .ok (.iconst 2, 1) := by decide +kernel
theorem dX9_findMoved_15 : decode cX9_findMoved 15 = .ok (.if_icmp .gt 141, 3) := by decide +kernel
theorem dX9_findMoved_18 : decode cX9_findMoved 18 = .ok (.iconst 0, 1) := by decide +kernel
theorem dX9_findMoved_19 : decode cX9_findMoved 19 = .ok (.istore 4, 2) := by decide +kernel
theorem dX9_findMoved_21 : decode cX9_findMoved 21 = .ok (.iload 4, 2) := by decide +kernel
theorem dX9_findMoved_23 : decode cX9_findMoved 23 = .ok (.aload_n 0, 1) := by decide +kernel
theorem dX9_findMoved_24 : decode cX9_findMoved 24 = .ok (.getfield 35, 3) := by decide +kernel
theorem dX9_findMoved_27 : decode cX9_findMoved 27 = .ok (.iconst 1, 1) := by decide +kernel
theorem dX9_findMoved_28 : decode cX9_findMoved 28 = .ok (.iaload, 1) := by decide +kernel
theorem dX9_findMoved_29 : decode cX9_findMoved 29 = .ok (.if_icmp .ge 121, 3) := by decide +kernel
theorem dX9_findMoved_32 : decode cX9_findMoved 32 = .ok (.aload_n 0, 1) := by decide +kernel
theorem dX9_findMoved_33 : decode cX9_findMoved 33 = .ok (.getfield 7, 3) := by decide +kernel
theorem dX9_findMoved_36 : decode cX9_findMoved 36 = .ok (.iload 4, 2) := by decide +kernel
theorem dX9_findMoved_38 : decode cX9_findMoved 38 = .ok (.iaload, 1) := by decide +kernel
theorem dX9_findMoved_39 : decode cX9_findMoved 39 = .ok (.istore 5, 2) := by decide +kernel
theorem dX9_findMoved_41 : decode cX9_findMoved 41 = .ok (.iconst 0, 1) := by decide +kernel
theorem dX9_findMoved_42 : decode cX9_findMoved 42 = .ok (.istore 6, 2) := by decide +kernel
theorem dX9_findMoved_44 : decode cX9_findMoved 44 = .ok (.iload 6, 2) := by decide +kernel
theorem dX9_findMoved_46 : decode cX9_findMoved 46 = .ok (.aload_n 0, 1) := by decide +kernel
theorem dX9_findMoved_47 : decode cX9_findMoved 47 = .ok (.getfield 35, 3) := by decide +kernel
theorem dX9_findMoved_50 : decode cX9_findMoved 50 = .ok (.iconst 0, 1) := by decide +kernel
theorem dX9_findMoved_51 : decode cX9_findMoved 51 = .ok (.iaload, 1) := by decide +kernel
theorem dX9_findMoved_52 : decode cX9_findMoved 52 = .ok (.if_icmp .ge 92, 3) := by decide +kernel
theorem dX9_findMoved_55 : decode cX9_findMoved 55 = .ok (.aload_n 0, 1) := by decide +kernel
theorem dX9_findMoved_56 : decode cX9_findMoved 56 = .ok (.getfield 7, 3) := by decide +kernel
theorem dX9_findMoved_59 : decode cX9_findMoved 59 = .ok (.iload 4, 2) := by decide +kernel
theorem dX9_findMoved_61 : decode cX9_findMoved 61 = .ok (.iload 6, 2) := by decide +kernel
theorem dX9_findMoved_63 : decode cX9_findMoved 63 = .ok (.iastore, 1) := by decide +kernel
theorem dX9_findMoved_64 : decode cX9_findMoved 64 = .ok (.iload 6, 2) := by decide +kernel
theorem dX9_findMoved_66 : decode cX9_findMoved 66 = .ok (.iload 5, 2) := by decide +kernel
theorem dX9_findMoved_68 : decode cX9_findMoved 68 = .ok (.if_icmp .eq 35, 3) := by decide +kernel
theorem dX9_findMoved_71 : decode cX9_findMoved 71 = .ok (.iload_n 3, 1) := by decide +kernel
theorem dX9_findMoved_72 : decode cX9_findMoved 72 = .ok (.iconst 1, 1) := by decide +kernel
theorem dX9_findMoved_73 : decode cX9_findMoved 73 = .ok (.if_icmp .ne 15, 3) := by decide +kernel
theorem dX9_findMoved_76 : decode cX9_findMoved 76 = .ok (.aload_n 0, 1) := by decide +kernel
theorem dX9_findMoved_77 : decode cX9_findMoved 77 = .ok (.iload_n 1, 1) := by decide +kernel
theorem dX9_findMoved_78 : decode cX9_findMoved 78 = .ok (.iload_n 2, 1) := by decide +kernel
theorem dX9_findMoved_79 : decode cX9_findMoved 79 = .ok (.invokevirtual 281, 3) := by decide +kernel
theorem dX9_findMoved_82 : decode cX9_findMoved 82 = .ok (.ifCond .eq 21, 3) := by decide +kernel
theorem dX9_findMoved_85 : decode cX9_findMoved 85 = .ok (.goto 14, 3) := by decide +kernel
theorem dX9_findMoved_88 : decode cX9_findMoved 88 = .ok (.aload_n 0, 1) := by decide +kernel
theorem dX9_findMoved_89 : decode cX9_findMoved 89 = .ok (.iload_n 1, 1) := by decide +kernel
theorem dX9_findMoved_90 : decode cX9_findMoved 90 = .ok (.iload_n 2, 1) := by decide +kernel
theorem dX9_findMoved_91 : decode cX9_findMoved 91 = .ok (.iload 4, 2) := by decide +kernel
theorem dX9_findMoved_93 : decode cX9_findMoved 93 = .ok (.invokevirtual 284, 3) := by decide +kernel
theorem dX9_findMoved_96 : decode cX9_findMoved 96 = .ok (.ifCond .eq 7, 3) := by decide +kernel
theorem dX9_findMoved_99 : decode cX9_findMoved 99 = .ok (.iconst 1, 1) := by decide +kernel
theorem dX9_findMoved_100 : decode cX9_findMoved 100 = .ok (.goto 4, 3) := by decide +kernel
theorem dX9_findMoved_103 : decode cX9_findMoved 103 = .ok (.iconst 0, 1) := by decide +kernel
theorem dX9_findMoved_104 : decode cX9_findMoved 104 = .ok (.istore 7, 2) := by decide +kernel
theorem dX9_findMoved_106 : decode cX9_findMoved 106 = .ok (.aload_n 0, 1) := by decide +kernel
theorem dX9_findMoved_107 : decode cX9_findMoved 107 = .ok (.getfield 7, 3) := by decide +kernel
theorem dX9_findMoved_110 : decode cX9_findMoved 110 = .ok (.iload 4, 2) := by decide +kernel
theorem dX9_findMoved_112 : decode cX9_findMoved 112 = .ok (.iload 5, 2) := by decide +kernel
theorem dX9_findMoved_114 : decode cX9_findMoved 114 = .ok (.iastore, 1) := by decide +kernel
theorem dX9_findMoved_115 : decode cX9_findMoved 115 = .ok (.iload 7, 2) := by decide +kernel
theorem dX9_findMoved_117 : decode cX9_findMoved 117 = .ok (.ifCond .eq 21, 3) := by decide +kernel
theorem dX9_findMoved_120 : decode cX9_findMoved 120 = .ok (.aload_n 0, 1) := by decide +kernel
theorem dX9_findMoved_121 : decode cX9_findMoved 121 = .ok (.getfield 84, 3) := by decide +kernel
theorem dX9_findMoved_124 : decode cX9_findMoved 124 = .ok (.iconst 1, 1) := by decide +kernel
theorem dX9_findMoved_125 : decode cX9_findMoved 125 = .ok (.iload 4, 2) := by decide +kernel
theorem dX9_findMoved_127 : decode cX9_findMoved 127 = .ok (.iastore, 1) := by decide +kernel
theorem dX9_findMoved_128 : decode cX9_findMoved 128 = .ok (.aload_n 0, 1) := by decide +kernel
theorem dX9_findMoved_129 : decode cX9_findMoved 129 = .ok (.getfield 84, 3) := by decide +kernel
theorem dX9_findMoved_132 : decode cX9_findMoved 132 = .ok (.iconst 2, 1) := by decide +kernel
theorem dX9_findMoved_133 : decode cX9_findMoved 133 = .ok (.iload 6, 2) := by decide +kernel
theorem dX9_findMoved_135 : decode cX9_findMoved 135 = .ok (.iastore, 1) := by decide +kernel
theorem dX9_findMoved_136 : decode cX9_findMoved 136 = .ok (.iload_n 3, 1) := by decide +kernel
theorem dX9_findMoved_137 : decode cX9_findMoved 137 = .ok (.ireturn, 1) := by decide +kernel
theorem dX9_findMoved_138 : decode cX9_findMoved 138 = .ok (.iinc 6 1, 3) := by decide +kernel
theorem dX9_findMoved_141 : decode cX9_findMoved 141 = .ok (.goto (-97), 3) := by decide +kernel
theorem dX9_findMoved_144 : decode cX9_findMoved 144 = .ok (.iinc 4 1, 3) := by decide +kernel
theorem dX9_findMoved_147 : decode cX9_findMoved 147 = .ok (.goto (-126), 3) := by decide +kernel
theorem dX9_findMoved_150 : decode cX9_findMoved 150 = .ok (.iinc 3 1, 3) := by decide +kernel
theorem dX9_findMoved_153 : decode cX9_findMoved 153 = .ok (.goto (-140), 3) := by decide +kernel
theorem dX9_findMoved_156 : decode cX9_findMoved 156 = .ok (.iconst (-1), 1) := by decide +kernel
theorem dX9_findMoved_157 : decode cX9_findMoved 157 = .ok (.ireturn, 1) := by decide +kernel
theorem dX9_kept_0 : decode cX9_kept 0 = .ok (.aload_n 0, 1) := by decide +kernel
theorem dX9_kept_1 : decode cX9_kept 1 = .ok (.iload_n 1, 1) := by decide +kernel
theorem dX9_kept_2 : decode cX9_kept 2 = .ok (.invokevirtual 193, 3) := by decide +kernel
theorem dX9_kept_5 : decode cX9_kept 5 = .ok (.ifCond .ne 6, 3) := by decide +kernel
theorem dX9_kept_8 : decode cX9_kept 8 = .ok (.ldc 197, 2) := by decide +kernel
theorem dX9_kept_10 : decode cX9_kept 10 = .ok (.ireturn, 1) := by decide +kernel
theorem dX9_kept_11 : decode cX9_kept 11 = .ok (.iload_n 2, 1) := by decide +kernel
theorem dX9_kept_12 : decode cX9_kept 12 = .ok (.i2l, 1) := by decide +kernel
theorem dX9_kept_13 : decode cX9_kept 13 = .ok (.lconst 0, 1) := by decide +kernel
theorem dX9_kept_14 : decode cX9_kept 14 = .ok (.ldc2_w 287, 3) := by decide +kernel
theorem dX9_kept_17 : decode cX9_kept 17 = .ok (.invokestatic 95, 3) := by decide +kernel
theorem dX9_kept_20 : decode cX9_kept 20 = .ok (.ifCond .eq 15, 3) := by decide +kernel
theorem dX9_kept_23 : decode cX9_kept 23 = .ok (.iload_n 3, 1) := by decide +kernel
theorem dX9_kept_24 : decode cX9_kept 24 = .ok (.i2l, 1) := by decide +kernel
theorem dX9_kept_25 : decode cX9_kept 25 = .ok (.lconst 0, 1) := by decide +kernel
theorem dX9_kept_26 : decode cX9_kept 26 = .ok (.ldc2_w 289, 3) := by decide +kernel
theorem dX9_kept_29 : decode cX9_kept 29 = .ok (.invokestatic 95, 3) := by decide +kernel
theorem dX9_kept_32 : decode cX9_kept 32 = .ok (.ifCond .ne 6, 3) := by decide +kernel
theorem dX9_kept_35 : decode cX9_kept 35 = .ok (.ldc 99, 2) := by decide +kernel
theorem dX9_kept_37 : decode cX9_kept 37 = .ok (.ireturn, 1) := by decide +kernel
theorem dX9_kept_38 : decode cX9_kept 38 = .ok (.aload_n 0, 1) := by decide +kernel
theorem dX9_kept_39 : decode cX9_kept 39 = .ok (.iload_n 1, 1) := by decide +kernel
theorem dX9_kept_40 : decode cX9_kept 40 = .ok (.iload_n 2, 1) := by decide +kernel
theorem dX9_kept_41 : decode cX9_kept 41 = .ok (.invokevirtual 291, 3) := by decide +kernel
theorem dX9_kept_44 : decode cX9_kept 44 = .ok (.istore 4, 2) := by decide +kernel
theorem dX9_kept_46 : decode cX9_kept 46 = .ok (.iload_n 3, 1) := by decide +kernel
theorem dX9_kept_47 : decode cX9_kept 47 = .ok (.ifCond .ne 8, 3) := by decide +kernel
theorem dX9_kept_50 : decode cX9_kept 50 = .ok (.iload 4, 2) := by decide +kernel
theorem dX9_kept_52 : decode cX9_kept 52 = .ok (.goto 21, 3) := by decide +kernel
theorem dX9_kept_55 : decode cX9_kept 55 = .ok (.iload_n 3, 1) := by decide +kernel
theorem dX9_kept_56 : decode cX9_kept 56 = .ok (.iconst 2, 1) := by decide +kernel
theorem dX9_kept_57 : decode cX9_kept 57 = .ok (.iload 4, 2) := by decide +kernel
theorem dX9_kept_59 : decode cX9_kept 59 = .ok (.imul, 1) := by decide +kernel
theorem dX9_kept_60 : decode cX9_kept 60 = .ok (.if_icmp .gt 12, 3) := by decide +kernel
theorem dX9_kept_63 : decode cX9_kept 63 = .ok (.aload_n 0, 1) := by decide +kernel
theorem dX9_kept_64 : decode cX9_kept 64 = .ok (.getfield 84, 3) := by decide +kernel
theorem dX9_kept_67 : decode cX9_kept 67 = .ok (.iload_n 3, 1) := by decide +kernel
theorem dX9_kept_68 : decode cX9_kept 68 = .ok (.iaload, 1) := by decide +kernel
theorem dX9_kept_69 : decode cX9_kept 69 = .ok (.goto 4, 3) := by decide +kernel
theorem dX9_kept_72 : decode cX9_kept 72 = .ok (.iconst (-1), 1) := by decide +kernel
theorem dX9_kept_73 : decode cX9_kept 73 = .ok (.ireturn, 1) := by decide +kernel
theorem dX9_canBeIn_0 : decode cX9_canBeIn 0 = .ok (.iconst 0, 1) := by decide +kernel
theorem dX9_canBeIn_1 : decode cX9_canBeIn 1 = .ok (.istore_n 2, 1) := by decide +kernel
theorem dX9_canBeIn_2 : decode cX9_canBeIn 2 = .ok (.iconst 0, 1) := by decide +kernel
theorem dX9_canBeIn_3 : decode cX9_canBeIn 3 = .ok (.istore_n 3, 1) := by decide +kernel
theorem dX9_canBeIn_4 : decode cX9_canBeIn 4 = .ok (.iload_n 3, 1) := by decide +kernel
theorem dX9_canBeIn_5 : decode cX9_canBeIn 5 = .ok (.aload_n 0, 1) := by decide +kernel
theorem dX9_canBeIn_6 : decode cX9_canBeIn 6 = .ok (.getfield 35, 3) := by decide +kernel
theorem dX9_canBeIn_9 : decode cX9_canBeIn 9 = .ok (.iconst 1, 1) := by decide +kernel
theorem dX9_canBeIn_10 : decode cX9_canBeIn 10 = .ok (.iaload, 1) := by decide +kernel
theorem dX9_canBeIn_11 : decode cX9_canBeIn 11 = .ok (.if_icmp .ge 43, 3) := by decide +kernel
theorem dX9_canBeIn_14 : decode cX9_canBeIn 14 = .ok (.iload_n 2, 1) := by decide +kernel
theorem dX9_canBeIn_15 : decode cX9_canBeIn 15 = .ok (.iload_n 1, 1) := by decide +kernel
theorem dX9_canBeIn_16 : decode cX9_canBeIn 16 = .ok (.iload_n 3, 1) := by decide +kernel
theorem dX9_canBeIn_17 : decode cX9_canBeIn 17 = .ok (.invokestatic 146, 3) := by decide +kernel
theorem dX9_canBeIn_20 : decode cX9_canBeIn 20 = .ok (.ifCond .eq 20, 3) := by decide +kernel
theorem dX9_canBeIn_23 : decode cX9_canBeIn 23 = .ok (.aload_n 0, 1) := by decide +kernel
theorem dX9_canBeIn_24 : decode cX9_canBeIn 24 = .ok (.getfield 32, 3) := by decide +kernel
theorem dX9_canBeIn_27 : decode cX9_canBeIn 27 = .ok (.iload_n 3, 1) := by decide +kernel
theorem dX9_canBeIn_28 : decode cX9_canBeIn 28 = .ok (.iaload, 1) := by decide +kernel
theorem dX9_canBeIn_29 : decode cX9_canBeIn 29 = .ok (.iload_n 2, 1) := by decide +kernel
theorem dX9_canBeIn_30 : decode cX9_canBeIn 30 = .ok (.iconst (-1), 1) := by decide +kernel
theorem dX9_canBeIn_31 : decode cX9_canBeIn 31 = .ok (.ixor, 1) := by decide +kernel
theorem dX9_canBeIn_32 : decode cX9_canBeIn 32 = .ok (.iand, 1) := by decide +kernel
theorem dX9_canBeIn_33 : decode cX9_canBeIn 33 = .ok (.ifCond .ne 7, 3) := by decide +kernel
theorem dX9_canBeIn_36 : decode cX9_canBeIn 36 = .ok (.iconst 1, 1) := by decide +kernel
theorem dX9_canBeIn_37 : decode cX9_canBeIn 37 = .ok (.goto 4, 3) := by decide +kernel
theorem dX9_canBeIn_40 : decode cX9_canBeIn 40 = .ok (.iconst 0, 1) := by decide +kernel
theorem dX9_canBeIn_41 : decode cX9_canBeIn 41 = .ok (.invokestatic 150, 3) := by decide +kernel
theorem dX9_canBeIn_44 : decode cX9_canBeIn 44 = .ok (.iload_n 3, 1) := by decide +kernel
theorem dX9_canBeIn_45 : decode cX9_canBeIn 45 = .ok (.ishl, 1) := by decide +kernel
theorem dX9_canBeIn_46 : decode cX9_canBeIn 46 = .ok (.ior, 1) := by decide +kernel
theorem dX9_canBeIn_47 : decode cX9_canBeIn 47 = .ok (.istore_n 2, 1) := by decide +kernel
theorem dX9_canBeIn_48 : decode cX9_canBeIn 48 = .ok (.iinc 3 1, 3) := by decide +kernel
theorem dX9_canBeIn_51 : decode cX9_canBeIn 51 = .ok (.goto (-47), 3) := by decide +kernel
theorem dX9_canBeIn_54 : decode cX9_canBeIn 54 = .ok (.iload_n 2, 1) := by decide +kernel
theorem dX9_canBeIn_55 : decode cX9_canBeIn 55 = .ok (.ireturn, 1) := by decide +kernel
theorem dX9_reachOf_0 : decode cX9_reachOf 0 = .ok (.aload_n 0, 1) := by decide +kernel
theorem dX9_reachOf_1 : decode cX9_reachOf 1 = .ok (.iload_n 1, 1) := by decide +kernel
theorem dX9_reachOf_2 : decode cX9_reachOf 2 = .ok (.invokevirtual 294, 3) := by decide +kernel
theorem dX9_reachOf_5 : decode cX9_reachOf 5 = .ok (.istore_n 2, 1) := by decide +kernel
theorem dX9_reachOf_6 : decode cX9_reachOf 6 = .ok (.iconst 0, 1) := by decide +kernel
theorem dX9_reachOf_7 : decode cX9_reachOf 7 = .ok (.istore_n 3, 1) := by decide +kernel
theorem dX9_reachOf_8 : decode cX9_reachOf 8 = .ok (.iconst 0, 1) := by decide +kernel
theorem dX9_reachOf_9 : decode cX9_reachOf 9 = .ok (.istore 4, 2) := by decide +kernel
theorem dX9_reachOf_11 : decode cX9_reachOf 11 = .ok (.iload 4, 2) := by decide +kernel
theorem dX9_reachOf_13 : decode cX9_reachOf 13 = .ok (.aload_n 0, 1) := by decide +kernel
theorem dX9_reachOf_14 : decode cX9_reachOf 14 = .ok (.getfield 35, 3) := by decide +kernel
theorem dX9_reachOf_17 : decode cX9_reachOf 17 = .ok (.iconst 1, 1) := by decide +kernel
theorem dX9_reachOf_18 : decode cX9_reachOf 18 = .ok (.iaload, 1) := by decide +kernel
theorem dX9_reachOf_19 : decode cX9_reachOf 19 = .ok (.if_icmp .ge 32, 3) := by decide +kernel
theorem dX9_reachOf_22 : decode cX9_reachOf 22 = .ok (.iload_n 3, 1) := by decide +kernel
theorem dX9_reachOf_23 : decode cX9_reachOf 23 = .ok (.iload_n 2, 1) := by decide +kernel
theorem dX9_reachOf_24 : decode cX9_reachOf 24 = .ok (.iload 4, 2) := by decide +kernel
theorem dX9_reachOf_26 : decode cX9_reachOf 26 = .ok (.invokestatic 146, 3) := by decide +kernel
theorem dX9_reachOf_29 : decode cX9_reachOf 29 = .ok (.ifCond .eq 13, 3) := by decide +kernel
theorem dX9_reachOf_32 : decode cX9_reachOf 32 = .ok (.aload_n 0, 1) := by decide +kernel
theorem dX9_reachOf_33 : decode cX9_reachOf 33 = .ok (.getfield 29, 3) := by decide +kernel
theorem dX9_reachOf_36 : decode cX9_reachOf 36 = .ok (.iload 4, 2) := by decide +kernel
theorem dX9_reachOf_38 : decode cX9_reachOf 38 = .ok (.iaload, 1) := by decide +kernel
theorem dX9_reachOf_39 : decode cX9_reachOf 39 = .ok (.goto 4, 3) := by decide +kernel
theorem dX9_reachOf_42 : decode cX9_reachOf 42 = .ok (.iconst 0, 1) := by decide +kernel
theorem dX9_reachOf_43 : decode cX9_reachOf 43 = .ok (.iadd, 1) := by decide +kernel
theorem dX9_reachOf_44 : decode cX9_reachOf 44 = .ok (.istore_n 3, 1) := by decide +kernel
theorem dX9_reachOf_45 : decode cX9_reachOf 45 = .ok (.iinc 4 1, 3) := by decide +kernel
theorem dX9_reachOf_48 : decode cX9_reachOf 48 = .ok (.goto (-37), 3) := by decide +kernel
theorem dX9_reachOf_51 : decode cX9_reachOf 51 = .ok (.iload_n 3, 1) := by decide +kernel
theorem dX9_reachOf_52 : decode cX9_reachOf 52 = .ok (.ireturn, 1) := by decide +kernel
theorem dX9_reach_0 : decode cX9_reach 0 = .ok (.aload_n 0, 1) := by decide +kernel
theorem dX9_reach_1 : decode cX9_reach 1 = .ok (.iload_n 1, 1) := by decide +kernel
theorem dX9_reach_2 : decode cX9_reach 2 = .ok (.invokevirtual 297, 3) := by decide +kernel
theorem dX9_reach_5 : decode cX9_reach 5 = .ok (.ifCond .eq 11, 3) := by decide +kernel
theorem dX9_reach_8 : decode cX9_reach 8 = .ok (.aload_n 0, 1) := by decide +kernel
theorem dX9_reach_9 : decode cX9_reach 9 = .ok (.iload_n 1, 1) := by decide +kernel
theorem dX9_reach_10 : decode cX9_reach 10 = .ok (.invokevirtual 300, 3) := by decide +kernel
theorem dX9_reach_13 : decode cX9_reach 13 = .ok (.goto 5, 3) := by decide +kernel
theorem dX9_reach_16 : decode cX9_reach 16 = .ok (.ldc 197, 2) := by decide +kernel
theorem dX9_reach_18 : decode cX9_reach 18 = .ok (.ireturn, 1) := by decide +kernel
theorem dX9_needed_0 : decode cX9_needed 0 = .ok (.iload_n 1, 1) := by decide +kernel
theorem dX9_needed_1 : decode cX9_needed 1 = .ok (.i2l, 1) := by decide +kernel
theorem dX9_needed_2 : decode cX9_needed 2 = .ok (.lconst 0, 1) := by decide +kernel
theorem dX9_needed_3 : decode cX9_needed 3 = .ok (.ldc2_w 303, 3) := by decide +kernel
theorem dX9_needed_6 : decode cX9_needed 6 = .ok (.invokestatic 95, 3) := by decide +kernel
theorem dX9_needed_9 : decode cX9_needed 9 = .ok (.ifCond .ne 6, 3) := by decide +kernel
theorem dX9_needed_12 : decode cX9_needed 12 = .ok (.ldc 99, 2) := by decide +kernel
theorem dX9_needed_14 : decode cX9_needed 14 = .ok (.ireturn, 1) := by decide +kernel
theorem dX9_needed_15 : decode cX9_needed 15 = .ok (.iconst (-1), 1) := by decide +kernel
theorem dX9_needed_16 : decode cX9_needed 16 = .ok (.istore_n 2, 1) := by decide +kernel
theorem dX9_needed_17 : decode cX9_needed 17 = .ok (.iconst 0, 1) := by decide +kernel
theorem dX9_needed_18 : decode cX9_needed 18 = .ok (.istore_n 3, 1) := by decide +kernel
theorem dX9_needed_19 : decode cX9_needed 19 = .ok (.iload_n 3, 1) := by decide +kernel
theorem dX9_needed_20 : decode cX9_needed 20 = .ok (.aload_n 0, 1) := by decide +kernel
theorem dX9_needed_21 : decode cX9_needed 21 = .ok (.invokevirtual 236, 3) := by decide +kernel
theorem dX9_needed_24 : decode cX9_needed 24 = .ok (.if_icmp .gt 39, 3) := by decide +kernel
theorem dX9_needed_27 : decode cX9_needed 27 = .ok (.iload_n 2, 1) := by decide +kernel
theorem dX9_needed_28 : decode cX9_needed 28 = .ok (.ifCond .lt 14, 3) := by decide +kernel
theorem dX9_needed_31 : decode cX9_needed 31 = .ok (.iload_n 3, 1) := by decide +kernel
theorem dX9_needed_32 : decode cX9_needed 32 = .ok (.invokestatic 189, 3) := by decide +kernel
theorem dX9_needed_35 : decode cX9_needed 35 = .ok (.iload_n 2, 1) := by decide +kernel
theorem dX9_needed_36 : decode cX9_needed 36 = .ok (.invokestatic 189, 3) := by decide +kernel
theorem dX9_needed_39 : decode cX9_needed 39 = .ok (.if_icmp .ge 16, 3) := by decide +kernel
theorem dX9_needed_42 : decode cX9_needed 42 = .ok (.aload_n 0, 1) := by decide +kernel
theorem dX9_needed_43 : decode cX9_needed 43 = .ok (.iload_n 3, 1) := by decide +kernel
theorem dX9_needed_44 : decode cX9_needed 44 = .ok (.invokevirtual 300, 3) := by decide +kernel
theorem dX9_needed_47 : decode cX9_needed 47 = .ok (.iload_n 1, 1) := by decide +kernel
theorem dX9_needed_48 : decode cX9_needed 48 = .ok (.if_icmp .lt 7, 3) := by decide +kernel
theorem dX9_needed_51 : decode cX9_needed 51 = .ok (.iload_n 3, 1) := by decide +kernel
theorem dX9_needed_52 : decode cX9_needed 52 = .ok (.goto 4, 3) := by decide +kernel
theorem dX9_needed_55 : decode cX9_needed 55 = .ok (.iload_n 2, 1) := by decide +kernel
theorem dX9_needed_56 : decode cX9_needed 56 = .ok (.istore_n 2, 1) := by decide +kernel
theorem dX9_needed_57 : decode cX9_needed 57 = .ok (.iinc 3 1, 3) := by decide +kernel
theorem dX9_needed_60 : decode cX9_needed 60 = .ok (.goto (-41), 3) := by decide +kernel
theorem dX9_needed_63 : decode cX9_needed 63 = .ok (.iload_n 2, 1) := by decide +kernel
theorem dX9_needed_64 : decode cX9_needed 64 = .ok (.ireturn, 1) := by decide +kernel
theorem dX9_fit_0 : decode cX9_fit 0 = .ok (.aload_n 0, 1) := by decide +kernel
theorem dX9_fit_1 : decode cX9_fit 1 = .ok (.iload_n 1, 1) := by decide +kernel
theorem dX9_fit_2 : decode cX9_fit 2 = .ok (.invokevirtual 206, 3) := by decide +kernel
theorem dX9_fit_5 : decode cX9_fit 5 = .ok (.ifCond .eq 11, 3) := by decide +kernel
theorem dX9_fit_8 : decode cX9_fit 8 = .ok (.aload_n 0, 1) := by decide +kernel
theorem dX9_fit_9 : decode cX9_fit 9 = .ok (.iload_n 2, 1) := by decide +kernel
theorem dX9_fit_10 : decode cX9_fit 10 = .ok (.invokevirtual 297, 3) := by decide +kernel
theorem dX9_fit_13 : decode cX9_fit 13 = .ok (.ifCond .ne 6, 3) := by decide +kernel
theorem dX9_fit_16 : decode cX9_fit 16 = .ok (.ldc 197, 2) := by decide +kernel
theorem dX9_fit_18 : decode cX9_fit 18 = .ok (.ireturn, 1) := by decide +kernel
theorem dX9_fit_19 : decode cX9_fit 19 = .ok (.aload_n 0, 1) := by decide +kernel
theorem dX9_fit_20 : decode cX9_fit 20 = .ok (.getfield 7, 3) := by decide +kernel
theorem dX9_fit_23 : decode cX9_fit 23 = .ok (.bipush 12, 2) := by decide +kernel
theorem dX9_fit_25 : decode cX9_fit 25 = .ok (.iload_n 1, 1) := by decide +kernel
theorem dX9_fit_26 : decode cX9_fit 26 = .ok (.iadd, 1) := by decide +kernel
theorem dX9_fit_27 : decode cX9_fit 27 = .ok (.iaload, 1) := by decide +kernel
theorem dX9_fit_28 : decode cX9_fit 28 = .ok (.istore_n 3, 1) := by decide +kernel
theorem dX9_fit_29 : decode cX9_fit 29 = .ok (.aload_n 0, 1) := by decide +kernel
theorem dX9_fit_30 : decode cX9_fit 30 = .ok (.getfield 7, 3) := by decide +kernel
theorem dX9_fit_33 : decode cX9_fit 33 = .ok (.bipush 12, 2) := by decide +kernel
theorem dX9_fit_35 : decode cX9_fit 35 = .ok (.iload_n 1, 1) := by decide +kernel
theorem dX9_fit_36 : decode cX9_fit 36 = .ok (.iadd, 1) := by decide +kernel
theorem dX9_fit_37 : decode cX9_fit 37 = .ok (.iload_n 2, 1) := by decide +kernel
theorem dX9_fit_38 : decode cX9_fit 38 = .ok (.iconst 1, 1) := by decide +kernel
theorem dX9_fit_39 : decode cX9_fit 39 = .ok (.iload_n 1, 1) := by decide +kernel
theorem dX9_fit_40 : decode cX9_fit 40 = .ok (.ishl, 1) := by decide +kernel
theorem dX9_fit_41 : decode cX9_fit 41 = .ok (.ior, 1) := by decide +kernel
theorem dX9_fit_42 : decode cX9_fit 42 = .ok (.iastore, 1) := by decide +kernel
theorem dX9_fit_43 : decode cX9_fit 43 = .ok (.iload_n 3, 1) := by decide +kernel
theorem dX9_fit_44 : decode cX9_fit 44 = .ok (.ireturn, 1) := by decide +kernel
theorem dX9_laddersOf_0 : decode cX9_laddersOf 0 = .ok (.iconst 0, 1) := by decide +kernel
theorem dX9_laddersOf_1 : decode cX9_laddersOf 1 = .ok (.istore_n 3, 1) := by decide +kernel
theorem dX9_laddersOf_2 : decode cX9_laddersOf 2 = .ok (.iload_n 3, 1) := by decide +kernel
theorem dX9_laddersOf_3 : decode cX9_laddersOf 3 = .ok (.aload_n 0, 1) := by decide +kernel
theorem dX9_laddersOf_4 : decode cX9_laddersOf 4 = .ok (.invokevirtual 236, 3) := by decide +kernel
theorem dX9_laddersOf_7 : decode cX9_laddersOf 7 = .ok (.if_icmp .gt 139, 3) := by decide +kernel
theorem dX9_laddersOf_10 : decode cX9_laddersOf 10 = .ok (.aload_n 0, 1) := by decide +kernel
theorem dX9_laddersOf_11 : decode cX9_laddersOf 11 = .ok (.getfield 87, 3) := by decide +kernel
theorem dX9_laddersOf_14 : decode cX9_laddersOf 14 = .ok (.iload_n 3, 1) := by decide +kernel
theorem dX9_laddersOf_15 : decode cX9_laddersOf 15 = .ok (.iload_n 3, 1) := by decide +kernel
theorem dX9_laddersOf_16 : decode cX9_laddersOf 16 = .ok (.ifCond .ne 7, 3) := by decide +kernel
theorem dX9_laddersOf_19 : decode cX9_laddersOf 19 = .ok (.iconst 1, 1) := by decide +kernel
theorem dX9_laddersOf_20 : decode cX9_laddersOf 20 = .ok (.goto 4, 3) := by decide +kernel
theorem dX9_laddersOf_23 : decode cX9_laddersOf 23 = .ok (.iconst 0, 1) := by decide +kernel
theorem dX9_laddersOf_24 : decode cX9_laddersOf 24 = .ok (.invokestatic 150, 3) := by decide +kernel
theorem dX9_laddersOf_27 : decode cX9_laddersOf 27 = .ok (.iastore, 1) := by decide +kernel
theorem dX9_laddersOf_28 : decode cX9_laddersOf 28 = .ok (.iload_n 3, 1) := by decide +kernel
theorem dX9_laddersOf_29 : decode cX9_laddersOf 29 = .ok (.invokestatic 189, 3) := by decide +kernel
theorem dX9_laddersOf_32 : decode cX9_laddersOf 32 = .ok (.iconst 1, 1) := by decide +kernel
theorem dX9_laddersOf_33 : decode cX9_laddersOf 33 = .ok (.isub, 1) := by decide +kernel
theorem dX9_laddersOf_34 : decode cX9_laddersOf 34 = .ok (.istore 4, 2) := by decide +kernel
theorem dX9_laddersOf_36 : decode cX9_laddersOf 36 = .ok (.iconst 0, 1) := by decide +kernel
theorem dX9_laddersOf_37 : decode cX9_laddersOf 37 = .ok (.istore 5, 2) := by decide +kernel
theorem dX9_laddersOf_39 : decode cX9_laddersOf 39 = .ok (.iload 5, 2) := by decide +kernel
theorem dX9_laddersOf_41 : decode cX9_laddersOf 41 = .ok (.aload_n 0, 1) := by decide +kernel
theorem dX9_laddersOf_42 : decode cX9_laddersOf 42 = .ok (.getfield 35, 3) := by decide +kernel
theorem dX9_laddersOf_45 : decode cX9_laddersOf 45 = .ok (.iconst 1, 1) := by decide +kernel
theorem dX9_laddersOf_46 : decode cX9_laddersOf 46 = .ok (.iaload, 1) := by decide +kernel
theorem dX9_laddersOf_47 : decode cX9_laddersOf 47 = .ok (.if_icmp .ge 93, 3) := by decide +kernel
theorem dX9_laddersOf_50 : decode cX9_laddersOf 50 = .ok (.iload_n 3, 1) := by decide +kernel
theorem dX9_laddersOf_51 : decode cX9_laddersOf 51 = .ok (.ifCond .le 89, 3) := by decide +kernel
theorem dX9_laddersOf_54 : decode cX9_laddersOf 54 = .ok (.iload_n 3, 1) := by decide +kernel
theorem dX9_laddersOf_55 : decode cX9_laddersOf 55 = .ok (.iload 5, 2) := by decide +kernel
theorem dX9_laddersOf_57 : decode cX9_laddersOf 57 = .ok (.invokestatic 146, 3) := by decide +kernel
theorem dX9_laddersOf_60 : decode cX9_laddersOf 60 = .ok (.ifCond .eq 40, 3) := by decide +kernel
theorem dX9_laddersOf_63 : decode cX9_laddersOf 63 = .ok (.iload_n 1, 1) := by decide +kernel
theorem dX9_laddersOf_64 : decode cX9_laddersOf 64 = .ok (.iload 5, 2) := by decide +kernel
theorem dX9_laddersOf_66 : decode cX9_laddersOf 66 = .ok (.invokestatic 146, 3) := by decide +kernel
theorem dX9_laddersOf_69 : decode cX9_laddersOf 69 = .ok (.ifCond .eq 31, 3) := by decide +kernel
theorem dX9_laddersOf_72 : decode cX9_laddersOf 72 = .ok (.iload 4, 2) := by decide +kernel
theorem dX9_laddersOf_74 : decode cX9_laddersOf 74 = .ok (.iload_n 2, 1) := by decide +kernel
theorem dX9_laddersOf_75 : decode cX9_laddersOf 75 = .ok (.if_icmp .ge 25, 3) := by decide +kernel
theorem dX9_laddersOf_78 : decode cX9_laddersOf 78 = .ok (.aload_n 0, 1) := by decide +kernel
theorem dX9_laddersOf_79 : decode cX9_laddersOf 79 = .ok (.getfield 7, 3) := by decide +kernel
theorem dX9_laddersOf_82 : decode cX9_laddersOf 82 = .ok (.bipush 12, 2) := by decide +kernel
theorem dX9_laddersOf_84 : decode cX9_laddersOf 84 = .ok (.iload 4, 2) := by decide +kernel
theorem dX9_laddersOf_86 : decode cX9_laddersOf 86 = .ok (.iadd, 1) := by decide +kernel
theorem dX9_laddersOf_87 : decode cX9_laddersOf 87 = .ok (.iaload, 1) := by decide +kernel
theorem dX9_laddersOf_88 : decode cX9_laddersOf 88 = .ok (.iload 5, 2) := by decide +kernel
theorem dX9_laddersOf_90 : decode cX9_laddersOf 90 = .ok (.invokestatic 146, 3) := by decide +kernel
theorem dX9_laddersOf_93 : decode cX9_laddersOf 93 = .ok (.ifCond .eq 7, 3) := by decide +kernel
theorem dX9_laddersOf_96 : decode cX9_laddersOf 96 = .ok (.iconst 1, 1) := by decide +kernel
theorem dX9_laddersOf_97 : decode cX9_laddersOf 97 = .ok (.goto 4, 3) := by decide +kernel
theorem dX9_laddersOf_100 : decode cX9_laddersOf 100 = .ok (.iconst 0, 1) := by decide +kernel
theorem dX9_laddersOf_101 : decode cX9_laddersOf 101 = .ok (.istore 6, 2) := by decide +kernel
theorem dX9_laddersOf_103 : decode cX9_laddersOf 103 = .ok (.aload_n 0, 1) := by decide +kernel
theorem dX9_laddersOf_104 : decode cX9_laddersOf 104 = .ok (.getfield 87, 3) := by decide +kernel
theorem dX9_laddersOf_107 : decode cX9_laddersOf 107 = .ok (.iload_n 3, 1) := by decide +kernel
theorem dX9_laddersOf_108 : decode cX9_laddersOf 108 = .ok (.dup2, 1) := by decide +kernel
theorem dX9_laddersOf_109 : decode cX9_laddersOf 109 = .ok (.iaload, 1) := by decide +kernel
theorem dX9_laddersOf_110 : decode cX9_laddersOf 110 = .ok (.iload 6, 2) := by decide +kernel
theorem dX9_laddersOf_112 : decode cX9_laddersOf 112 = .ok (.ifCond .eq 19, 3) := by decide +kernel
theorem dX9_laddersOf_115 : decode cX9_laddersOf 115 = .ok (.aload_n 0, 1) := by decide +kernel
theorem dX9_laddersOf_116 : decode cX9_laddersOf 116 = .ok (.getfield 87, 3) := by decide +kernel
theorem dX9_laddersOf_119 : decode cX9_laddersOf 119 = .ok (.iload_n 3, 1) := by decide +kernel
theorem dX9_laddersOf_120 : decode cX9_laddersOf 120 = .ok (.iconst 1, 1) := by decide +kernel
theorem dX9_laddersOf_121 : decode cX9_laddersOf 121 = .ok (.iload 5, 2) := by decide +kernel
theorem dX9_laddersOf_123 : decode cX9_laddersOf 123 = .ok (.ishl, 1) := by decide +kernel
theorem dX9_laddersOf_124 : decode cX9_laddersOf 124 = .ok (.iconst (-1), 1) := by decide +kernel
theorem dX9_laddersOf_125 : decode cX9_laddersOf 125 = .ok (.ixor, 1) := by decide +kernel
theorem dX9_laddersOf_126 : decode cX9_laddersOf 126 = .ok (.iand, 1) := by decide +kernel
theorem dX9_laddersOf_127 : decode cX9_laddersOf 127 = .ok (.iaload, 1) := by decide +kernel
theorem dX9_laddersOf_128 : decode cX9_laddersOf 128 = .ok (.goto 4, 3) := by decide +kernel
theorem dX9_laddersOf_131 : decode cX9_laddersOf 131 = .ok (.iconst 0, 1) := by decide +kernel
theorem dX9_laddersOf_132 : decode cX9_laddersOf 132 = .ok (.iadd, 1) := by decide +kernel
theorem dX9_laddersOf_133 : decode cX9_laddersOf 133 = .ok (.iastore, 1) := by decide +kernel
theorem dX9_laddersOf_134 : decode cX9_laddersOf 134 = .ok (.iinc 5 1, 3) := by decide +kernel
theorem dX9_laddersOf_137 : decode cX9_laddersOf 137 = .ok (.goto (-98), 3) := by decide +kernel
theorem dX9_laddersOf_140 : decode cX9_laddersOf 140 = .ok (.iinc 3 1, 3) := by decide +kernel
theorem dX9_laddersOf_143 : decode cX9_laddersOf 143 = .ok (.goto (-141), 3) := by decide +kernel
theorem dX9_laddersOf_146 : decode cX9_laddersOf 146 = .ok (.iconst 0, 1) := by decide +kernel
theorem dX9_laddersOf_147 : decode cX9_laddersOf 147 = .ok (.istore_n 3, 1) := by decide +kernel
theorem dX9_laddersOf_148 : decode cX9_laddersOf 148 = .ok (.iconst 0, 1) := by decide +kernel
theorem dX9_laddersOf_149 : decode cX9_laddersOf 149 = .ok (.istore 4, 2) := by decide +kernel
theorem dX9_laddersOf_151 : decode cX9_laddersOf 151 = .ok (.iload 4, 2) := by decide +kernel
theorem dX9_laddersOf_153 : decode cX9_laddersOf 153 = .ok (.aload_n 0, 1) := by decide +kernel
theorem dX9_laddersOf_154 : decode cX9_laddersOf 154 = .ok (.invokevirtual 236, 3) := by decide +kernel
theorem dX9_laddersOf_157 : decode cX9_laddersOf 157 = .ok (.if_icmp .gt 32, 3) := by decide +kernel
theorem dX9_laddersOf_160 : decode cX9_laddersOf 160 = .ok (.iload_n 3, 1) := by decide +kernel
theorem dX9_laddersOf_161 : decode cX9_laddersOf 161 = .ok (.iload 4, 2) := by decide +kernel
theorem dX9_laddersOf_163 : decode cX9_laddersOf 163 = .ok (.invokestatic 189, 3) := by decide +kernel
theorem dX9_laddersOf_166 : decode cX9_laddersOf 166 = .ok (.iload_n 2, 1) := by decide +kernel
theorem dX9_laddersOf_167 : decode cX9_laddersOf 167 = .ok (.if_icmp .ne 13, 3) := by decide +kernel
theorem dX9_laddersOf_170 : decode cX9_laddersOf 170 = .ok (.aload_n 0, 1) := by decide +kernel
theorem dX9_laddersOf_171 : decode cX9_laddersOf 171 = .ok (.getfield 87, 3) := by decide +kernel
theorem dX9_laddersOf_174 : decode cX9_laddersOf 174 = .ok (.iload 4, 2) := by decide +kernel
theorem dX9_laddersOf_176 : decode cX9_laddersOf 176 = .ok (.iaload, 1) := by decide +kernel
theorem dX9_laddersOf_177 : decode cX9_laddersOf 177 = .ok (.goto 4, 3) := by decide +kernel
theorem dX9_laddersOf_180 : decode cX9_laddersOf 180 = .ok (.iconst 0, 1) := by decide +kernel
theorem dX9_laddersOf_181 : decode cX9_laddersOf 181 = .ok (.iadd, 1) := by decide +kernel
theorem dX9_laddersOf_182 : decode cX9_laddersOf 182 = .ok (.istore_n 3, 1) := by decide +kernel
theorem dX9_laddersOf_183 : decode cX9_laddersOf 183 = .ok (.iinc 4 1, 3) := by decide +kernel
theorem dX9_laddersOf_186 : decode cX9_laddersOf 186 = .ok (.goto (-35), 3) := by decide +kernel
theorem dX9_laddersOf_189 : decode cX9_laddersOf 189 = .ok (.iload_n 3, 1) := by decide +kernel
theorem dX9_laddersOf_190 : decode cX9_laddersOf 190 = .ok (.ireturn, 1) := by decide +kernel
theorem dX9_ladders_0 : decode cX9_ladders 0 = .ok (.aload_n 0, 1) := by decide +kernel
theorem dX9_ladders_1 : decode cX9_ladders 1 = .ok (.iload_n 1, 1) := by decide +kernel
theorem dX9_ladders_2 : decode cX9_ladders 2 = .ok (.invokevirtual 297, 3) := by decide +kernel
theorem dX9_ladders_5 : decode cX9_ladders 5 = .ok (.ifCond .ne 6, 3) := by decide +kernel
theorem dX9_ladders_8 : decode cX9_ladders 8 = .ok (.ldc 197, 2) := by decide +kernel
theorem dX9_ladders_10 : decode cX9_ladders 10 = .ok (.ireturn, 1) := by decide +kernel
theorem dX9_ladders_11 : decode cX9_ladders 11 = .ok (.iload_n 2, 1) := by decide +kernel
theorem dX9_ladders_12 : decode cX9_ladders 12 = .ok (.i2l, 1) := by decide +kernel
theorem dX9_ladders_13 : decode cX9_ladders 13 = .ok (.lconst 0, 1) := by decide +kernel
theorem dX9_ladders_14 : decode cX9_ladders 14 = .ok (.aload_n 0, 1) := by decide +kernel
theorem dX9_ladders_15 : decode cX9_ladders 15 = .ok (.getfield 35, 3) := by decide +kernel
theorem dX9_ladders_18 : decode cX9_ladders 18 = .ok (.iconst 1, 1) := by decide +kernel
theorem dX9_ladders_19 : decode cX9_ladders 19 = .ok (.iaload, 1) := by decide +kernel
theorem dX9_ladders_20 : decode cX9_ladders 20 = .ok (.i2l, 1) := by decide +kernel
theorem dX9_ladders_21 : decode cX9_ladders 21 = .ok (.invokestatic 95, 3) := by decide +kernel
theorem dX9_ladders_24 : decode cX9_ladders 24 = .ok (.ifCond .eq 12, 3) := by decide +kernel
theorem dX9_ladders_27 : decode cX9_ladders 27 = .ok (.aload_n 0, 1) := by decide +kernel
theorem dX9_ladders_28 : decode cX9_ladders 28 = .ok (.iload_n 1, 1) := by decide +kernel
theorem dX9_ladders_29 : decode cX9_ladders 29 = .ok (.iload_n 2, 1) := by decide +kernel
theorem dX9_ladders_30 : decode cX9_ladders 30 = .ok (.invokevirtual 305, 3) := by decide +kernel
theorem dX9_ladders_33 : decode cX9_ladders 33 = .ok (.goto 5, 3) := by decide +kernel
theorem dX9_ladders_36 : decode cX9_ladders 36 = .ok (.ldc 99, 2) := by decide +kernel
theorem dX9_ladders_38 : decode cX9_ladders 38 = .ok (.ireturn, 1) := by decide +kernel
theorem dX9_longest_0 : decode cX9_longest 0 = .ok (.aload_n 0, 1) := by decide +kernel
theorem dX9_longest_1 : decode cX9_longest 1 = .ok (.iload_n 1, 1) := by decide +kernel
theorem dX9_longest_2 : decode cX9_longest 2 = .ok (.invokevirtual 297, 3) := by decide +kernel
theorem dX9_longest_5 : decode cX9_longest 5 = .ok (.ifCond .ne 6, 3) := by decide +kernel
theorem dX9_longest_8 : decode cX9_longest 8 = .ok (.ldc 197, 2) := by decide +kernel
theorem dX9_longest_10 : decode cX9_longest 10 = .ok (.ireturn, 1) := by decide +kernel
theorem dX9_longest_11 : decode cX9_longest 11 = .ok (.aload_n 0, 1) := by decide +kernel
theorem dX9_longest_12 : decode cX9_longest 12 = .ok (.getfield 35, 3) := by decide +kernel
theorem dX9_longest_15 : decode cX9_longest 15 = .ok (.iconst 1, 1) := by decide +kernel
theorem dX9_longest_16 : decode cX9_longest 16 = .ok (.iaload, 1) := by decide +kernel
theorem dX9_longest_17 : decode cX9_longest 17 = .ok (.istore_n 2, 1) := by decide +kernel
theorem dX9_longest_18 : decode cX9_longest 18 = .ok (.aload_n 0, 1) := by decide +kernel
theorem dX9_longest_19 : decode cX9_longest 19 = .ok (.iload_n 1, 1) := by decide +kernel
theorem dX9_longest_20 : decode cX9_longest 20 = .ok (.iload_n 2, 1) := by decide +kernel
theorem dX9_longest_21 : decode cX9_longest 21 = .ok (.invokevirtual 305, 3) := by decide +kernel
theorem dX9_longest_24 : decode cX9_longest 24 = .ok (.ifCond .ne 9, 3) := by decide +kernel
theorem dX9_longest_27 : decode cX9_longest 27 = .ok (.iinc 2 (-1), 3) := by decide +kernel
theorem dX9_longest_30 : decode cX9_longest 30 = .ok (.goto (-12), 3) := by decide +kernel
theorem dX9_longest_33 : decode cX9_longest 33 = .ok (.iload_n 2, 1) := by decide +kernel
theorem dX9_longest_34 : decode cX9_longest 34 = .ok (.ireturn, 1) := by decide +kernel
theorem dX9_cost_0 : decode cX9_cost 0 = .ok (.aload_n 0, 1) := by decide +kernel
theorem dX9_cost_1 : decode cX9_cost 1 = .ok (.iload_n 1, 1) := by decide +kernel
theorem dX9_cost_2 : decode cX9_cost 2 = .ok (.invokevirtual 206, 3) := by decide +kernel
theorem dX9_cost_5 : decode cX9_cost 5 = .ok (.ifCond .ne 6, 3) := by decide +kernel
theorem dX9_cost_8 : decode cX9_cost 8 = .ok (.ldc 197, 2) := by decide +kernel
theorem dX9_cost_10 : decode cX9_cost 10 = .ok (.ireturn, 1) := by decide +kernel
theorem dX9_cost_11 : decode cX9_cost 11 = .ok (.iload_n 2, 1) := by decide +kernel
theorem dX9_cost_12 : decode cX9_cost 12 = .ok (.i2l, 1) := by decide +kernel
theorem dX9_cost_13 : decode cX9_cost 13 = .ok (.lconst 0, 1) := by decide +kernel
theorem dX9_cost_14 : decode cX9_cost 14 = .ok (.ldc2_w 308, 3) := by decide +kernel
theorem dX9_cost_17 : decode cX9_cost 17 = .ok (.invokestatic 95, 3) := by decide +kernel
theorem dX9_cost_20 : decode cX9_cost 20 = .ok (.ifCond .ne 6, 3) := by decide +kernel
theorem dX9_cost_23 : decode cX9_cost 23 = .ok (.ldc 99, 2) := by decide +kernel
theorem dX9_cost_25 : decode cX9_cost 25 = .ok (.ireturn, 1) := by decide +kernel
theorem dX9_cost_26 : decode cX9_cost 26 = .ok (.aload_n 0, 1) := by decide +kernel
theorem dX9_cost_27 : decode cX9_cost 27 = .ok (.getfield 44, 3) := by decide +kernel
theorem dX9_cost_30 : decode cX9_cost 30 = .ok (.iload_n 1, 1) := by decide +kernel
theorem dX9_cost_31 : decode cX9_cost 31 = .ok (.iaload, 1) := by decide +kernel
theorem dX9_cost_32 : decode cX9_cost 32 = .ok (.istore_n 3, 1) := by decide +kernel
theorem dX9_cost_33 : decode cX9_cost 33 = .ok (.aload_n 0, 1) := by decide +kernel
theorem dX9_cost_34 : decode cX9_cost 34 = .ok (.getfield 44, 3) := by decide +kernel
theorem dX9_cost_37 : decode cX9_cost 37 = .ok (.iload_n 1, 1) := by decide +kernel
theorem dX9_cost_38 : decode cX9_cost 38 = .ok (.iload_n 2, 1) := by decide +kernel
theorem dX9_cost_39 : decode cX9_cost 39 = .ok (.iastore, 1) := by decide +kernel
theorem dX9_cost_40 : decode cX9_cost 40 = .ok (.iload_n 3, 1) := by decide +kernel
theorem dX9_cost_41 : decode cX9_cost 41 = .ok (.ireturn, 1) := by decide +kernel
theorem dX9_store_0 : decode cX9_store 0 = .ok (.aload_n 0, 1) := by decide +kernel
theorem dX9_store_1 : decode cX9_store 1 = .ok (.iload_n 1, 1) := by decide +kernel
theorem dX9_store_2 : decode cX9_store 2 = .ok (.invokevirtual 193, 3) := by decide +kernel
theorem dX9_store_5 : decode cX9_store 5 = .ok (.ifCond .ne 6, 3) := by decide +kernel
theorem dX9_store_8 : decode cX9_store 8 = .ok (.ldc 197, 2) := by decide +kernel
theorem dX9_store_10 : decode cX9_store 10 = .ok (.ireturn, 1) := by decide +kernel
theorem dX9_store_11 : decode cX9_store 11 = .ok (.aload_n 0, 1) := by decide +kernel
theorem dX9_store_12 : decode cX9_store 12 = .ok (.getfield 176, 3) := by decide +kernel
theorem dX9_store_15 : decode cX9_store 15 = .ok (.istore_n 2, 1) := by decide +kernel
theorem dX9_store_16 : decode cX9_store 16 = .ok (.aload_n 0, 1) := by decide +kernel
theorem dX9_store_17 : decode cX9_store 17 = .ok (.iload_n 1, 1) := by decide +kernel
theorem dX9_store_18 : decode cX9_store 18 = .ok (.putfield 176, 3) := by decide +kernel
theorem dX9_store_21 : decode cX9_store 21 = .ok (.iload_n 2, 1) := by decide +kernel
theorem dX9_store_22 : decode cX9_store 22 = .ok (.ireturn, 1) := by decide +kernel
theorem dX9_spares_0 : decode cX9_spares 0 = .ok (.aload_n 0, 1) := by decide +kernel
theorem dX9_spares_1 : decode cX9_spares 1 = .ok (.iload_n 1, 1) := by decide +kernel
theorem dX9_spares_2 : decode cX9_spares 2 = .ok (.invokevirtual 193, 3) := by decide +kernel
theorem dX9_spares_5 : decode cX9_spares 5 = .ok (.ifCond .eq 11, 3) := by decide +kernel
theorem dX9_spares_8 : decode cX9_spares 8 = .ok (.aload_n 0, 1) := by decide +kernel
theorem dX9_spares_9 : decode cX9_spares 9 = .ok (.iload_n 2, 1) := by decide +kernel
theorem dX9_spares_10 : decode cX9_spares 10 = .ok (.invokevirtual 193, 3) := by decide +kernel
theorem dX9_spares_13 : decode cX9_spares 13 = .ok (.ifCond .ne 6, 3) := by decide +kernel
theorem dX9_spares_16 : decode cX9_spares 16 = .ok (.ldc 197, 2) := by decide +kernel
theorem dX9_spares_18 : decode cX9_spares 18 = .ok (.ireturn, 1) := by decide +kernel
theorem dX9_spares_19 : decode cX9_spares 19 = .ok (.iload_n 3, 1) := by decide +kernel
theorem dX9_spares_20 : decode cX9_spares 20 = .ok (.i2l, 1) := by decide +kernel
theorem dX9_spares_21 : decode cX9_spares 21 = .ok (.lconst 0, 1) := by decide +kernel
theorem dX9_spares_22 : decode cX9_spares 22 = .ok (.ldc2_w 287, 3) := by decide +kernel
theorem dX9_spares_25 : decode cX9_spares 25 = .ok (.invokestatic 95, 3) := by decide +kernel
theorem dX9_spares_28 : decode cX9_spares 28 = .ok (.ifCond .eq 14, 3) := by decide +kernel
theorem dX9_spares_31 : decode cX9_spares 31 = .ok (.iload 4, 2) := by decide +kernel
theorem dX9_spares_33 : decode cX9_spares 33 = .ok (.i2l, 1) := by decide +kernel
theorem dX9_spares_34 : decode cX9_spares 34 = .ok (.lconst 0, 1) := by decide +kernel
theorem dX9_spares_35 : decode cX9_spares 35 = .ok (.lconst 1, 1) := by decide +kernel
theorem dX9_spares_36 : decode cX9_spares 36 = .ok (.invokestatic 95, 3) := by decide +kernel
theorem dX9_spares_39 : decode cX9_spares 39 = .ok (.ifCond .ne 6, 3) := by decide +kernel
theorem dX9_spares_42 : decode cX9_spares 42 = .ok (.ldc 99, 2) := by decide +kernel
theorem dX9_spares_44 : decode cX9_spares 44 = .ok (.ireturn, 1) := by decide +kernel
theorem dX9_spares_45 : decode cX9_spares 45 = .ok (.aload_n 0, 1) := by decide +kernel
theorem dX9_spares_46 : decode cX9_spares 46 = .ok (.iload_n 1, 1) := by decide +kernel
theorem dX9_spares_47 : decode cX9_spares 47 = .ok (.iload_n 2, 1) := by decide +kernel
theorem dX9_spares_48 : decode cX9_spares 48 = .ok (.aload_n 0, 1) := by decide +kernel
theorem dX9_spares_49 : decode cX9_spares 49 = .ok (.getfield 7, 3) := by decide +kernel
theorem dX9_spares_52 : decode cX9_spares 52 = .ok (.bipush 24, 2) := by decide +kernel
theorem dX9_spares_54 : decode cX9_spares 54 = .ok (.iaload, 1) := by decide +kernel
theorem dX9_spares_55 : decode cX9_spares 55 = .ok (.invokevirtual 229, 3) := by decide +kernel
theorem dX9_spares_58 : decode cX9_spares 58 = .ok (.aload_n 0, 1) := by decide +kernel
theorem dX9_spares_59 : decode cX9_spares 59 = .ok (.getfield 60, 3) := by decide +kernel
theorem dX9_spares_62 : decode cX9_spares 62 = .ok (.aload_n 0, 1) := by decide +kernel
theorem dX9_spares_63 : decode cX9_spares 63 = .ok (.getfield 176, 3) := by decide +kernel
theorem dX9_spares_66 : decode cX9_spares 66 = .ok (.iaload, 1) := by decide +kernel
theorem dX9_spares_67 : decode cX9_spares 67 = .ok (.istore 5, 2) := by decide +kernel
theorem dX9_spares_69 : decode cX9_spares 69 = .ok (.iconst (-1), 1) := by decide +kernel
theorem dX9_spares_70 : decode cX9_spares 70 = .ok (.istore 6, 2) := by decide +kernel
theorem dX9_spares_72 : decode cX9_spares 72 = .ok (.iconst 0, 1) := by decide +kernel
theorem dX9_spares_73 : decode cX9_spares 73 = .ok (.istore 7, 2) := by decide +kernel
theorem dX9_spares_75 : decode cX9_spares 75 = .ok (.iconst 0, 1) := by decide +kernel
theorem dX9_spares_76 : decode cX9_spares 76 = .ok (.istore 8, 2) := by decide +kernel
theorem dX9_spares_78 : decode cX9_spares 78 = .ok (.iconst 0, 1) := by decide +kernel
theorem dX9_spares_79 : decode cX9_spares 79 = .ok (.istore 9, 2) := by decide +kernel
theorem dX9_spares_81 : decode cX9_spares 81 = .ok (.iload 9, 2) := by decide +kernel
theorem dX9_spares_83 : decode cX9_spares 83 = .ok (.aload_n 0, 1) := by decide +kernel
theorem dX9_spares_84 : decode cX9_spares 84 = .ok (.invokevirtual 236, 3) := by decide +kernel
theorem dX9_spares_87 : decode cX9_spares 87 = .ok (.if_icmp .gt 161, 3) := by decide +kernel
theorem dX9_spares_90 : decode cX9_spares 90 = .ok (.aload_n 0, 1) := by decide +kernel
theorem dX9_spares_91 : decode cX9_spares 91 = .ok (.invokevirtual 233, 3) := by decide +kernel
theorem dX9_spares_94 : decode cX9_spares 94 = .ok (.iconst 0, 1) := by decide +kernel
theorem dX9_spares_95 : decode cX9_spares 95 = .ok (.istore 10, 2) := by decide +kernel
theorem dX9_spares_97 : decode cX9_spares 97 = .ok (.iconst 0, 1) := by decide +kernel
theorem dX9_spares_98 : decode cX9_spares 98 = .ok (.istore 11, 2) := by decide +kernel
theorem dX9_spares_100 : decode cX9_spares 100 = .ok (.iload 11, 2) := by decide +kernel
theorem dX9_spares_102 : decode cX9_spares 102 = .ok (.aload_n 0, 1) := by decide +kernel
theorem dX9_spares_103 : decode cX9_spares 103 = .ok (.getfield 35, 3) := by decide +kernel
theorem dX9_spares_106 : decode cX9_spares 106 = .ok (.iconst 1, 1) := by decide +kernel
theorem dX9_spares_107 : decode cX9_spares 107 = .ok (.iaload, 1) := by decide +kernel
theorem dX9_spares_108 : decode cX9_spares 108 = .ok (.if_icmp .ge 77, 3) := by decide +kernel
theorem dX9_spares_111 : decode cX9_spares 111 = .ok (.iload 9, 2) := by decide +kernel
theorem dX9_spares_113 : decode cX9_spares 113 = .ok (.iload 11, 2) := by decide +kernel
theorem dX9_spares_115 : decode cX9_spares 115 = .ok (.invokestatic 146, 3) := by decide +kernel
theorem dX9_spares_118 : decode cX9_spares 118 = .ok (.ifCond .eq 61, 3) := by decide +kernel
theorem dX9_spares_121 : decode cX9_spares 121 = .ok (.iload 10, 2) := by decide +kernel
theorem dX9_spares_123 : decode cX9_spares 123 = .ok (.aload_n 0, 1) := by decide +kernel
theorem dX9_spares_124 : decode cX9_spares 124 = .ok (.getfield 44, 3) := by decide +kernel
theorem dX9_spares_127 : decode cX9_spares 127 = .ok (.iload 11, 2) := by decide +kernel
theorem dX9_spares_129 : decode cX9_spares 129 = .ok (.iaload, 1) := by decide +kernel
theorem dX9_spares_130 : decode cX9_spares 130 = .ok (.iadd, 1) := by decide +kernel
theorem dX9_spares_131 : decode cX9_spares 131 = .ok (.istore 10, 2) := by decide +kernel
theorem dX9_spares_133 : decode cX9_spares 133 = .ok (.aload_n 0, 1) := by decide +kernel
theorem dX9_spares_134 : decode cX9_spares 134 = .ok (.getfield 66, 3) := by decide +kernel
theorem dX9_spares_137 : decode cX9_spares 137 = .ok (.iload 11, 2) := by decide +kernel
theorem dX9_spares_139 : decode cX9_spares 139 = .ok (.iload 5, 2) := by decide +kernel
theorem dX9_spares_141 : decode cX9_spares 141 = .ok (.ifCond .lt 30, 3) := by decide +kernel
theorem dX9_spares_144 : decode cX9_spares 144 = .ok (.aload_n 0, 1) := by decide +kernel
theorem dX9_spares_145 : decode cX9_spares 145 = .ok (.getfield 66, 3) := by decide +kernel
theorem dX9_spares_148 : decode cX9_spares 148 = .ok (.iload 11, 2) := by decide +kernel
theorem dX9_spares_150 : decode cX9_spares 150 = .ok (.iaload, 1) := by decide +kernel
theorem dX9_spares_151 : decode cX9_spares 151 = .ok (.ifCond .lt 15, 3) := by decide +kernel
theorem dX9_spares_154 : decode cX9_spares 154 = .ok (.iload 5, 2) := by decide +kernel
theorem dX9_spares_156 : decode cX9_spares 156 = .ok (.aload_n 0, 1) := by decide +kernel
theorem dX9_spares_157 : decode cX9_spares 157 = .ok (.getfield 66, 3) := by decide +kernel
theorem dX9_spares_160 : decode cX9_spares 160 = .ok (.iload 11, 2) := by decide +kernel
theorem dX9_spares_162 : decode cX9_spares 162 = .ok (.iaload, 1) := by decide +kernel
theorem dX9_spares_163 : decode cX9_spares 163 = .ok (.if_icmp .ge 8, 3) := by decide +kernel
theorem dX9_spares_166 : decode cX9_spares 166 = .ok (.iload 5, 2) := by decide +kernel
theorem dX9_spares_168 : decode cX9_spares 168 = .ok (.goto 10, 3) := by decide +kernel
theorem dX9_spares_171 : decode cX9_spares 171 = .ok (.aload_n 0, 1) := by decide +kernel
theorem dX9_spares_172 : decode cX9_spares 172 = .ok (.getfield 66, 3) := by decide +kernel
theorem dX9_spares_175 : decode cX9_spares 175 = .ok (.iload 11, 2) := by decide +kernel
theorem dX9_spares_177 : decode cX9_spares 177 = .ok (.iaload, 1) := by decide +kernel
theorem dX9_spares_178 : decode cX9_spares 178 = .ok (.iastore, 1) := by decide +kernel
theorem dX9_spares_179 : decode cX9_spares 179 = .ok (.iinc 11 1, 3) := by decide +kernel
theorem dX9_spares_182 : decode cX9_spares 182 = .ok (.goto (-82), 3) := by decide +kernel
theorem dX9_spares_185 : decode cX9_spares 185 = .ok (.iload 10, 2) := by decide +kernel
theorem dX9_spares_187 : decode cX9_spares 187 = .ok (.iload_n 3, 1) := by decide +kernel
theorem dX9_spares_188 : decode cX9_spares 188 = .ok (.if_icmp .gt 54, 3) := by decide +kernel
theorem dX9_spares_191 : decode cX9_spares 191 = .ok (.aload_n 0, 1) := by decide +kernel
theorem dX9_spares_192 : decode cX9_spares 192 = .ok (.aload_n 0, 1) := by decide +kernel
theorem dX9_spares_193 : decode cX9_spares 193 = .ok (.invokevirtual 236, 3) := by decide +kernel
theorem dX9_spares_196 : decode cX9_spares 196 = .ok (.invokevirtual 239, 3) := by decide +kernel
theorem dX9_spares_199 : decode cX9_spares 199 = .ok (.invokestatic 256, 3) := by decide +kernel
theorem dX9_spares_202 : decode cX9_spares 202 = .ok (.istore 11, 2) := by decide +kernel
theorem dX9_spares_204 : decode cX9_spares 204 = .ok (.iload 6, 2) := by decide +kernel
theorem dX9_spares_206 : decode cX9_spares 206 = .ok (.ifCond .lt 24, 3) := by decide +kernel
theorem dX9_spares_209 : decode cX9_spares 209 = .ok (.iload 11, 2) := by decide +kernel
theorem dX9_spares_211 : decode cX9_spares 211 = .ok (.iload 7, 2) := by decide +kernel
theorem dX9_spares_213 : decode cX9_spares 213 = .ok (.if_icmp .lt 17, 3) := by decide +kernel
theorem dX9_spares_216 : decode cX9_spares 216 = .ok (.iload 11, 2) := by decide +kernel
theorem dX9_spares_218 : decode cX9_spares 218 = .ok (.iload 7, 2) := by decide +kernel
theorem dX9_spares_220 : decode cX9_spares 220 = .ok (.if_icmp .ne 22, 3) := by decide +kernel
theorem dX9_spares_223 : decode cX9_spares 223 = .ok (.iload 10, 2) := by decide +kernel
theorem dX9_spares_225 : decode cX9_spares 225 = .ok (.iload 8, 2) := by decide +kernel
theorem dX9_spares_227 : decode cX9_spares 227 = .ok (.if_icmp .ge 15, 3) := by decide +kernel
theorem dX9_spares_230 : decode cX9_spares 230 = .ok (.iload 9, 2) := by decide +kernel
theorem dX9_spares_232 : decode cX9_spares 232 = .ok (.istore 6, 2) := by decide +kernel
theorem dX9_spares_234 : decode cX9_spares 234 = .ok (.iload 11, 2) := by decide +kernel
theorem dX9_spares_236 : decode cX9_spares 236 = .ok (.istore 7, 2) := by decide +kernel
theorem dX9_spares_238 : decode cX9_spares 238 = .ok (.iload 10, 2) := by decide +kernel
theorem dX9_spares_240 : decode cX9_spares 240 = .ok (.istore 8, 2) := by decide +kernel
theorem dX9_spares_242 : decode cX9_spares 242 = .ok (.iinc 9 1, 3) := by decide +kernel
theorem dX9_spares_245 : decode cX9_spares 245 = .ok (.goto (-164), 3) := by decide +kernel
theorem dX9_spares_248 : decode cX9_spares 248 = .ok (.iload 4, 2) := by decide +kernel
theorem dX9_spares_250 : decode cX9_spares 250 = .ok (.ifCond .ne 8, 3) := by decide +kernel
theorem dX9_spares_253 : decode cX9_spares 253 = .ok (.iload 6, 2) := by decide +kernel
theorem dX9_spares_255 : decode cX9_spares 255 = .ok (.goto 5, 3) := by decide +kernel
theorem dX9_spares_258 : decode cX9_spares 258 = .ok (.iload 7, 2) := by decide +kernel
theorem dX9_spares_260 : decode cX9_spares 260 = .ok (.ireturn, 1) := by decide +kernel
theorem dX9_endAt_0 : decode cX9_endAt 0 = .ok (.aload_n 0, 1) := by decide +kernel
theorem dX9_endAt_1 : decode cX9_endAt 1 = .ok (.iload_n 1, 1) := by decide +kernel
theorem dX9_endAt_2 : decode cX9_endAt 2 = .ok (.iload_n 2, 1) := by decide +kernel
theorem dX9_endAt_3 : decode cX9_endAt 3 = .ok (.aload_n 0, 1) := by decide +kernel
theorem dX9_endAt_4 : decode cX9_endAt 4 = .ok (.getfield 7, 3) := by decide +kernel
theorem dX9_endAt_7 : decode cX9_endAt 7 = .ok (.bipush 24, 2) := by decide +kernel
theorem dX9_endAt_9 : decode cX9_endAt 9 = .ok (.iaload, 1) := by decide +kernel
theorem dX9_endAt_10 : decode cX9_endAt 10 = .ok (.invokevirtual 229, 3) := by decide +kernel
theorem dX9_endAt_13 : decode cX9_endAt 13 = .ok (.iconst 0, 1) := by decide +kernel
theorem dX9_endAt_14 : decode cX9_endAt 14 = .ok (.istore 4, 2) := by decide +kernel
theorem dX9_endAt_16 : decode cX9_endAt 16 = .ok (.iload 4, 2) := by decide +kernel
theorem dX9_endAt_18 : decode cX9_endAt 18 = .ok (.aload_n 0, 1) := by decide +kernel
theorem dX9_endAt_19 : decode cX9_endAt 19 = .ok (.getfield 35, 3) := by decide +kernel
theorem dX9_endAt_22 : decode cX9_endAt 22 = .ok (.iconst 1, 1) := by decide +kernel
theorem dX9_endAt_23 : decode cX9_endAt 23 = .ok (.iaload, 1) := by decide +kernel
theorem dX9_endAt_24 : decode cX9_endAt 24 = .ok (.if_icmp .ge 31, 3) := by decide +kernel
theorem dX9_endAt_27 : decode cX9_endAt 27 = .ok (.aload_n 0, 1) := by decide +kernel
theorem dX9_endAt_28 : decode cX9_endAt 28 = .ok (.getfield 66, 3) := by decide +kernel
theorem dX9_endAt_31 : decode cX9_endAt 31 = .ok (.iload 4, 2) := by decide +kernel
theorem dX9_endAt_33 : decode cX9_endAt 33 = .ok (.aload_n 0, 1) := by decide +kernel
theorem dX9_endAt_34 : decode cX9_endAt 34 = .ok (.getfield 60, 3) := by decide +kernel
theorem dX9_endAt_37 : decode cX9_endAt 37 = .ok (.aload_n 0, 1) := by decide +kernel
theorem dX9_endAt_38 : decode cX9_endAt 38 = .ok (.getfield 7, 3) := by decide +kernel
theorem dX9_endAt_41 : decode cX9_endAt 41 = .ok (.iload 4, 2) := by decide +kernel
theorem dX9_endAt_43 : decode cX9_endAt 43 = .ok (.iaload, 1) := by decide +kernel
theorem dX9_endAt_44 : decode cX9_endAt 44 = .ok (.iaload, 1) := by decide +kernel
theorem dX9_endAt_45 : decode cX9_endAt 45 = .ok (.invokestatic 256, 3) := by decide +kernel
theorem dX9_endAt_48 : decode cX9_endAt 48 = .ok (.iastore, 1) := by decide +kernel
theorem dX9_endAt_49 : decode cX9_endAt 49 = .ok (.iinc 4 1, 3) := by decide +kernel
theorem dX9_endAt_52 : decode cX9_endAt 52 = .ok (.goto (-36), 3) := by decide +kernel
theorem dX9_endAt_55 : decode cX9_endAt 55 = .ok (.aload_n 0, 1) := by decide +kernel
theorem dX9_endAt_56 : decode cX9_endAt 56 = .ok (.aload_n 0, 1) := by decide +kernel
theorem dX9_endAt_57 : decode cX9_endAt 57 = .ok (.iload_n 3, 1) := by decide +kernel
theorem dX9_endAt_58 : decode cX9_endAt 58 = .ok (.invokevirtual 294, 3) := by decide +kernel
theorem dX9_endAt_61 : decode cX9_endAt 61 = .ok (.invokevirtual 239, 3) := by decide +kernel
theorem dX9_endAt_64 : decode cX9_endAt 64 = .ok (.ireturn, 1) := by decide +kernel
theorem dX9_two_0 : decode cX9_two 0 = .ok (.aload_n 0, 1) := by decide +kernel
theorem dX9_two_1 : decode cX9_two 1 = .ok (.iload_n 1, 1) := by decide +kernel
theorem dX9_two_2 : decode cX9_two 2 = .ok (.invokevirtual 193, 3) := by decide +kernel
theorem dX9_two_5 : decode cX9_two 5 = .ok (.ifCond .eq 19, 3) := by decide +kernel
theorem dX9_two_8 : decode cX9_two 8 = .ok (.aload_n 0, 1) := by decide +kernel
theorem dX9_two_9 : decode cX9_two 9 = .ok (.iload_n 2, 1) := by decide +kernel
theorem dX9_two_10 : decode cX9_two 10 = .ok (.invokevirtual 193, 3) := by decide +kernel
theorem dX9_two_13 : decode cX9_two 13 = .ok (.ifCond .eq 11, 3) := by decide +kernel
theorem dX9_two_16 : decode cX9_two 16 = .ok (.aload_n 0, 1) := by decide +kernel
theorem dX9_two_17 : decode cX9_two 17 = .ok (.iload_n 3, 1) := by decide +kernel
theorem dX9_two_18 : decode cX9_two 18 = .ok (.invokevirtual 193, 3) := by decide +kernel
theorem dX9_two_21 : decode cX9_two 21 = .ok (.ifCond .ne 6, 3) := by decide +kernel
theorem dX9_two_24 : decode cX9_two 24 = .ok (.ldc 197, 2) := by decide +kernel
theorem dX9_two_26 : decode cX9_two 26 = .ok (.ireturn, 1) := by decide +kernel
theorem dX9_two_27 : decode cX9_two 27 = .ok (.iload 4, 2) := by decide +kernel
theorem dX9_two_29 : decode cX9_two 29 = .ok (.i2l, 1) := by decide +kernel
theorem dX9_two_30 : decode cX9_two 30 = .ok (.lconst 0, 1) := by decide +kernel
theorem dX9_two_31 : decode cX9_two 31 = .ok (.ldc2_w 303, 3) := by decide +kernel
theorem dX9_two_34 : decode cX9_two 34 = .ok (.invokestatic 95, 3) := by decide +kernel
theorem dX9_two_37 : decode cX9_two 37 = .ok (.ifCond .ne 6, 3) := by decide +kernel
theorem dX9_two_40 : decode cX9_two 40 = .ok (.ldc 99, 2) := by decide +kernel
theorem dX9_two_42 : decode cX9_two 42 = .ok (.ireturn, 1) := by decide +kernel
theorem dX9_two_43 : decode cX9_two 43 = .ok (.iconst (-1), 1) := by decide +kernel
theorem dX9_two_44 : decode cX9_two 44 = .ok (.istore 5, 2) := by decide +kernel
theorem dX9_two_46 : decode cX9_two 46 = .ok (.iconst 0, 1) := by decide +kernel
theorem dX9_two_47 : decode cX9_two 47 = .ok (.istore 6, 2) := by decide +kernel
theorem dX9_two_49 : decode cX9_two 49 = .ok (.iload 6, 2) := by decide +kernel
theorem dX9_two_51 : decode cX9_two 51 = .ok (.aload_n 0, 1) := by decide +kernel
theorem dX9_two_52 : decode cX9_two 52 = .ok (.invokevirtual 236, 3) := by decide +kernel
theorem dX9_two_55 : decode cX9_two 55 = .ok (.if_icmp .gt 99, 3) := by decide +kernel
theorem dX9_two_58 : decode cX9_two 58 = .ok (.aload_n 0, 1) := by decide +kernel
theorem dX9_two_59 : decode cX9_two 59 = .ok (.invokevirtual 236, 3) := by decide +kernel
theorem dX9_two_62 : decode cX9_two 62 = .ok (.iload 6, 2) := by decide +kernel
theorem dX9_two_64 : decode cX9_two 64 = .ok (.iconst (-1), 1) := by decide +kernel
theorem dX9_two_65 : decode cX9_two 65 = .ok (.ixor, 1) := by decide +kernel
theorem dX9_two_66 : decode cX9_two 66 = .ok (.iand, 1) := by decide +kernel
theorem dX9_two_67 : decode cX9_two 67 = .ok (.istore 7, 2) := by decide +kernel
theorem dX9_two_69 : decode cX9_two 69 = .ok (.aload_n 0, 1) := by decide +kernel
theorem dX9_two_70 : decode cX9_two 70 = .ok (.iload 6, 2) := by decide +kernel
theorem dX9_two_72 : decode cX9_two 72 = .ok (.invokevirtual 300, 3) := by decide +kernel
theorem dX9_two_75 : decode cX9_two 75 = .ok (.iload 4, 2) := by decide +kernel
theorem dX9_two_77 : decode cX9_two 77 = .ok (.if_icmp .lt 71, 3) := by decide +kernel
theorem dX9_two_80 : decode cX9_two 80 = .ok (.aload_n 0, 1) := by decide +kernel
theorem dX9_two_81 : decode cX9_two 81 = .ok (.iload 7, 2) := by decide +kernel
theorem dX9_two_83 : decode cX9_two 83 = .ok (.invokevirtual 300, 3) := by decide +kernel
theorem dX9_two_86 : decode cX9_two 86 = .ok (.iload 4, 2) := by decide +kernel
theorem dX9_two_88 : decode cX9_two 88 = .ok (.if_icmp .lt 60, 3) := by decide +kernel
theorem dX9_two_91 : decode cX9_two 91 = .ok (.aload_n 0, 1) := by decide +kernel
theorem dX9_two_92 : decode cX9_two 92 = .ok (.iload_n 1, 1) := by decide +kernel
theorem dX9_two_93 : decode cX9_two 93 = .ok (.iload_n 3, 1) := by decide +kernel
theorem dX9_two_94 : decode cX9_two 94 = .ok (.iload 6, 2) := by decide +kernel
theorem dX9_two_96 : decode cX9_two 96 = .ok (.invokevirtual 310, 3) := by decide +kernel
theorem dX9_two_99 : decode cX9_two 99 = .ok (.istore 8, 2) := by decide +kernel
theorem dX9_two_101 : decode cX9_two 101 = .ok (.aload_n 0, 1) := by decide +kernel
theorem dX9_two_102 : decode cX9_two 102 = .ok (.iload_n 2, 1) := by decide +kernel
theorem dX9_two_103 : decode cX9_two 103 = .ok (.iload_n 3, 1) := by decide +kernel
theorem dX9_two_104 : decode cX9_two 104 = .ok (.iload 7, 2) := by decide +kernel
theorem dX9_two_106 : decode cX9_two 106 = .ok (.invokevirtual 310, 3) := by decide +kernel
theorem dX9_two_109 : decode cX9_two 109 = .ok (.istore 9, 2) := by decide +kernel
theorem dX9_two_111 : decode cX9_two 111 = .ok (.iload 8, 2) := by decide +kernel
theorem dX9_two_113 : decode cX9_two 113 = .ok (.iload 9, 2) := by decide +kernel
theorem dX9_two_115 : decode cX9_two 115 = .ok (.if_icmp .le 8, 3) := by decide +kernel
theorem dX9_two_118 : decode cX9_two 118 = .ok (.iload 8, 2) := by decide +kernel
theorem dX9_two_120 : decode cX9_two 120 = .ok (.goto 5, 3) := by decide +kernel
theorem dX9_two_123 : decode cX9_two 123 = .ok (.iload 9, 2) := by decide +kernel
theorem dX9_two_125 : decode cX9_two 125 = .ok (.istore 10, 2) := by decide +kernel
theorem dX9_two_127 : decode cX9_two 127 = .ok (.iload 5, 2) := by decide +kernel
theorem dX9_two_129 : decode cX9_two 129 = .ok (.ifCond .lt 10, 3) := by decide +kernel
theorem dX9_two_132 : decode cX9_two 132 = .ok (.iload 10, 2) := by decide +kernel
theorem dX9_two_134 : decode cX9_two 134 = .ok (.iload 5, 2) := by decide +kernel
theorem dX9_two_136 : decode cX9_two 136 = .ok (.if_icmp .ge 8, 3) := by decide +kernel
theorem dX9_two_139 : decode cX9_two 139 = .ok (.iload 10, 2) := by decide +kernel
theorem dX9_two_141 : decode cX9_two 141 = .ok (.goto 5, 3) := by decide +kernel
theorem dX9_two_144 : decode cX9_two 144 = .ok (.iload 5, 2) := by decide +kernel
theorem dX9_two_146 : decode cX9_two 146 = .ok (.istore 5, 2) := by decide +kernel
theorem dX9_two_148 : decode cX9_two 148 = .ok (.iinc 6 1, 3) := by decide +kernel
theorem dX9_two_151 : decode cX9_two 151 = .ok (.goto (-102), 3) := by decide +kernel
theorem dX9_two_154 : decode cX9_two 154 = .ok (.iload 5, 2) := by decide +kernel
theorem dX9_two_156 : decode cX9_two 156 = .ok (.ireturn, 1) := by decide +kernel
theorem dX9_log_0 : decode cX9_log 0 = .ok (.aload_n 0, 1) := by decide +kernel
theorem dX9_log_1 : decode cX9_log 1 = .ok (.iload_n 1, 1) := by decide +kernel
theorem dX9_log_2 : decode cX9_log 2 = .ok (.invokevirtual 206, 3) := by decide +kernel
theorem dX9_log_5 : decode cX9_log 5 = .ok (.ifCond .ne 6, 3) := by decide +kernel
theorem dX9_log_8 : decode cX9_log 8 = .ok (.ldc 197, 2) := by decide +kernel
theorem dX9_log_10 : decode cX9_log 10 = .ok (.ireturn, 1) := by decide +kernel
theorem dX9_log_11 : decode cX9_log 11 = .ok (.iload_n 2, 1) := by decide +kernel
theorem dX9_log_12 : decode cX9_log 12 = .ok (.i2l, 1) := by decide +kernel
theorem dX9_log_13 : decode cX9_log 13 = .ok (.lconst 0, 1) := by decide +kernel
theorem dX9_log_14 : decode cX9_log 14 = .ok (.ldc2_w 287, 3) := by decide +kernel
theorem dX9_log_17 : decode cX9_log 17 = .ok (.invokestatic 95, 3) := by decide +kernel
theorem dX9_log_20 : decode cX9_log 20 = .ok (.ifCond .ne 6, 3) := by decide +kernel
theorem dX9_log_23 : decode cX9_log 23 = .ok (.ldc 99, 2) := by decide +kernel
theorem dX9_log_25 : decode cX9_log 25 = .ok (.ireturn, 1) := by decide +kernel
theorem dX9_log_26 : decode cX9_log 26 = .ok (.aload_n 0, 1) := by decide +kernel
theorem dX9_log_27 : decode cX9_log 27 = .ok (.dup, 1) := by decide +kernel
theorem dX9_log_28 : decode cX9_log 28 = .ok (.getfield 179, 3) := by decide +kernel
theorem dX9_log_31 : decode cX9_log 31 = .ok (.iconst 1, 1) := by decide +kernel
theorem dX9_log_32 : decode cX9_log 32 = .ok (.iload_n 1, 1) := by decide +kernel
theorem dX9_log_33 : decode cX9_log 33 = .ok (.ishl, 1) := by decide +kernel
theorem dX9_log_34 : decode cX9_log 34 = .ok (.ior, 1) := by decide +kernel
theorem dX9_log_35 : decode cX9_log 35 = .ok (.putfield 179, 3) := by decide +kernel
theorem dX9_log_38 : decode cX9_log 38 = .ok (.aload_n 0, 1) := by decide +kernel
theorem dX9_log_39 : decode cX9_log 39 = .ok (.getfield 90, 3) := by decide +kernel
theorem dX9_log_42 : decode cX9_log 42 = .ok (.iload_n 1, 1) := by decide +kernel
theorem dX9_log_43 : decode cX9_log 43 = .ok (.iload_n 2, 1) := by decide +kernel
theorem dX9_log_44 : decode cX9_log 44 = .ok (.iastore, 1) := by decide +kernel
theorem dX9_log_45 : decode cX9_log 45 = .ok (.aload_n 0, 1) := by decide +kernel
theorem dX9_log_46 : decode cX9_log 46 = .ok (.getfield 179, 3) := by decide +kernel
theorem dX9_log_49 : decode cX9_log 49 = .ok (.invokestatic 189, 3) := by decide +kernel
theorem dX9_log_52 : decode cX9_log 52 = .ok (.ireturn, 1) := by decide +kernel
theorem dX9_clear_0 : decode cX9_clear 0 = .ok (.aload_n 0, 1) := by decide +kernel
theorem dX9_clear_1 : decode cX9_clear 1 = .ok (.getfield 179, 3) := by decide +kernel
theorem dX9_clear_4 : decode cX9_clear 4 = .ok (.invokestatic 189, 3) := by decide +kernel
theorem dX9_clear_7 : decode cX9_clear 7 = .ok (.istore_n 1, 1) := by decide +kernel
theorem dX9_clear_8 : decode cX9_clear 8 = .ok (.aload_n 0, 1) := by decide +kernel
theorem dX9_clear_9 : decode cX9_clear 9 = .ok (.iconst 0, 1) := by decide +kernel
theorem dX9_clear_10 : decode cX9_clear 10 = .ok (.putfield 179, 3) := by decide +kernel
theorem dX9_clear_13 : decode cX9_clear 13 = .ok (.iload_n 1, 1) := by decide +kernel
theorem dX9_clear_14 : decode cX9_clear 14 = .ok (.ireturn, 1) := by decide +kernel
theorem dX9_lateOf_0 : decode cX9_lateOf 0 = .ok (.aload_n 0, 1) := by decide +kernel
theorem dX9_lateOf_1 : decode cX9_lateOf 1 = .ok (.getfield 179, 3) := by decide +kernel
theorem dX9_lateOf_4 : decode cX9_lateOf 4 = .ok (.iload_n 1, 1) := by decide +kernel
theorem dX9_lateOf_5 : decode cX9_lateOf 5 = .ok (.invokestatic 146, 3) := by decide +kernel
theorem dX9_lateOf_8 : decode cX9_lateOf 8 = .ok (.ifCond .eq 43, 3) := by decide +kernel
theorem dX9_lateOf_11 : decode cX9_lateOf 11 = .ok (.aload_n 0, 1) := by decide +kernel
theorem dX9_lateOf_12 : decode cX9_lateOf 12 = .ok (.getfield 66, 3) := by decide +kernel
theorem dX9_lateOf_15 : decode cX9_lateOf 15 = .ok (.iload_n 1, 1) := by decide +kernel
theorem dX9_lateOf_16 : decode cX9_lateOf 16 = .ok (.iaload, 1) := by decide +kernel
theorem dX9_lateOf_17 : decode cX9_lateOf 17 = .ok (.ifCond .lt 34, 3) := by decide +kernel
theorem dX9_lateOf_20 : decode cX9_lateOf 20 = .ok (.aload_n 0, 1) := by decide +kernel
theorem dX9_lateOf_21 : decode cX9_lateOf 21 = .ok (.getfield 90, 3) := by decide +kernel
theorem dX9_lateOf_24 : decode cX9_lateOf 24 = .ok (.iload_n 1, 1) := by decide +kernel
theorem dX9_lateOf_25 : decode cX9_lateOf 25 = .ok (.iaload, 1) := by decide +kernel
theorem dX9_lateOf_26 : decode cX9_lateOf 26 = .ok (.aload_n 0, 1) := by decide +kernel
theorem dX9_lateOf_27 : decode cX9_lateOf 27 = .ok (.getfield 66, 3) := by decide +kernel
theorem dX9_lateOf_30 : decode cX9_lateOf 30 = .ok (.iload_n 1, 1) := by decide +kernel
theorem dX9_lateOf_31 : decode cX9_lateOf 31 = .ok (.iaload, 1) := by decide +kernel
theorem dX9_lateOf_32 : decode cX9_lateOf 32 = .ok (.if_icmp .le 19, 3) := by decide +kernel
theorem dX9_lateOf_35 : decode cX9_lateOf 35 = .ok (.aload_n 0, 1) := by decide +kernel
theorem dX9_lateOf_36 : decode cX9_lateOf 36 = .ok (.getfield 90, 3) := by decide +kernel
theorem dX9_lateOf_39 : decode cX9_lateOf 39 = .ok (.iload_n 1, 1) := by decide +kernel
theorem dX9_lateOf_40 : decode cX9_lateOf 40 = .ok (.iaload, 1) := by decide +kernel
theorem dX9_lateOf_41 : decode cX9_lateOf 41 = .ok (.aload_n 0, 1) := by decide +kernel
theorem dX9_lateOf_42 : decode cX9_lateOf 42 = .ok (.getfield 66, 3) := by decide +kernel
theorem dX9_lateOf_45 : decode cX9_lateOf 45 = .ok (.iload_n 1, 1) := by decide +kernel
theorem dX9_lateOf_46 : decode cX9_lateOf 46 = .ok (.iaload, 1) := by decide +kernel
theorem dX9_lateOf_47 : decode cX9_lateOf 47 = .ok (.isub, 1) := by decide +kernel
theorem dX9_lateOf_48 : decode cX9_lateOf 48 = .ok (.goto 4, 3) := by decide +kernel
theorem dX9_lateOf_51 : decode cX9_lateOf 51 = .ok (.iconst 0, 1) := by decide +kernel
theorem dX9_lateOf_52 : decode cX9_lateOf 52 = .ok (.ireturn, 1) := by decide +kernel
theorem dX9_late_0 : decode cX9_late 0 = .ok (.aload_n 0, 1) := by decide +kernel
theorem dX9_late_1 : decode cX9_late 1 = .ok (.iload_n 1, 1) := by decide +kernel
theorem dX9_late_2 : decode cX9_late 2 = .ok (.invokevirtual 193, 3) := by decide +kernel
theorem dX9_late_5 : decode cX9_late 5 = .ok (.ifCond .eq 19, 3) := by decide +kernel
theorem dX9_late_8 : decode cX9_late 8 = .ok (.aload_n 0, 1) := by decide +kernel
theorem dX9_late_9 : decode cX9_late 9 = .ok (.iload_n 2, 1) := by decide +kernel
theorem dX9_late_10 : decode cX9_late 10 = .ok (.invokevirtual 193, 3) := by decide +kernel
theorem dX9_late_13 : decode cX9_late 13 = .ok (.ifCond .eq 11, 3) := by decide +kernel
theorem dX9_late_16 : decode cX9_late 16 = .ok (.aload_n 0, 1) := by decide +kernel
theorem dX9_late_17 : decode cX9_late 17 = .ok (.iload_n 3, 1) := by decide +kernel
theorem dX9_late_18 : decode cX9_late 18 = .ok (.invokevirtual 206, 3) := by decide +kernel
theorem dX9_late_21 : decode cX9_late 21 = .ok (.ifCond .ne 6, 3) := by decide +kernel
theorem dX9_late_24 : decode cX9_late 24 = .ok (.ldc 197, 2) := by decide +kernel
theorem dX9_late_26 : decode cX9_late 26 = .ok (.ireturn, 1) := by decide +kernel
theorem dX9_late_27 : decode cX9_late 27 = .ok (.aload_n 0, 1) := by decide +kernel
theorem dX9_late_28 : decode cX9_late 28 = .ok (.iload_n 1, 1) := by decide +kernel
theorem dX9_late_29 : decode cX9_late 29 = .ok (.iload_n 2, 1) := by decide +kernel
theorem dX9_late_30 : decode cX9_late 30 = .ok (.aload_n 0, 1) := by decide +kernel
theorem dX9_late_31 : decode cX9_late 31 = .ok (.getfield 7, 3) := by decide +kernel
theorem dX9_late_34 : decode cX9_late 34 = .ok (.bipush 24, 2) := by decide +kernel
theorem dX9_late_36 : decode cX9_late 36 = .ok (.iaload, 1) := by decide +kernel
theorem dX9_late_37 : decode cX9_late 37 = .ok (.invokevirtual 229, 3) := by decide +kernel
theorem dX9_late_40 : decode cX9_late 40 = .ok (.aload_n 0, 1) := by decide +kernel
theorem dX9_late_41 : decode cX9_late 41 = .ok (.invokevirtual 233, 3) := by decide +kernel
theorem dX9_late_44 : decode cX9_late 44 = .ok (.aload_n 0, 1) := by decide +kernel
theorem dX9_late_45 : decode cX9_late 45 = .ok (.iload_n 3, 1) := by decide +kernel
theorem dX9_late_46 : decode cX9_late 46 = .ok (.invokevirtual 313, 3) := by decide +kernel
theorem dX9_late_49 : decode cX9_late 49 = .ok (.ireturn, 1) := by decide +kernel
theorem dX9_judge_0 : decode cX9_judge 0 = .ok (.aload_n 0, 1) := by decide +kernel
theorem dX9_judge_1 : decode cX9_judge 1 = .ok (.iload_n 1, 1) := by decide +kernel
theorem dX9_judge_2 : decode cX9_judge 2 = .ok (.invokevirtual 193, 3) := by decide +kernel
theorem dX9_judge_5 : decode cX9_judge 5 = .ok (.ifCond .eq 11, 3) := by decide +kernel
theorem dX9_judge_8 : decode cX9_judge 8 = .ok (.aload_n 0, 1) := by decide +kernel
theorem dX9_judge_9 : decode cX9_judge 9 = .ok (.iload_n 2, 1) := by decide +kernel
theorem dX9_judge_10 : decode cX9_judge 10 = .ok (.invokevirtual 193, 3) := by decide +kernel
theorem dX9_judge_13 : decode cX9_judge 13 = .ok (.ifCond .ne 6, 3) := by decide +kernel
theorem dX9_judge_16 : decode cX9_judge 16 = .ok (.ldc 197, 2) := by decide +kernel
theorem dX9_judge_18 : decode cX9_judge 18 = .ok (.ireturn, 1) := by decide +kernel
theorem dX9_judge_19 : decode cX9_judge 19 = .ok (.iload_n 3, 1) := by decide +kernel
theorem dX9_judge_20 : decode cX9_judge 20 = .ok (.i2l, 1) := by decide +kernel
theorem dX9_judge_21 : decode cX9_judge 21 = .ok (.lconst 0, 1) := by decide +kernel
theorem dX9_judge_22 : decode cX9_judge 22 = .ok (.lconst 1, 1) := by decide +kernel
theorem dX9_judge_23 : decode cX9_judge 23 = .ok (.invokestatic 95, 3) := by decide +kernel
theorem dX9_judge_26 : decode cX9_judge 26 = .ok (.ifCond .ne 6, 3) := by decide +kernel
theorem dX9_judge_29 : decode cX9_judge 29 = .ok (.ldc 99, 2) := by decide +kernel
theorem dX9_judge_31 : decode cX9_judge 31 = .ok (.ireturn, 1) := by decide +kernel
theorem dX9_judge_32 : decode cX9_judge 32 = .ok (.aload_n 0, 1) := by decide +kernel
theorem dX9_judge_33 : decode cX9_judge 33 = .ok (.iload_n 1, 1) := by decide +kernel
theorem dX9_judge_34 : decode cX9_judge 34 = .ok (.iload_n 2, 1) := by decide +kernel
theorem dX9_judge_35 : decode cX9_judge 35 = .ok (.aload_n 0, 1) := by decide +kernel
theorem dX9_judge_36 : decode cX9_judge 36 = .ok (.getfield 7, 3) := by decide +kernel
theorem dX9_judge_39 : decode cX9_judge 39 = .ok (.bipush 24, 2) := by decide +kernel
theorem dX9_judge_41 : decode cX9_judge 41 = .ok (.iaload, 1) := by decide +kernel
theorem dX9_judge_42 : decode cX9_judge 42 = .ok (.invokevirtual 229, 3) := by decide +kernel
theorem dX9_judge_45 : decode cX9_judge 45 = .ok (.aload_n 0, 1) := by decide +kernel
theorem dX9_judge_46 : decode cX9_judge 46 = .ok (.invokevirtual 233, 3) := by decide +kernel
theorem dX9_judge_49 : decode cX9_judge 49 = .ok (.iload_n 3, 1) := by decide +kernel
theorem dX9_judge_50 : decode cX9_judge 50 = .ok (.ifCond .ne 62, 3) := by decide +kernel
theorem dX9_judge_53 : decode cX9_judge 53 = .ok (.iconst (-1), 1) := by decide +kernel
theorem dX9_judge_54 : decode cX9_judge 54 = .ok (.istore 4, 2) := by decide +kernel
theorem dX9_judge_56 : decode cX9_judge 56 = .ok (.iconst 0, 1) := by decide +kernel
theorem dX9_judge_57 : decode cX9_judge 57 = .ok (.istore 5, 2) := by decide +kernel
theorem dX9_judge_59 : decode cX9_judge 59 = .ok (.iload 5, 2) := by decide +kernel
theorem dX9_judge_61 : decode cX9_judge 61 = .ok (.aload_n 0, 1) := by decide +kernel
theorem dX9_judge_62 : decode cX9_judge 62 = .ok (.getfield 35, 3) := by decide +kernel
theorem dX9_judge_65 : decode cX9_judge 65 = .ok (.iconst 1, 1) := by decide +kernel
theorem dX9_judge_66 : decode cX9_judge 66 = .ok (.iaload, 1) := by decide +kernel
theorem dX9_judge_67 : decode cX9_judge 67 = .ok (.if_icmp .ge 42, 3) := by decide +kernel
theorem dX9_judge_70 : decode cX9_judge 70 = .ok (.aload_n 0, 1) := by decide +kernel
theorem dX9_judge_71 : decode cX9_judge 71 = .ok (.iload 5, 2) := by decide +kernel
theorem dX9_judge_73 : decode cX9_judge 73 = .ok (.invokevirtual 313, 3) := by decide +kernel
theorem dX9_judge_76 : decode cX9_judge 76 = .ok (.iload 4, 2) := by decide +kernel
theorem dX9_judge_78 : decode cX9_judge 78 = .ok (.ifCond .ge 7, 3) := by decide +kernel
theorem dX9_judge_81 : decode cX9_judge 81 = .ok (.iconst 0, 1) := by decide +kernel
theorem dX9_judge_82 : decode cX9_judge 82 = .ok (.goto 9, 3) := by decide +kernel
theorem dX9_judge_85 : decode cX9_judge 85 = .ok (.aload_n 0, 1) := by decide +kernel
theorem dX9_judge_86 : decode cX9_judge 86 = .ok (.iload 4, 2) := by decide +kernel
theorem dX9_judge_88 : decode cX9_judge 88 = .ok (.invokevirtual 313, 3) := by decide +kernel
theorem dX9_judge_91 : decode cX9_judge 91 = .ok (.if_icmp .le 8, 3) := by decide +kernel
theorem dX9_judge_94 : decode cX9_judge 94 = .ok (.iload 5, 2) := by decide +kernel
theorem dX9_judge_96 : decode cX9_judge 96 = .ok (.goto 5, 3) := by decide +kernel
theorem dX9_judge_99 : decode cX9_judge 99 = .ok (.iload 4, 2) := by decide +kernel
theorem dX9_judge_101 : decode cX9_judge 101 = .ok (.istore 4, 2) := by decide +kernel
theorem dX9_judge_103 : decode cX9_judge 103 = .ok (.iinc 5 1, 3) := by decide +kernel
theorem dX9_judge_106 : decode cX9_judge 106 = .ok (.goto (-47), 3) := by decide +kernel
theorem dX9_judge_109 : decode cX9_judge 109 = .ok (.iload 4, 2) := by decide +kernel
theorem dX9_judge_111 : decode cX9_judge 111 = .ok (.ireturn, 1) := by decide +kernel
theorem dX9_judge_112 : decode cX9_judge 112 = .ok (.iconst 0, 1) := by decide +kernel
theorem dX9_judge_113 : decode cX9_judge 113 = .ok (.istore 4, 2) := by decide +kernel
theorem dX9_judge_115 : decode cX9_judge 115 = .ok (.iload 4, 2) := by decide +kernel
theorem dX9_judge_117 : decode cX9_judge 117 = .ok (.aload_n 0, 1) := by decide +kernel
theorem dX9_judge_118 : decode cX9_judge 118 = .ok (.getfield 35, 3) := by decide +kernel
theorem dX9_judge_121 : decode cX9_judge 121 = .ok (.iconst 1, 1) := by decide +kernel
theorem dX9_judge_122 : decode cX9_judge 122 = .ok (.iaload, 1) := by decide +kernel
theorem dX9_judge_123 : decode cX9_judge 123 = .ok (.if_icmp .ge 45, 3) := by decide +kernel
theorem dX9_judge_126 : decode cX9_judge 126 = .ok (.aload_n 0, 1) := by decide +kernel
theorem dX9_judge_127 : decode cX9_judge 127 = .ok (.getfield 66, 3) := by decide +kernel
theorem dX9_judge_130 : decode cX9_judge 130 = .ok (.iload 4, 2) := by decide +kernel
theorem dX9_judge_132 : decode cX9_judge 132 = .ok (.aload_n 0, 1) := by decide +kernel
theorem dX9_judge_133 : decode cX9_judge 133 = .ok (.getfield 179, 3) := by decide +kernel
theorem dX9_judge_136 : decode cX9_judge 136 = .ok (.iload 4, 2) := by decide +kernel
theorem dX9_judge_138 : decode cX9_judge 138 = .ok (.invokestatic 146, 3) := by decide +kernel
theorem dX9_judge_141 : decode cX9_judge 141 = .ok (.ifCond .eq 13, 3) := by decide +kernel
theorem dX9_judge_144 : decode cX9_judge 144 = .ok (.aload_n 0, 1) := by decide +kernel
theorem dX9_judge_145 : decode cX9_judge 145 = .ok (.getfield 90, 3) := by decide +kernel
theorem dX9_judge_148 : decode cX9_judge 148 = .ok (.iload 4, 2) := by decide +kernel
theorem dX9_judge_150 : decode cX9_judge 150 = .ok (.iaload, 1) := by decide +kernel
theorem dX9_judge_151 : decode cX9_judge 151 = .ok (.goto 10, 3) := by decide +kernel
theorem dX9_judge_154 : decode cX9_judge 154 = .ok (.aload_n 0, 1) := by decide +kernel
theorem dX9_judge_155 : decode cX9_judge 155 = .ok (.getfield 66, 3) := by decide +kernel
theorem dX9_judge_158 : decode cX9_judge 158 = .ok (.iload 4, 2) := by decide +kernel
theorem dX9_judge_160 : decode cX9_judge 160 = .ok (.iaload, 1) := by decide +kernel
theorem dX9_judge_161 : decode cX9_judge 161 = .ok (.iastore, 1) := by decide +kernel
theorem dX9_judge_162 : decode cX9_judge 162 = .ok (.iinc 4 1, 3) := by decide +kernel
theorem dX9_judge_165 : decode cX9_judge 165 = .ok (.goto (-50), 3) := by decide +kernel
theorem dX9_judge_168 : decode cX9_judge 168 = .ok (.aload_n 0, 1) := by decide +kernel
theorem dX9_judge_169 : decode cX9_judge 169 = .ok (.aload_n 0, 1) := by decide +kernel
theorem dX9_judge_170 : decode cX9_judge 170 = .ok (.invokevirtual 236, 3) := by decide +kernel
theorem dX9_judge_173 : decode cX9_judge 173 = .ok (.invokevirtual 239, 3) := by decide +kernel
theorem dX9_judge_176 : decode cX9_judge 176 = .ok (.ireturn, 1) := by decide +kernel
theorem dX9_seed_0 : decode cX9_seed 0 = .ok (.iload_n 1, 1) := by decide +kernel
theorem dX9_seed_1 : decode cX9_seed 1 = .ok (.ifCond .ge 6, 3) := by decide +kernel
theorem dX9_seed_4 : decode cX9_seed 4 = .ok (.ldc 99, 2) := by decide +kernel
theorem dX9_seed_6 : decode cX9_seed 6 = .ok (.ireturn, 1) := by decide +kernel
theorem dX9_seed_7 : decode cX9_seed 7 = .ok (.aload_n 0, 1) := by decide +kernel
theorem dX9_seed_8 : decode cX9_seed 8 = .ok (.getfield 7, 3) := by decide +kernel
theorem dX9_seed_11 : decode cX9_seed 11 = .ok (.bipush 25, 2) := by decide +kernel
theorem dX9_seed_13 : decode cX9_seed 13 = .ok (.iaload, 1) := by decide +kernel
theorem dX9_seed_14 : decode cX9_seed 14 = .ok (.istore_n 2, 1) := by decide +kernel
theorem dX9_seed_15 : decode cX9_seed 15 = .ok (.aload_n 0, 1) := by decide +kernel
theorem dX9_seed_16 : decode cX9_seed 16 = .ok (.getfield 7, 3) := by decide +kernel
theorem dX9_seed_19 : decode cX9_seed 19 = .ok (.bipush 25, 2) := by decide +kernel
theorem dX9_seed_21 : decode cX9_seed 21 = .ok (.iload_n 1, 1) := by decide +kernel
theorem dX9_seed_22 : decode cX9_seed 22 = .ok (.iastore, 1) := by decide +kernel
theorem dX9_seed_23 : decode cX9_seed 23 = .ok (.iload_n 2, 1) := by decide +kernel
theorem dX9_seed_24 : decode cX9_seed 24 = .ok (.ireturn, 1) := by decide +kernel
theorem dX9_copy_0 : decode cX9_copy 0 = .ok (.iconst 0, 1) := by decide +kernel
theorem dX9_copy_1 : decode cX9_copy 1 = .ok (.istore_n 3, 1) := by decide +kernel
theorem dX9_copy_2 : decode cX9_copy 2 = .ok (.iload_n 3, 1) := by decide +kernel
theorem dX9_copy_3 : decode cX9_copy 3 = .ok (.bipush 26, 2) := by decide +kernel
theorem dX9_copy_5 : decode cX9_copy 5 = .ok (.if_icmp .ge 25, 3) := by decide +kernel
theorem dX9_copy_8 : decode cX9_copy 8 = .ok (.aload_n 0, 1) := by decide +kernel
theorem dX9_copy_9 : decode cX9_copy 9 = .ok (.getfield 7, 3) := by decide +kernel
theorem dX9_copy_12 : decode cX9_copy 12 = .ok (.iload_n 2, 1) := by decide +kernel
theorem dX9_copy_13 : decode cX9_copy 13 = .ok (.iload_n 3, 1) := by decide +kernel
theorem dX9_copy_14 : decode cX9_copy 14 = .ok (.iadd, 1) := by decide +kernel
theorem dX9_copy_15 : decode cX9_copy 15 = .ok (.aload_n 0, 1) := by decide +kernel
theorem dX9_copy_16 : decode cX9_copy 16 = .ok (.getfield 7, 3) := by decide +kernel
theorem dX9_copy_19 : decode cX9_copy 19 = .ok (.iload_n 1, 1) := by decide +kernel
theorem dX9_copy_20 : decode cX9_copy 20 = .ok (.iload_n 3, 1) := by decide +kernel
theorem dX9_copy_21 : decode cX9_copy 21 = .ok (.iadd, 1) := by decide +kernel
theorem dX9_copy_22 : decode cX9_copy 22 = .ok (.iaload, 1) := by decide +kernel
theorem dX9_copy_23 : decode cX9_copy 23 = .ok (.iastore, 1) := by decide +kernel
theorem dX9_copy_24 : decode cX9_copy 24 = .ok (.iinc 3 1, 3) := by decide +kernel
theorem dX9_copy_27 : decode cX9_copy 27 = .ok (.goto (-25), 3) := by decide +kernel
theorem dX9_copy_30 : decode cX9_copy 30 = .ok (.return_, 1) := by decide +kernel
theorem dX9_keep_0 : decode cX9_keep 0 = .ok (.iload_n 1, 1) := by decide +kernel
theorem dX9_keep_1 : decode cX9_keep 1 = .ok (.i2l, 1) := by decide +kernel
theorem dX9_keep_2 : decode cX9_keep 2 = .ok (.lconst 0, 1) := by decide +kernel
theorem dX9_keep_3 : decode cX9_keep 3 = .ok (.lconst 1, 1) := by decide +kernel
theorem dX9_keep_4 : decode cX9_keep 4 = .ok (.invokestatic 95, 3) := by decide +kernel
theorem dX9_keep_7 : decode cX9_keep 7 = .ok (.ifCond .ne 6, 3) := by decide +kernel
theorem dX9_keep_10 : decode cX9_keep 10 = .ok (.ldc 197, 2) := by decide +kernel
theorem dX9_keep_12 : decode cX9_keep 12 = .ok (.ireturn, 1) := by decide +kernel
theorem dX9_keep_13 : decode cX9_keep 13 = .ok (.aload_n 0, 1) := by decide +kernel
theorem dX9_keep_14 : decode cX9_keep 14 = .ok (.iconst 0, 1) := by decide +kernel
theorem dX9_keep_15 : decode cX9_keep 15 = .ok (.bipush 26, 2) := by decide +kernel
theorem dX9_keep_17 : decode cX9_keep 17 = .ok (.iload_n 1, 1) := by decide +kernel
theorem dX9_keep_18 : decode cX9_keep 18 = .ok (.iconst 1, 1) := by decide +kernel
theorem dX9_keep_19 : decode cX9_keep 19 = .ok (.iadd, 1) := by decide +kernel
theorem dX9_keep_20 : decode cX9_keep 20 = .ok (.imul, 1) := by decide +kernel
theorem dX9_keep_21 : decode cX9_keep 21 = .ok (.invokevirtual 316, 3) := by decide +kernel
theorem dX9_keep_24 : decode cX9_keep 24 = .ok (.aload_n 0, 1) := by decide +kernel
theorem dX9_keep_25 : decode cX9_keep 25 = .ok (.getfield 13, 3) := by decide +kernel
theorem dX9_keep_28 : decode cX9_keep 28 = .ok (.iload_n 1, 1) := by decide +kernel
theorem dX9_keep_29 : decode cX9_keep 29 = .ok (.iconst 1, 1) := by decide +kernel
theorem dX9_keep_30 : decode cX9_keep 30 = .ok (.bastore, 1) := by decide +kernel
theorem dX9_keep_31 : decode cX9_keep 31 = .ok (.iconst 1, 1) := by decide +kernel
theorem dX9_keep_32 : decode cX9_keep 32 = .ok (.ireturn, 1) := by decide +kernel
theorem dX9_goBack_0 : decode cX9_goBack 0 = .ok (.iload_n 1, 1) := by decide +kernel
theorem dX9_goBack_1 : decode cX9_goBack 1 = .ok (.i2l, 1) := by decide +kernel
theorem dX9_goBack_2 : decode cX9_goBack 2 = .ok (.lconst 0, 1) := by decide +kernel
theorem dX9_goBack_3 : decode cX9_goBack 3 = .ok (.lconst 1, 1) := by decide +kernel
theorem dX9_goBack_4 : decode cX9_goBack 4 = .ok (.invokestatic 95, 3) := by decide +kernel
theorem dX9_goBack_7 : decode cX9_goBack 7 = .ok (.ifCond .ne 6, 3) := by decide +kernel
theorem dX9_goBack_10 : decode cX9_goBack 10 = .ok (.ldc 197, 2) := by decide +kernel
theorem dX9_goBack_12 : decode cX9_goBack 12 = .ok (.ireturn, 1) := by decide +kernel
theorem dX9_goBack_13 : decode cX9_goBack 13 = .ok (.aload_n 0, 1) := by decide +kernel
theorem dX9_goBack_14 : decode cX9_goBack 14 = .ok (.getfield 13, 3) := by decide +kernel
theorem dX9_goBack_17 : decode cX9_goBack 17 = .ok (.iload_n 1, 1) := by decide +kernel
theorem dX9_goBack_18 : decode cX9_goBack 18 = .ok (.baload, 1) := by decide +kernel
theorem dX9_goBack_19 : decode cX9_goBack 19 = .ok (.ifCond .ne 6, 3) := by decide +kernel
theorem dX9_goBack_22 : decode cX9_goBack 22 = .ok (.ldc 185, 2) := by decide +kernel
theorem dX9_goBack_24 : decode cX9_goBack 24 = .ok (.ireturn, 1) := by decide +kernel
theorem dX9_goBack_25 : decode cX9_goBack 25 = .ok (.aload_n 0, 1) := by decide +kernel
theorem dX9_goBack_26 : decode cX9_goBack 26 = .ok (.bipush 26, 2) := by decide +kernel
theorem dX9_goBack_28 : decode cX9_goBack 28 = .ok (.iload_n 1, 1) := by decide +kernel
theorem dX9_goBack_29 : decode cX9_goBack 29 = .ok (.iconst 1, 1) := by decide +kernel
theorem dX9_goBack_30 : decode cX9_goBack 30 = .ok (.iadd, 1) := by decide +kernel
theorem dX9_goBack_31 : decode cX9_goBack 31 = .ok (.imul, 1) := by decide +kernel
theorem dX9_goBack_32 : decode cX9_goBack 32 = .ok (.iconst 0, 1) := by decide +kernel
theorem dX9_goBack_33 : decode cX9_goBack 33 = .ok (.invokevirtual 316, 3) := by decide +kernel
theorem dX9_goBack_36 : decode cX9_goBack 36 = .ok (.iconst 1, 1) := by decide +kernel
theorem dX9_goBack_37 : decode cX9_goBack 37 = .ok (.ireturn, 1) := by decide +kernel
