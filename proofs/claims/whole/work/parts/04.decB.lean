theorem dX8_init_0 : decode cX8_init 0 = .ok (.aload_n 0, 1) := by decide +kernel
theorem dX8_init_1 : decode cX8_init 1 = .ok (.invokespecial 3, 3) := by decide +kernel
theorem dX8_init_4 : decode cX8_init 4 = .ok (.aload_n 0, 1) := by decide +kernel
theorem dX8_init_5 : decode cX8_init 5 = .ok (.new 9, 3) := by decide +kernel
theorem dX8_init_8 : decode cX8_init 8 = .ok (.dup, 1) := by decide +kernel
theorem dX8_init_9 : decode cX8_init 9 = .ok (.invokespecial 11, 3) := by decide +kernel
theorem dX8_init_12 : decode cX8_init 12 = .ok (.putfield 12, 3) := by decide +kernel
theorem dX8_init_15 : decode cX8_init 15 = .ok (.aload_n 0, 1) := by decide +kernel
theorem dX8_init_16 : decode cX8_init 16 = .ok (.new 16, 3) := by decide +kernel
theorem dX8_init_19 : decode cX8_init 19 = .ok (.dup, 1) := by decide +kernel
theorem dX8_init_20 : decode cX8_init 20 = .ok (.invokespecial 18, 3) := by decide +kernel
theorem dX8_init_23 : decode cX8_init 23 = .ok (.putfield 19, 3) := by decide +kernel
theorem dX8_init_26 : decode cX8_init 26 = .ok (.aload_n 0, 1) := by decide +kernel
theorem dX8_init_27 : decode cX8_init 27 = .ok (.new 16, 3) := by decide +kernel
theorem dX8_init_30 : decode cX8_init 30 = .ok (.dup, 1) := by decide +kernel
theorem dX8_init_31 : decode cX8_init 31 = .ok (.invokespecial 18, 3) := by decide +kernel
theorem dX8_init_34 : decode cX8_init 34 = .ok (.putfield 23, 3) := by decide +kernel
theorem dX8_init_37 : decode cX8_init 37 = .ok (.aload_n 0, 1) := by decide +kernel
theorem dX8_init_38 : decode cX8_init 38 = .ok (.new 16, 3) := by decide +kernel
theorem dX8_init_41 : decode cX8_init 41 = .ok (.dup, 1) := by decide +kernel
theorem dX8_init_42 : decode cX8_init 42 = .ok (.invokespecial 18, 3) := by decide +kernel
theorem dX8_init_45 : decode cX8_init 45 = .ok (.putfield 26, 3) := by decide +kernel
theorem dX8_init_48 : decode cX8_init 48 = .ok (.aload_n 0, 1) := by decide +kernel
theorem dX8_init_49 : decode cX8_init 49 = .ok (.new 29, 3) := by decide +kernel
theorem dX8_init_52 : decode cX8_init 52 = .ok (.dup, 1) := by decide +kernel
theorem dX8_init_53 : decode cX8_init 53 = .ok (.invokespecial 31, 3) := by decide +kernel
theorem dX8_init_56 : decode cX8_init 56 = .ok (.putfield 32, 3) := by decide +kernel
theorem dX8_init_59 : decode cX8_init 59 = .ok (.aload_n 0, 1) := by decide +kernel
theorem dX8_init_60 : decode cX8_init 60 = .ok (.new 36, 3) := by decide +kernel
theorem dX8_init_63 : decode cX8_init 63 = .ok (.dup, 1) := by decide +kernel
theorem dX8_init_64 : decode cX8_init 64 = .ok (.invokespecial 38, 3) := by decide +kernel
theorem dX8_init_67 : decode cX8_init 67 = .ok (.putfield 39, 3) := by decide +kernel
theorem dX8_init_70 : decode cX8_init 70 = .ok (.aload_n 0, 1) := by decide +kernel
theorem dX8_init_71 : decode cX8_init 71 = .ok (.new 36, 3) := by decide +kernel
theorem dX8_init_74 : decode cX8_init 74 = .ok (.dup, 1) := by decide +kernel
theorem dX8_init_75 : decode cX8_init 75 = .ok (.invokespecial 38, 3) := by decide +kernel
theorem dX8_init_78 : decode cX8_init 78 = .ok (.putfield 43, 3) := by decide +kernel
theorem dX8_init_81 : decode cX8_init 81 = .ok (.aload_n 0, 1) := by decide +kernel
theorem dX8_init_82 : decode cX8_init 82 = .ok (.new 46, 3) := by decide +kernel
theorem dX8_init_85 : decode cX8_init 85 = .ok (.dup, 1) := by decide +kernel
theorem dX8_init_86 : decode cX8_init 86 = .ok (.invokespecial 48, 3) := by decide +kernel
theorem dX8_init_89 : decode cX8_init 89 = .ok (.putfield 49, 3) := by decide +kernel
theorem dX8_init_92 : decode cX8_init 92 = .ok (.aload_n 0, 1) := by decide +kernel
theorem dX8_init_93 : decode cX8_init 93 = .ok (.new 53, 3) := by decide +kernel
theorem dX8_init_96 : decode cX8_init 96 = .ok (.dup, 1) := by decide +kernel
theorem dX8_init_97 : decode cX8_init 97 = .ok (.invokespecial 55, 3) := by decide +kernel
theorem dX8_init_100 : decode cX8_init 100 = .ok (.putfield 56, 3) := by decide +kernel
theorem dX8_init_103 : decode cX8_init 103 = .ok (.aload_n 0, 1) := by decide +kernel
theorem dX8_init_104 : decode cX8_init 104 = .ok (.bipush 12, 2) := by decide +kernel
theorem dX8_init_106 : decode cX8_init 106 = .ok (.newarray .int, 2) := by decide +kernel
theorem dX8_init_108 : decode cX8_init 108 = .ok (.putfield 60, 3) := by decide +kernel
theorem dX8_init_111 : decode cX8_init 111 = .ok (.aload_n 0, 1) := by decide +kernel
theorem dX8_init_112 : decode cX8_init 112 = .ok (.bipush 12, 2) := by decide +kernel
theorem dX8_init_114 : decode cX8_init 114 = .ok (.newarray .int, 2) := by decide +kernel
theorem dX8_init_116 : decode cX8_init 116 = .ok (.putfield 64, 3) := by decide +kernel
theorem dX8_init_119 : decode cX8_init 119 = .ok (.aload_n 0, 1) := by decide +kernel
theorem dX8_init_120 : decode cX8_init 120 = .ok (.sipush 4096, 3) := by decide +kernel
theorem dX8_init_123 : decode cX8_init 123 = .ok (.newarray .int, 2) := by decide +kernel
theorem dX8_init_125 : decode cX8_init 125 = .ok (.putfield 67, 3) := by decide +kernel
theorem dX8_init_128 : decode cX8_init 128 = .ok (.aload_n 0, 1) := by decide +kernel
theorem dX8_init_129 : decode cX8_init 129 = .ok (.new 70, 3) := by decide +kernel
theorem dX8_init_132 : decode cX8_init 132 = .ok (.dup, 1) := by decide +kernel
theorem dX8_init_133 : decode cX8_init 133 = .ok (.invokespecial 72, 3) := by decide +kernel
theorem dX8_init_136 : decode cX8_init 136 = .ok (.putfield 73, 3) := by decide +kernel
theorem dX8_init_139 : decode cX8_init 139 = .ok (.aload_n 0, 1) := by decide +kernel
theorem dX8_init_140 : decode cX8_init 140 = .ok (.new 70, 3) := by decide +kernel
theorem dX8_init_143 : decode cX8_init 143 = .ok (.dup, 1) := by decide +kernel
theorem dX8_init_144 : decode cX8_init 144 = .ok (.invokespecial 72, 3) := by decide +kernel
theorem dX8_init_147 : decode cX8_init 147 = .ok (.putfield 77, 3) := by decide +kernel
theorem dX8_init_150 : decode cX8_init 150 = .ok (.aload_n 0, 1) := by decide +kernel
theorem dX8_init_151 : decode cX8_init 151 = .ok (.new 80, 3) := by decide +kernel
theorem dX8_init_154 : decode cX8_init 154 = .ok (.dup, 1) := by decide +kernel
theorem dX8_init_155 : decode cX8_init 155 = .ok (.invokespecial 82, 3) := by decide +kernel
theorem dX8_init_158 : decode cX8_init 158 = .ok (.putfield 83, 3) := by decide +kernel
theorem dX8_init_161 : decode cX8_init 161 = .ok (.aload_n 0, 1) := by decide +kernel
theorem dX8_init_162 : decode cX8_init 162 = .ok (.new 80, 3) := by decide +kernel
theorem dX8_init_165 : decode cX8_init 165 = .ok (.dup, 1) := by decide +kernel
theorem dX8_init_166 : decode cX8_init 166 = .ok (.invokespecial 82, 3) := by decide +kernel
theorem dX8_init_169 : decode cX8_init 169 = .ok (.putfield 87, 3) := by decide +kernel
theorem dX8_init_172 : decode cX8_init 172 = .ok (.aload_n 0, 1) := by decide +kernel
theorem dX8_init_173 : decode cX8_init 173 = .ok (.invokevirtual 90, 3) := by decide +kernel
theorem dX8_init_176 : decode cX8_init 176 = .ok (.return_, 1) := by decide +kernel
theorem dX8_feed_0 : decode cX8_feed 0 = .ok (.iload_n 1, 1) := by decide +kernel
theorem dX8_feed_1 : decode cX8_feed 1 = .ok (.iconst 1, 1) := by decide +kernel
theorem dX8_feed_2 : decode cX8_feed 2 = .ok (.if_icmp .lt 9, 3) := by decide +kernel
theorem dX8_feed_5 : decode cX8_feed 5 = .ok (.iload_n 1, 1) := by decide +kernel
theorem dX8_feed_6 : decode cX8_feed 6 = .ok (.bipush 8, 2) := by decide +kernel
theorem dX8_feed_8 : decode cX8_feed 8 = .ok (.if_icmp .le 6, 3) := by decide +kernel
theorem dX8_feed_11 : decode cX8_feed 11 = .ok (.ldc 93, 2) := by decide +kernel
theorem dX8_feed_13 : decode cX8_feed 13 = .ok (.ireturn, 1) := by decide +kernel
theorem dX8_feed_14 : decode cX8_feed 14 = .ok (.aload_n 0, 1) := by decide +kernel
theorem dX8_feed_15 : decode cX8_feed 15 = .ok (.getfield 12, 3) := by decide +kernel
theorem dX8_feed_18 : decode cX8_feed 18 = .ok (.getfield 94, 3) := by decide +kernel
theorem dX8_feed_21 : decode cX8_feed 21 = .ok (.iload_n 1, 1) := by decide +kernel
theorem dX8_feed_22 : decode cX8_feed 22 = .ok (.iadd, 1) := by decide +kernel
theorem dX8_feed_23 : decode cX8_feed 23 = .ok (.sipush 600, 3) := by decide +kernel
theorem dX8_feed_26 : decode cX8_feed 26 = .ok (.if_icmp .le 6, 3) := by decide +kernel
theorem dX8_feed_29 : decode cX8_feed 29 = .ok (.ldc 98, 2) := by decide +kernel
theorem dX8_feed_31 : decode cX8_feed 31 = .ok (.ireturn, 1) := by decide +kernel
theorem dX8_feed_32 : decode cX8_feed 32 = .ok (.aload_n 0, 1) := by decide +kernel
theorem dX8_feed_33 : decode cX8_feed 33 = .ok (.getfield 12, 3) := by decide +kernel
theorem dX8_feed_36 : decode cX8_feed 36 = .ok (.iload_n 1, 1) := by decide +kernel
theorem dX8_feed_37 : decode cX8_feed 37 = .ok (.lload_n 2, 1) := by decide +kernel
theorem dX8_feed_38 : decode cX8_feed 38 = .ok (.invokevirtual 99, 3) := by decide +kernel
theorem dX8_feed_41 : decode cX8_feed 41 = .ok (.aload_n 0, 1) := by decide +kernel
theorem dX8_feed_42 : decode cX8_feed 42 = .ok (.getfield 12, 3) := by decide +kernel
theorem dX8_feed_45 : decode cX8_feed 45 = .ok (.getfield 94, 3) := by decide +kernel
theorem dX8_feed_48 : decode cX8_feed 48 = .ok (.ireturn, 1) := by decide +kernel
theorem dX8_parish_0 : decode cX8_parish 0 = .ok (.aload_n 0, 1) := by decide +kernel
theorem dX8_parish_1 : decode cX8_parish 1 = .ok (.getfield 12, 3) := by decide +kernel
theorem dX8_parish_4 : decode cX8_parish 4 = .ok (.invokevirtual 103, 3) := by decide +kernel
theorem dX8_parish_7 : decode cX8_parish 7 = .ok (.aload_n 0, 1) := by decide +kernel
theorem dX8_parish_8 : decode cX8_parish 8 = .ok (.getfield 77, 3) := by decide +kernel
theorem dX8_parish_11 : decode cX8_parish 11 = .ok (.aload_n 0, 1) := by decide +kernel
theorem dX8_parish_12 : decode cX8_parish 12 = .ok (.getfield 12, 3) := by decide +kernel
theorem dX8_parish_15 : decode cX8_parish 15 = .ok (.invokevirtual 106, 3) := by decide +kernel
theorem dX8_parish_18 : decode cX8_parish 18 = .ok (.aload_n 0, 1) := by decide +kernel
theorem dX8_parish_19 : decode cX8_parish 19 = .ok (.getfield 12, 3) := by decide +kernel
theorem dX8_parish_22 : decode cX8_parish 22 = .ok (.iconst 0, 1) := by decide +kernel
theorem dX8_parish_23 : decode cX8_parish 23 = .ok (.putfield 94, 3) := by decide +kernel
theorem dX8_parish_26 : decode cX8_parish 26 = .ok (.aload_n 0, 1) := by decide +kernel
theorem dX8_parish_27 : decode cX8_parish 27 = .ok (.getfield 12, 3) := by decide +kernel
theorem dX8_parish_30 : decode cX8_parish 30 = .ok (.invokevirtual 110, 3) := by decide +kernel
theorem dX8_parish_33 : decode cX8_parish 33 = .ok (.ifCond .ne 14, 3) := by decide +kernel
theorem dX8_parish_36 : decode cX8_parish 36 = .ok (.bipush (-10), 2) := by decide +kernel
theorem dX8_parish_38 : decode cX8_parish 38 = .ok (.aload_n 0, 1) := by decide +kernel
theorem dX8_parish_39 : decode cX8_parish 39 = .ok (.getfield 12, 3) := by decide +kernel
theorem dX8_parish_42 : decode cX8_parish 42 = .ok (.getfield 114, 3) := by decide +kernel
theorem dX8_parish_45 : decode cX8_parish 45 = .ok (.isub, 1) := by decide +kernel
theorem dX8_parish_46 : decode cX8_parish 46 = .ok (.ireturn, 1) := by decide +kernel
theorem dX8_parish_47 : decode cX8_parish 47 = .ok (.aload_n 0, 1) := by decide +kernel
theorem dX8_parish_48 : decode cX8_parish 48 = .ok (.getfield 73, 3) := by decide +kernel
theorem dX8_parish_51 : decode cX8_parish 51 = .ok (.astore_n 1, 1) := by decide +kernel
theorem dX8_parish_52 : decode cX8_parish 52 = .ok (.aload_n 0, 1) := by decide +kernel
theorem dX8_parish_53 : decode cX8_parish 53 = .ok (.aload_n 0, 1) := by decide +kernel
theorem dX8_parish_54 : decode cX8_parish 54 = .ok (.getfield 77, 3) := by decide +kernel
theorem dX8_parish_57 : decode cX8_parish 57 = .ok (.putfield 73, 3) := by decide +kernel
theorem dX8_parish_60 : decode cX8_parish 60 = .ok (.aload_n 0, 1) := by decide +kernel
theorem dX8_parish_61 : decode cX8_parish 61 = .ok (.aload_n 1, 1) := by decide +kernel
theorem dX8_parish_62 : decode cX8_parish 62 = .ok (.putfield 77, 3) := by decide +kernel
theorem dX8_parish_65 : decode cX8_parish 65 = .ok (.aload_n 0, 1) := by decide +kernel
theorem dX8_parish_66 : decode cX8_parish 66 = .ok (.invokevirtual 90, 3) := by decide +kernel
theorem dX8_parish_69 : decode cX8_parish 69 = .ok (.aload_n 0, 1) := by decide +kernel
theorem dX8_parish_70 : decode cX8_parish 70 = .ok (.getfield 73, 3) := by decide +kernel
theorem dX8_parish_73 : decode cX8_parish 73 = .ok (.getfield 117, 3) := by decide +kernel
theorem dX8_parish_76 : decode cX8_parish 76 = .ok (.ireturn, 1) := by decide +kernel
theorem dX8_plan_0 : decode cX8_plan 0 = .ok (.aload_n 0, 1) := by decide +kernel
theorem dX8_plan_1 : decode cX8_plan 1 = .ok (.getfield 12, 3) := by decide +kernel
theorem dX8_plan_4 : decode cX8_plan 4 = .ok (.getfield 94, 3) := by decide +kernel
theorem dX8_plan_7 : decode cX8_plan 7 = .ok (.sipush 200, 3) := by decide +kernel
theorem dX8_plan_10 : decode cX8_plan 10 = .ok (.if_icmp .le 6, 3) := by decide +kernel
theorem dX8_plan_13 : decode cX8_plan 13 = .ok (.ldc 120, 2) := by decide +kernel
theorem dX8_plan_15 : decode cX8_plan 15 = .ok (.ireturn, 1) := by decide +kernel
theorem dX8_plan_16 : decode cX8_plan 16 = .ok (.aload_n 0, 1) := by decide +kernel
theorem dX8_plan_17 : decode cX8_plan 17 = .ok (.getfield 12, 3) := by decide +kernel
theorem dX8_plan_20 : decode cX8_plan 20 = .ok (.invokevirtual 103, 3) := by decide +kernel
theorem dX8_plan_23 : decode cX8_plan 23 = .ok (.aload_n 0, 1) := by decide +kernel
theorem dX8_plan_24 : decode cX8_plan 24 = .ok (.getfield 87, 3) := by decide +kernel
theorem dX8_plan_27 : decode cX8_plan 27 = .ok (.aload_n 0, 1) := by decide +kernel
theorem dX8_plan_28 : decode cX8_plan 28 = .ok (.getfield 12, 3) := by decide +kernel
theorem dX8_plan_31 : decode cX8_plan 31 = .ok (.aload_n 0, 1) := by decide +kernel
theorem dX8_plan_32 : decode cX8_plan 32 = .ok (.getfield 73, 3) := by decide +kernel
theorem dX8_plan_35 : decode cX8_plan 35 = .ok (.getfield 117, 3) := by decide +kernel
theorem dX8_plan_38 : decode cX8_plan 38 = .ok (.invokevirtual 121, 3) := by decide +kernel
theorem dX8_plan_41 : decode cX8_plan 41 = .ok (.aload_n 0, 1) := by decide +kernel
theorem dX8_plan_42 : decode cX8_plan 42 = .ok (.getfield 12, 3) := by decide +kernel
theorem dX8_plan_45 : decode cX8_plan 45 = .ok (.iconst 0, 1) := by decide +kernel
theorem dX8_plan_46 : decode cX8_plan 46 = .ok (.putfield 94, 3) := by decide +kernel
theorem dX8_plan_49 : decode cX8_plan 49 = .ok (.aload_n 0, 1) := by decide +kernel
theorem dX8_plan_50 : decode cX8_plan 50 = .ok (.getfield 12, 3) := by decide +kernel
theorem dX8_plan_53 : decode cX8_plan 53 = .ok (.invokevirtual 110, 3) := by decide +kernel
theorem dX8_plan_56 : decode cX8_plan 56 = .ok (.ifCond .ne 14, 3) := by decide +kernel
theorem dX8_plan_59 : decode cX8_plan 59 = .ok (.bipush (-10), 2) := by decide +kernel
theorem dX8_plan_61 : decode cX8_plan 61 = .ok (.aload_n 0, 1) := by decide +kernel
theorem dX8_plan_62 : decode cX8_plan 62 = .ok (.getfield 12, 3) := by decide +kernel
theorem dX8_plan_65 : decode cX8_plan 65 = .ok (.getfield 114, 3) := by decide +kernel
theorem dX8_plan_68 : decode cX8_plan 68 = .ok (.isub, 1) := by decide +kernel
theorem dX8_plan_69 : decode cX8_plan 69 = .ok (.ireturn, 1) := by decide +kernel
theorem dX8_plan_70 : decode cX8_plan 70 = .ok (.aload_n 0, 1) := by decide +kernel
theorem dX8_plan_71 : decode cX8_plan 71 = .ok (.getfield 83, 3) := by decide +kernel
theorem dX8_plan_74 : decode cX8_plan 74 = .ok (.astore_n 1, 1) := by decide +kernel
theorem dX8_plan_75 : decode cX8_plan 75 = .ok (.aload_n 0, 1) := by decide +kernel
theorem dX8_plan_76 : decode cX8_plan 76 = .ok (.aload_n 0, 1) := by decide +kernel
theorem dX8_plan_77 : decode cX8_plan 77 = .ok (.getfield 87, 3) := by decide +kernel
theorem dX8_plan_80 : decode cX8_plan 80 = .ok (.putfield 83, 3) := by decide +kernel
theorem dX8_plan_83 : decode cX8_plan 83 = .ok (.aload_n 0, 1) := by decide +kernel
theorem dX8_plan_84 : decode cX8_plan 84 = .ok (.aload_n 1, 1) := by decide +kernel
theorem dX8_plan_85 : decode cX8_plan 85 = .ok (.putfield 87, 3) := by decide +kernel
theorem dX8_plan_88 : decode cX8_plan 88 = .ok (.aload_n 0, 1) := by decide +kernel
theorem dX8_plan_89 : decode cX8_plan 89 = .ok (.getfield 83, 3) := by decide +kernel
theorem dX8_plan_92 : decode cX8_plan 92 = .ok (.getfield 124, 3) := by decide +kernel
theorem dX8_plan_95 : decode cX8_plan 95 = .ok (.ireturn, 1) := by decide +kernel
theorem dX8_fault_0 : decode cX8_fault 0 = .ok (.aload_n 0, 1) := by decide +kernel
theorem dX8_fault_1 : decode cX8_fault 1 = .ok (.getfield 12, 3) := by decide +kernel
theorem dX8_fault_4 : decode cX8_fault 4 = .ok (.getfield 127, 3) := by decide +kernel
theorem dX8_fault_7 : decode cX8_fault 7 = .ok (.ireturn, 1) := by decide +kernel
theorem dX8_told_0 : decode cX8_told 0 = .ok (.iload_n 1, 1) := by decide +kernel
theorem dX8_told_1 : decode cX8_told 1 = .ok (.tableswitch 93 0 6 #[43, 51, 59, 67, 75, 83, 88], 43) := by decide +kernel
theorem dX8_told_44 : decode cX8_told 44 = .ok (.aload_n 0, 1) := by decide +kernel
theorem dX8_told_45 : decode cX8_told 45 = .ok (.getfield 73, 3) := by decide +kernel
theorem dX8_told_48 : decode cX8_told 48 = .ok (.getfield 117, 3) := by decide +kernel
theorem dX8_told_51 : decode cX8_told 51 = .ok (.ireturn, 1) := by decide +kernel
theorem dX8_told_52 : decode cX8_told 52 = .ok (.aload_n 0, 1) := by decide +kernel
theorem dX8_told_53 : decode cX8_told 53 = .ok (.getfield 73, 3) := by decide +kernel
theorem dX8_told_56 : decode cX8_told 56 = .ok (.getfield 130, 3) := by decide +kernel
theorem dX8_told_59 : decode cX8_told 59 = .ok (.ireturn, 1) := by decide +kernel
theorem dX8_told_60 : decode cX8_told 60 = .ok (.aload_n 0, 1) := by decide +kernel
theorem dX8_told_61 : decode cX8_told 61 = .ok (.getfield 83, 3) := by decide +kernel
theorem dX8_told_64 : decode cX8_told 64 = .ok (.getfield 124, 3) := by decide +kernel
theorem dX8_told_67 : decode cX8_told 67 = .ok (.ireturn, 1) := by decide +kernel
theorem dX8_told_68 : decode cX8_told 68 = .ok (.aload_n 0, 1) := by decide +kernel
theorem dX8_told_69 : decode cX8_told 69 = .ok (.getfield 12, 3) := by decide +kernel
theorem dX8_told_72 : decode cX8_told 72 = .ok (.getfield 94, 3) := by decide +kernel
theorem dX8_told_75 : decode cX8_told 75 = .ok (.ireturn, 1) := by decide +kernel
theorem dX8_told_76 : decode cX8_told 76 = .ok (.aload_n 0, 1) := by decide +kernel
theorem dX8_told_77 : decode cX8_told 77 = .ok (.getfield 19, 3) := by decide +kernel
theorem dX8_told_80 : decode cX8_told 80 = .ok (.getfield 133, 3) := by decide +kernel
theorem dX8_told_83 : decode cX8_told 83 = .ok (.ireturn, 1) := by decide +kernel
theorem dX8_told_84 : decode cX8_told 84 = .ok (.aload_n 0, 1) := by decide +kernel
theorem dX8_told_85 : decode cX8_told 85 = .ok (.getfield 136, 3) := by decide +kernel
theorem dX8_told_88 : decode cX8_told 88 = .ok (.ireturn, 1) := by decide +kernel
theorem dX8_told_89 : decode cX8_told 89 = .ok (.aload_n 0, 1) := by decide +kernel
theorem dX8_told_90 : decode cX8_told 90 = .ok (.invokevirtual 139, 3) := by decide +kernel
theorem dX8_told_93 : decode cX8_told 93 = .ok (.ireturn, 1) := by decide +kernel
theorem dX8_told_94 : decode cX8_told 94 = .ok (.ldc 93, 2) := by decide +kernel
theorem dX8_told_96 : decode cX8_told 96 = .ok (.ireturn, 1) := by decide +kernel
theorem dX8_house_0 : decode cX8_house 0 = .ok (.aload_n 0, 1) := by decide +kernel
theorem dX8_house_1 : decode cX8_house 1 = .ok (.iload_n 1, 1) := by decide +kernel
theorem dX8_house_2 : decode cX8_house 2 = .ok (.invokevirtual 143, 3) := by decide +kernel
theorem dX8_house_5 : decode cX8_house 5 = .ok (.ifCond .eq 6, 3) := by decide +kernel
theorem dX8_house_8 : decode cX8_house 8 = .ok (.ldc 147, 2) := by decide +kernel
theorem dX8_house_10 : decode cX8_house 10 = .ok (.ireturn, 1) := by decide +kernel
theorem dX8_house_11 : decode cX8_house 11 = .ok (.iload_n 2, 1) := by decide +kernel
theorem dX8_house_12 : decode cX8_house 12 = .ok (.tableswitch 94 0 6 #[44, 54, 64, 64, 64, 64, 78], 44) := by decide +kernel
theorem dX8_house_56 : decode cX8_house 56 = .ok (.aload_n 0, 1) := by decide +kernel
theorem dX8_house_57 : decode cX8_house 57 = .ok (.getfield 73, 3) := by decide +kernel
theorem dX8_house_60 : decode cX8_house 60 = .ok (.getfield 148, 3) := by decide +kernel
theorem dX8_house_63 : decode cX8_house 63 = .ok (.iload_n 1, 1) := by decide +kernel
theorem dX8_house_64 : decode cX8_house 64 = .ok (.iaload, 1) := by decide +kernel
theorem dX8_house_65 : decode cX8_house 65 = .ok (.ireturn, 1) := by decide +kernel
theorem dX8_house_66 : decode cX8_house 66 = .ok (.aload_n 0, 1) := by decide +kernel
theorem dX8_house_67 : decode cX8_house 67 = .ok (.getfield 73, 3) := by decide +kernel
theorem dX8_house_70 : decode cX8_house 70 = .ok (.getfield 151, 3) := by decide +kernel
theorem dX8_house_73 : decode cX8_house 73 = .ok (.iload_n 1, 1) := by decide +kernel
theorem dX8_house_74 : decode cX8_house 74 = .ok (.iaload, 1) := by decide +kernel
theorem dX8_house_75 : decode cX8_house 75 = .ok (.ireturn, 1) := by decide +kernel
theorem dX8_house_76 : decode cX8_house 76 = .ok (.aload_n 0, 1) := by decide +kernel
theorem dX8_house_77 : decode cX8_house 77 = .ok (.getfield 73, 3) := by decide +kernel
theorem dX8_house_80 : decode cX8_house 80 = .ok (.getfield 154, 3) := by decide +kernel
theorem dX8_house_83 : decode cX8_house 83 = .ok (.iload_n 2, 1) := by decide +kernel
theorem dX8_house_84 : decode cX8_house 84 = .ok (.iconst 2, 1) := by decide +kernel
theorem dX8_house_85 : decode cX8_house 85 = .ok (.isub, 1) := by decide +kernel
theorem dX8_house_86 : decode cX8_house 86 = .ok (.aaload, 1) := by decide +kernel
theorem dX8_house_87 : decode cX8_house 87 = .ok (.iload_n 1, 1) := by decide +kernel
theorem dX8_house_88 : decode cX8_house 88 = .ok (.iaload, 1) := by decide +kernel
theorem dX8_house_89 : decode cX8_house 89 = .ok (.ireturn, 1) := by decide +kernel
theorem dX8_house_90 : decode cX8_house 90 = .ok (.aload_n 0, 1) := by decide +kernel
theorem dX8_house_91 : decode cX8_house 91 = .ok (.getfield 19, 3) := by decide +kernel
theorem dX8_house_94 : decode cX8_house 94 = .ok (.iload_n 1, 1) := by decide +kernel
theorem dX8_house_95 : decode cX8_house 95 = .ok (.aload_n 0, 1) := by decide +kernel
theorem dX8_house_96 : decode cX8_house 96 = .ok (.getfield 73, 3) := by decide +kernel
theorem dX8_house_99 : decode cX8_house 99 = .ok (.getfield 130, 3) := by decide +kernel
theorem dX8_house_102 : decode cX8_house 102 = .ok (.invokevirtual 158, 3) := by decide +kernel
theorem dX8_house_105 : decode cX8_house 105 = .ok (.ireturn, 1) := by decide +kernel
theorem dX8_house_106 : decode cX8_house 106 = .ok (.ldc 93, 2) := by decide +kernel
theorem dX8_house_108 : decode cX8_house 108 = .ok (.ireturn, 1) := by decide +kernel
theorem dX8_far_0 : decode cX8_far 0 = .ok (.aload_n 0, 1) := by decide +kernel
theorem dX8_far_1 : decode cX8_far 1 = .ok (.iload_n 1, 1) := by decide +kernel
theorem dX8_far_2 : decode cX8_far 2 = .ok (.invokevirtual 143, 3) := by decide +kernel
theorem dX8_far_5 : decode cX8_far 5 = .ok (.ifCond .ne 11, 3) := by decide +kernel
theorem dX8_far_8 : decode cX8_far 8 = .ok (.aload_n 0, 1) := by decide +kernel
theorem dX8_far_9 : decode cX8_far 9 = .ok (.iload_n 2, 1) := by decide +kernel
theorem dX8_far_10 : decode cX8_far 10 = .ok (.invokevirtual 143, 3) := by decide +kernel
theorem dX8_far_13 : decode cX8_far 13 = .ok (.ifCond .eq 6, 3) := by decide +kernel
theorem dX8_far_16 : decode cX8_far 16 = .ok (.ldc 147, 2) := by decide +kernel
theorem dX8_far_18 : decode cX8_far 18 = .ok (.ireturn, 1) := by decide +kernel
theorem dX8_far_19 : decode cX8_far 19 = .ok (.aload_n 0, 1) := by decide +kernel
theorem dX8_far_20 : decode cX8_far 20 = .ok (.getfield 73, 3) := by decide +kernel
theorem dX8_far_23 : decode cX8_far 23 = .ok (.getfield 162, 3) := by decide +kernel
theorem dX8_far_26 : decode cX8_far 26 = .ok (.iload_n 1, 1) := by decide +kernel
theorem dX8_far_27 : decode cX8_far 27 = .ok (.aaload, 1) := by decide +kernel
theorem dX8_far_28 : decode cX8_far 28 = .ok (.iload_n 2, 1) := by decide +kernel
theorem dX8_far_29 : decode cX8_far 29 = .ok (.iaload, 1) := by decide +kernel
theorem dX8_far_30 : decode cX8_far 30 = .ok (.ireturn, 1) := by decide +kernel
theorem dX8_part_0 : decode cX8_part 0 = .ok (.aload_n 0, 1) := by decide +kernel
theorem dX8_part_1 : decode cX8_part 1 = .ok (.iload_n 1, 1) := by decide +kernel
theorem dX8_part_2 : decode cX8_part 2 = .ok (.invokevirtual 165, 3) := by decide +kernel
theorem dX8_part_5 : decode cX8_part 5 = .ok (.ifCond .eq 6, 3) := by decide +kernel
theorem dX8_part_8 : decode cX8_part 8 = .ok (.ldc 147, 2) := by decide +kernel
theorem dX8_part_10 : decode cX8_part 10 = .ok (.ireturn, 1) := by decide +kernel
theorem dX8_part_11 : decode cX8_part 11 = .ok (.iload_n 2, 1) := by decide +kernel
theorem dX8_part_12 : decode cX8_part 12 = .ok (.tableswitch 97 0 5 #[40, 50, 60, 70, 80, 87], 40) := by decide +kernel
theorem dX8_part_52 : decode cX8_part 52 = .ok (.aload_n 0, 1) := by decide +kernel
theorem dX8_part_53 : decode cX8_part 53 = .ok (.getfield 19, 3) := by decide +kernel
theorem dX8_part_56 : decode cX8_part 56 = .ok (.getfield 168, 3) := by decide +kernel
theorem dX8_part_59 : decode cX8_part 59 = .ok (.iload_n 1, 1) := by decide +kernel
theorem dX8_part_60 : decode cX8_part 60 = .ok (.iaload, 1) := by decide +kernel
theorem dX8_part_61 : decode cX8_part 61 = .ok (.ireturn, 1) := by decide +kernel
theorem dX8_part_62 : decode cX8_part 62 = .ok (.aload_n 0, 1) := by decide +kernel
theorem dX8_part_63 : decode cX8_part 63 = .ok (.getfield 73, 3) := by decide +kernel
theorem dX8_part_66 : decode cX8_part 66 = .ok (.getfield 171, 3) := by decide +kernel
theorem dX8_part_69 : decode cX8_part 69 = .ok (.iload_n 1, 1) := by decide +kernel
theorem dX8_part_70 : decode cX8_part 70 = .ok (.iaload, 1) := by decide +kernel
theorem dX8_part_71 : decode cX8_part 71 = .ok (.ireturn, 1) := by decide +kernel
theorem dX8_part_72 : decode cX8_part 72 = .ok (.aload_n 0, 1) := by decide +kernel
theorem dX8_part_73 : decode cX8_part 73 = .ok (.getfield 73, 3) := by decide +kernel
theorem dX8_part_76 : decode cX8_part 76 = .ok (.getfield 174, 3) := by decide +kernel
theorem dX8_part_79 : decode cX8_part 79 = .ok (.iload_n 1, 1) := by decide +kernel
theorem dX8_part_80 : decode cX8_part 80 = .ok (.iaload, 1) := by decide +kernel
theorem dX8_part_81 : decode cX8_part 81 = .ok (.ireturn, 1) := by decide +kernel
theorem dX8_part_82 : decode cX8_part 82 = .ok (.aload_n 0, 1) := by decide +kernel
theorem dX8_part_83 : decode cX8_part 83 = .ok (.getfield 73, 3) := by decide +kernel
theorem dX8_part_86 : decode cX8_part 86 = .ok (.getfield 177, 3) := by decide +kernel
theorem dX8_part_89 : decode cX8_part 89 = .ok (.iload_n 1, 1) := by decide +kernel
theorem dX8_part_90 : decode cX8_part 90 = .ok (.iaload, 1) := by decide +kernel
theorem dX8_part_91 : decode cX8_part 91 = .ok (.ireturn, 1) := by decide +kernel
theorem dX8_part_92 : decode cX8_part 92 = .ok (.aload_n 0, 1) := by decide +kernel
theorem dX8_part_93 : decode cX8_part 93 = .ok (.getfield 60, 3) := by decide +kernel
theorem dX8_part_96 : decode cX8_part 96 = .ok (.iload_n 1, 1) := by decide +kernel
theorem dX8_part_97 : decode cX8_part 97 = .ok (.iaload, 1) := by decide +kernel
theorem dX8_part_98 : decode cX8_part 98 = .ok (.ireturn, 1) := by decide +kernel
theorem dX8_part_99 : decode cX8_part 99 = .ok (.aload_n 0, 1) := by decide +kernel
theorem dX8_part_100 : decode cX8_part 100 = .ok (.getfield 19, 3) := by decide +kernel
theorem dX8_part_103 : decode cX8_part 103 = .ok (.getfield 180, 3) := by decide +kernel
theorem dX8_part_106 : decode cX8_part 106 = .ok (.iload_n 1, 1) := by decide +kernel
theorem dX8_part_107 : decode cX8_part 107 = .ok (.iaload, 1) := by decide +kernel
theorem dX8_part_108 : decode cX8_part 108 = .ok (.ireturn, 1) := by decide +kernel
theorem dX8_part_109 : decode cX8_part 109 = .ok (.ldc 93, 2) := by decide +kernel
theorem dX8_part_111 : decode cX8_part 111 = .ok (.ireturn, 1) := by decide +kernel
theorem dX8_away_0 : decode cX8_away 0 = .ok (.iload_n 1, 1) := by decide +kernel
theorem dX8_away_1 : decode cX8_away 1 = .ok (.aload_n 0, 1) := by decide +kernel
theorem dX8_away_2 : decode cX8_away 2 = .ok (.getfield 73, 3) := by decide +kernel
theorem dX8_away_5 : decode cX8_away 5 = .ok (.getfield 117, 3) := by decide +kernel
theorem dX8_away_8 : decode cX8_away 8 = .ok (.invokestatic 183, 3) := by decide +kernel
theorem dX8_away_11 : decode cX8_away 11 = .ok (.ifCond .eq 6, 3) := by decide +kernel
theorem dX8_away_14 : decode cX8_away 14 = .ok (.ldc 147, 2) := by decide +kernel
theorem dX8_away_16 : decode cX8_away 16 = .ok (.ireturn, 1) := by decide +kernel
theorem dX8_away_17 : decode cX8_away 17 = .ok (.aload_n 0, 1) := by decide +kernel
theorem dX8_away_18 : decode cX8_away 18 = .ok (.getfield 19, 3) := by decide +kernel
theorem dX8_away_21 : decode cX8_away 21 = .ok (.getfield 133, 3) := by decide +kernel
theorem dX8_away_24 : decode cX8_away 24 = .ok (.istore_n 2, 1) := by decide +kernel
theorem dX8_away_25 : decode cX8_away 25 = .ok (.aload_n 0, 1) := by decide +kernel
theorem dX8_away_26 : decode cX8_away 26 = .ok (.getfield 19, 3) := by decide +kernel
theorem dX8_away_29 : decode cX8_away 29 = .ok (.iload_n 1, 1) := by decide +kernel
theorem dX8_away_30 : decode cX8_away 30 = .ok (.putfield 133, 3) := by decide +kernel
theorem dX8_away_33 : decode cX8_away 33 = .ok (.iload_n 2, 1) := by decide +kernel
theorem dX8_away_34 : decode cX8_away 34 = .ok (.ireturn, 1) := by decide +kernel
theorem dX8_awake_0 : decode cX8_awake 0 = .ok (.aload_n 0, 1) := by decide +kernel
theorem dX8_awake_1 : decode cX8_awake 1 = .ok (.iload_n 1, 1) := by decide +kernel
theorem dX8_awake_2 : decode cX8_awake 2 = .ok (.invokevirtual 143, 3) := by decide +kernel
theorem dX8_awake_5 : decode cX8_awake 5 = .ok (.ifCond .ne 11, 3) := by decide +kernel
theorem dX8_awake_8 : decode cX8_awake 8 = .ok (.aload_n 0, 1) := by decide +kernel
theorem dX8_awake_9 : decode cX8_awake 9 = .ok (.iload_n 2, 1) := by decide +kernel
theorem dX8_awake_10 : decode cX8_awake 10 = .ok (.invokevirtual 143, 3) := by decide +kernel
theorem dX8_awake_13 : decode cX8_awake 13 = .ok (.ifCond .eq 6, 3) := by decide +kernel
theorem dX8_awake_16 : decode cX8_awake 16 = .ok (.ldc 147, 2) := by decide +kernel
theorem dX8_awake_18 : decode cX8_awake 18 = .ok (.ireturn, 1) := by decide +kernel
theorem dX8_awake_19 : decode cX8_awake 19 = .ok (.aload_n 0, 1) := by decide +kernel
theorem dX8_awake_20 : decode cX8_awake 20 = .ok (.iload_n 1, 1) := by decide +kernel
theorem dX8_awake_21 : decode cX8_awake 21 = .ok (.invokevirtual 187, 3) := by decide +kernel
theorem dX8_awake_24 : decode cX8_awake 24 = .ok (.aload_n 0, 1) := by decide +kernel
theorem dX8_awake_25 : decode cX8_awake 25 = .ok (.getfield 32, 3) := by decide +kernel
theorem dX8_awake_28 : decode cX8_awake 28 = .ok (.getfield 191, 3) := by decide +kernel
theorem dX8_awake_31 : decode cX8_awake 31 = .ok (.iload_n 2, 1) := by decide +kernel
theorem dX8_awake_32 : decode cX8_awake 32 = .ok (.iaload, 1) := by decide +kernel
theorem dX8_awake_33 : decode cX8_awake 33 = .ok (.ireturn, 1) := by decide +kernel
theorem dX8_comes_0 : decode cX8_comes 0 = .ok (.aload_n 0, 1) := by decide +kernel
theorem dX8_comes_1 : decode cX8_comes 1 = .ok (.iload_n 1, 1) := by decide +kernel
theorem dX8_comes_2 : decode cX8_comes 2 = .ok (.invokevirtual 143, 3) := by decide +kernel
theorem dX8_comes_5 : decode cX8_comes 5 = .ok (.ifCond .ne 19, 3) := by decide +kernel
theorem dX8_comes_8 : decode cX8_comes 8 = .ok (.aload_n 0, 1) := by decide +kernel
theorem dX8_comes_9 : decode cX8_comes 9 = .ok (.iload_n 2, 1) := by decide +kernel
theorem dX8_comes_10 : decode cX8_comes 10 = .ok (.invokevirtual 143, 3) := by decide +kernel
theorem dX8_comes_13 : decode cX8_comes 13 = .ok (.ifCond .ne 11, 3) := by decide +kernel
theorem dX8_comes_16 : decode cX8_comes 16 = .ok (.aload_n 0, 1) := by decide +kernel
theorem dX8_comes_17 : decode cX8_comes 17 = .ok (.iload_n 3, 1) := by decide +kernel
theorem dX8_comes_18 : decode cX8_comes 18 = .ok (.invokevirtual 165, 3) := by decide +kernel
theorem dX8_comes_21 : decode cX8_comes 21 = .ok (.ifCond .eq 6, 3) := by decide +kernel
theorem dX8_comes_24 : decode cX8_comes 24 = .ok (.ldc 147, 2) := by decide +kernel
theorem dX8_comes_26 : decode cX8_comes 26 = .ok (.ireturn, 1) := by decide +kernel
theorem dX8_comes_27 : decode cX8_comes 27 = .ok (.aload_n 0, 1) := by decide +kernel
theorem dX8_comes_28 : decode cX8_comes 28 = .ok (.iload_n 2, 1) := by decide +kernel
theorem dX8_comes_29 : decode cX8_comes 29 = .ok (.invokevirtual 187, 3) := by decide +kernel
theorem dX8_comes_32 : decode cX8_comes 32 = .ok (.aload_n 0, 1) := by decide +kernel
theorem dX8_comes_33 : decode cX8_comes 33 = .ok (.getfield 32, 3) := by decide +kernel
theorem dX8_comes_36 : decode cX8_comes 36 = .ok (.aload_n 0, 1) := by decide +kernel
theorem dX8_comes_37 : decode cX8_comes 37 = .ok (.getfield 73, 3) := by decide +kernel
theorem dX8_comes_40 : decode cX8_comes 40 = .ok (.aload_n 0, 1) := by decide +kernel
theorem dX8_comes_41 : decode cX8_comes 41 = .ok (.getfield 19, 3) := by decide +kernel
theorem dX8_comes_44 : decode cX8_comes 44 = .ok (.getfield 168, 3) := by decide +kernel
theorem dX8_comes_47 : decode cX8_comes 47 = .ok (.iload_n 3, 1) := by decide +kernel
theorem dX8_comes_48 : decode cX8_comes 48 = .ok (.iaload, 1) := by decide +kernel
theorem dX8_comes_49 : decode cX8_comes 49 = .ok (.iload_n 1, 1) := by decide +kernel
theorem dX8_comes_50 : decode cX8_comes 50 = .ok (.invokevirtual 194, 3) := by decide +kernel
theorem dX8_comes_53 : decode cX8_comes 53 = .ok (.ireturn, 1) := by decide +kernel
theorem dX8_stands_0 : decode cX8_stands 0 = .ok (.aload_n 0, 1) := by decide +kernel
theorem dX8_stands_1 : decode cX8_stands 1 = .ok (.iload_n 1, 1) := by decide +kernel
theorem dX8_stands_2 : decode cX8_stands 2 = .ok (.invokevirtual 143, 3) := by decide +kernel
theorem dX8_stands_5 : decode cX8_stands 5 = .ok (.ifCond .ne 11, 3) := by decide +kernel
theorem dX8_stands_8 : decode cX8_stands 8 = .ok (.aload_n 0, 1) := by decide +kernel
theorem dX8_stands_9 : decode cX8_stands 9 = .ok (.iload_n 2, 1) := by decide +kernel
theorem dX8_stands_10 : decode cX8_stands 10 = .ok (.invokevirtual 143, 3) := by decide +kernel
theorem dX8_stands_13 : decode cX8_stands 13 = .ok (.ifCond .eq 6, 3) := by decide +kernel
theorem dX8_stands_16 : decode cX8_stands 16 = .ok (.ldc 147, 2) := by decide +kernel
theorem dX8_stands_18 : decode cX8_stands 18 = .ok (.ireturn, 1) := by decide +kernel
theorem dX8_stands_19 : decode cX8_stands 19 = .ok (.aload_n 0, 1) := by decide +kernel
theorem dX8_stands_20 : decode cX8_stands 20 = .ok (.iload_n 1, 1) := by decide +kernel
theorem dX8_stands_21 : decode cX8_stands 21 = .ok (.iload_n 2, 1) := by decide +kernel
theorem dX8_stands_22 : decode cX8_stands 22 = .ok (.invokevirtual 198, 3) := by decide +kernel
theorem dX8_stands_25 : decode cX8_stands 25 = .ok (.ireturn, 1) := by decide +kernel
theorem dX8_put_0 : decode cX8_put 0 = .ok (.aload_n 0, 1) := by decide +kernel
theorem dX8_put_1 : decode cX8_put 1 = .ok (.iload_n 1, 1) := by decide +kernel
theorem dX8_put_2 : decode cX8_put 2 = .ok (.invokevirtual 143, 3) := by decide +kernel
theorem dX8_put_5 : decode cX8_put 5 = .ok (.ifCond .ne 11, 3) := by decide +kernel
theorem dX8_put_8 : decode cX8_put 8 = .ok (.aload_n 0, 1) := by decide +kernel
theorem dX8_put_9 : decode cX8_put 9 = .ok (.iload_n 2, 1) := by decide +kernel
theorem dX8_put_10 : decode cX8_put 10 = .ok (.invokevirtual 143, 3) := by decide +kernel
theorem dX8_put_13 : decode cX8_put 13 = .ok (.ifCond .eq 6, 3) := by decide +kernel
theorem dX8_put_16 : decode cX8_put 16 = .ok (.ldc 147, 2) := by decide +kernel
theorem dX8_put_18 : decode cX8_put 18 = .ok (.ireturn, 1) := by decide +kernel
theorem dX8_put_19 : decode cX8_put 19 = .ok (.aload_n 0, 1) := by decide +kernel
theorem dX8_put_20 : decode cX8_put 20 = .ok (.iload_n 1, 1) := by decide +kernel
theorem dX8_put_21 : decode cX8_put 21 = .ok (.iload_n 2, 1) := by decide +kernel
theorem dX8_put_22 : decode cX8_put 22 = .ok (.invokevirtual 198, 3) := by decide +kernel
theorem dX8_put_25 : decode cX8_put 25 = .ok (.iconst (-1), 1) := by decide +kernel
theorem dX8_put_26 : decode cX8_put 26 = .ok (.if_icmp .eq 18, 3) := by decide +kernel
theorem dX8_put_29 : decode cX8_put 29 = .ok (.iload_n 3, 1) := by decide +kernel
theorem dX8_put_30 : decode cX8_put 30 = .ok (.ifCond .lt 14, 3) := by decide +kernel
theorem dX8_put_33 : decode cX8_put 33 = .ok (.iload_n 3, 1) := by decide +kernel
theorem dX8_put_34 : decode cX8_put 34 = .ok (.aload_n 0, 1) := by decide +kernel
theorem dX8_put_35 : decode cX8_put 35 = .ok (.getfield 39, 3) := by decide +kernel
theorem dX8_put_38 : decode cX8_put 38 = .ok (.getfield 201, 3) := by decide +kernel
theorem dX8_put_41 : decode cX8_put 41 = .ok (.if_icmp .lt 5, 3) := by decide +kernel
theorem dX8_put_44 : decode cX8_put 44 = .ok (.iconst (-1), 1) := by decide +kernel
theorem dX8_put_45 : decode cX8_put 45 = .ok (.ireturn, 1) := by decide +kernel
theorem dX8_put_46 : decode cX8_put 46 = .ok (.aload_n 0, 1) := by decide +kernel
theorem dX8_put_47 : decode cX8_put 47 = .ok (.getfield 39, 3) := by decide +kernel
theorem dX8_put_50 : decode cX8_put 50 = .ok (.getfield 202, 3) := by decide +kernel
theorem dX8_put_53 : decode cX8_put 53 = .ok (.iload_n 3, 1) := by decide +kernel
theorem dX8_put_54 : decode cX8_put 54 = .ok (.iaload, 1) := by decide +kernel
theorem dX8_put_55 : decode cX8_put 55 = .ok (.ireturn, 1) := by decide +kernel
theorem dX8_waited_0 : decode cX8_waited 0 = .ok (.aload_n 0, 1) := by decide +kernel
theorem dX8_waited_1 : decode cX8_waited 1 = .ok (.iload_n 1, 1) := by decide +kernel
theorem dX8_waited_2 : decode cX8_waited 2 = .ok (.invokevirtual 143, 3) := by decide +kernel
theorem dX8_waited_5 : decode cX8_waited 5 = .ok (.ifCond .ne 11, 3) := by decide +kernel
theorem dX8_waited_8 : decode cX8_waited 8 = .ok (.aload_n 0, 1) := by decide +kernel
theorem dX8_waited_9 : decode cX8_waited 9 = .ok (.iload_n 2, 1) := by decide +kernel
theorem dX8_waited_10 : decode cX8_waited 10 = .ok (.invokevirtual 143, 3) := by decide +kernel
theorem dX8_waited_13 : decode cX8_waited 13 = .ok (.ifCond .eq 6, 3) := by decide +kernel
theorem dX8_waited_16 : decode cX8_waited 16 = .ok (.ldc 147, 2) := by decide +kernel
theorem dX8_waited_18 : decode cX8_waited 18 = .ok (.ireturn, 1) := by decide +kernel
theorem dX8_waited_19 : decode cX8_waited 19 = .ok (.aload_n 0, 1) := by decide +kernel
theorem dX8_waited_20 : decode cX8_waited 20 = .ok (.iload_n 1, 1) := by decide +kernel
theorem dX8_waited_21 : decode cX8_waited 21 = .ok (.iload_n 2, 1) := by decide +kernel
theorem dX8_waited_22 : decode cX8_waited 22 = .ok (.invokevirtual 198, 3) := by decide +kernel
theorem dX8_waited_25 : decode cX8_waited 25 = .ok (.pop, 1) := by decide +kernel
theorem dX8_waited_26 : decode cX8_waited 26 = .ok (.aload_n 0, 1) := by decide +kernel
theorem dX8_waited_27 : decode cX8_waited 27 = .ok (.getfield 39, 3) := by decide +kernel
theorem dX8_waited_30 : decode cX8_waited 30 = .ok (.getfield 205, 3) := by decide +kernel
theorem dX8_waited_33 : decode cX8_waited 33 = .ok (.ireturn, 1) := by decide +kernel
theorem dX8_odds_0 : decode cX8_odds 0 = .ok (.aload_n 0, 1) := by decide +kernel
theorem dX8_odds_1 : decode cX8_odds 1 = .ok (.iload_n 1, 1) := by decide +kernel
theorem dX8_odds_2 : decode cX8_odds 2 = .ok (.invokevirtual 143, 3) := by decide +kernel
theorem dX8_odds_5 : decode cX8_odds 5 = .ok (.ifCond .ne 11, 3) := by decide +kernel
theorem dX8_odds_8 : decode cX8_odds 8 = .ok (.aload_n 0, 1) := by decide +kernel
theorem dX8_odds_9 : decode cX8_odds 9 = .ok (.iload_n 2, 1) := by decide +kernel
theorem dX8_odds_10 : decode cX8_odds 10 = .ok (.invokevirtual 143, 3) := by decide +kernel
theorem dX8_odds_13 : decode cX8_odds 13 = .ok (.ifCond .eq 6, 3) := by decide +kernel
theorem dX8_odds_16 : decode cX8_odds 16 = .ok (.ldc 147, 2) := by decide +kernel
theorem dX8_odds_18 : decode cX8_odds 18 = .ok (.ireturn, 1) := by decide +kernel
theorem dX8_odds_19 : decode cX8_odds 19 = .ok (.iload_n 3, 1) := by decide +kernel
theorem dX8_odds_20 : decode cX8_odds 20 = .ok (.ifCond .lt 19, 3) := by decide +kernel
theorem dX8_odds_23 : decode cX8_odds 23 = .ok (.iload_n 3, 1) := by decide +kernel
theorem dX8_odds_24 : decode cX8_odds 24 = .ok (.iconst 4, 1) := by decide +kernel
theorem dX8_odds_25 : decode cX8_odds 25 = .ok (.if_icmp .ge 14, 3) := by decide +kernel
theorem dX8_odds_28 : decode cX8_odds 28 = .ok (.iload 4, 2) := by decide +kernel
theorem dX8_odds_30 : decode cX8_odds 30 = .ok (.ifCond .lt 9, 3) := by decide +kernel
theorem dX8_odds_33 : decode cX8_odds 33 = .ok (.iload 4, 2) := by decide +kernel
theorem dX8_odds_35 : decode cX8_odds 35 = .ok (.iconst 1, 1) := by decide +kernel
theorem dX8_odds_36 : decode cX8_odds 36 = .ok (.if_icmp .le 6, 3) := by decide +kernel
theorem dX8_odds_39 : decode cX8_odds 39 = .ok (.ldc 93, 2) := by decide +kernel
theorem dX8_odds_41 : decode cX8_odds 41 = .ok (.ireturn, 1) := by decide +kernel
theorem dX8_odds_42 : decode cX8_odds 42 = .ok (.lconst 0, 1) := by decide +kernel
theorem dX8_odds_43 : decode cX8_odds 43 = .ok (.lstore 5, 2) := by decide +kernel
theorem dX8_odds_45 : decode cX8_odds 45 = .ok (.iconst 0, 1) := by decide +kernel
theorem dX8_odds_46 : decode cX8_odds 46 = .ok (.istore 7, 2) := by decide +kernel
theorem dX8_odds_48 : decode cX8_odds 48 = .ok (.iconst 0, 1) := by decide +kernel
theorem dX8_odds_49 : decode cX8_odds 49 = .ok (.istore 8, 2) := by decide +kernel
theorem dX8_odds_51 : decode cX8_odds 51 = .ok (.iload 8, 2) := by decide +kernel
theorem dX8_odds_53 : decode cX8_odds 53 = .ok (.aload_n 0, 1) := by decide +kernel
theorem dX8_odds_54 : decode cX8_odds 54 = .ok (.getfield 73, 3) := by decide +kernel
theorem dX8_odds_57 : decode cX8_odds 57 = .ok (.getfield 117, 3) := by decide +kernel
theorem dX8_odds_60 : decode cX8_odds 60 = .ok (.invokestatic 208, 3) := by decide +kernel
theorem dX8_odds_63 : decode cX8_odds 63 = .ok (.if_icmp .gt 126, 3) := by decide +kernel
theorem dX8_odds_66 : decode cX8_odds 66 = .ok (.iload 8, 2) := by decide +kernel
theorem dX8_odds_68 : decode cX8_odds 68 = .ok (.iload_n 2, 1) := by decide +kernel
theorem dX8_odds_69 : decode cX8_odds 69 = .ok (.invokestatic 212, 3) := by decide +kernel
theorem dX8_odds_72 : decode cX8_odds 72 = .ok (.ifCond .eq 7, 3) := by decide +kernel
theorem dX8_odds_75 : decode cX8_odds 75 = .ok (.lconst 0, 1) := by decide +kernel
theorem dX8_odds_76 : decode cX8_odds 76 = .ok (.goto 14, 3) := by decide +kernel
theorem dX8_odds_79 : decode cX8_odds 79 = .ok (.aload_n 0, 1) := by decide +kernel
theorem dX8_odds_80 : decode cX8_odds 80 = .ok (.getfield 73, 3) := by decide +kernel
theorem dX8_odds_83 : decode cX8_odds 83 = .ok (.iload 8, 2) := by decide +kernel
theorem dX8_odds_85 : decode cX8_odds 85 = .ok (.iload_n 2, 1) := by decide +kernel
theorem dX8_odds_86 : decode cX8_odds 86 = .ok (.iload_n 3, 1) := by decide +kernel
theorem dX8_odds_87 : decode cX8_odds 87 = .ok (.invokevirtual 215, 3) := by decide +kernel
theorem dX8_odds_90 : decode cX8_odds 90 = .ok (.lstore 9, 2) := by decide +kernel
theorem dX8_odds_92 : decode cX8_odds 92 = .ok (.lload 9, 2) := by decide +kernel
theorem dX8_odds_94 : decode cX8_odds 94 = .ok (.lconst 0, 1) := by decide +kernel
theorem dX8_odds_95 : decode cX8_odds 95 = .ok (.lcmp, 1) := by decide +kernel
theorem dX8_odds_96 : decode cX8_odds 96 = .ok (.ifCond .le 87, 3) := by decide +kernel
theorem dX8_odds_99 : decode cX8_odds 99 = .ok (.aload_n 0, 1) := by decide +kernel
theorem dX8_odds_100 : decode cX8_odds 100 = .ok (.getfield 32, 3) := by decide +kernel
theorem dX8_odds_103 : decode cX8_odds 103 = .ok (.aload_n 0, 1) := by decide +kernel
theorem dX8_odds_104 : decode cX8_odds 104 = .ok (.getfield 73, 3) := by decide +kernel
theorem dX8_odds_107 : decode cX8_odds 107 = .ok (.aload_n 0, 1) := by decide +kernel
theorem dX8_odds_108 : decode cX8_odds 108 = .ok (.getfield 83, 3) := by decide +kernel
theorem dX8_odds_111 : decode cX8_odds 111 = .ok (.iload_n 2, 1) := by decide +kernel
theorem dX8_odds_112 : decode cX8_odds 112 = .ok (.iload 8, 2) := by decide +kernel
theorem dX8_odds_114 : decode cX8_odds 114 = .ok (.invokevirtual 219, 3) := by decide +kernel
theorem dX8_odds_117 : decode cX8_odds 117 = .ok (.aload_n 0, 1) := by decide +kernel
theorem dX8_odds_118 : decode cX8_odds 118 = .ok (.getfield 39, 3) := by decide +kernel
theorem dX8_odds_121 : decode cX8_odds 121 = .ok (.aload_n 0, 1) := by decide +kernel
theorem dX8_odds_122 : decode cX8_odds 122 = .ok (.getfield 73, 3) := by decide +kernel
theorem dX8_odds_125 : decode cX8_odds 125 = .ok (.aload_n 0, 1) := by decide +kernel
theorem dX8_odds_126 : decode cX8_odds 126 = .ok (.getfield 32, 3) := by decide +kernel
theorem dX8_odds_129 : decode cX8_odds 129 = .ok (.aload_n 0, 1) := by decide +kernel
theorem dX8_odds_130 : decode cX8_odds 130 = .ok (.getfield 19, 3) := by decide +kernel
theorem dX8_odds_133 : decode cX8_odds 133 = .ok (.getfield 168, 3) := by decide +kernel
theorem dX8_odds_136 : decode cX8_odds 136 = .ok (.iload_n 1, 1) := by decide +kernel
theorem dX8_odds_137 : decode cX8_odds 137 = .ok (.invokevirtual 223, 3) := by decide +kernel
theorem dX8_odds_140 : decode cX8_odds 140 = .ok (.aload_n 0, 1) := by decide +kernel
theorem dX8_odds_141 : decode cX8_odds 141 = .ok (.getfield 39, 3) := by decide +kernel
theorem dX8_odds_144 : decode cX8_odds 144 = .ok (.aload_n 0, 1) := by decide +kernel
theorem dX8_odds_145 : decode cX8_odds 145 = .ok (.getfield 73, 3) := by decide +kernel
theorem dX8_odds_148 : decode cX8_odds 148 = .ok (.aload_n 0, 1) := by decide +kernel
theorem dX8_odds_149 : decode cX8_odds 149 = .ok (.getfield 73, 3) := by decide +kernel
theorem dX8_odds_152 : decode cX8_odds 152 = .ok (.invokevirtual 227, 3) := by decide +kernel
theorem dX8_odds_155 : decode cX8_odds 155 = .ok (.invokevirtual 230, 3) := by decide +kernel
theorem dX8_odds_158 : decode cX8_odds 158 = .ok (.invokestatic 233, 3) := by decide +kernel
theorem dX8_odds_161 : decode cX8_odds 161 = .ok (.istore 11, 2) := by decide +kernel
theorem dX8_odds_163 : decode cX8_odds 163 = .ok (.lload 5, 2) := by decide +kernel
theorem dX8_odds_165 : decode cX8_odds 165 = .ok (.lload 9, 2) := by decide +kernel
theorem dX8_odds_167 : decode cX8_odds 167 = .ok (.iload 11, 2) := by decide +kernel
theorem dX8_odds_169 : decode cX8_odds 169 = .ok (.i2l, 1) := by decide +kernel
theorem dX8_odds_170 : decode cX8_odds 170 = .ok (.lmul, 1) := by decide +kernel
theorem dX8_odds_171 : decode cX8_odds 171 = .ok (.ladd, 1) := by decide +kernel
theorem dX8_odds_172 : decode cX8_odds 172 = .ok (.lstore 5, 2) := by decide +kernel
theorem dX8_odds_174 : decode cX8_odds 174 = .ok (.iload 7, 2) := by decide +kernel
theorem dX8_odds_176 : decode cX8_odds 176 = .ok (.iload 11, 2) := by decide +kernel
theorem dX8_odds_178 : decode cX8_odds 178 = .ok (.invokestatic 236, 3) := by decide +kernel
theorem dX8_odds_181 : decode cX8_odds 181 = .ok (.istore 7, 2) := by decide +kernel
theorem dX8_odds_183 : decode cX8_odds 183 = .ok (.iinc 8 1, 3) := by decide +kernel
theorem dX8_odds_186 : decode cX8_odds 186 = .ok (.goto (-135), 3) := by decide +kernel
theorem dX8_odds_189 : decode cX8_odds 189 = .ok (.iload 4, 2) := by decide +kernel
theorem dX8_odds_191 : decode cX8_odds 191 = .ok (.ifCond .ne 13, 3) := by decide +kernel
theorem dX8_odds_194 : decode cX8_odds 194 = .ok (.lload 5, 2) := by decide +kernel
theorem dX8_odds_196 : decode cX8_odds 196 = .ok (.ldc2_w 241, 3) := by decide +kernel
theorem dX8_odds_199 : decode cX8_odds 199 = .ok (.ldiv, 1) := by decide +kernel
theorem dX8_odds_200 : decode cX8_odds 200 = .ok (.l2i, 1) := by decide +kernel
theorem dX8_odds_201 : decode cX8_odds 201 = .ok (.goto 5, 3) := by decide +kernel
theorem dX8_odds_204 : decode cX8_odds 204 = .ok (.iload 7, 2) := by decide +kernel
theorem dX8_odds_206 : decode cX8_odds 206 = .ok (.ireturn, 1) := by decide +kernel
theorem dX8_night_0 : decode cX8_night 0 = .ok (.iload_n 1, 1) := by decide +kernel
theorem dX8_night_1 : decode cX8_night 1 = .ok (.ifCond .lt 8, 3) := by decide +kernel
theorem dX8_night_4 : decode cX8_night 4 = .ok (.iload_n 1, 1) := by decide +kernel
theorem dX8_night_5 : decode cX8_night 5 = .ok (.iconst 4, 1) := by decide +kernel
theorem dX8_night_6 : decode cX8_night 6 = .ok (.if_icmp .lt 6, 3) := by decide +kernel
theorem dX8_night_9 : decode cX8_night 9 = .ok (.ldc 93, 2) := by decide +kernel
theorem dX8_night_11 : decode cX8_night 11 = .ok (.ireturn, 1) := by decide +kernel
theorem dX8_night_12 : decode cX8_night 12 = .ok (.iconst 0, 1) := by decide +kernel
theorem dX8_night_13 : decode cX8_night 13 = .ok (.istore_n 2, 1) := by decide +kernel
theorem dX8_night_14 : decode cX8_night 14 = .ok (.iconst 0, 1) := by decide +kernel
theorem dX8_night_15 : decode cX8_night 15 = .ok (.istore_n 3, 1) := by decide +kernel
theorem dX8_night_16 : decode cX8_night 16 = .ok (.iload_n 3, 1) := by decide +kernel
theorem dX8_night_17 : decode cX8_night 17 = .ok (.aload_n 0, 1) := by decide +kernel
theorem dX8_night_18 : decode cX8_night 18 = .ok (.getfield 73, 3) := by decide +kernel
theorem dX8_night_21 : decode cX8_night 21 = .ok (.getfield 117, 3) := by decide +kernel
theorem dX8_night_24 : decode cX8_night 24 = .ok (.if_icmp .ge 38, 3) := by decide +kernel
theorem dX8_night_27 : decode cX8_night 27 = .ok (.aload_n 0, 1) := by decide +kernel
theorem dX8_night_28 : decode cX8_night 28 = .ok (.getfield 19, 3) := by decide +kernel
theorem dX8_night_31 : decode cX8_night 31 = .ok (.bipush 100, 2) := by decide +kernel
theorem dX8_night_33 : decode cX8_night 33 = .ok (.invokevirtual 243, 3) := by decide +kernel
theorem dX8_night_36 : decode cX8_night 36 = .ok (.aload_n 0, 1) := by decide +kernel
theorem dX8_night_37 : decode cX8_night 37 = .ok (.getfield 73, 3) := by decide +kernel
theorem dX8_night_40 : decode cX8_night 40 = .ok (.getfield 154, 3) := by decide +kernel
theorem dX8_night_43 : decode cX8_night 43 = .ok (.iload_n 1, 1) := by decide +kernel
theorem dX8_night_44 : decode cX8_night 44 = .ok (.aaload, 1) := by decide +kernel
theorem dX8_night_45 : decode cX8_night 45 = .ok (.iload_n 3, 1) := by decide +kernel
theorem dX8_night_46 : decode cX8_night 46 = .ok (.iaload, 1) := by decide +kernel
theorem dX8_night_47 : decode cX8_night 47 = .ok (.if_icmp .ge 9, 3) := by decide +kernel
theorem dX8_night_50 : decode cX8_night 50 = .ok (.iload_n 2, 1) := by decide +kernel
theorem dX8_night_51 : decode cX8_night 51 = .ok (.iconst 1, 1) := by decide +kernel
theorem dX8_night_52 : decode cX8_night 52 = .ok (.iload_n 3, 1) := by decide +kernel
theorem dX8_night_53 : decode cX8_night 53 = .ok (.ishl, 1) := by decide +kernel
theorem dX8_night_54 : decode cX8_night 54 = .ok (.ior, 1) := by decide +kernel
theorem dX8_night_55 : decode cX8_night 55 = .ok (.istore_n 2, 1) := by decide +kernel
theorem dX8_night_56 : decode cX8_night 56 = .ok (.iinc 3 1, 3) := by decide +kernel
theorem dX8_night_59 : decode cX8_night 59 = .ok (.goto (-43), 3) := by decide +kernel
theorem dX8_night_62 : decode cX8_night 62 = .ok (.aload_n 0, 1) := by decide +kernel
theorem dX8_night_63 : decode cX8_night 63 = .ok (.getfield 19, 3) := by decide +kernel
theorem dX8_night_66 : decode cX8_night 66 = .ok (.iload_n 2, 1) := by decide +kernel
theorem dX8_night_67 : decode cX8_night 67 = .ok (.putfield 133, 3) := by decide +kernel
theorem dX8_night_70 : decode cX8_night 70 = .ok (.iload_n 2, 1) := by decide +kernel
theorem dX8_night_71 : decode cX8_night 71 = .ok (.ireturn, 1) := by decide +kernel
theorem dX8_crier_0 : decode cX8_crier 0 = .ok (.aload_n 0, 1) := by decide +kernel
theorem dX8_crier_1 : decode cX8_crier 1 = .ok (.iload_n 1, 1) := by decide +kernel
theorem dX8_crier_2 : decode cX8_crier 2 = .ok (.invokevirtual 143, 3) := by decide +kernel
theorem dX8_crier_5 : decode cX8_crier 5 = .ok (.ifCond .ne 11, 3) := by decide +kernel
theorem dX8_crier_8 : decode cX8_crier 8 = .ok (.aload_n 0, 1) := by decide +kernel
theorem dX8_crier_9 : decode cX8_crier 9 = .ok (.iload_n 2, 1) := by decide +kernel
theorem dX8_crier_10 : decode cX8_crier 10 = .ok (.invokevirtual 143, 3) := by decide +kernel
theorem dX8_crier_13 : decode cX8_crier 13 = .ok (.ifCond .eq 6, 3) := by decide +kernel
theorem dX8_crier_16 : decode cX8_crier 16 = .ok (.ldc 147, 2) := by decide +kernel
theorem dX8_crier_18 : decode cX8_crier 18 = .ok (.ireturn, 1) := by decide +kernel
theorem dX8_crier_19 : decode cX8_crier 19 = .ok (.aload_n 0, 1) := by decide +kernel
theorem dX8_crier_20 : decode cX8_crier 20 = .ok (.getfield 49, 3) := by decide +kernel
theorem dX8_crier_23 : decode cX8_crier 23 = .ok (.aload_n 0, 1) := by decide +kernel
theorem dX8_crier_24 : decode cX8_crier 24 = .ok (.getfield 73, 3) := by decide +kernel
theorem dX8_crier_27 : decode cX8_crier 27 = .ok (.aload_n 0, 1) := by decide +kernel
theorem dX8_crier_28 : decode cX8_crier 28 = .ok (.getfield 19, 3) := by decide +kernel
theorem dX8_crier_31 : decode cX8_crier 31 = .ok (.iload_n 2, 1) := by decide +kernel
theorem dX8_crier_32 : decode cX8_crier 32 = .ok (.invokevirtual 246, 3) := by decide +kernel
theorem dX8_crier_35 : decode cX8_crier 35 = .ok (.ifCond .ne 6, 3) := by decide +kernel
theorem dX8_crier_38 : decode cX8_crier 38 = .ok (.ldc 120, 2) := by decide +kernel
theorem dX8_crier_40 : decode cX8_crier 40 = .ok (.ireturn, 1) := by decide +kernel
theorem dX8_crier_41 : decode cX8_crier 41 = .ok (.aload_n 0, 1) := by decide +kernel
theorem dX8_crier_42 : decode cX8_crier 42 = .ok (.getfield 49, 3) := by decide +kernel
theorem dX8_crier_45 : decode cX8_crier 45 = .ok (.aload_n 0, 1) := by decide +kernel
theorem dX8_crier_46 : decode cX8_crier 46 = .ok (.getfield 73, 3) := by decide +kernel
theorem dX8_crier_49 : decode cX8_crier 49 = .ok (.aload_n 0, 1) := by decide +kernel
theorem dX8_crier_50 : decode cX8_crier 50 = .ok (.getfield 19, 3) := by decide +kernel
theorem dX8_crier_53 : decode cX8_crier 53 = .ok (.aload_n 0, 1) := by decide +kernel
theorem dX8_crier_54 : decode cX8_crier 54 = .ok (.getfield 32, 3) := by decide +kernel
theorem dX8_crier_57 : decode cX8_crier 57 = .ok (.aload_n 0, 1) := by decide +kernel
theorem dX8_crier_58 : decode cX8_crier 58 = .ok (.getfield 39, 3) := by decide +kernel
theorem dX8_crier_61 : decode cX8_crier 61 = .ok (.iload_n 1, 1) := by decide +kernel
theorem dX8_crier_62 : decode cX8_crier 62 = .ok (.invokevirtual 250, 3) := by decide +kernel
theorem dX8_crier_65 : decode cX8_crier 65 = .ok (.iload_n 3, 1) := by decide +kernel
theorem dX8_crier_66 : decode cX8_crier 66 = .ok (.iconst (-1), 1) := by decide +kernel
theorem dX8_crier_67 : decode cX8_crier 67 = .ok (.if_icmp .ne 11, 3) := by decide +kernel
theorem dX8_crier_70 : decode cX8_crier 70 = .ok (.aload_n 0, 1) := by decide +kernel
theorem dX8_crier_71 : decode cX8_crier 71 = .ok (.getfield 49, 3) := by decide +kernel
theorem dX8_crier_74 : decode cX8_crier 74 = .ok (.getfield 254, 3) := by decide +kernel
theorem dX8_crier_77 : decode cX8_crier 77 = .ok (.ireturn, 1) := by decide +kernel
theorem dX8_crier_78 : decode cX8_crier 78 = .ok (.iload_n 3, 1) := by decide +kernel
theorem dX8_crier_79 : decode cX8_crier 79 = .ok (.ifCond .lt 17, 3) := by decide +kernel
theorem dX8_crier_82 : decode cX8_crier 82 = .ok (.iload_n 3, 1) := by decide +kernel
theorem dX8_crier_83 : decode cX8_crier 83 = .ok (.aload_n 0, 1) := by decide +kernel
theorem dX8_crier_84 : decode cX8_crier 84 = .ok (.getfield 49, 3) := by decide +kernel
theorem dX8_crier_87 : decode cX8_crier 87 = .ok (.getfield 257, 3) := by decide +kernel
theorem dX8_crier_90 : decode cX8_crier 90 = .ok (.getfield 124, 3) := by decide +kernel
theorem dX8_crier_93 : decode cX8_crier 93 = .ok (.if_icmp .lt 5, 3) := by decide +kernel
theorem dX8_crier_96 : decode cX8_crier 96 = .ok (.iconst (-1), 1) := by decide +kernel
theorem dX8_crier_97 : decode cX8_crier 97 = .ok (.ireturn, 1) := by decide +kernel
theorem dX8_crier_98 : decode cX8_crier 98 = .ok (.aload_n 0, 1) := by decide +kernel
theorem dX8_crier_99 : decode cX8_crier 99 = .ok (.getfield 49, 3) := by decide +kernel
theorem dX8_crier_102 : decode cX8_crier 102 = .ok (.getfield 258, 3) := by decide +kernel
theorem dX8_crier_105 : decode cX8_crier 105 = .ok (.iload_n 3, 1) := by decide +kernel
theorem dX8_crier_106 : decode cX8_crier 106 = .ok (.iaload, 1) := by decide +kernel
theorem dX8_crier_107 : decode cX8_crier 107 = .ok (.ireturn, 1) := by decide +kernel
theorem dX8_keepAt_0 : decode cX8_keepAt 0 = .ok (.aload_n 0, 1) := by decide +kernel
theorem dX8_keepAt_1 : decode cX8_keepAt 1 = .ok (.iload_n 1, 1) := by decide +kernel
theorem dX8_keepAt_2 : decode cX8_keepAt 2 = .ok (.invokevirtual 165, 3) := by decide +kernel
theorem dX8_keepAt_5 : decode cX8_keepAt 5 = .ok (.ifCond .ne 11, 3) := by decide +kernel
theorem dX8_keepAt_8 : decode cX8_keepAt 8 = .ok (.aload_n 0, 1) := by decide +kernel
theorem dX8_keepAt_9 : decode cX8_keepAt 9 = .ok (.iload_n 2, 1) := by decide +kernel
theorem dX8_keepAt_10 : decode cX8_keepAt 10 = .ok (.invokevirtual 143, 3) := by decide +kernel
theorem dX8_keepAt_13 : decode cX8_keepAt 13 = .ok (.ifCond .eq 6, 3) := by decide +kernel
theorem dX8_keepAt_16 : decode cX8_keepAt 16 = .ok (.ldc 147, 2) := by decide +kernel
theorem dX8_keepAt_18 : decode cX8_keepAt 18 = .ok (.ireturn, 1) := by decide +kernel
theorem dX8_keepAt_19 : decode cX8_keepAt 19 = .ok (.aload_n 0, 1) := by decide +kernel
theorem dX8_keepAt_20 : decode cX8_keepAt 20 = .ok (.getfield 19, 3) := by decide +kernel
theorem dX8_keepAt_23 : decode cX8_keepAt 23 = .ok (.getfield 168, 3) := by decide +kernel
theorem dX8_keepAt_26 : decode cX8_keepAt 26 = .ok (.iload_n 1, 1) := by decide +kernel
theorem dX8_keepAt_27 : decode cX8_keepAt 27 = .ok (.iaload, 1) := by decide +kernel
theorem dX8_keepAt_28 : decode cX8_keepAt 28 = .ok (.istore_n 3, 1) := by decide +kernel
theorem dX8_keepAt_29 : decode cX8_keepAt 29 = .ok (.aload_n 0, 1) := by decide +kernel
theorem dX8_keepAt_30 : decode cX8_keepAt 30 = .ok (.getfield 19, 3) := by decide +kernel
theorem dX8_keepAt_33 : decode cX8_keepAt 33 = .ok (.getfield 168, 3) := by decide +kernel
theorem dX8_keepAt_36 : decode cX8_keepAt 36 = .ok (.iload_n 1, 1) := by decide +kernel
theorem dX8_keepAt_37 : decode cX8_keepAt 37 = .ok (.iload_n 2, 1) := by decide +kernel
theorem dX8_keepAt_38 : decode cX8_keepAt 38 = .ok (.iastore, 1) := by decide +kernel
theorem dX8_keepAt_39 : decode cX8_keepAt 39 = .ok (.iload_n 3, 1) := by decide +kernel
theorem dX8_keepAt_40 : decode cX8_keepAt 40 = .ok (.ireturn, 1) := by decide +kernel
theorem dX8_kept_0 : decode cX8_kept 0 = .ok (.aload_n 0, 1) := by decide +kernel
theorem dX8_kept_1 : decode cX8_kept 1 = .ok (.iload_n 1, 1) := by decide +kernel
theorem dX8_kept_2 : decode cX8_kept 2 = .ok (.invokevirtual 143, 3) := by decide +kernel
theorem dX8_kept_5 : decode cX8_kept 5 = .ok (.ifCond .eq 6, 3) := by decide +kernel
theorem dX8_kept_8 : decode cX8_kept 8 = .ok (.ldc 147, 2) := by decide +kernel
theorem dX8_kept_10 : decode cX8_kept 10 = .ok (.ireturn, 1) := by decide +kernel
theorem dX8_kept_11 : decode cX8_kept 11 = .ok (.iload_n 2, 1) := by decide +kernel
theorem dX8_kept_12 : decode cX8_kept 12 = .ok (.ifCond .lt 19, 3) := by decide +kernel
theorem dX8_kept_15 : decode cX8_kept 15 = .ok (.iload_n 2, 1) := by decide +kernel
theorem dX8_kept_16 : decode cX8_kept 16 = .ok (.sipush 999, 3) := by decide +kernel
theorem dX8_kept_19 : decode cX8_kept 19 = .ok (.if_icmp .gt 12, 3) := by decide +kernel
theorem dX8_kept_22 : decode cX8_kept 22 = .ok (.iload_n 3, 1) := by decide +kernel
theorem dX8_kept_23 : decode cX8_kept 23 = .ok (.ifCond .lt 8, 3) := by decide +kernel
theorem dX8_kept_26 : decode cX8_kept 26 = .ok (.iload_n 3, 1) := by decide +kernel
theorem dX8_kept_27 : decode cX8_kept 27 = .ok (.iconst 4, 1) := by decide +kernel
theorem dX8_kept_28 : decode cX8_kept 28 = .ok (.if_icmp .le 6, 3) := by decide +kernel
theorem dX8_kept_31 : decode cX8_kept 31 = .ok (.ldc 93, 2) := by decide +kernel
theorem dX8_kept_33 : decode cX8_kept 33 = .ok (.ireturn, 1) := by decide +kernel
theorem dX8_kept_34 : decode cX8_kept 34 = .ok (.aload_n 0, 1) := by decide +kernel
theorem dX8_kept_35 : decode cX8_kept 35 = .ok (.getfield 32, 3) := by decide +kernel
theorem dX8_kept_38 : decode cX8_kept 38 = .ok (.aload_n 0, 1) := by decide +kernel
theorem dX8_kept_39 : decode cX8_kept 39 = .ok (.getfield 73, 3) := by decide +kernel
theorem dX8_kept_42 : decode cX8_kept 42 = .ok (.aload_n 0, 1) := by decide +kernel
theorem dX8_kept_43 : decode cX8_kept 43 = .ok (.getfield 83, 3) := by decide +kernel
theorem dX8_kept_46 : decode cX8_kept 46 = .ok (.iload_n 1, 1) := by decide +kernel
theorem dX8_kept_47 : decode cX8_kept 47 = .ok (.iconst 0, 1) := by decide +kernel
theorem dX8_kept_48 : decode cX8_kept 48 = .ok (.invokevirtual 219, 3) := by decide +kernel
theorem dX8_kept_51 : decode cX8_kept 51 = .ok (.aload_n 0, 1) := by decide +kernel
theorem dX8_kept_52 : decode cX8_kept 52 = .ok (.getfield 56, 3) := by decide +kernel
theorem dX8_kept_55 : decode cX8_kept 55 = .ok (.aload_n 0, 1) := by decide +kernel
theorem dX8_kept_56 : decode cX8_kept 56 = .ok (.getfield 73, 3) := by decide +kernel
theorem dX8_kept_59 : decode cX8_kept 59 = .ok (.aload_n 0, 1) := by decide +kernel
theorem dX8_kept_60 : decode cX8_kept 60 = .ok (.getfield 32, 3) := by decide +kernel
theorem dX8_kept_63 : decode cX8_kept 63 = .ok (.aload_n 0, 1) := by decide +kernel
theorem dX8_kept_64 : decode cX8_kept 64 = .ok (.getfield 19, 3) := by decide +kernel
theorem dX8_kept_67 : decode cX8_kept 67 = .ok (.getfield 168, 3) := by decide +kernel
theorem dX8_kept_70 : decode cX8_kept 70 = .ok (.iload_n 2, 1) := by decide +kernel
theorem dX8_kept_71 : decode cX8_kept 71 = .ok (.invokevirtual 261, 3) := by decide +kernel
theorem dX8_kept_74 : decode cX8_kept 74 = .ok (.iload_n 3, 1) := by decide +kernel
theorem dX8_kept_75 : decode cX8_kept 75 = .ok (.ifCond .ne 11, 3) := by decide +kernel
theorem dX8_kept_78 : decode cX8_kept 78 = .ok (.aload_n 0, 1) := by decide +kernel
theorem dX8_kept_79 : decode cX8_kept 79 = .ok (.getfield 56, 3) := by decide +kernel
theorem dX8_kept_82 : decode cX8_kept 82 = .ok (.getfield 264, 3) := by decide +kernel
theorem dX8_kept_85 : decode cX8_kept 85 = .ok (.ireturn, 1) := by decide +kernel
theorem dX8_kept_86 : decode cX8_kept 86 = .ok (.iload_n 3, 1) := by decide +kernel
theorem dX8_kept_87 : decode cX8_kept 87 = .ok (.iconst 1, 1) := by decide +kernel
theorem dX8_kept_88 : decode cX8_kept 88 = .ok (.isub, 1) := by decide +kernel
theorem dX8_kept_89 : decode cX8_kept 89 = .ok (.iconst 2, 1) := by decide +kernel
theorem dX8_kept_90 : decode cX8_kept 90 = .ok (.idiv, 1) := by decide +kernel
theorem dX8_kept_91 : decode cX8_kept 91 = .ok (.istore 4, 2) := by decide +kernel
theorem dX8_kept_93 : decode cX8_kept 93 = .ok (.iload 4, 2) := by decide +kernel
theorem dX8_kept_95 : decode cX8_kept 95 = .ok (.aload_n 0, 1) := by decide +kernel
theorem dX8_kept_96 : decode cX8_kept 96 = .ok (.getfield 56, 3) := by decide +kernel
theorem dX8_kept_99 : decode cX8_kept 99 = .ok (.getfield 264, 3) := by decide +kernel
theorem dX8_kept_102 : decode cX8_kept 102 = .ok (.if_icmp .lt 5, 3) := by decide +kernel
theorem dX8_kept_105 : decode cX8_kept 105 = .ok (.iconst (-1), 1) := by decide +kernel
theorem dX8_kept_106 : decode cX8_kept 106 = .ok (.ireturn, 1) := by decide +kernel
theorem dX8_kept_107 : decode cX8_kept 107 = .ok (.iload_n 3, 1) := by decide +kernel
theorem dX8_kept_108 : decode cX8_kept 108 = .ok (.iconst 2, 1) := by decide +kernel
theorem dX8_kept_109 : decode cX8_kept 109 = .ok (.irem, 1) := by decide +kernel
theorem dX8_kept_110 : decode cX8_kept 110 = .ok (.iconst 1, 1) := by decide +kernel
theorem dX8_kept_111 : decode cX8_kept 111 = .ok (.if_icmp .ne 16, 3) := by decide +kernel
theorem dX8_kept_114 : decode cX8_kept 114 = .ok (.aload_n 0, 1) := by decide +kernel
theorem dX8_kept_115 : decode cX8_kept 115 = .ok (.getfield 56, 3) := by decide +kernel
theorem dX8_kept_118 : decode cX8_kept 118 = .ok (.getfield 265, 3) := by decide +kernel
theorem dX8_kept_121 : decode cX8_kept 121 = .ok (.iload 4, 2) := by decide +kernel
theorem dX8_kept_123 : decode cX8_kept 123 = .ok (.iaload, 1) := by decide +kernel
theorem dX8_kept_124 : decode cX8_kept 124 = .ok (.goto 13, 3) := by decide +kernel
theorem dX8_kept_127 : decode cX8_kept 127 = .ok (.aload_n 0, 1) := by decide +kernel
theorem dX8_kept_128 : decode cX8_kept 128 = .ok (.getfield 56, 3) := by decide +kernel
theorem dX8_kept_131 : decode cX8_kept 131 = .ok (.getfield 268, 3) := by decide +kernel
theorem dX8_kept_134 : decode cX8_kept 134 = .ok (.iload 4, 2) := by decide +kernel
theorem dX8_kept_136 : decode cX8_kept 136 = .ok (.iaload, 1) := by decide +kernel
theorem dX8_kept_137 : decode cX8_kept 137 = .ok (.ireturn, 1) := by decide +kernel
theorem dX8_reach_0 : decode cX8_reach 0 = .ok (.iload_n 1, 1) := by decide +kernel
theorem dX8_reach_1 : decode cX8_reach 1 = .ok (.aload_n 0, 1) := by decide +kernel
theorem dX8_reach_2 : decode cX8_reach 2 = .ok (.getfield 73, 3) := by decide +kernel
theorem dX8_reach_5 : decode cX8_reach 5 = .ok (.getfield 130, 3) := by decide +kernel
theorem dX8_reach_8 : decode cX8_reach 8 = .ok (.invokestatic 183, 3) := by decide +kernel
theorem dX8_reach_11 : decode cX8_reach 11 = .ok (.ifCond .eq 6, 3) := by decide +kernel
theorem dX8_reach_14 : decode cX8_reach 14 = .ok (.ldc 147, 2) := by decide +kernel
theorem dX8_reach_16 : decode cX8_reach 16 = .ok (.ireturn, 1) := by decide +kernel
theorem dX8_reach_17 : decode cX8_reach 17 = .ok (.aload_n 0, 1) := by decide +kernel
theorem dX8_reach_18 : decode cX8_reach 18 = .ok (.getfield 73, 3) := by decide +kernel
theorem dX8_reach_21 : decode cX8_reach 21 = .ok (.aload_n 0, 1) := by decide +kernel
theorem dX8_reach_22 : decode cX8_reach 22 = .ok (.getfield 73, 3) := by decide +kernel
theorem dX8_reach_25 : decode cX8_reach 25 = .ok (.iload_n 1, 1) := by decide +kernel
theorem dX8_reach_26 : decode cX8_reach 26 = .ok (.invokevirtual 271, 3) := by decide +kernel
theorem dX8_reach_29 : decode cX8_reach 29 = .ok (.invokevirtual 274, 3) := by decide +kernel
theorem dX8_reach_32 : decode cX8_reach 32 = .ok (.ireturn, 1) := by decide +kernel
theorem dX8_needed_0 : decode cX8_needed 0 = .ok (.iload_n 1, 1) := by decide +kernel
theorem dX8_needed_1 : decode cX8_needed 1 = .ok (.ifCond .lt 10, 3) := by decide +kernel
theorem dX8_needed_4 : decode cX8_needed 4 = .ok (.iload_n 1, 1) := by decide +kernel
theorem dX8_needed_5 : decode cX8_needed 5 = .ok (.sipush 9999, 3) := by decide +kernel
theorem dX8_needed_8 : decode cX8_needed 8 = .ok (.if_icmp .le 6, 3) := by decide +kernel
theorem dX8_needed_11 : decode cX8_needed 11 = .ok (.ldc 93, 2) := by decide +kernel
theorem dX8_needed_13 : decode cX8_needed 13 = .ok (.ireturn, 1) := by decide +kernel
theorem dX8_needed_14 : decode cX8_needed 14 = .ok (.iconst (-1), 1) := by decide +kernel
theorem dX8_needed_15 : decode cX8_needed 15 = .ok (.istore_n 2, 1) := by decide +kernel
theorem dX8_needed_16 : decode cX8_needed 16 = .ok (.iconst 0, 1) := by decide +kernel
theorem dX8_needed_17 : decode cX8_needed 17 = .ok (.istore_n 3, 1) := by decide +kernel
theorem dX8_needed_18 : decode cX8_needed 18 = .ok (.iload_n 3, 1) := by decide +kernel
theorem dX8_needed_19 : decode cX8_needed 19 = .ok (.aload_n 0, 1) := by decide +kernel
theorem dX8_needed_20 : decode cX8_needed 20 = .ok (.getfield 73, 3) := by decide +kernel
theorem dX8_needed_23 : decode cX8_needed 23 = .ok (.invokevirtual 227, 3) := by decide +kernel
theorem dX8_needed_26 : decode cX8_needed 26 = .ok (.if_icmp .gt 58, 3) := by decide +kernel
theorem dX8_needed_29 : decode cX8_needed 29 = .ok (.iload_n 2, 1) := by decide +kernel
theorem dX8_needed_30 : decode cX8_needed 30 = .ok (.iconst (-1), 1) := by decide +kernel
theorem dX8_needed_31 : decode cX8_needed 31 = .ok (.if_icmp .eq 14, 3) := by decide +kernel
theorem dX8_needed_34 : decode cX8_needed 34 = .ok (.iload_n 3, 1) := by decide +kernel
theorem dX8_needed_35 : decode cX8_needed 35 = .ok (.invokestatic 277, 3) := by decide +kernel
theorem dX8_needed_38 : decode cX8_needed 38 = .ok (.iload_n 2, 1) := by decide +kernel
theorem dX8_needed_39 : decode cX8_needed 39 = .ok (.invokestatic 277, 3) := by decide +kernel
theorem dX8_needed_42 : decode cX8_needed 42 = .ok (.if_icmp .ge 7, 3) := by decide +kernel
theorem dX8_needed_45 : decode cX8_needed 45 = .ok (.iconst 1, 1) := by decide +kernel
theorem dX8_needed_46 : decode cX8_needed 46 = .ok (.goto 4, 3) := by decide +kernel
theorem dX8_needed_49 : decode cX8_needed 49 = .ok (.iconst 0, 1) := by decide +kernel
theorem dX8_needed_50 : decode cX8_needed 50 = .ok (.istore 4, 2) := by decide +kernel
theorem dX8_needed_52 : decode cX8_needed 52 = .ok (.iload 4, 2) := by decide +kernel
theorem dX8_needed_54 : decode cX8_needed 54 = .ok (.ifCond .eq 24, 3) := by decide +kernel
theorem dX8_needed_57 : decode cX8_needed 57 = .ok (.aload_n 0, 1) := by decide +kernel
theorem dX8_needed_58 : decode cX8_needed 58 = .ok (.getfield 73, 3) := by decide +kernel
theorem dX8_needed_61 : decode cX8_needed 61 = .ok (.aload_n 0, 1) := by decide +kernel
theorem dX8_needed_62 : decode cX8_needed 62 = .ok (.getfield 73, 3) := by decide +kernel
theorem dX8_needed_65 : decode cX8_needed 65 = .ok (.iload_n 3, 1) := by decide +kernel
theorem dX8_needed_66 : decode cX8_needed 66 = .ok (.invokevirtual 271, 3) := by decide +kernel
theorem dX8_needed_69 : decode cX8_needed 69 = .ok (.invokevirtual 274, 3) := by decide +kernel
theorem dX8_needed_72 : decode cX8_needed 72 = .ok (.iload_n 1, 1) := by decide +kernel
theorem dX8_needed_73 : decode cX8_needed 73 = .ok (.if_icmp .lt 5, 3) := by decide +kernel
theorem dX8_needed_76 : decode cX8_needed 76 = .ok (.iload_n 3, 1) := by decide +kernel
theorem dX8_needed_77 : decode cX8_needed 77 = .ok (.istore_n 2, 1) := by decide +kernel
theorem dX8_needed_78 : decode cX8_needed 78 = .ok (.iinc 3 1, 3) := by decide +kernel
theorem dX8_needed_81 : decode cX8_needed 81 = .ok (.goto (-63), 3) := by decide +kernel
theorem dX8_needed_84 : decode cX8_needed 84 = .ok (.iload_n 2, 1) := by decide +kernel
theorem dX8_needed_85 : decode cX8_needed 85 = .ok (.ireturn, 1) := by decide +kernel
theorem dX8_fit_0 : decode cX8_fit 0 = .ok (.aload_n 0, 1) := by decide +kernel
theorem dX8_fit_1 : decode cX8_fit 1 = .ok (.iload_n 1, 1) := by decide +kernel
theorem dX8_fit_2 : decode cX8_fit 2 = .ok (.invokevirtual 165, 3) := by decide +kernel
theorem dX8_fit_5 : decode cX8_fit 5 = .ok (.ifCond .ne 17, 3) := by decide +kernel
theorem dX8_fit_8 : decode cX8_fit 8 = .ok (.iload_n 2, 1) := by decide +kernel
theorem dX8_fit_9 : decode cX8_fit 9 = .ok (.aload_n 0, 1) := by decide +kernel
theorem dX8_fit_10 : decode cX8_fit 10 = .ok (.getfield 73, 3) := by decide +kernel
theorem dX8_fit_13 : decode cX8_fit 13 = .ok (.getfield 130, 3) := by decide +kernel
theorem dX8_fit_16 : decode cX8_fit 16 = .ok (.invokestatic 183, 3) := by decide +kernel
theorem dX8_fit_19 : decode cX8_fit 19 = .ok (.ifCond .eq 6, 3) := by decide +kernel
theorem dX8_fit_22 : decode cX8_fit 22 = .ok (.ldc 147, 2) := by decide +kernel
theorem dX8_fit_24 : decode cX8_fit 24 = .ok (.ireturn, 1) := by decide +kernel
theorem dX8_fit_25 : decode cX8_fit 25 = .ok (.aload_n 0, 1) := by decide +kernel
theorem dX8_fit_26 : decode cX8_fit 26 = .ok (.getfield 19, 3) := by decide +kernel
theorem dX8_fit_29 : decode cX8_fit 29 = .ok (.getfield 180, 3) := by decide +kernel
theorem dX8_fit_32 : decode cX8_fit 32 = .ok (.iload_n 1, 1) := by decide +kernel
theorem dX8_fit_33 : decode cX8_fit 33 = .ok (.iaload, 1) := by decide +kernel
theorem dX8_fit_34 : decode cX8_fit 34 = .ok (.istore_n 3, 1) := by decide +kernel
theorem dX8_fit_35 : decode cX8_fit 35 = .ok (.aload_n 0, 1) := by decide +kernel
theorem dX8_fit_36 : decode cX8_fit 36 = .ok (.getfield 19, 3) := by decide +kernel
theorem dX8_fit_39 : decode cX8_fit 39 = .ok (.getfield 180, 3) := by decide +kernel
theorem dX8_fit_42 : decode cX8_fit 42 = .ok (.iload_n 1, 1) := by decide +kernel
theorem dX8_fit_43 : decode cX8_fit 43 = .ok (.iload_n 2, 1) := by decide +kernel
theorem dX8_fit_44 : decode cX8_fit 44 = .ok (.iconst 1, 1) := by decide +kernel
theorem dX8_fit_45 : decode cX8_fit 45 = .ok (.iload_n 1, 1) := by decide +kernel
theorem dX8_fit_46 : decode cX8_fit 46 = .ok (.ishl, 1) := by decide +kernel
theorem dX8_fit_47 : decode cX8_fit 47 = .ok (.ior, 1) := by decide +kernel
theorem dX8_fit_48 : decode cX8_fit 48 = .ok (.iastore, 1) := by decide +kernel
theorem dX8_fit_49 : decode cX8_fit 49 = .ok (.iload_n 3, 1) := by decide +kernel
theorem dX8_fit_50 : decode cX8_fit 50 = .ok (.ireturn, 1) := by decide +kernel
theorem dX8_ladders_0 : decode cX8_ladders 0 = .ok (.iload_n 1, 1) := by decide +kernel
theorem dX8_ladders_1 : decode cX8_ladders 1 = .ok (.aload_n 0, 1) := by decide +kernel
theorem dX8_ladders_2 : decode cX8_ladders 2 = .ok (.getfield 73, 3) := by decide +kernel
theorem dX8_ladders_5 : decode cX8_ladders 5 = .ok (.getfield 130, 3) := by decide +kernel
theorem dX8_ladders_8 : decode cX8_ladders 8 = .ok (.invokestatic 183, 3) := by decide +kernel
theorem dX8_ladders_11 : decode cX8_ladders 11 = .ok (.ifCond .eq 6, 3) := by decide +kernel
theorem dX8_ladders_14 : decode cX8_ladders 14 = .ok (.ldc 147, 2) := by decide +kernel
theorem dX8_ladders_16 : decode cX8_ladders 16 = .ok (.ireturn, 1) := by decide +kernel
theorem dX8_ladders_17 : decode cX8_ladders 17 = .ok (.iload_n 2, 1) := by decide +kernel
theorem dX8_ladders_18 : decode cX8_ladders 18 = .ok (.ifCond .lt 14, 3) := by decide +kernel
theorem dX8_ladders_21 : decode cX8_ladders 21 = .ok (.iload_n 2, 1) := by decide +kernel
theorem dX8_ladders_22 : decode cX8_ladders 22 = .ok (.aload_n 0, 1) := by decide +kernel
theorem dX8_ladders_23 : decode cX8_ladders 23 = .ok (.getfield 73, 3) := by decide +kernel
theorem dX8_ladders_26 : decode cX8_ladders 26 = .ok (.getfield 130, 3) := by decide +kernel
theorem dX8_ladders_29 : decode cX8_ladders 29 = .ok (.if_icmp .le 6, 3) := by decide +kernel
theorem dX8_ladders_32 : decode cX8_ladders 32 = .ok (.ldc 93, 2) := by decide +kernel
theorem dX8_ladders_34 : decode cX8_ladders 34 = .ok (.ireturn, 1) := by decide +kernel
theorem dX8_ladders_35 : decode cX8_ladders 35 = .ok (.aload_n 0, 1) := by decide +kernel
theorem dX8_ladders_36 : decode cX8_ladders 36 = .ok (.iload_n 1, 1) := by decide +kernel
theorem dX8_ladders_37 : decode cX8_ladders 37 = .ok (.invokevirtual 282, 3) := by decide +kernel
theorem dX8_ladders_40 : decode cX8_ladders 40 = .ok (.iconst 0, 1) := by decide +kernel
theorem dX8_ladders_41 : decode cX8_ladders 41 = .ok (.istore_n 3, 1) := by decide +kernel
theorem dX8_ladders_42 : decode cX8_ladders 42 = .ok (.iconst 0, 1) := by decide +kernel
theorem dX8_ladders_43 : decode cX8_ladders 43 = .ok (.istore 4, 2) := by decide +kernel
theorem dX8_ladders_45 : decode cX8_ladders 45 = .ok (.iload 4, 2) := by decide +kernel
theorem dX8_ladders_47 : decode cX8_ladders 47 = .ok (.aload_n 0, 1) := by decide +kernel
theorem dX8_ladders_48 : decode cX8_ladders 48 = .ok (.getfield 73, 3) := by decide +kernel
theorem dX8_ladders_51 : decode cX8_ladders 51 = .ok (.invokevirtual 227, 3) := by decide +kernel
theorem dX8_ladders_54 : decode cX8_ladders 54 = .ok (.if_icmp .gt 28, 3) := by decide +kernel
theorem dX8_ladders_57 : decode cX8_ladders 57 = .ok (.iload 4, 2) := by decide +kernel
theorem dX8_ladders_59 : decode cX8_ladders 59 = .ok (.invokestatic 277, 3) := by decide +kernel
theorem dX8_ladders_62 : decode cX8_ladders 62 = .ok (.iload_n 2, 1) := by decide +kernel
theorem dX8_ladders_63 : decode cX8_ladders 63 = .ok (.if_icmp .ne 13, 3) := by decide +kernel
theorem dX8_ladders_66 : decode cX8_ladders 66 = .ok (.iload_n 3, 1) := by decide +kernel
theorem dX8_ladders_67 : decode cX8_ladders 67 = .ok (.aload_n 0, 1) := by decide +kernel
theorem dX8_ladders_68 : decode cX8_ladders 68 = .ok (.getfield 67, 3) := by decide +kernel
theorem dX8_ladders_71 : decode cX8_ladders 71 = .ok (.iload 4, 2) := by decide +kernel
theorem dX8_ladders_73 : decode cX8_ladders 73 = .ok (.iaload, 1) := by decide +kernel
theorem dX8_ladders_74 : decode cX8_ladders 74 = .ok (.iadd, 1) := by decide +kernel
theorem dX8_ladders_75 : decode cX8_ladders 75 = .ok (.istore_n 3, 1) := by decide +kernel
theorem dX8_ladders_76 : decode cX8_ladders 76 = .ok (.iinc 4 1, 3) := by decide +kernel
theorem dX8_ladders_79 : decode cX8_ladders 79 = .ok (.goto (-34), 3) := by decide +kernel
theorem dX8_ladders_82 : decode cX8_ladders 82 = .ok (.iload_n 3, 1) := by decide +kernel
theorem dX8_ladders_83 : decode cX8_ladders 83 = .ok (.ireturn, 1) := by decide +kernel
theorem dX8_longest_0 : decode cX8_longest 0 = .ok (.iload_n 1, 1) := by decide +kernel
theorem dX8_longest_1 : decode cX8_longest 1 = .ok (.aload_n 0, 1) := by decide +kernel
theorem dX8_longest_2 : decode cX8_longest 2 = .ok (.getfield 73, 3) := by decide +kernel
theorem dX8_longest_5 : decode cX8_longest 5 = .ok (.getfield 130, 3) := by decide +kernel
theorem dX8_longest_8 : decode cX8_longest 8 = .ok (.invokestatic 183, 3) := by decide +kernel
theorem dX8_longest_11 : decode cX8_longest 11 = .ok (.ifCond .eq 6, 3) := by decide +kernel
theorem dX8_longest_14 : decode cX8_longest 14 = .ok (.ldc 147, 2) := by decide +kernel
theorem dX8_longest_16 : decode cX8_longest 16 = .ok (.ireturn, 1) := by decide +kernel
theorem dX8_longest_17 : decode cX8_longest 17 = .ok (.aload_n 0, 1) := by decide +kernel
theorem dX8_longest_18 : decode cX8_longest 18 = .ok (.iload_n 1, 1) := by decide +kernel
theorem dX8_longest_19 : decode cX8_longest 19 = .ok (.invokevirtual 282, 3) := by decide +kernel
theorem dX8_longest_22 : decode cX8_longest 22 = .ok (.iconst 0, 1) := by decide +kernel
theorem dX8_longest_23 : decode cX8_longest 23 = .ok (.istore_n 2, 1) := by decide +kernel
theorem dX8_longest_24 : decode cX8_longest 24 = .ok (.iconst 0, 1) := by decide +kernel
theorem dX8_longest_25 : decode cX8_longest 25 = .ok (.istore_n 3, 1) := by decide +kernel
theorem dX8_longest_26 : decode cX8_longest 26 = .ok (.iload_n 3, 1) := by decide +kernel
theorem dX8_longest_27 : decode cX8_longest 27 = .ok (.aload_n 0, 1) := by decide +kernel
theorem dX8_longest_28 : decode cX8_longest 28 = .ok (.getfield 73, 3) := by decide +kernel
theorem dX8_longest_31 : decode cX8_longest 31 = .ok (.invokevirtual 227, 3) := by decide +kernel
theorem dX8_longest_34 : decode cX8_longest 34 = .ok (.if_icmp .gt 27, 3) := by decide +kernel
theorem dX8_longest_37 : decode cX8_longest 37 = .ok (.aload_n 0, 1) := by decide +kernel
theorem dX8_longest_38 : decode cX8_longest 38 = .ok (.getfield 67, 3) := by decide +kernel
theorem dX8_longest_41 : decode cX8_longest 41 = .ok (.iload_n 3, 1) := by decide +kernel
theorem dX8_longest_42 : decode cX8_longest 42 = .ok (.iaload, 1) := by decide +kernel
theorem dX8_longest_43 : decode cX8_longest 43 = .ok (.ifCond .le 12, 3) := by decide +kernel
theorem dX8_longest_46 : decode cX8_longest 46 = .ok (.iload_n 2, 1) := by decide +kernel
theorem dX8_longest_47 : decode cX8_longest 47 = .ok (.iload_n 3, 1) := by decide +kernel
theorem dX8_longest_48 : decode cX8_longest 48 = .ok (.invokestatic 277, 3) := by decide +kernel
theorem dX8_longest_51 : decode cX8_longest 51 = .ok (.invokestatic 236, 3) := by decide +kernel
theorem dX8_longest_54 : decode cX8_longest 54 = .ok (.istore_n 2, 1) := by decide +kernel
theorem dX8_longest_55 : decode cX8_longest 55 = .ok (.iinc 3 1, 3) := by decide +kernel
theorem dX8_longest_58 : decode cX8_longest 58 = .ok (.goto (-32), 3) := by decide +kernel
theorem dX8_longest_61 : decode cX8_longest 61 = .ok (.iload_n 2, 1) := by decide +kernel
theorem dX8_longest_62 : decode cX8_longest 62 = .ok (.ireturn, 1) := by decide +kernel
theorem dX8_cost_0 : decode cX8_cost 0 = .ok (.aload_n 0, 1) := by decide +kernel
theorem dX8_cost_1 : decode cX8_cost 1 = .ok (.iload_n 1, 1) := by decide +kernel
theorem dX8_cost_2 : decode cX8_cost 2 = .ok (.invokevirtual 165, 3) := by decide +kernel
theorem dX8_cost_5 : decode cX8_cost 5 = .ok (.ifCond .eq 6, 3) := by decide +kernel
theorem dX8_cost_8 : decode cX8_cost 8 = .ok (.ldc 147, 2) := by decide +kernel
theorem dX8_cost_10 : decode cX8_cost 10 = .ok (.ireturn, 1) := by decide +kernel
theorem dX8_cost_11 : decode cX8_cost 11 = .ok (.iload_n 2, 1) := by decide +kernel
theorem dX8_cost_12 : decode cX8_cost 12 = .ok (.ifCond .lt 9, 3) := by decide +kernel
theorem dX8_cost_15 : decode cX8_cost 15 = .ok (.iload_n 2, 1) := by decide +kernel
theorem dX8_cost_16 : decode cX8_cost 16 = .ok (.bipush 99, 2) := by decide +kernel
theorem dX8_cost_18 : decode cX8_cost 18 = .ok (.if_icmp .le 6, 3) := by decide +kernel
theorem dX8_cost_21 : decode cX8_cost 21 = .ok (.ldc 93, 2) := by decide +kernel
theorem dX8_cost_23 : decode cX8_cost 23 = .ok (.ireturn, 1) := by decide +kernel
theorem dX8_cost_24 : decode cX8_cost 24 = .ok (.aload_n 0, 1) := by decide +kernel
theorem dX8_cost_25 : decode cX8_cost 25 = .ok (.getfield 60, 3) := by decide +kernel
theorem dX8_cost_28 : decode cX8_cost 28 = .ok (.iload_n 1, 1) := by decide +kernel
theorem dX8_cost_29 : decode cX8_cost 29 = .ok (.iaload, 1) := by decide +kernel
theorem dX8_cost_30 : decode cX8_cost 30 = .ok (.istore_n 3, 1) := by decide +kernel
theorem dX8_cost_31 : decode cX8_cost 31 = .ok (.aload_n 0, 1) := by decide +kernel
theorem dX8_cost_32 : decode cX8_cost 32 = .ok (.getfield 60, 3) := by decide +kernel
theorem dX8_cost_35 : decode cX8_cost 35 = .ok (.iload_n 1, 1) := by decide +kernel
theorem dX8_cost_36 : decode cX8_cost 36 = .ok (.iload_n 2, 1) := by decide +kernel
theorem dX8_cost_37 : decode cX8_cost 37 = .ok (.iastore, 1) := by decide +kernel
theorem dX8_cost_38 : decode cX8_cost 38 = .ok (.iload_n 3, 1) := by decide +kernel
theorem dX8_cost_39 : decode cX8_cost 39 = .ok (.ireturn, 1) := by decide +kernel
theorem dX8_store_0 : decode cX8_store 0 = .ok (.aload_n 0, 1) := by decide +kernel
theorem dX8_store_1 : decode cX8_store 1 = .ok (.iload_n 1, 1) := by decide +kernel
theorem dX8_store_2 : decode cX8_store 2 = .ok (.invokevirtual 143, 3) := by decide +kernel
theorem dX8_store_5 : decode cX8_store 5 = .ok (.ifCond .eq 6, 3) := by decide +kernel
theorem dX8_store_8 : decode cX8_store 8 = .ok (.ldc 147, 2) := by decide +kernel
theorem dX8_store_10 : decode cX8_store 10 = .ok (.ireturn, 1) := by decide +kernel
theorem dX8_store_11 : decode cX8_store 11 = .ok (.aload_n 0, 1) := by decide +kernel
theorem dX8_store_12 : decode cX8_store 12 = .ok (.getfield 136, 3) := by decide +kernel
theorem dX8_store_15 : decode cX8_store 15 = .ok (.istore_n 2, 1) := by decide +kernel
theorem dX8_store_16 : decode cX8_store 16 = .ok (.aload_n 0, 1) := by decide +kernel
theorem dX8_store_17 : decode cX8_store 17 = .ok (.iload_n 1, 1) := by decide +kernel
theorem dX8_store_18 : decode cX8_store 18 = .ok (.putfield 136, 3) := by decide +kernel
theorem dX8_store_21 : decode cX8_store 21 = .ok (.iload_n 2, 1) := by decide +kernel
theorem dX8_store_22 : decode cX8_store 22 = .ok (.ireturn, 1) := by decide +kernel
theorem dX8_spares_0 : decode cX8_spares 0 = .ok (.aload_n 0, 1) := by decide +kernel
theorem dX8_spares_1 : decode cX8_spares 1 = .ok (.iload_n 1, 1) := by decide +kernel
theorem dX8_spares_2 : decode cX8_spares 2 = .ok (.invokevirtual 143, 3) := by decide +kernel
theorem dX8_spares_5 : decode cX8_spares 5 = .ok (.ifCond .ne 11, 3) := by decide +kernel
theorem dX8_spares_8 : decode cX8_spares 8 = .ok (.aload_n 0, 1) := by decide +kernel
theorem dX8_spares_9 : decode cX8_spares 9 = .ok (.iload_n 2, 1) := by decide +kernel
theorem dX8_spares_10 : decode cX8_spares 10 = .ok (.invokevirtual 143, 3) := by decide +kernel
theorem dX8_spares_13 : decode cX8_spares 13 = .ok (.ifCond .eq 6, 3) := by decide +kernel
theorem dX8_spares_16 : decode cX8_spares 16 = .ok (.ldc 147, 2) := by decide +kernel
theorem dX8_spares_18 : decode cX8_spares 18 = .ok (.ireturn, 1) := by decide +kernel
theorem dX8_spares_19 : decode cX8_spares 19 = .ok (.iload_n 3, 1) := by decide +kernel
theorem dX8_spares_20 : decode cX8_spares 20 = .ok (.ifCond .lt 21, 3) := by decide +kernel
theorem dX8_spares_23 : decode cX8_spares 23 = .ok (.iload_n 3, 1) := by decide +kernel
theorem dX8_spares_24 : decode cX8_spares 24 = .ok (.sipush 999, 3) := by decide +kernel
theorem dX8_spares_27 : decode cX8_spares 27 = .ok (.if_icmp .gt 14, 3) := by decide +kernel
theorem dX8_spares_30 : decode cX8_spares 30 = .ok (.iload 4, 2) := by decide +kernel
theorem dX8_spares_32 : decode cX8_spares 32 = .ok (.ifCond .lt 9, 3) := by decide +kernel
theorem dX8_spares_35 : decode cX8_spares 35 = .ok (.iload 4, 2) := by decide +kernel
theorem dX8_spares_37 : decode cX8_spares 37 = .ok (.iconst 1, 1) := by decide +kernel
theorem dX8_spares_38 : decode cX8_spares 38 = .ok (.if_icmp .le 6, 3) := by decide +kernel
theorem dX8_spares_41 : decode cX8_spares 41 = .ok (.ldc 93, 2) := by decide +kernel
theorem dX8_spares_43 : decode cX8_spares 43 = .ok (.ireturn, 1) := by decide +kernel
theorem dX8_spares_44 : decode cX8_spares 44 = .ok (.aload_n 0, 1) := by decide +kernel
theorem dX8_spares_45 : decode cX8_spares 45 = .ok (.iload_n 2, 1) := by decide +kernel
theorem dX8_spares_46 : decode cX8_spares 46 = .ok (.invokevirtual 187, 3) := by decide +kernel
theorem dX8_spares_49 : decode cX8_spares 49 = .ok (.aload_n 0, 1) := by decide +kernel
theorem dX8_spares_50 : decode cX8_spares 50 = .ok (.getfield 39, 3) := by decide +kernel
theorem dX8_spares_53 : decode cX8_spares 53 = .ok (.aload_n 0, 1) := by decide +kernel
theorem dX8_spares_54 : decode cX8_spares 54 = .ok (.getfield 73, 3) := by decide +kernel
theorem dX8_spares_57 : decode cX8_spares 57 = .ok (.aload_n 0, 1) := by decide +kernel
theorem dX8_spares_58 : decode cX8_spares 58 = .ok (.getfield 32, 3) := by decide +kernel
theorem dX8_spares_61 : decode cX8_spares 61 = .ok (.aload_n 0, 1) := by decide +kernel
theorem dX8_spares_62 : decode cX8_spares 62 = .ok (.getfield 19, 3) := by decide +kernel
theorem dX8_spares_65 : decode cX8_spares 65 = .ok (.getfield 168, 3) := by decide +kernel
theorem dX8_spares_68 : decode cX8_spares 68 = .ok (.iload_n 1, 1) := by decide +kernel
theorem dX8_spares_69 : decode cX8_spares 69 = .ok (.invokevirtual 223, 3) := by decide +kernel
theorem dX8_spares_72 : decode cX8_spares 72 = .ok (.aload_n 0, 1) := by decide +kernel
theorem dX8_spares_73 : decode cX8_spares 73 = .ok (.getfield 32, 3) := by decide +kernel
theorem dX8_spares_76 : decode cX8_spares 76 = .ok (.aload_n 0, 1) := by decide +kernel
theorem dX8_spares_77 : decode cX8_spares 77 = .ok (.getfield 73, 3) := by decide +kernel
theorem dX8_spares_80 : decode cX8_spares 80 = .ok (.aload_n 0, 1) := by decide +kernel
theorem dX8_spares_81 : decode cX8_spares 81 = .ok (.getfield 136, 3) := by decide +kernel
theorem dX8_spares_84 : decode cX8_spares 84 = .ok (.iload_n 1, 1) := by decide +kernel
theorem dX8_spares_85 : decode cX8_spares 85 = .ok (.invokevirtual 194, 3) := by decide +kernel
theorem dX8_spares_88 : decode cX8_spares 88 = .ok (.istore 5, 2) := by decide +kernel
theorem dX8_spares_90 : decode cX8_spares 90 = .ok (.aload_n 0, 1) := by decide +kernel
theorem dX8_spares_91 : decode cX8_spares 91 = .ok (.getfield 39, 3) := by decide +kernel
theorem dX8_spares_94 : decode cX8_spares 94 = .ok (.iload 5, 2) := by decide +kernel
theorem dX8_spares_96 : decode cX8_spares 96 = .ok (.aload_n 0, 1) := by decide +kernel
theorem dX8_spares_97 : decode cX8_spares 97 = .ok (.getfield 73, 3) := by decide +kernel
theorem dX8_spares_100 : decode cX8_spares 100 = .ok (.getfield 130, 3) := by decide +kernel
theorem dX8_spares_103 : decode cX8_spares 103 = .ok (.invokevirtual 285, 3) := by decide +kernel
theorem dX8_spares_106 : decode cX8_spares 106 = .ok (.istore 6, 2) := by decide +kernel
theorem dX8_spares_108 : decode cX8_spares 108 = .ok (.iconst 0, 1) := by decide +kernel
theorem dX8_spares_109 : decode cX8_spares 109 = .ok (.istore 7, 2) := by decide +kernel
theorem dX8_spares_111 : decode cX8_spares 111 = .ok (.aload_n 0, 1) := by decide +kernel
theorem dX8_spares_112 : decode cX8_spares 112 = .ok (.iconst 0, 1) := by decide +kernel
theorem dX8_spares_113 : decode cX8_spares 113 = .ok (.iload 5, 2) := by decide +kernel
theorem dX8_spares_115 : decode cX8_spares 115 = .ok (.invokevirtual 288, 3) := by decide +kernel
theorem dX8_spares_118 : decode cX8_spares 118 = .ok (.istore 8, 2) := by decide +kernel
theorem dX8_spares_120 : decode cX8_spares 120 = .ok (.iconst 1, 1) := by decide +kernel
theorem dX8_spares_121 : decode cX8_spares 121 = .ok (.istore 9, 2) := by decide +kernel
theorem dX8_spares_123 : decode cX8_spares 123 = .ok (.iload 9, 2) := by decide +kernel
theorem dX8_spares_125 : decode cX8_spares 125 = .ok (.iload 6, 2) := by decide +kernel
theorem dX8_spares_127 : decode cX8_spares 127 = .ok (.if_icmp .gt 76, 3) := by decide +kernel
theorem dX8_spares_130 : decode cX8_spares 130 = .ok (.iload 9, 2) := by decide +kernel
theorem dX8_spares_132 : decode cX8_spares 132 = .ok (.iload 6, 2) := by decide +kernel
theorem dX8_spares_134 : decode cX8_spares 134 = .ok (.iconst (-1), 1) := by decide +kernel
theorem dX8_spares_135 : decode cX8_spares 135 = .ok (.ixor, 1) := by decide +kernel
theorem dX8_spares_136 : decode cX8_spares 136 = .ok (.iand, 1) := by decide +kernel
theorem dX8_spares_137 : decode cX8_spares 137 = .ok (.ifCond .ne 60, 3) := by decide +kernel
theorem dX8_spares_140 : decode cX8_spares 140 = .ok (.aload_n 0, 1) := by decide +kernel
theorem dX8_spares_141 : decode cX8_spares 141 = .ok (.iload 9, 2) := by decide +kernel
theorem dX8_spares_143 : decode cX8_spares 143 = .ok (.invokevirtual 291, 3) := by decide +kernel
theorem dX8_spares_146 : decode cX8_spares 146 = .ok (.iload_n 3, 1) := by decide +kernel
theorem dX8_spares_147 : decode cX8_spares 147 = .ok (.if_icmp .gt 50, 3) := by decide +kernel
theorem dX8_spares_150 : decode cX8_spares 150 = .ok (.aload_n 0, 1) := by decide +kernel
theorem dX8_spares_151 : decode cX8_spares 151 = .ok (.iload 9, 2) := by decide +kernel
theorem dX8_spares_153 : decode cX8_spares 153 = .ok (.iload 5, 2) := by decide +kernel
theorem dX8_spares_155 : decode cX8_spares 155 = .ok (.invokevirtual 288, 3) := by decide +kernel
theorem dX8_spares_158 : decode cX8_spares 158 = .ok (.istore 10, 2) := by decide +kernel
theorem dX8_spares_160 : decode cX8_spares 160 = .ok (.iload 10, 2) := by decide +kernel
theorem dX8_spares_162 : decode cX8_spares 162 = .ok (.iload 8, 2) := by decide +kernel
theorem dX8_spares_164 : decode cX8_spares 164 = .ok (.if_icmp .lt 25, 3) := by decide +kernel
theorem dX8_spares_167 : decode cX8_spares 167 = .ok (.iload 10, 2) := by decide +kernel
theorem dX8_spares_169 : decode cX8_spares 169 = .ok (.iload 8, 2) := by decide +kernel
theorem dX8_spares_171 : decode cX8_spares 171 = .ok (.if_icmp .ne 26, 3) := by decide +kernel
theorem dX8_spares_174 : decode cX8_spares 174 = .ok (.aload_n 0, 1) := by decide +kernel
theorem dX8_spares_175 : decode cX8_spares 175 = .ok (.iload 9, 2) := by decide +kernel
theorem dX8_spares_177 : decode cX8_spares 177 = .ok (.invokevirtual 291, 3) := by decide +kernel
theorem dX8_spares_180 : decode cX8_spares 180 = .ok (.aload_n 0, 1) := by decide +kernel
theorem dX8_spares_181 : decode cX8_spares 181 = .ok (.iload 7, 2) := by decide +kernel
theorem dX8_spares_183 : decode cX8_spares 183 = .ok (.invokevirtual 291, 3) := by decide +kernel
theorem dX8_spares_186 : decode cX8_spares 186 = .ok (.if_icmp .ge 11, 3) := by decide +kernel
theorem dX8_spares_189 : decode cX8_spares 189 = .ok (.iload 9, 2) := by decide +kernel
theorem dX8_spares_191 : decode cX8_spares 191 = .ok (.istore 7, 2) := by decide +kernel
theorem dX8_spares_193 : decode cX8_spares 193 = .ok (.iload 10, 2) := by decide +kernel
theorem dX8_spares_195 : decode cX8_spares 195 = .ok (.istore 8, 2) := by decide +kernel
theorem dX8_spares_197 : decode cX8_spares 197 = .ok (.iinc 9 1, 3) := by decide +kernel
theorem dX8_spares_200 : decode cX8_spares 200 = .ok (.goto (-77), 3) := by decide +kernel
theorem dX8_spares_203 : decode cX8_spares 203 = .ok (.iload 4, 2) := by decide +kernel
theorem dX8_spares_205 : decode cX8_spares 205 = .ok (.ifCond .ne 8, 3) := by decide +kernel
theorem dX8_spares_208 : decode cX8_spares 208 = .ok (.iload 7, 2) := by decide +kernel
theorem dX8_spares_210 : decode cX8_spares 210 = .ok (.goto 5, 3) := by decide +kernel
theorem dX8_spares_213 : decode cX8_spares 213 = .ok (.iload 8, 2) := by decide +kernel
theorem dX8_spares_215 : decode cX8_spares 215 = .ok (.ireturn, 1) := by decide +kernel
theorem dX8_two_0 : decode cX8_two 0 = .ok (.aload_n 0, 1) := by decide +kernel
theorem dX8_two_1 : decode cX8_two 1 = .ok (.iload_n 1, 1) := by decide +kernel
theorem dX8_two_2 : decode cX8_two 2 = .ok (.invokevirtual 143, 3) := by decide +kernel
theorem dX8_two_5 : decode cX8_two 5 = .ok (.ifCond .ne 19, 3) := by decide +kernel
theorem dX8_two_8 : decode cX8_two 8 = .ok (.aload_n 0, 1) := by decide +kernel
theorem dX8_two_9 : decode cX8_two 9 = .ok (.iload_n 2, 1) := by decide +kernel
theorem dX8_two_10 : decode cX8_two 10 = .ok (.invokevirtual 143, 3) := by decide +kernel
theorem dX8_two_13 : decode cX8_two 13 = .ok (.ifCond .ne 11, 3) := by decide +kernel
theorem dX8_two_16 : decode cX8_two 16 = .ok (.aload_n 0, 1) := by decide +kernel
theorem dX8_two_17 : decode cX8_two 17 = .ok (.iload_n 3, 1) := by decide +kernel
theorem dX8_two_18 : decode cX8_two 18 = .ok (.invokevirtual 143, 3) := by decide +kernel
theorem dX8_two_21 : decode cX8_two 21 = .ok (.ifCond .eq 6, 3) := by decide +kernel
theorem dX8_two_24 : decode cX8_two 24 = .ok (.ldc 147, 2) := by decide +kernel
theorem dX8_two_26 : decode cX8_two 26 = .ok (.ireturn, 1) := by decide +kernel
theorem dX8_two_27 : decode cX8_two 27 = .ok (.iload 4, 2) := by decide +kernel
theorem dX8_two_29 : decode cX8_two 29 = .ok (.ifCond .lt 11, 3) := by decide +kernel
theorem dX8_two_32 : decode cX8_two 32 = .ok (.iload 4, 2) := by decide +kernel
theorem dX8_two_34 : decode cX8_two 34 = .ok (.sipush 9999, 3) := by decide +kernel
theorem dX8_two_37 : decode cX8_two 37 = .ok (.if_icmp .le 6, 3) := by decide +kernel
theorem dX8_two_40 : decode cX8_two 40 = .ok (.ldc 93, 2) := by decide +kernel
theorem dX8_two_42 : decode cX8_two 42 = .ok (.ireturn, 1) := by decide +kernel
theorem dX8_two_43 : decode cX8_two 43 = .ok (.aload_n 0, 1) := by decide +kernel
theorem dX8_two_44 : decode cX8_two 44 = .ok (.iload_n 3, 1) := by decide +kernel
theorem dX8_two_45 : decode cX8_two 45 = .ok (.invokevirtual 187, 3) := by decide +kernel
theorem dX8_two_48 : decode cX8_two 48 = .ok (.aload_n 0, 1) := by decide +kernel
theorem dX8_two_49 : decode cX8_two 49 = .ok (.getfield 39, 3) := by decide +kernel
theorem dX8_two_52 : decode cX8_two 52 = .ok (.aload_n 0, 1) := by decide +kernel
theorem dX8_two_53 : decode cX8_two 53 = .ok (.getfield 73, 3) := by decide +kernel
theorem dX8_two_56 : decode cX8_two 56 = .ok (.aload_n 0, 1) := by decide +kernel
theorem dX8_two_57 : decode cX8_two 57 = .ok (.getfield 32, 3) := by decide +kernel
theorem dX8_two_60 : decode cX8_two 60 = .ok (.aload_n 0, 1) := by decide +kernel
theorem dX8_two_61 : decode cX8_two 61 = .ok (.getfield 19, 3) := by decide +kernel
theorem dX8_two_64 : decode cX8_two 64 = .ok (.getfield 168, 3) := by decide +kernel
theorem dX8_two_67 : decode cX8_two 67 = .ok (.iload_n 1, 1) := by decide +kernel
theorem dX8_two_68 : decode cX8_two 68 = .ok (.invokevirtual 223, 3) := by decide +kernel
theorem dX8_two_71 : decode cX8_two 71 = .ok (.aload_n 0, 1) := by decide +kernel
theorem dX8_two_72 : decode cX8_two 72 = .ok (.getfield 39, 3) := by decide +kernel
theorem dX8_two_75 : decode cX8_two 75 = .ok (.aload_n 0, 1) := by decide +kernel
theorem dX8_two_76 : decode cX8_two 76 = .ok (.getfield 73, 3) := by decide +kernel
theorem dX8_two_79 : decode cX8_two 79 = .ok (.getfield 130, 3) := by decide +kernel
theorem dX8_two_82 : decode cX8_two 82 = .ok (.invokevirtual 294, 3) := by decide +kernel
theorem dX8_two_85 : decode cX8_two 85 = .ok (.aload_n 0, 1) := by decide +kernel
theorem dX8_two_86 : decode cX8_two 86 = .ok (.getfield 43, 3) := by decide +kernel
theorem dX8_two_89 : decode cX8_two 89 = .ok (.aload_n 0, 1) := by decide +kernel
theorem dX8_two_90 : decode cX8_two 90 = .ok (.getfield 73, 3) := by decide +kernel
theorem dX8_two_93 : decode cX8_two 93 = .ok (.aload_n 0, 1) := by decide +kernel
theorem dX8_two_94 : decode cX8_two 94 = .ok (.getfield 32, 3) := by decide +kernel
theorem dX8_two_97 : decode cX8_two 97 = .ok (.aload_n 0, 1) := by decide +kernel
theorem dX8_two_98 : decode cX8_two 98 = .ok (.getfield 19, 3) := by decide +kernel
theorem dX8_two_101 : decode cX8_two 101 = .ok (.getfield 168, 3) := by decide +kernel
theorem dX8_two_104 : decode cX8_two 104 = .ok (.iload_n 2, 1) := by decide +kernel
theorem dX8_two_105 : decode cX8_two 105 = .ok (.invokevirtual 223, 3) := by decide +kernel
theorem dX8_two_108 : decode cX8_two 108 = .ok (.aload_n 0, 1) := by decide +kernel
theorem dX8_two_109 : decode cX8_two 109 = .ok (.getfield 43, 3) := by decide +kernel
theorem dX8_two_112 : decode cX8_two 112 = .ok (.aload_n 0, 1) := by decide +kernel
theorem dX8_two_113 : decode cX8_two 113 = .ok (.getfield 73, 3) := by decide +kernel
theorem dX8_two_116 : decode cX8_two 116 = .ok (.getfield 130, 3) := by decide +kernel
theorem dX8_two_119 : decode cX8_two 119 = .ok (.invokevirtual 294, 3) := by decide +kernel
theorem dX8_two_122 : decode cX8_two 122 = .ok (.aload_n 0, 1) := by decide +kernel
theorem dX8_two_123 : decode cX8_two 123 = .ok (.getfield 73, 3) := by decide +kernel
theorem dX8_two_126 : decode cX8_two 126 = .ok (.invokevirtual 227, 3) := by decide +kernel
theorem dX8_two_129 : decode cX8_two 129 = .ok (.istore 5, 2) := by decide +kernel
theorem dX8_two_131 : decode cX8_two 131 = .ok (.iconst (-1), 1) := by decide +kernel
theorem dX8_two_132 : decode cX8_two 132 = .ok (.istore 6, 2) := by decide +kernel
theorem dX8_two_134 : decode cX8_two 134 = .ok (.iconst 0, 1) := by decide +kernel
theorem dX8_two_135 : decode cX8_two 135 = .ok (.istore 7, 2) := by decide +kernel
theorem dX8_two_137 : decode cX8_two 137 = .ok (.iload 7, 2) := by decide +kernel
theorem dX8_two_139 : decode cX8_two 139 = .ok (.iload 5, 2) := by decide +kernel
theorem dX8_two_141 : decode cX8_two 141 = .ok (.if_icmp .gt 132, 3) := by decide +kernel
theorem dX8_two_144 : decode cX8_two 144 = .ok (.aload_n 0, 1) := by decide +kernel
theorem dX8_two_145 : decode cX8_two 145 = .ok (.getfield 73, 3) := by decide +kernel
theorem dX8_two_148 : decode cX8_two 148 = .ok (.iload 7, 2) := by decide +kernel
theorem dX8_two_150 : decode cX8_two 150 = .ok (.invokevirtual 271, 3) := by decide +kernel
theorem dX8_two_153 : decode cX8_two 153 = .ok (.istore 8, 2) := by decide +kernel
theorem dX8_two_155 : decode cX8_two 155 = .ok (.aload_n 0, 1) := by decide +kernel
theorem dX8_two_156 : decode cX8_two 156 = .ok (.getfield 73, 3) := by decide +kernel
theorem dX8_two_159 : decode cX8_two 159 = .ok (.iload 5, 2) := by decide +kernel
theorem dX8_two_161 : decode cX8_two 161 = .ok (.iload 7, 2) := by decide +kernel
theorem dX8_two_163 : decode cX8_two 163 = .ok (.iconst (-1), 1) := by decide +kernel
theorem dX8_two_164 : decode cX8_two 164 = .ok (.ixor, 1) := by decide +kernel
theorem dX8_two_165 : decode cX8_two 165 = .ok (.iand, 1) := by decide +kernel
theorem dX8_two_166 : decode cX8_two 166 = .ok (.invokevirtual 271, 3) := by decide +kernel
theorem dX8_two_169 : decode cX8_two 169 = .ok (.istore 9, 2) := by decide +kernel
theorem dX8_two_171 : decode cX8_two 171 = .ok (.aload_n 0, 1) := by decide +kernel
theorem dX8_two_172 : decode cX8_two 172 = .ok (.getfield 73, 3) := by decide +kernel
theorem dX8_two_175 : decode cX8_two 175 = .ok (.iload 8, 2) := by decide +kernel
theorem dX8_two_177 : decode cX8_two 177 = .ok (.invokevirtual 274, 3) := by decide +kernel
theorem dX8_two_180 : decode cX8_two 180 = .ok (.iload 4, 2) := by decide +kernel
theorem dX8_two_182 : decode cX8_two 182 = .ok (.if_icmp .lt 85, 3) := by decide +kernel
theorem dX8_two_185 : decode cX8_two 185 = .ok (.aload_n 0, 1) := by decide +kernel
theorem dX8_two_186 : decode cX8_two 186 = .ok (.getfield 73, 3) := by decide +kernel
theorem dX8_two_189 : decode cX8_two 189 = .ok (.iload 9, 2) := by decide +kernel
theorem dX8_two_191 : decode cX8_two 191 = .ok (.invokevirtual 274, 3) := by decide +kernel
theorem dX8_two_194 : decode cX8_two 194 = .ok (.iload 4, 2) := by decide +kernel
theorem dX8_two_196 : decode cX8_two 196 = .ok (.if_icmp .lt 71, 3) := by decide +kernel
theorem dX8_two_199 : decode cX8_two 199 = .ok (.aload_n 0, 1) := by decide +kernel
theorem dX8_two_200 : decode cX8_two 200 = .ok (.getfield 39, 3) := by decide +kernel
theorem dX8_two_203 : decode cX8_two 203 = .ok (.aload_n 0, 1) := by decide +kernel
theorem dX8_two_204 : decode cX8_two 204 = .ok (.getfield 73, 3) := by decide +kernel
theorem dX8_two_207 : decode cX8_two 207 = .ok (.iload 8, 2) := by decide +kernel
theorem dX8_two_209 : decode cX8_two 209 = .ok (.invokevirtual 230, 3) := by decide +kernel
theorem dX8_two_212 : decode cX8_two 212 = .ok (.istore 10, 2) := by decide +kernel
theorem dX8_two_214 : decode cX8_two 214 = .ok (.iload 6, 2) := by decide +kernel
theorem dX8_two_216 : decode cX8_two 216 = .ok (.iconst (-1), 1) := by decide +kernel
theorem dX8_two_217 : decode cX8_two 217 = .ok (.if_icmp .eq 10, 3) := by decide +kernel
theorem dX8_two_220 : decode cX8_two 220 = .ok (.iload 10, 2) := by decide +kernel
theorem dX8_two_222 : decode cX8_two 222 = .ok (.iload 6, 2) := by decide +kernel
theorem dX8_two_224 : decode cX8_two 224 = .ok (.if_icmp .ge 43, 3) := by decide +kernel
theorem dX8_two_227 : decode cX8_two 227 = .ok (.iload 10, 2) := by decide +kernel
theorem dX8_two_229 : decode cX8_two 229 = .ok (.aload_n 0, 1) := by decide +kernel
theorem dX8_two_230 : decode cX8_two 230 = .ok (.getfield 43, 3) := by decide +kernel
theorem dX8_two_233 : decode cX8_two 233 = .ok (.aload_n 0, 1) := by decide +kernel
theorem dX8_two_234 : decode cX8_two 234 = .ok (.getfield 73, 3) := by decide +kernel
theorem dX8_two_237 : decode cX8_two 237 = .ok (.iload 9, 2) := by decide +kernel
theorem dX8_two_239 : decode cX8_two 239 = .ok (.invokevirtual 230, 3) := by decide +kernel
theorem dX8_two_242 : decode cX8_two 242 = .ok (.invokestatic 236, 3) := by decide +kernel
theorem dX8_two_245 : decode cX8_two 245 = .ok (.istore 10, 2) := by decide +kernel
theorem dX8_two_247 : decode cX8_two 247 = .ok (.iload 6, 2) := by decide +kernel
theorem dX8_two_249 : decode cX8_two 249 = .ok (.iconst (-1), 1) := by decide +kernel
theorem dX8_two_250 : decode cX8_two 250 = .ok (.if_icmp .ne 8, 3) := by decide +kernel
theorem dX8_two_253 : decode cX8_two 253 = .ok (.iload 10, 2) := by decide +kernel
theorem dX8_two_255 : decode cX8_two 255 = .ok (.goto 10, 3) := by decide +kernel
theorem dX8_two_258 : decode cX8_two 258 = .ok (.iload 6, 2) := by decide +kernel
theorem dX8_two_260 : decode cX8_two 260 = .ok (.iload 10, 2) := by decide +kernel
theorem dX8_two_262 : decode cX8_two 262 = .ok (.invokestatic 297, 3) := by decide +kernel
theorem dX8_two_265 : decode cX8_two 265 = .ok (.istore 6, 2) := by decide +kernel
theorem dX8_two_267 : decode cX8_two 267 = .ok (.iinc 7 1, 3) := by decide +kernel
theorem dX8_two_270 : decode cX8_two 270 = .ok (.goto (-133), 3) := by decide +kernel
theorem dX8_two_273 : decode cX8_two 273 = .ok (.iload 6, 2) := by decide +kernel
theorem dX8_two_275 : decode cX8_two 275 = .ok (.ireturn, 1) := by decide +kernel
theorem dX8_log_0 : decode cX8_log 0 = .ok (.aload_n 0, 1) := by decide +kernel
theorem dX8_log_1 : decode cX8_log 1 = .ok (.iload_n 1, 1) := by decide +kernel
theorem dX8_log_2 : decode cX8_log 2 = .ok (.invokevirtual 165, 3) := by decide +kernel
theorem dX8_log_5 : decode cX8_log 5 = .ok (.ifCond .eq 6, 3) := by decide +kernel
theorem dX8_log_8 : decode cX8_log 8 = .ok (.ldc 147, 2) := by decide +kernel
theorem dX8_log_10 : decode cX8_log 10 = .ok (.ireturn, 1) := by decide +kernel
theorem dX8_log_11 : decode cX8_log 11 = .ok (.iload_n 2, 1) := by decide +kernel
theorem dX8_log_12 : decode cX8_log 12 = .ok (.ifCond .lt 10, 3) := by decide +kernel
theorem dX8_log_15 : decode cX8_log 15 = .ok (.iload_n 2, 1) := by decide +kernel
theorem dX8_log_16 : decode cX8_log 16 = .ok (.sipush 999, 3) := by decide +kernel
theorem dX8_log_19 : decode cX8_log 19 = .ok (.if_icmp .le 6, 3) := by decide +kernel
theorem dX8_log_22 : decode cX8_log 22 = .ok (.ldc 93, 2) := by decide +kernel
theorem dX8_log_24 : decode cX8_log 24 = .ok (.ireturn, 1) := by decide +kernel
theorem dX8_log_25 : decode cX8_log 25 = .ok (.aload_n 0, 1) := by decide +kernel
theorem dX8_log_26 : decode cX8_log 26 = .ok (.getfield 64, 3) := by decide +kernel
theorem dX8_log_29 : decode cX8_log 29 = .ok (.iload_n 1, 1) := by decide +kernel
theorem dX8_log_30 : decode cX8_log 30 = .ok (.iload_n 2, 1) := by decide +kernel
theorem dX8_log_31 : decode cX8_log 31 = .ok (.iastore, 1) := by decide +kernel
theorem dX8_log_32 : decode cX8_log 32 = .ok (.aload_n 0, 1) := by decide +kernel
theorem dX8_log_33 : decode cX8_log 33 = .ok (.invokevirtual 139, 3) := by decide +kernel
theorem dX8_log_36 : decode cX8_log 36 = .ok (.ireturn, 1) := by decide +kernel
theorem dX8_clear_0 : decode cX8_clear 0 = .ok (.aload_n 0, 1) := by decide +kernel
theorem dX8_clear_1 : decode cX8_clear 1 = .ok (.invokevirtual 139, 3) := by decide +kernel
theorem dX8_clear_4 : decode cX8_clear 4 = .ok (.istore_n 1, 1) := by decide +kernel
theorem dX8_clear_5 : decode cX8_clear 5 = .ok (.aload_n 0, 1) := by decide +kernel
theorem dX8_clear_6 : decode cX8_clear 6 = .ok (.getfield 64, 3) := by decide +kernel
theorem dX8_clear_9 : decode cX8_clear 9 = .ok (.iconst (-1), 1) := by decide +kernel
theorem dX8_clear_10 : decode cX8_clear 10 = .ok (.invokestatic 300, 3) := by decide +kernel
theorem dX8_clear_13 : decode cX8_clear 13 = .ok (.iload_n 1, 1) := by decide +kernel
theorem dX8_clear_14 : decode cX8_clear 14 = .ok (.ireturn, 1) := by decide +kernel
theorem dX8_late_0 : decode cX8_late 0 = .ok (.aload_n 0, 1) := by decide +kernel
theorem dX8_late_1 : decode cX8_late 1 = .ok (.iload_n 1, 1) := by decide +kernel
theorem dX8_late_2 : decode cX8_late 2 = .ok (.invokevirtual 143, 3) := by decide +kernel
theorem dX8_late_5 : decode cX8_late 5 = .ok (.ifCond .ne 19, 3) := by decide +kernel
theorem dX8_late_8 : decode cX8_late 8 = .ok (.aload_n 0, 1) := by decide +kernel
theorem dX8_late_9 : decode cX8_late 9 = .ok (.iload_n 2, 1) := by decide +kernel
theorem dX8_late_10 : decode cX8_late 10 = .ok (.invokevirtual 143, 3) := by decide +kernel
theorem dX8_late_13 : decode cX8_late 13 = .ok (.ifCond .ne 11, 3) := by decide +kernel
theorem dX8_late_16 : decode cX8_late 16 = .ok (.aload_n 0, 1) := by decide +kernel
theorem dX8_late_17 : decode cX8_late 17 = .ok (.iload_n 3, 1) := by decide +kernel
theorem dX8_late_18 : decode cX8_late 18 = .ok (.invokevirtual 165, 3) := by decide +kernel
theorem dX8_late_21 : decode cX8_late 21 = .ok (.ifCond .eq 6, 3) := by decide +kernel
theorem dX8_late_24 : decode cX8_late 24 = .ok (.ldc 147, 2) := by decide +kernel
theorem dX8_late_26 : decode cX8_late 26 = .ok (.ireturn, 1) := by decide +kernel
theorem dX8_late_27 : decode cX8_late 27 = .ok (.aload_n 0, 1) := by decide +kernel
theorem dX8_late_28 : decode cX8_late 28 = .ok (.iload_n 2, 1) := by decide +kernel
theorem dX8_late_29 : decode cX8_late 29 = .ok (.invokevirtual 187, 3) := by decide +kernel
theorem dX8_late_32 : decode cX8_late 32 = .ok (.aload_n 0, 1) := by decide +kernel
theorem dX8_late_33 : decode cX8_late 33 = .ok (.iload_n 3, 1) := by decide +kernel
theorem dX8_late_34 : decode cX8_late 34 = .ok (.aload_n 0, 1) := by decide +kernel
theorem dX8_late_35 : decode cX8_late 35 = .ok (.getfield 32, 3) := by decide +kernel
theorem dX8_late_38 : decode cX8_late 38 = .ok (.aload_n 0, 1) := by decide +kernel
theorem dX8_late_39 : decode cX8_late 39 = .ok (.getfield 73, 3) := by decide +kernel
theorem dX8_late_42 : decode cX8_late 42 = .ok (.aload_n 0, 1) := by decide +kernel
theorem dX8_late_43 : decode cX8_late 43 = .ok (.getfield 19, 3) := by decide +kernel
theorem dX8_late_46 : decode cX8_late 46 = .ok (.getfield 168, 3) := by decide +kernel
theorem dX8_late_49 : decode cX8_late 49 = .ok (.iload_n 3, 1) := by decide +kernel
theorem dX8_late_50 : decode cX8_late 50 = .ok (.iaload, 1) := by decide +kernel
theorem dX8_late_51 : decode cX8_late 51 = .ok (.iload_n 1, 1) := by decide +kernel
theorem dX8_late_52 : decode cX8_late 52 = .ok (.invokevirtual 194, 3) := by decide +kernel
theorem dX8_late_55 : decode cX8_late 55 = .ok (.invokevirtual 306, 3) := by decide +kernel
theorem dX8_late_58 : decode cX8_late 58 = .ok (.ireturn, 1) := by decide +kernel
theorem dX8_judge_0 : decode cX8_judge 0 = .ok (.aload_n 0, 1) := by decide +kernel
theorem dX8_judge_1 : decode cX8_judge 1 = .ok (.iload_n 1, 1) := by decide +kernel
theorem dX8_judge_2 : decode cX8_judge 2 = .ok (.invokevirtual 143, 3) := by decide +kernel
theorem dX8_judge_5 : decode cX8_judge 5 = .ok (.ifCond .ne 11, 3) := by decide +kernel
theorem dX8_judge_8 : decode cX8_judge 8 = .ok (.aload_n 0, 1) := by decide +kernel
theorem dX8_judge_9 : decode cX8_judge 9 = .ok (.iload_n 2, 1) := by decide +kernel
theorem dX8_judge_10 : decode cX8_judge 10 = .ok (.invokevirtual 143, 3) := by decide +kernel
theorem dX8_judge_13 : decode cX8_judge 13 = .ok (.ifCond .eq 6, 3) := by decide +kernel
theorem dX8_judge_16 : decode cX8_judge 16 = .ok (.ldc 147, 2) := by decide +kernel
theorem dX8_judge_18 : decode cX8_judge 18 = .ok (.ireturn, 1) := by decide +kernel
theorem dX8_judge_19 : decode cX8_judge 19 = .ok (.iload_n 3, 1) := by decide +kernel
theorem dX8_judge_20 : decode cX8_judge 20 = .ok (.ifCond .lt 8, 3) := by decide +kernel
theorem dX8_judge_23 : decode cX8_judge 23 = .ok (.iload_n 3, 1) := by decide +kernel
theorem dX8_judge_24 : decode cX8_judge 24 = .ok (.iconst 1, 1) := by decide +kernel
theorem dX8_judge_25 : decode cX8_judge 25 = .ok (.if_icmp .le 6, 3) := by decide +kernel
theorem dX8_judge_28 : decode cX8_judge 28 = .ok (.ldc 93, 2) := by decide +kernel
theorem dX8_judge_30 : decode cX8_judge 30 = .ok (.ireturn, 1) := by decide +kernel
theorem dX8_judge_31 : decode cX8_judge 31 = .ok (.aload_n 0, 1) := by decide +kernel
theorem dX8_judge_32 : decode cX8_judge 32 = .ok (.iload_n 2, 1) := by decide +kernel
theorem dX8_judge_33 : decode cX8_judge 33 = .ok (.invokevirtual 187, 3) := by decide +kernel
theorem dX8_judge_36 : decode cX8_judge 36 = .ok (.aload_n 0, 1) := by decide +kernel
theorem dX8_judge_37 : decode cX8_judge 37 = .ok (.getfield 39, 3) := by decide +kernel
theorem dX8_judge_40 : decode cX8_judge 40 = .ok (.aload_n 0, 1) := by decide +kernel
theorem dX8_judge_41 : decode cX8_judge 41 = .ok (.getfield 73, 3) := by decide +kernel
theorem dX8_judge_44 : decode cX8_judge 44 = .ok (.aload_n 0, 1) := by decide +kernel
theorem dX8_judge_45 : decode cX8_judge 45 = .ok (.getfield 32, 3) := by decide +kernel
theorem dX8_judge_48 : decode cX8_judge 48 = .ok (.aload_n 0, 1) := by decide +kernel
theorem dX8_judge_49 : decode cX8_judge 49 = .ok (.getfield 19, 3) := by decide +kernel
theorem dX8_judge_52 : decode cX8_judge 52 = .ok (.getfield 168, 3) := by decide +kernel
theorem dX8_judge_55 : decode cX8_judge 55 = .ok (.iload_n 1, 1) := by decide +kernel
theorem dX8_judge_56 : decode cX8_judge 56 = .ok (.invokevirtual 223, 3) := by decide +kernel
theorem dX8_judge_59 : decode cX8_judge 59 = .ok (.iload_n 3, 1) := by decide +kernel
theorem dX8_judge_60 : decode cX8_judge 60 = .ok (.ifCond .ne 10, 3) := by decide +kernel
theorem dX8_judge_63 : decode cX8_judge 63 = .ok (.aload_n 0, 1) := by decide +kernel
theorem dX8_judge_64 : decode cX8_judge 64 = .ok (.invokevirtual 309, 3) := by decide +kernel
theorem dX8_judge_67 : decode cX8_judge 67 = .ok (.goto 7, 3) := by decide +kernel
theorem dX8_judge_70 : decode cX8_judge 70 = .ok (.aload_n 0, 1) := by decide +kernel
theorem dX8_judge_71 : decode cX8_judge 71 = .ok (.invokevirtual 312, 3) := by decide +kernel
theorem dX8_judge_74 : decode cX8_judge 74 = .ok (.ireturn, 1) := by decide +kernel
theorem dX8_seed_0 : decode cX8_seed 0 = .ok (.iload_n 1, 1) := by decide +kernel
theorem dX8_seed_1 : decode cX8_seed 1 = .ok (.ifCond .ge 6, 3) := by decide +kernel
theorem dX8_seed_4 : decode cX8_seed 4 = .ok (.ldc 93, 2) := by decide +kernel
theorem dX8_seed_6 : decode cX8_seed 6 = .ok (.ireturn, 1) := by decide +kernel
theorem dX8_seed_7 : decode cX8_seed 7 = .ok (.aload_n 0, 1) := by decide +kernel
theorem dX8_seed_8 : decode cX8_seed 8 = .ok (.getfield 19, 3) := by decide +kernel
theorem dX8_seed_11 : decode cX8_seed 11 = .ok (.getfield 315, 3) := by decide +kernel
theorem dX8_seed_14 : decode cX8_seed 14 = .ok (.istore_n 2, 1) := by decide +kernel
theorem dX8_seed_15 : decode cX8_seed 15 = .ok (.aload_n 0, 1) := by decide +kernel
theorem dX8_seed_16 : decode cX8_seed 16 = .ok (.getfield 19, 3) := by decide +kernel
theorem dX8_seed_19 : decode cX8_seed 19 = .ok (.iload_n 1, 1) := by decide +kernel
theorem dX8_seed_20 : decode cX8_seed 20 = .ok (.putfield 315, 3) := by decide +kernel
theorem dX8_seed_23 : decode cX8_seed 23 = .ok (.iload_n 2, 1) := by decide +kernel
theorem dX8_seed_24 : decode cX8_seed 24 = .ok (.ireturn, 1) := by decide +kernel
theorem dX8_keep_0 : decode cX8_keep 0 = .ok (.iload_n 1, 1) := by decide +kernel
theorem dX8_keep_1 : decode cX8_keep 1 = .ok (.ifCond .lt 8, 3) := by decide +kernel
theorem dX8_keep_4 : decode cX8_keep 4 = .ok (.iload_n 1, 1) := by decide +kernel
theorem dX8_keep_5 : decode cX8_keep 5 = .ok (.iconst 2, 1) := by decide +kernel
theorem dX8_keep_6 : decode cX8_keep 6 = .ok (.if_icmp .lt 6, 3) := by decide +kernel
theorem dX8_keep_9 : decode cX8_keep 9 = .ok (.ldc 147, 2) := by decide +kernel
theorem dX8_keep_11 : decode cX8_keep 11 = .ok (.ireturn, 1) := by decide +kernel
theorem dX8_keep_12 : decode cX8_keep 12 = .ok (.iload_n 1, 1) := by decide +kernel
theorem dX8_keep_13 : decode cX8_keep 13 = .ok (.ifCond .ne 10, 3) := by decide +kernel
theorem dX8_keep_16 : decode cX8_keep 16 = .ok (.aload_n 0, 1) := by decide +kernel
theorem dX8_keep_17 : decode cX8_keep 17 = .ok (.getfield 23, 3) := by decide +kernel
theorem dX8_keep_20 : decode cX8_keep 20 = .ok (.goto 7, 3) := by decide +kernel
theorem dX8_keep_23 : decode cX8_keep 23 = .ok (.aload_n 0, 1) := by decide +kernel
theorem dX8_keep_24 : decode cX8_keep 24 = .ok (.getfield 26, 3) := by decide +kernel
theorem dX8_keep_27 : decode cX8_keep 27 = .ok (.astore_n 2, 1) := by decide +kernel
theorem dX8_keep_28 : decode cX8_keep 28 = .ok (.aload_n 2, 1) := by decide +kernel
theorem dX8_keep_29 : decode cX8_keep 29 = .ok (.aload_n 0, 1) := by decide +kernel
theorem dX8_keep_30 : decode cX8_keep 30 = .ok (.getfield 19, 3) := by decide +kernel
theorem dX8_keep_33 : decode cX8_keep 33 = .ok (.invokevirtual 318, 3) := by decide +kernel
theorem dX8_keep_36 : decode cX8_keep 36 = .ok (.aload_n 2, 1) := by decide +kernel
theorem dX8_keep_37 : decode cX8_keep 37 = .ok (.iconst 1, 1) := by decide +kernel
theorem dX8_keep_38 : decode cX8_keep 38 = .ok (.putfield 322, 3) := by decide +kernel
theorem dX8_keep_41 : decode cX8_keep 41 = .ok (.iconst 1, 1) := by decide +kernel
theorem dX8_keep_42 : decode cX8_keep 42 = .ok (.ireturn, 1) := by decide +kernel
theorem dX8_goBack_0 : decode cX8_goBack 0 = .ok (.iload_n 1, 1) := by decide +kernel
theorem dX8_goBack_1 : decode cX8_goBack 1 = .ok (.ifCond .lt 8, 3) := by decide +kernel
theorem dX8_goBack_4 : decode cX8_goBack 4 = .ok (.iload_n 1, 1) := by decide +kernel
theorem dX8_goBack_5 : decode cX8_goBack 5 = .ok (.iconst 2, 1) := by decide +kernel
theorem dX8_goBack_6 : decode cX8_goBack 6 = .ok (.if_icmp .lt 6, 3) := by decide +kernel
theorem dX8_goBack_9 : decode cX8_goBack 9 = .ok (.ldc 147, 2) := by decide +kernel
theorem dX8_goBack_11 : decode cX8_goBack 11 = .ok (.ireturn, 1) := by decide +kernel
theorem dX8_goBack_12 : decode cX8_goBack 12 = .ok (.iload_n 1, 1) := by decide +kernel
theorem dX8_goBack_13 : decode cX8_goBack 13 = .ok (.ifCond .ne 10, 3) := by decide +kernel
theorem dX8_goBack_16 : decode cX8_goBack 16 = .ok (.aload_n 0, 1) := by decide +kernel
theorem dX8_goBack_17 : decode cX8_goBack 17 = .ok (.getfield 23, 3) := by decide +kernel
theorem dX8_goBack_20 : decode cX8_goBack 20 = .ok (.goto 7, 3) := by decide +kernel
theorem dX8_goBack_23 : decode cX8_goBack 23 = .ok (.aload_n 0, 1) := by decide +kernel
theorem dX8_goBack_24 : decode cX8_goBack 24 = .ok (.getfield 26, 3) := by decide +kernel
theorem dX8_goBack_27 : decode cX8_goBack 27 = .ok (.astore_n 2, 1) := by decide +kernel
theorem dX8_goBack_28 : decode cX8_goBack 28 = .ok (.aload_n 2, 1) := by decide +kernel
theorem dX8_goBack_29 : decode cX8_goBack 29 = .ok (.getfield 322, 3) := by decide +kernel
theorem dX8_goBack_32 : decode cX8_goBack 32 = .ok (.ifCond .ne 6, 3) := by decide +kernel
theorem dX8_goBack_35 : decode cX8_goBack 35 = .ok (.ldc 120, 2) := by decide +kernel
theorem dX8_goBack_37 : decode cX8_goBack 37 = .ok (.ireturn, 1) := by decide +kernel
theorem dX8_goBack_38 : decode cX8_goBack 38 = .ok (.aload_n 0, 1) := by decide +kernel
theorem dX8_goBack_39 : decode cX8_goBack 39 = .ok (.getfield 19, 3) := by decide +kernel
theorem dX8_goBack_42 : decode cX8_goBack 42 = .ok (.aload_n 2, 1) := by decide +kernel
theorem dX8_goBack_43 : decode cX8_goBack 43 = .ok (.invokevirtual 318, 3) := by decide +kernel
theorem dX8_goBack_46 : decode cX8_goBack 46 = .ok (.iconst 1, 1) := by decide +kernel
theorem dX8_goBack_47 : decode cX8_goBack 47 = .ok (.ireturn, 1) := by decide +kernel
theorem dX8_startAnew_0 : decode cX8_startAnew 0 = .ok (.aload_n 0, 1) := by decide +kernel
theorem dX8_startAnew_1 : decode cX8_startAnew 1 = .ok (.getfield 83, 3) := by decide +kernel
theorem dX8_startAnew_4 : decode cX8_startAnew 4 = .ok (.iconst 0, 1) := by decide +kernel
theorem dX8_startAnew_5 : decode cX8_startAnew 5 = .ok (.putfield 124, 3) := by decide +kernel
theorem dX8_startAnew_8 : decode cX8_startAnew 8 = .ok (.aload_n 0, 1) := by decide +kernel
theorem dX8_startAnew_9 : decode cX8_startAnew 9 = .ok (.getfield 19, 3) := by decide +kernel
theorem dX8_startAnew_12 : decode cX8_startAnew 12 = .ok (.aload_n 0, 1) := by decide +kernel
theorem dX8_startAnew_13 : decode cX8_startAnew 13 = .ok (.getfield 73, 3) := by decide +kernel
theorem dX8_startAnew_16 : decode cX8_startAnew 16 = .ok (.invokevirtual 326, 3) := by decide +kernel
theorem dX8_startAnew_19 : decode cX8_startAnew 19 = .ok (.aload_n 0, 1) := by decide +kernel
theorem dX8_startAnew_20 : decode cX8_startAnew 20 = .ok (.getfield 23, 3) := by decide +kernel
theorem dX8_startAnew_23 : decode cX8_startAnew 23 = .ok (.iconst 0, 1) := by decide +kernel
theorem dX8_startAnew_24 : decode cX8_startAnew 24 = .ok (.putfield 322, 3) := by decide +kernel
theorem dX8_startAnew_27 : decode cX8_startAnew 27 = .ok (.aload_n 0, 1) := by decide +kernel
theorem dX8_startAnew_28 : decode cX8_startAnew 28 = .ok (.getfield 26, 3) := by decide +kernel
theorem dX8_startAnew_31 : decode cX8_startAnew 31 = .ok (.iconst 0, 1) := by decide +kernel
theorem dX8_startAnew_32 : decode cX8_startAnew 32 = .ok (.putfield 322, 3) := by decide +kernel
theorem dX8_startAnew_35 : decode cX8_startAnew 35 = .ok (.aload_n 0, 1) := by decide +kernel
theorem dX8_startAnew_36 : decode cX8_startAnew 36 = .ok (.getfield 60, 3) := by decide +kernel
theorem dX8_startAnew_39 : decode cX8_startAnew 39 = .ok (.bipush 10, 2) := by decide +kernel
theorem dX8_startAnew_41 : decode cX8_startAnew 41 = .ok (.invokestatic 300, 3) := by decide +kernel
theorem dX8_startAnew_44 : decode cX8_startAnew 44 = .ok (.aload_n 0, 1) := by decide +kernel
theorem dX8_startAnew_45 : decode cX8_startAnew 45 = .ok (.getfield 64, 3) := by decide +kernel
theorem dX8_startAnew_48 : decode cX8_startAnew 48 = .ok (.iconst (-1), 1) := by decide +kernel
theorem dX8_startAnew_49 : decode cX8_startAnew 49 = .ok (.invokestatic 300, 3) := by decide +kernel
theorem dX8_startAnew_52 : decode cX8_startAnew 52 = .ok (.aload_n 0, 1) := by decide +kernel
theorem dX8_startAnew_53 : decode cX8_startAnew 53 = .ok (.iconst 0, 1) := by decide +kernel
theorem dX8_startAnew_54 : decode cX8_startAnew 54 = .ok (.putfield 136, 3) := by decide +kernel
theorem dX8_startAnew_57 : decode cX8_startAnew 57 = .ok (.return_, 1) := by decide +kernel
theorem dX8_noHouse_0 : decode cX8_noHouse 0 = .ok (.iload_n 1, 1) := by decide +kernel
theorem dX8_noHouse_1 : decode cX8_noHouse 1 = .ok (.ifCond .lt 14, 3) := by decide +kernel
theorem dX8_noHouse_4 : decode cX8_noHouse 4 = .ok (.iload_n 1, 1) := by decide +kernel
theorem dX8_noHouse_5 : decode cX8_noHouse 5 = .ok (.aload_n 0, 1) := by decide +kernel
theorem dX8_noHouse_6 : decode cX8_noHouse 6 = .ok (.getfield 73, 3) := by decide +kernel
theorem dX8_noHouse_9 : decode cX8_noHouse 9 = .ok (.getfield 117, 3) := by decide +kernel
theorem dX8_noHouse_12 : decode cX8_noHouse 12 = .ok (.if_icmp .lt 7, 3) := by decide +kernel
theorem dX8_noHouse_15 : decode cX8_noHouse 15 = .ok (.iconst 1, 1) := by decide +kernel
theorem dX8_noHouse_16 : decode cX8_noHouse 16 = .ok (.goto 4, 3) := by decide +kernel
theorem dX8_noHouse_19 : decode cX8_noHouse 19 = .ok (.iconst 0, 1) := by decide +kernel
theorem dX8_noHouse_20 : decode cX8_noHouse 20 = .ok (.ireturn, 1) := by decide +kernel
theorem dX8_noPart_0 : decode cX8_noPart 0 = .ok (.iload_n 1, 1) := by decide +kernel
theorem dX8_noPart_1 : decode cX8_noPart 1 = .ok (.ifCond .lt 14, 3) := by decide +kernel
theorem dX8_noPart_4 : decode cX8_noPart 4 = .ok (.iload_n 1, 1) := by decide +kernel
theorem dX8_noPart_5 : decode cX8_noPart 5 = .ok (.aload_n 0, 1) := by decide +kernel
theorem dX8_noPart_6 : decode cX8_noPart 6 = .ok (.getfield 73, 3) := by decide +kernel
theorem dX8_noPart_9 : decode cX8_noPart 9 = .ok (.getfield 130, 3) := by decide +kernel
theorem dX8_noPart_12 : decode cX8_noPart 12 = .ok (.if_icmp .lt 7, 3) := by decide +kernel
theorem dX8_noPart_15 : decode cX8_noPart 15 = .ok (.iconst 1, 1) := by decide +kernel
theorem dX8_noPart_16 : decode cX8_noPart 16 = .ok (.goto 4, 3) := by decide +kernel
theorem dX8_noPart_19 : decode cX8_noPart 19 = .ok (.iconst 0, 1) := by decide +kernel
theorem dX8_noPart_20 : decode cX8_noPart 20 = .ok (.ireturn, 1) := by decide +kernel
theorem dX8_beyond_0 : decode cX8_beyond 0 = .ok (.iload_n 0, 1) := by decide +kernel
theorem dX8_beyond_1 : decode cX8_beyond 1 = .ok (.iload_n 1, 1) := by decide +kernel
theorem dX8_beyond_2 : decode cX8_beyond 2 = .ok (.invokestatic 208, 3) := by decide +kernel
theorem dX8_beyond_5 : decode cX8_beyond 5 = .ok (.iconst (-1), 1) := by decide +kernel
theorem dX8_beyond_6 : decode cX8_beyond 6 = .ok (.ixor, 1) := by decide +kernel
theorem dX8_beyond_7 : decode cX8_beyond 7 = .ok (.iand, 1) := by decide +kernel
theorem dX8_beyond_8 : decode cX8_beyond 8 = .ok (.ifCond .eq 7, 3) := by decide +kernel
theorem dX8_beyond_11 : decode cX8_beyond 11 = .ok (.iconst 1, 1) := by decide +kernel
theorem dX8_beyond_12 : decode cX8_beyond 12 = .ok (.goto 4, 3) := by decide +kernel
theorem dX8_beyond_15 : decode cX8_beyond 15 = .ok (.iconst 0, 1) := by decide +kernel
theorem dX8_beyond_16 : decode cX8_beyond 16 = .ok (.ireturn, 1) := by decide +kernel
theorem dX8_fullSet_0 : decode cX8_fullSet 0 = .ok (.iconst 1, 1) := by decide +kernel
theorem dX8_fullSet_1 : decode cX8_fullSet 1 = .ok (.iload_n 0, 1) := by decide +kernel
theorem dX8_fullSet_2 : decode cX8_fullSet 2 = .ok (.ishl, 1) := by decide +kernel
theorem dX8_fullSet_3 : decode cX8_fullSet 3 = .ok (.iconst 1, 1) := by decide +kernel
theorem dX8_fullSet_4 : decode cX8_fullSet 4 = .ok (.isub, 1) := by decide +kernel
theorem dX8_fullSet_5 : decode cX8_fullSet 5 = .ok (.ireturn, 1) := by decide +kernel
theorem dX8_has_0 : decode cX8_has 0 = .ok (.iload_n 0, 1) := by decide +kernel
theorem dX8_has_1 : decode cX8_has 1 = .ok (.iload_n 1, 1) := by decide +kernel
theorem dX8_has_2 : decode cX8_has 2 = .ok (.ishr, 1) := by decide +kernel
theorem dX8_has_3 : decode cX8_has 3 = .ok (.iconst 1, 1) := by decide +kernel
theorem dX8_has_4 : decode cX8_has 4 = .ok (.iand, 1) := by decide +kernel
theorem dX8_has_5 : decode cX8_has 5 = .ok (.iconst 1, 1) := by decide +kernel
theorem dX8_has_6 : decode cX8_has 6 = .ok (.if_icmp .ne 7, 3) := by decide +kernel
theorem dX8_has_9 : decode cX8_has 9 = .ok (.iconst 1, 1) := by decide +kernel
theorem dX8_has_10 : decode cX8_has 10 = .ok (.goto 4, 3) := by decide +kernel
theorem dX8_has_13 : decode cX8_has 13 = .ok (.iconst 0, 1) := by decide +kernel
theorem dX8_has_14 : decode cX8_has 14 = .ok (.ireturn, 1) := by decide +kernel
theorem dX8_counted_0 : decode cX8_counted 0 = .ok (.iload_n 0, 1) := by decide +kernel
theorem dX8_counted_1 : decode cX8_counted 1 = .ok (.iconst (-1), 1) := by decide +kernel
theorem dX8_counted_2 : decode cX8_counted 2 = .ok (.if_icmp .ne 9, 3) := by decide +kernel
theorem dX8_counted_5 : decode cX8_counted 5 = .ok (.sipush 500, 3) := by decide +kernel
theorem dX8_counted_8 : decode cX8_counted 8 = .ok (.goto 4, 3) := by decide +kernel
theorem dX8_counted_11 : decode cX8_counted 11 = .ok (.iload_n 0, 1) := by decide +kernel
theorem dX8_counted_12 : decode cX8_counted 12 = .ok (.ireturn, 1) := by decide +kernel
theorem dX8_swap_0 : decode cX8_swap 0 = .ok (.aload_n 0, 1) := by decide +kernel
theorem dX8_swap_1 : decode cX8_swap 1 = .ok (.iload_n 1, 1) := by decide +kernel
theorem dX8_swap_2 : decode cX8_swap 2 = .ok (.iaload, 1) := by decide +kernel
theorem dX8_swap_3 : decode cX8_swap 3 = .ok (.istore_n 3, 1) := by decide +kernel
theorem dX8_swap_4 : decode cX8_swap 4 = .ok (.aload_n 0, 1) := by decide +kernel
theorem dX8_swap_5 : decode cX8_swap 5 = .ok (.iload_n 1, 1) := by decide +kernel
theorem dX8_swap_6 : decode cX8_swap 6 = .ok (.aload_n 0, 1) := by decide +kernel
theorem dX8_swap_7 : decode cX8_swap 7 = .ok (.iload_n 2, 1) := by decide +kernel
theorem dX8_swap_8 : decode cX8_swap 8 = .ok (.iaload, 1) := by decide +kernel
theorem dX8_swap_9 : decode cX8_swap 9 = .ok (.iastore, 1) := by decide +kernel
theorem dX8_swap_10 : decode cX8_swap 10 = .ok (.aload_n 0, 1) := by decide +kernel
theorem dX8_swap_11 : decode cX8_swap 11 = .ok (.iload_n 2, 1) := by decide +kernel
theorem dX8_swap_12 : decode cX8_swap 12 = .ok (.iload_n 3, 1) := by decide +kernel
theorem dX8_swap_13 : decode cX8_swap 13 = .ok (.iastore, 1) := by decide +kernel
theorem dX8_swap_14 : decode cX8_swap 14 = .ok (.return_, 1) := by decide +kernel
theorem dX8_wakeAll_0 : decode cX8_wakeAll 0 = .ok (.aload_n 0, 1) := by decide +kernel
theorem dX8_wakeAll_1 : decode cX8_wakeAll 1 = .ok (.getfield 32, 3) := by decide +kernel
theorem dX8_wakeAll_4 : decode cX8_wakeAll 4 = .ok (.aload_n 0, 1) := by decide +kernel
theorem dX8_wakeAll_5 : decode cX8_wakeAll 5 = .ok (.getfield 73, 3) := by decide +kernel
theorem dX8_wakeAll_8 : decode cX8_wakeAll 8 = .ok (.aload_n 0, 1) := by decide +kernel
theorem dX8_wakeAll_9 : decode cX8_wakeAll 9 = .ok (.getfield 83, 3) := by decide +kernel
theorem dX8_wakeAll_12 : decode cX8_wakeAll 12 = .ok (.iload_n 1, 1) := by decide +kernel
theorem dX8_wakeAll_13 : decode cX8_wakeAll 13 = .ok (.aload_n 0, 1) := by decide +kernel
theorem dX8_wakeAll_14 : decode cX8_wakeAll 14 = .ok (.getfield 19, 3) := by decide +kernel
theorem dX8_wakeAll_17 : decode cX8_wakeAll 17 = .ok (.getfield 133, 3) := by decide +kernel
theorem dX8_wakeAll_20 : decode cX8_wakeAll 20 = .ok (.invokevirtual 219, 3) := by decide +kernel
theorem dX8_wakeAll_23 : decode cX8_wakeAll 23 = .ok (.return_, 1) := by decide +kernel
theorem dX8_raiseAll_0 : decode cX8_raiseAll 0 = .ok (.aload_n 0, 1) := by decide +kernel
theorem dX8_raiseAll_1 : decode cX8_raiseAll 1 = .ok (.iload_n 2, 1) := by decide +kernel
theorem dX8_raiseAll_2 : decode cX8_raiseAll 2 = .ok (.invokevirtual 187, 3) := by decide +kernel
theorem dX8_raiseAll_5 : decode cX8_raiseAll 5 = .ok (.aload_n 0, 1) := by decide +kernel
theorem dX8_raiseAll_6 : decode cX8_raiseAll 6 = .ok (.getfield 39, 3) := by decide +kernel
theorem dX8_raiseAll_9 : decode cX8_raiseAll 9 = .ok (.aload_n 0, 1) := by decide +kernel
theorem dX8_raiseAll_10 : decode cX8_raiseAll 10 = .ok (.getfield 73, 3) := by decide +kernel
theorem dX8_raiseAll_13 : decode cX8_raiseAll 13 = .ok (.aload_n 0, 1) := by decide +kernel
theorem dX8_raiseAll_14 : decode cX8_raiseAll 14 = .ok (.getfield 32, 3) := by decide +kernel
theorem dX8_raiseAll_17 : decode cX8_raiseAll 17 = .ok (.aload_n 0, 1) := by decide +kernel
theorem dX8_raiseAll_18 : decode cX8_raiseAll 18 = .ok (.getfield 19, 3) := by decide +kernel
theorem dX8_raiseAll_21 : decode cX8_raiseAll 21 = .ok (.getfield 168, 3) := by decide +kernel
theorem dX8_raiseAll_24 : decode cX8_raiseAll 24 = .ok (.iload_n 1, 1) := by decide +kernel
theorem dX8_raiseAll_25 : decode cX8_raiseAll 25 = .ok (.invokevirtual 223, 3) := by decide +kernel
theorem dX8_raiseAll_28 : decode cX8_raiseAll 28 = .ok (.aload_n 0, 1) := by decide +kernel
theorem dX8_raiseAll_29 : decode cX8_raiseAll 29 = .ok (.getfield 39, 3) := by decide +kernel
theorem dX8_raiseAll_32 : decode cX8_raiseAll 32 = .ok (.aload_n 0, 1) := by decide +kernel
theorem dX8_raiseAll_33 : decode cX8_raiseAll 33 = .ok (.getfield 73, 3) := by decide +kernel
theorem dX8_raiseAll_36 : decode cX8_raiseAll 36 = .ok (.aload_n 0, 1) := by decide +kernel
theorem dX8_raiseAll_37 : decode cX8_raiseAll 37 = .ok (.getfield 73, 3) := by decide +kernel
theorem dX8_raiseAll_40 : decode cX8_raiseAll 40 = .ok (.invokevirtual 227, 3) := by decide +kernel
theorem dX8_raiseAll_43 : decode cX8_raiseAll 43 = .ok (.invokevirtual 230, 3) := by decide +kernel
theorem dX8_raiseAll_46 : decode cX8_raiseAll 46 = .ok (.ireturn, 1) := by decide +kernel
theorem dX8_countWays_0 : decode cX8_countWays 0 = .ok (.aload_n 0, 1) := by decide +kernel
theorem dX8_countWays_1 : decode cX8_countWays 1 = .ok (.getfield 67, 3) := by decide +kernel
theorem dX8_countWays_4 : decode cX8_countWays 4 = .ok (.iconst 0, 1) := by decide +kernel
theorem dX8_countWays_5 : decode cX8_countWays 5 = .ok (.invokestatic 300, 3) := by decide +kernel
theorem dX8_countWays_8 : decode cX8_countWays 8 = .ok (.aload_n 0, 1) := by decide +kernel
theorem dX8_countWays_9 : decode cX8_countWays 9 = .ok (.getfield 67, 3) := by decide +kernel
theorem dX8_countWays_12 : decode cX8_countWays 12 = .ok (.iconst 0, 1) := by decide +kernel
theorem dX8_countWays_13 : decode cX8_countWays 13 = .ok (.iconst 1, 1) := by decide +kernel
theorem dX8_countWays_14 : decode cX8_countWays 14 = .ok (.iastore, 1) := by decide +kernel
theorem dX8_countWays_15 : decode cX8_countWays 15 = .ok (.iconst 0, 1) := by decide +kernel
theorem dX8_countWays_16 : decode cX8_countWays 16 = .ok (.istore_n 2, 1) := by decide +kernel
theorem dX8_countWays_17 : decode cX8_countWays 17 = .ok (.iload_n 2, 1) := by decide +kernel
theorem dX8_countWays_18 : decode cX8_countWays 18 = .ok (.aload_n 0, 1) := by decide +kernel
theorem dX8_countWays_19 : decode cX8_countWays 19 = .ok (.getfield 73, 3) := by decide +kernel
theorem dX8_countWays_22 : decode cX8_countWays 22 = .ok (.invokevirtual 227, 3) := by decide +kernel
theorem dX8_countWays_25 : decode cX8_countWays 25 = .ok (.if_icmp .gt 102, 3) := by decide +kernel
theorem dX8_countWays_28 : decode cX8_countWays 28 = .ok (.iload_n 2, 1) := by decide +kernel
theorem dX8_countWays_29 : decode cX8_countWays 29 = .ok (.invokestatic 277, 3) := by decide +kernel
theorem dX8_countWays_32 : decode cX8_countWays 32 = .ok (.istore_n 3, 1) := by decide +kernel
theorem dX8_countWays_33 : decode cX8_countWays 33 = .ok (.aload_n 0, 1) := by decide +kernel
theorem dX8_countWays_34 : decode cX8_countWays 34 = .ok (.getfield 67, 3) := by decide +kernel
theorem dX8_countWays_37 : decode cX8_countWays 37 = .ok (.iload_n 2, 1) := by decide +kernel
theorem dX8_countWays_38 : decode cX8_countWays 38 = .ok (.iaload, 1) := by decide +kernel
theorem dX8_countWays_39 : decode cX8_countWays 39 = .ok (.ifCond .le 82, 3) := by decide +kernel
theorem dX8_countWays_42 : decode cX8_countWays 42 = .ok (.iload_n 3, 1) := by decide +kernel
theorem dX8_countWays_43 : decode cX8_countWays 43 = .ok (.aload_n 0, 1) := by decide +kernel
theorem dX8_countWays_44 : decode cX8_countWays 44 = .ok (.getfield 73, 3) := by decide +kernel
theorem dX8_countWays_47 : decode cX8_countWays 47 = .ok (.getfield 130, 3) := by decide +kernel
theorem dX8_countWays_50 : decode cX8_countWays 50 = .ok (.if_icmp .ge 71, 3) := by decide +kernel
theorem dX8_countWays_53 : decode cX8_countWays 53 = .ok (.aload_n 0, 1) := by decide +kernel
theorem dX8_countWays_54 : decode cX8_countWays 54 = .ok (.getfield 19, 3) := by decide +kernel
theorem dX8_countWays_57 : decode cX8_countWays 57 = .ok (.getfield 180, 3) := by decide +kernel
theorem dX8_countWays_60 : decode cX8_countWays 60 = .ok (.iload_n 3, 1) := by decide +kernel
theorem dX8_countWays_61 : decode cX8_countWays 61 = .ok (.iaload, 1) := by decide +kernel
theorem dX8_countWays_62 : decode cX8_countWays 62 = .ok (.iload_n 1, 1) := by decide +kernel
theorem dX8_countWays_63 : decode cX8_countWays 63 = .ok (.iand, 1) := by decide +kernel
theorem dX8_countWays_64 : decode cX8_countWays 64 = .ok (.iload_n 2, 1) := by decide +kernel
theorem dX8_countWays_65 : decode cX8_countWays 65 = .ok (.iconst (-1), 1) := by decide +kernel
theorem dX8_countWays_66 : decode cX8_countWays 66 = .ok (.ixor, 1) := by decide +kernel
theorem dX8_countWays_67 : decode cX8_countWays 67 = .ok (.iand, 1) := by decide +kernel
theorem dX8_countWays_68 : decode cX8_countWays 68 = .ok (.istore 4, 2) := by decide +kernel
theorem dX8_countWays_70 : decode cX8_countWays 70 = .ok (.iconst 0, 1) := by decide +kernel
theorem dX8_countWays_71 : decode cX8_countWays 71 = .ok (.istore 5, 2) := by decide +kernel
theorem dX8_countWays_73 : decode cX8_countWays 73 = .ok (.iload 5, 2) := by decide +kernel
theorem dX8_countWays_75 : decode cX8_countWays 75 = .ok (.aload_n 0, 1) := by decide +kernel
theorem dX8_countWays_76 : decode cX8_countWays 76 = .ok (.getfield 73, 3) := by decide +kernel
theorem dX8_countWays_79 : decode cX8_countWays 79 = .ok (.getfield 130, 3) := by decide +kernel
theorem dX8_countWays_82 : decode cX8_countWays 82 = .ok (.if_icmp .ge 39, 3) := by decide +kernel
theorem dX8_countWays_85 : decode cX8_countWays 85 = .ok (.iload 4, 2) := by decide +kernel
theorem dX8_countWays_87 : decode cX8_countWays 87 = .ok (.iload 5, 2) := by decide +kernel
theorem dX8_countWays_89 : decode cX8_countWays 89 = .ok (.invokestatic 212, 3) := by decide +kernel
theorem dX8_countWays_92 : decode cX8_countWays 92 = .ok (.ifCond .eq 23, 3) := by decide +kernel
theorem dX8_countWays_95 : decode cX8_countWays 95 = .ok (.aload_n 0, 1) := by decide +kernel
theorem dX8_countWays_96 : decode cX8_countWays 96 = .ok (.getfield 67, 3) := by decide +kernel
theorem dX8_countWays_99 : decode cX8_countWays 99 = .ok (.iload_n 2, 1) := by decide +kernel
theorem dX8_countWays_100 : decode cX8_countWays 100 = .ok (.iconst 1, 1) := by decide +kernel
theorem dX8_countWays_101 : decode cX8_countWays 101 = .ok (.iload 5, 2) := by decide +kernel
theorem dX8_countWays_103 : decode cX8_countWays 103 = .ok (.ishl, 1) := by decide +kernel
theorem dX8_countWays_104 : decode cX8_countWays 104 = .ok (.ior, 1) := by decide +kernel
theorem dX8_countWays_105 : decode cX8_countWays 105 = .ok (.dup2, 1) := by decide +kernel
theorem dX8_countWays_106 : decode cX8_countWays 106 = .ok (.iaload, 1) := by decide +kernel
theorem dX8_countWays_107 : decode cX8_countWays 107 = .ok (.aload_n 0, 1) := by decide +kernel
theorem dX8_countWays_108 : decode cX8_countWays 108 = .ok (.getfield 67, 3) := by decide +kernel
theorem dX8_countWays_111 : decode cX8_countWays 111 = .ok (.iload_n 2, 1) := by decide +kernel
theorem dX8_countWays_112 : decode cX8_countWays 112 = .ok (.iaload, 1) := by decide +kernel
theorem dX8_countWays_113 : decode cX8_countWays 113 = .ok (.iadd, 1) := by decide +kernel
theorem dX8_countWays_114 : decode cX8_countWays 114 = .ok (.iastore, 1) := by decide +kernel
theorem dX8_countWays_115 : decode cX8_countWays 115 = .ok (.iinc 5 1, 3) := by decide +kernel
theorem dX8_countWays_118 : decode cX8_countWays 118 = .ok (.goto (-45), 3) := by decide +kernel
theorem dX8_countWays_121 : decode cX8_countWays 121 = .ok (.iinc 2 1, 3) := by decide +kernel
theorem dX8_countWays_124 : decode cX8_countWays 124 = .ok (.goto (-107), 3) := by decide +kernel
theorem dX8_countWays_127 : decode cX8_countWays 127 = .ok (.return_, 1) := by decide +kernel
theorem dX8_costOf_0 : decode cX8_costOf 0 = .ok (.iconst 0, 1) := by decide +kernel
theorem dX8_costOf_1 : decode cX8_costOf 1 = .ok (.istore_n 2, 1) := by decide +kernel
theorem dX8_costOf_2 : decode cX8_costOf 2 = .ok (.iconst 0, 1) := by decide +kernel
theorem dX8_costOf_3 : decode cX8_costOf 3 = .ok (.istore_n 3, 1) := by decide +kernel
theorem dX8_costOf_4 : decode cX8_costOf 4 = .ok (.iload_n 3, 1) := by decide +kernel
theorem dX8_costOf_5 : decode cX8_costOf 5 = .ok (.aload_n 0, 1) := by decide +kernel
theorem dX8_costOf_6 : decode cX8_costOf 6 = .ok (.getfield 73, 3) := by decide +kernel
theorem dX8_costOf_9 : decode cX8_costOf 9 = .ok (.getfield 130, 3) := by decide +kernel
theorem dX8_costOf_12 : decode cX8_costOf 12 = .ok (.if_icmp .ge 26, 3) := by decide +kernel
theorem dX8_costOf_15 : decode cX8_costOf 15 = .ok (.iload_n 1, 1) := by decide +kernel
theorem dX8_costOf_16 : decode cX8_costOf 16 = .ok (.iload_n 3, 1) := by decide +kernel
theorem dX8_costOf_17 : decode cX8_costOf 17 = .ok (.invokestatic 212, 3) := by decide +kernel
theorem dX8_costOf_20 : decode cX8_costOf 20 = .ok (.ifCond .eq 12, 3) := by decide +kernel
theorem dX8_costOf_23 : decode cX8_costOf 23 = .ok (.iload_n 2, 1) := by decide +kernel
theorem dX8_costOf_24 : decode cX8_costOf 24 = .ok (.aload_n 0, 1) := by decide +kernel
theorem dX8_costOf_25 : decode cX8_costOf 25 = .ok (.getfield 60, 3) := by decide +kernel
theorem dX8_costOf_28 : decode cX8_costOf 28 = .ok (.iload_n 3, 1) := by decide +kernel
theorem dX8_costOf_29 : decode cX8_costOf 29 = .ok (.iaload, 1) := by decide +kernel
theorem dX8_costOf_30 : decode cX8_costOf 30 = .ok (.iadd, 1) := by decide +kernel
theorem dX8_costOf_31 : decode cX8_costOf 31 = .ok (.istore_n 2, 1) := by decide +kernel
theorem dX8_costOf_32 : decode cX8_costOf 32 = .ok (.iinc 3 1, 3) := by decide +kernel
theorem dX8_costOf_35 : decode cX8_costOf 35 = .ok (.goto (-31), 3) := by decide +kernel
theorem dX8_costOf_38 : decode cX8_costOf 38 = .ok (.iload_n 2, 1) := by decide +kernel
theorem dX8_costOf_39 : decode cX8_costOf 39 = .ok (.ireturn, 1) := by decide +kernel
theorem dX8_standsWith_0 : decode cX8_standsWith 0 = .ok (.iconst 0, 1) := by decide +kernel
theorem dX8_standsWith_1 : decode cX8_standsWith 1 = .ok (.istore_n 3, 1) := by decide +kernel
theorem dX8_standsWith_2 : decode cX8_standsWith 2 = .ok (.iload_n 3, 1) := by decide +kernel
theorem dX8_standsWith_3 : decode cX8_standsWith 3 = .ok (.aload_n 0, 1) := by decide +kernel
theorem dX8_standsWith_4 : decode cX8_standsWith 4 = .ok (.getfield 73, 3) := by decide +kernel
theorem dX8_standsWith_7 : decode cX8_standsWith 7 = .ok (.getfield 130, 3) := by decide +kernel
theorem dX8_standsWith_10 : decode cX8_standsWith 10 = .ok (.if_icmp .ge 39, 3) := by decide +kernel
theorem dX8_standsWith_13 : decode cX8_standsWith 13 = .ok (.aload_n 0, 1) := by decide +kernel
theorem dX8_standsWith_14 : decode cX8_standsWith 14 = .ok (.getfield 43, 3) := by decide +kernel
theorem dX8_standsWith_17 : decode cX8_standsWith 17 = .ok (.getfield 329, 3) := by decide +kernel
theorem dX8_standsWith_20 : decode cX8_standsWith 20 = .ok (.iload_n 3, 1) := by decide +kernel
theorem dX8_standsWith_21 : decode cX8_standsWith 21 = .ok (.iload_n 1, 1) := by decide +kernel
theorem dX8_standsWith_22 : decode cX8_standsWith 22 = .ok (.iload_n 3, 1) := by decide +kernel
theorem dX8_standsWith_23 : decode cX8_standsWith 23 = .ok (.invokestatic 212, 3) := by decide +kernel
theorem dX8_standsWith_26 : decode cX8_standsWith 26 = .ok (.ifCond .eq 7, 3) := by decide +kernel
theorem dX8_standsWith_29 : decode cX8_standsWith 29 = .ok (.iload_n 2, 1) := by decide +kernel
theorem dX8_standsWith_30 : decode cX8_standsWith 30 = .ok (.goto 12, 3) := by decide +kernel
theorem dX8_standsWith_33 : decode cX8_standsWith 33 = .ok (.aload_n 0, 1) := by decide +kernel
theorem dX8_standsWith_34 : decode cX8_standsWith 34 = .ok (.getfield 39, 3) := by decide +kernel
theorem dX8_standsWith_37 : decode cX8_standsWith 37 = .ok (.getfield 329, 3) := by decide +kernel
theorem dX8_standsWith_40 : decode cX8_standsWith 40 = .ok (.iload_n 3, 1) := by decide +kernel
theorem dX8_standsWith_41 : decode cX8_standsWith 41 = .ok (.iaload, 1) := by decide +kernel
theorem dX8_standsWith_42 : decode cX8_standsWith 42 = .ok (.iastore, 1) := by decide +kernel
theorem dX8_standsWith_43 : decode cX8_standsWith 43 = .ok (.iinc 3 1, 3) := by decide +kernel
theorem dX8_standsWith_46 : decode cX8_standsWith 46 = .ok (.goto (-44), 3) := by decide +kernel
theorem dX8_standsWith_49 : decode cX8_standsWith 49 = .ok (.aload_n 0, 1) := by decide +kernel
theorem dX8_standsWith_50 : decode cX8_standsWith 50 = .ok (.getfield 43, 3) := by decide +kernel
theorem dX8_standsWith_53 : decode cX8_standsWith 53 = .ok (.aload_n 0, 1) := by decide +kernel
theorem dX8_standsWith_54 : decode cX8_standsWith 54 = .ok (.getfield 73, 3) := by decide +kernel
theorem dX8_standsWith_57 : decode cX8_standsWith 57 = .ok (.aload_n 0, 1) := by decide +kernel
theorem dX8_standsWith_58 : decode cX8_standsWith 58 = .ok (.getfield 73, 3) := by decide +kernel
theorem dX8_standsWith_61 : decode cX8_standsWith 61 = .ok (.invokevirtual 227, 3) := by decide +kernel
theorem dX8_standsWith_64 : decode cX8_standsWith 64 = .ok (.invokevirtual 230, 3) := by decide +kernel
theorem dX8_standsWith_67 : decode cX8_standsWith 67 = .ok (.invokestatic 233, 3) := by decide +kernel
theorem dX8_standsWith_70 : decode cX8_standsWith 70 = .ok (.ireturn, 1) := by decide +kernel
theorem dX8_countLogged_0 : decode cX8_countLogged 0 = .ok (.iconst 0, 1) := by decide +kernel
theorem dX8_countLogged_1 : decode cX8_countLogged 1 = .ok (.istore_n 1, 1) := by decide +kernel
theorem dX8_countLogged_2 : decode cX8_countLogged 2 = .ok (.iconst 0, 1) := by decide +kernel
theorem dX8_countLogged_3 : decode cX8_countLogged 3 = .ok (.istore_n 2, 1) := by decide +kernel
theorem dX8_countLogged_4 : decode cX8_countLogged 4 = .ok (.iload_n 2, 1) := by decide +kernel
theorem dX8_countLogged_5 : decode cX8_countLogged 5 = .ok (.aload_n 0, 1) := by decide +kernel
theorem dX8_countLogged_6 : decode cX8_countLogged 6 = .ok (.getfield 73, 3) := by decide +kernel
theorem dX8_countLogged_9 : decode cX8_countLogged 9 = .ok (.getfield 130, 3) := by decide +kernel
theorem dX8_countLogged_12 : decode cX8_countLogged 12 = .ok (.if_icmp .ge 22, 3) := by decide +kernel
theorem dX8_countLogged_15 : decode cX8_countLogged 15 = .ok (.aload_n 0, 1) := by decide +kernel
theorem dX8_countLogged_16 : decode cX8_countLogged 16 = .ok (.getfield 64, 3) := by decide +kernel
theorem dX8_countLogged_19 : decode cX8_countLogged 19 = .ok (.iload_n 2, 1) := by decide +kernel
theorem dX8_countLogged_20 : decode cX8_countLogged 20 = .ok (.iaload, 1) := by decide +kernel
theorem dX8_countLogged_21 : decode cX8_countLogged 21 = .ok (.iconst (-1), 1) := by decide +kernel
theorem dX8_countLogged_22 : decode cX8_countLogged 22 = .ok (.if_icmp .eq 6, 3) := by decide +kernel
theorem dX8_countLogged_25 : decode cX8_countLogged 25 = .ok (.iinc 1 1, 3) := by decide +kernel
theorem dX8_countLogged_28 : decode cX8_countLogged 28 = .ok (.iinc 2 1, 3) := by decide +kernel
theorem dX8_countLogged_31 : decode cX8_countLogged 31 = .ok (.goto (-27), 3) := by decide +kernel
theorem dX8_countLogged_34 : decode cX8_countLogged 34 = .ok (.iload_n 1, 1) := by decide +kernel
theorem dX8_countLogged_35 : decode cX8_countLogged 35 = .ok (.ireturn, 1) := by decide +kernel
theorem dX8_lateBy_0 : decode cX8_lateBy 0 = .ok (.aload_n 0, 1) := by decide +kernel
theorem dX8_lateBy_1 : decode cX8_lateBy 1 = .ok (.getfield 64, 3) := by decide +kernel
theorem dX8_lateBy_4 : decode cX8_lateBy 4 = .ok (.iload_n 1, 1) := by decide +kernel
theorem dX8_lateBy_5 : decode cX8_lateBy 5 = .ok (.iaload, 1) := by decide +kernel
theorem dX8_lateBy_6 : decode cX8_lateBy 6 = .ok (.iconst (-1), 1) := by decide +kernel
theorem dX8_lateBy_7 : decode cX8_lateBy 7 = .ok (.if_icmp .eq 8, 3) := by decide +kernel
theorem dX8_lateBy_10 : decode cX8_lateBy 10 = .ok (.iload_n 2, 1) := by decide +kernel
theorem dX8_lateBy_11 : decode cX8_lateBy 11 = .ok (.iconst (-1), 1) := by decide +kernel
theorem dX8_lateBy_12 : decode cX8_lateBy 12 = .ok (.if_icmp .ne 5, 3) := by decide +kernel
theorem dX8_lateBy_15 : decode cX8_lateBy 15 = .ok (.iconst 0, 1) := by decide +kernel
theorem dX8_lateBy_16 : decode cX8_lateBy 16 = .ok (.ireturn, 1) := by decide +kernel
theorem dX8_lateBy_17 : decode cX8_lateBy 17 = .ok (.iconst 0, 1) := by decide +kernel
theorem dX8_lateBy_18 : decode cX8_lateBy 18 = .ok (.aload_n 0, 1) := by decide +kernel
theorem dX8_lateBy_19 : decode cX8_lateBy 19 = .ok (.getfield 64, 3) := by decide +kernel
theorem dX8_lateBy_22 : decode cX8_lateBy 22 = .ok (.iload_n 1, 1) := by decide +kernel
theorem dX8_lateBy_23 : decode cX8_lateBy 23 = .ok (.iaload, 1) := by decide +kernel
theorem dX8_lateBy_24 : decode cX8_lateBy 24 = .ok (.iload_n 2, 1) := by decide +kernel
theorem dX8_lateBy_25 : decode cX8_lateBy 25 = .ok (.isub, 1) := by decide +kernel
theorem dX8_lateBy_26 : decode cX8_lateBy 26 = .ok (.invokestatic 236, 3) := by decide +kernel
theorem dX8_lateBy_29 : decode cX8_lateBy 29 = .ok (.ireturn, 1) := by decide +kernel
theorem dX8_findLatest_0 : decode cX8_findLatest 0 = .ok (.iconst (-1), 1) := by decide +kernel
theorem dX8_findLatest_1 : decode cX8_findLatest 1 = .ok (.istore_n 1, 1) := by decide +kernel
theorem dX8_findLatest_2 : decode cX8_findLatest 2 = .ok (.iconst 0, 1) := by decide +kernel
theorem dX8_findLatest_3 : decode cX8_findLatest 3 = .ok (.istore_n 2, 1) := by decide +kernel
theorem dX8_findLatest_4 : decode cX8_findLatest 4 = .ok (.iconst 0, 1) := by decide +kernel
theorem dX8_findLatest_5 : decode cX8_findLatest 5 = .ok (.istore_n 3, 1) := by decide +kernel
theorem dX8_findLatest_6 : decode cX8_findLatest 6 = .ok (.iload_n 3, 1) := by decide +kernel
theorem dX8_findLatest_7 : decode cX8_findLatest 7 = .ok (.aload_n 0, 1) := by decide +kernel
theorem dX8_findLatest_8 : decode cX8_findLatest 8 = .ok (.getfield 73, 3) := by decide +kernel
theorem dX8_findLatest_11 : decode cX8_findLatest 11 = .ok (.getfield 130, 3) := by decide +kernel
theorem dX8_findLatest_14 : decode cX8_findLatest 14 = .ok (.if_icmp .ge 36, 3) := by decide +kernel
theorem dX8_findLatest_17 : decode cX8_findLatest 17 = .ok (.aload_n 0, 1) := by decide +kernel
theorem dX8_findLatest_18 : decode cX8_findLatest 18 = .ok (.iload_n 3, 1) := by decide +kernel
theorem dX8_findLatest_19 : decode cX8_findLatest 19 = .ok (.aload_n 0, 1) := by decide +kernel
theorem dX8_findLatest_20 : decode cX8_findLatest 20 = .ok (.getfield 39, 3) := by decide +kernel
theorem dX8_findLatest_23 : decode cX8_findLatest 23 = .ok (.getfield 329, 3) := by decide +kernel
theorem dX8_findLatest_26 : decode cX8_findLatest 26 = .ok (.iload_n 3, 1) := by decide +kernel
theorem dX8_findLatest_27 : decode cX8_findLatest 27 = .ok (.iaload, 1) := by decide +kernel
theorem dX8_findLatest_28 : decode cX8_findLatest 28 = .ok (.invokevirtual 306, 3) := by decide +kernel
theorem dX8_findLatest_31 : decode cX8_findLatest 31 = .ok (.istore 4, 2) := by decide +kernel
theorem dX8_findLatest_33 : decode cX8_findLatest 33 = .ok (.iload 4, 2) := by decide +kernel
theorem dX8_findLatest_35 : decode cX8_findLatest 35 = .ok (.iload_n 2, 1) := by decide +kernel
theorem dX8_findLatest_36 : decode cX8_findLatest 36 = .ok (.if_icmp .le 8, 3) := by decide +kernel
theorem dX8_findLatest_39 : decode cX8_findLatest 39 = .ok (.iload_n 3, 1) := by decide +kernel
theorem dX8_findLatest_40 : decode cX8_findLatest 40 = .ok (.istore_n 1, 1) := by decide +kernel
theorem dX8_findLatest_41 : decode cX8_findLatest 41 = .ok (.iload 4, 2) := by decide +kernel
theorem dX8_findLatest_43 : decode cX8_findLatest 43 = .ok (.istore_n 2, 1) := by decide +kernel
theorem dX8_findLatest_44 : decode cX8_findLatest 44 = .ok (.iinc 3 1, 3) := by decide +kernel
theorem dX8_findLatest_47 : decode cX8_findLatest 47 = .ok (.goto (-41), 3) := by decide +kernel
theorem dX8_findLatest_50 : decode cX8_findLatest 50 = .ok (.iload_n 1, 1) := by decide +kernel
theorem dX8_findLatest_51 : decode cX8_findLatest 51 = .ok (.ireturn, 1) := by decide +kernel
theorem dX8_standsByLog_0 : decode cX8_standsByLog 0 = .ok (.iconst 0, 1) := by decide +kernel
theorem dX8_standsByLog_1 : decode cX8_standsByLog 1 = .ok (.istore_n 1, 1) := by decide +kernel
theorem dX8_standsByLog_2 : decode cX8_standsByLog 2 = .ok (.iload_n 1, 1) := by decide +kernel
theorem dX8_standsByLog_3 : decode cX8_standsByLog 3 = .ok (.aload_n 0, 1) := by decide +kernel
theorem dX8_standsByLog_4 : decode cX8_standsByLog 4 = .ok (.getfield 73, 3) := by decide +kernel
theorem dX8_standsByLog_7 : decode cX8_standsByLog 7 = .ok (.getfield 130, 3) := by decide +kernel
theorem dX8_standsByLog_10 : decode cX8_standsByLog 10 = .ok (.if_icmp .ge 34, 3) := by decide +kernel
theorem dX8_standsByLog_13 : decode cX8_standsByLog 13 = .ok (.aload_n 0, 1) := by decide +kernel
theorem dX8_standsByLog_14 : decode cX8_standsByLog 14 = .ok (.getfield 64, 3) := by decide +kernel
theorem dX8_standsByLog_17 : decode cX8_standsByLog 17 = .ok (.iload_n 1, 1) := by decide +kernel
theorem dX8_standsByLog_18 : decode cX8_standsByLog 18 = .ok (.iaload, 1) := by decide +kernel
theorem dX8_standsByLog_19 : decode cX8_standsByLog 19 = .ok (.iconst (-1), 1) := by decide +kernel
theorem dX8_standsByLog_20 : decode cX8_standsByLog 20 = .ok (.if_icmp .eq 18, 3) := by decide +kernel
theorem dX8_standsByLog_23 : decode cX8_standsByLog 23 = .ok (.aload_n 0, 1) := by decide +kernel
theorem dX8_standsByLog_24 : decode cX8_standsByLog 24 = .ok (.getfield 39, 3) := by decide +kernel
theorem dX8_standsByLog_27 : decode cX8_standsByLog 27 = .ok (.getfield 329, 3) := by decide +kernel
theorem dX8_standsByLog_30 : decode cX8_standsByLog 30 = .ok (.iload_n 1, 1) := by decide +kernel
theorem dX8_standsByLog_31 : decode cX8_standsByLog 31 = .ok (.aload_n 0, 1) := by decide +kernel
theorem dX8_standsByLog_32 : decode cX8_standsByLog 32 = .ok (.getfield 64, 3) := by decide +kernel
theorem dX8_standsByLog_35 : decode cX8_standsByLog 35 = .ok (.iload_n 1, 1) := by decide +kernel
theorem dX8_standsByLog_36 : decode cX8_standsByLog 36 = .ok (.iaload, 1) := by decide +kernel
theorem dX8_standsByLog_37 : decode cX8_standsByLog 37 = .ok (.iastore, 1) := by decide +kernel
theorem dX8_standsByLog_38 : decode cX8_standsByLog 38 = .ok (.iinc 1 1, 3) := by decide +kernel
theorem dX8_standsByLog_41 : decode cX8_standsByLog 41 = .ok (.goto (-39), 3) := by decide +kernel
theorem dX8_standsByLog_44 : decode cX8_standsByLog 44 = .ok (.aload_n 0, 1) := by decide +kernel
theorem dX8_standsByLog_45 : decode cX8_standsByLog 45 = .ok (.getfield 39, 3) := by decide +kernel
theorem dX8_standsByLog_48 : decode cX8_standsByLog 48 = .ok (.aload_n 0, 1) := by decide +kernel
theorem dX8_standsByLog_49 : decode cX8_standsByLog 49 = .ok (.getfield 73, 3) := by decide +kernel
theorem dX8_standsByLog_52 : decode cX8_standsByLog 52 = .ok (.aload_n 0, 1) := by decide +kernel
theorem dX8_standsByLog_53 : decode cX8_standsByLog 53 = .ok (.getfield 73, 3) := by decide +kernel
theorem dX8_standsByLog_56 : decode cX8_standsByLog 56 = .ok (.invokevirtual 227, 3) := by decide +kernel
theorem dX8_standsByLog_59 : decode cX8_standsByLog 59 = .ok (.invokevirtual 230, 3) := by decide +kernel
theorem dX8_standsByLog_62 : decode cX8_standsByLog 62 = .ok (.ireturn, 1) := by decide +kernel
