theorem dX0_init_0 : decode cX0_init 0 = .ok (.aload_n 0, 1) := by decide +kernel
theorem dX0_init_1 : decode cX0_init 1 = .ok (.invokespecial 3, 3) := by decide +kernel
theorem dX0_init_4 : decode cX0_init 4 = .ok (.aload_n 0, 1) := by decide +kernel
theorem dX0_init_5 : decode cX0_init 5 = .ok (.new 9, 3) := by decide +kernel
theorem dX0_init_8 : decode cX0_init 8 = .ok (.dup, 1) := by decide +kernel
theorem dX0_init_9 : decode cX0_init 9 = .ok (.invokespecial 11, 3) := by decide +kernel
theorem dX0_init_12 : decode cX0_init 12 = .ok (.putfield 12, 3) := by decide +kernel
theorem dX0_init_15 : decode cX0_init 15 = .ok (.aload_n 0, 1) := by decide +kernel
theorem dX0_init_16 : decode cX0_init 16 = .ok (.bipush 7, 2) := by decide +kernel
theorem dX0_init_18 : decode cX0_init 18 = .ok (.newarray .int, 2) := by decide +kernel
theorem dX0_init_20 : decode cX0_init 20 = .ok (.putfield 18, 3) := by decide +kernel
theorem dX0_init_23 : decode cX0_init 23 = .ok (.return_, 1) := by decide +kernel
theorem dX0_sendOut_0 : decode cX0_sendOut 0 = .ok (.aload_n 0, 1) := by decide +kernel
theorem dX0_sendOut_1 : decode cX0_sendOut 1 = .ok (.iload_n 3, 1) := by decide +kernel
theorem dX0_sendOut_2 : decode cX0_sendOut 2 = .ok (.putfield 22, 3) := by decide +kernel
theorem dX0_sendOut_5 : decode cX0_sendOut 5 = .ok (.aload_n 0, 1) := by decide +kernel
theorem dX0_sendOut_6 : decode cX0_sendOut 6 = .ok (.getfield 12, 3) := by decide +kernel
theorem dX0_sendOut_9 : decode cX0_sendOut 9 = .ok (.iconst 0, 1) := by decide +kernel
theorem dX0_sendOut_10 : decode cX0_sendOut 10 = .ok (.putfield 26, 3) := by decide +kernel
theorem dX0_sendOut_13 : decode cX0_sendOut 13 = .ok (.iconst 0, 1) := by decide +kernel
theorem dX0_sendOut_14 : decode cX0_sendOut 14 = .ok (.istore 4, 2) := by decide +kernel
theorem dX0_sendOut_16 : decode cX0_sendOut 16 = .ok (.iload 4, 2) := by decide +kernel
theorem dX0_sendOut_18 : decode cX0_sendOut 18 = .ok (.aload_n 1, 1) := by decide +kernel
theorem dX0_sendOut_19 : decode cX0_sendOut 19 = .ok (.getfield 29, 3) := by decide +kernel
theorem dX0_sendOut_22 : decode cX0_sendOut 22 = .ok (.if_icmp .ge 94, 3) := by decide +kernel
theorem dX0_sendOut_25 : decode cX0_sendOut 25 = .ok (.iload 4, 2) := by decide +kernel
theorem dX0_sendOut_27 : decode cX0_sendOut 27 = .ok (.aload_n 0, 1) := by decide +kernel
theorem dX0_sendOut_28 : decode cX0_sendOut 28 = .ok (.getfield 22, 3) := by decide +kernel
theorem dX0_sendOut_31 : decode cX0_sendOut 31 = .ok (.if_icmp .eq 79, 3) := by decide +kernel
theorem dX0_sendOut_34 : decode cX0_sendOut 34 = .ok (.aload_n 2, 1) := by decide +kernel
theorem dX0_sendOut_35 : decode cX0_sendOut 35 = .ok (.iload 4, 2) := by decide +kernel
theorem dX0_sendOut_37 : decode cX0_sendOut 37 = .ok (.aload_n 1, 1) := by decide +kernel
theorem dX0_sendOut_38 : decode cX0_sendOut 38 = .ok (.getfield 34, 3) := by decide +kernel
theorem dX0_sendOut_41 : decode cX0_sendOut 41 = .ok (.invokevirtual 37, 3) := by decide +kernel
theorem dX0_sendOut_44 : decode cX0_sendOut 44 = .ok (.ifCond .eq 66, 3) := by decide +kernel
theorem dX0_sendOut_47 : decode cX0_sendOut 47 = .ok (.aload_n 0, 1) := by decide +kernel
theorem dX0_sendOut_48 : decode cX0_sendOut 48 = .ok (.getfield 12, 3) := by decide +kernel
theorem dX0_sendOut_51 : decode cX0_sendOut 51 = .ok (.getfield 26, 3) := by decide +kernel
theorem dX0_sendOut_54 : decode cX0_sendOut 54 = .ok (.bipush 7, 2) := by decide +kernel
theorem dX0_sendOut_56 : decode cX0_sendOut 56 = .ok (.if_icmp .lt 5, 3) := by decide +kernel
theorem dX0_sendOut_59 : decode cX0_sendOut 59 = .ok (.iconst 0, 1) := by decide +kernel
theorem dX0_sendOut_60 : decode cX0_sendOut 60 = .ok (.ireturn, 1) := by decide +kernel
theorem dX0_sendOut_61 : decode cX0_sendOut 61 = .ok (.aload_n 0, 1) := by decide +kernel
theorem dX0_sendOut_62 : decode cX0_sendOut 62 = .ok (.getfield 12, 3) := by decide +kernel
theorem dX0_sendOut_65 : decode cX0_sendOut 65 = .ok (.getfield 43, 3) := by decide +kernel
theorem dX0_sendOut_68 : decode cX0_sendOut 68 = .ok (.aload_n 0, 1) := by decide +kernel
theorem dX0_sendOut_69 : decode cX0_sendOut 69 = .ok (.getfield 12, 3) := by decide +kernel
theorem dX0_sendOut_72 : decode cX0_sendOut 72 = .ok (.getfield 26, 3) := by decide +kernel
theorem dX0_sendOut_75 : decode cX0_sendOut 75 = .ok (.aload_n 0, 1) := by decide +kernel
theorem dX0_sendOut_76 : decode cX0_sendOut 76 = .ok (.getfield 22, 3) := by decide +kernel
theorem dX0_sendOut_79 : decode cX0_sendOut 79 = .ok (.iastore, 1) := by decide +kernel
theorem dX0_sendOut_80 : decode cX0_sendOut 80 = .ok (.aload_n 0, 1) := by decide +kernel
theorem dX0_sendOut_81 : decode cX0_sendOut 81 = .ok (.getfield 12, 3) := by decide +kernel
theorem dX0_sendOut_84 : decode cX0_sendOut 84 = .ok (.getfield 46, 3) := by decide +kernel
theorem dX0_sendOut_87 : decode cX0_sendOut 87 = .ok (.aload_n 0, 1) := by decide +kernel
theorem dX0_sendOut_88 : decode cX0_sendOut 88 = .ok (.getfield 12, 3) := by decide +kernel
theorem dX0_sendOut_91 : decode cX0_sendOut 91 = .ok (.getfield 26, 3) := by decide +kernel
theorem dX0_sendOut_94 : decode cX0_sendOut 94 = .ok (.iload 4, 2) := by decide +kernel
theorem dX0_sendOut_96 : decode cX0_sendOut 96 = .ok (.iastore, 1) := by decide +kernel
theorem dX0_sendOut_97 : decode cX0_sendOut 97 = .ok (.aload_n 0, 1) := by decide +kernel
theorem dX0_sendOut_98 : decode cX0_sendOut 98 = .ok (.getfield 12, 3) := by decide +kernel
theorem dX0_sendOut_101 : decode cX0_sendOut 101 = .ok (.dup, 1) := by decide +kernel
theorem dX0_sendOut_102 : decode cX0_sendOut 102 = .ok (.getfield 26, 3) := by decide +kernel
theorem dX0_sendOut_105 : decode cX0_sendOut 105 = .ok (.iconst 1, 1) := by decide +kernel
theorem dX0_sendOut_106 : decode cX0_sendOut 106 = .ok (.iadd, 1) := by decide +kernel
theorem dX0_sendOut_107 : decode cX0_sendOut 107 = .ok (.putfield 26, 3) := by decide +kernel
theorem dX0_sendOut_110 : decode cX0_sendOut 110 = .ok (.iinc 4 1, 3) := by decide +kernel
theorem dX0_sendOut_113 : decode cX0_sendOut 113 = .ok (.goto (-97), 3) := by decide +kernel
theorem dX0_sendOut_116 : decode cX0_sendOut 116 = .ok (.iconst 1, 1) := by decide +kernel
theorem dX0_sendOut_117 : decode cX0_sendOut 117 = .ok (.ireturn, 1) := by decide +kernel
theorem dX0_search_0 : decode cX0_search 0 = .ok (.aload_n 0, 1) := by decide +kernel
theorem dX0_search_1 : decode cX0_search 1 = .ok (.iconst (-1), 1) := by decide +kernel
theorem dX0_search_2 : decode cX0_search 2 = .ok (.putfield 49, 3) := by decide +kernel
theorem dX0_search_5 : decode cX0_search 5 = .ok (.iconst 0, 1) := by decide +kernel
theorem dX0_search_6 : decode cX0_search 6 = .ok (.istore 6, 2) := by decide +kernel
theorem dX0_search_8 : decode cX0_search 8 = .ok (.iload 6, 2) := by decide +kernel
theorem dX0_search_10 : decode cX0_search 10 = .ok (.sipush 5040, 3) := by decide +kernel
theorem dX0_search_13 : decode cX0_search 13 = .ok (.if_icmp .ge 110, 3) := by decide +kernel
theorem dX0_search_16 : decode cX0_search 16 = .ok (.aload_n 3, 1) := by decide +kernel
theorem dX0_search_17 : decode cX0_search 17 = .ok (.aload_n 1, 1) := by decide +kernel
theorem dX0_search_18 : decode cX0_search 18 = .ok (.aload_n 0, 1) := by decide +kernel
theorem dX0_search_19 : decode cX0_search 19 = .ok (.getfield 12, 3) := by decide +kernel
theorem dX0_search_22 : decode cX0_search 22 = .ok (.aload_n 0, 1) := by decide +kernel
theorem dX0_search_23 : decode cX0_search 23 = .ok (.getfield 22, 3) := by decide +kernel
theorem dX0_search_26 : decode cX0_search 26 = .ok (.aload_n 2, 1) := by decide +kernel
theorem dX0_search_27 : decode cX0_search 27 = .ok (.getfield 52, 3) := by decide +kernel
theorem dX0_search_30 : decode cX0_search 30 = .ok (.invokevirtual 55, 3) := by decide +kernel
theorem dX0_search_33 : decode cX0_search 33 = .ok (.aload 4, 2) := by decide +kernel
theorem dX0_search_35 : decode cX0_search 35 = .ok (.aload_n 1, 1) := by decide +kernel
theorem dX0_search_36 : decode cX0_search 36 = .ok (.aload_n 3, 1) := by decide +kernel
theorem dX0_search_37 : decode cX0_search 37 = .ok (.aload_n 2, 1) := by decide +kernel
theorem dX0_search_38 : decode cX0_search 38 = .ok (.getfield 61, 3) := by decide +kernel
theorem dX0_search_41 : decode cX0_search 41 = .ok (.iload 5, 2) := by decide +kernel
theorem dX0_search_43 : decode cX0_search 43 = .ok (.invokevirtual 64, 3) := by decide +kernel
theorem dX0_search_46 : decode cX0_search 46 = .ok (.aload 4, 2) := by decide +kernel
theorem dX0_search_48 : decode cX0_search 48 = .ok (.aload_n 1, 1) := by decide +kernel
theorem dX0_search_49 : decode cX0_search 49 = .ok (.aload_n 1, 1) := by decide +kernel
theorem dX0_search_50 : decode cX0_search 50 = .ok (.invokevirtual 70, 3) := by decide +kernel
theorem dX0_search_53 : decode cX0_search 53 = .ok (.invokevirtual 74, 3) := by decide +kernel
theorem dX0_search_56 : decode cX0_search 56 = .ok (.invokestatic 77, 3) := by decide +kernel
theorem dX0_search_59 : decode cX0_search 59 = .ok (.istore 7, 2) := by decide +kernel
theorem dX0_search_61 : decode cX0_search 61 = .ok (.aload_n 0, 1) := by decide +kernel
theorem dX0_search_62 : decode cX0_search 62 = .ok (.getfield 49, 3) := by decide +kernel
theorem dX0_search_65 : decode cX0_search 65 = .ok (.iconst (-1), 1) := by decide +kernel
theorem dX0_search_66 : decode cX0_search 66 = .ok (.if_icmp .eq 12, 3) := by decide +kernel
theorem dX0_search_69 : decode cX0_search 69 = .ok (.iload 7, 2) := by decide +kernel
theorem dX0_search_71 : decode cX0_search 71 = .ok (.aload_n 0, 1) := by decide +kernel
theorem dX0_search_72 : decode cX0_search 72 = .ok (.getfield 49, 3) := by decide +kernel
theorem dX0_search_75 : decode cX0_search 75 = .ok (.if_icmp .ge 32, 3) := by decide +kernel
theorem dX0_search_78 : decode cX0_search 78 = .ok (.aload_n 0, 1) := by decide +kernel
theorem dX0_search_79 : decode cX0_search 79 = .ok (.iload 7, 2) := by decide +kernel
theorem dX0_search_81 : decode cX0_search 81 = .ok (.putfield 49, 3) := by decide +kernel
theorem dX0_search_84 : decode cX0_search 84 = .ok (.aload_n 0, 1) := by decide +kernel
theorem dX0_search_85 : decode cX0_search 85 = .ok (.getfield 12, 3) := by decide +kernel
theorem dX0_search_88 : decode cX0_search 88 = .ok (.getfield 46, 3) := by decide +kernel
theorem dX0_search_91 : decode cX0_search 91 = .ok (.iconst 0, 1) := by decide +kernel
theorem dX0_search_92 : decode cX0_search 92 = .ok (.aload_n 0, 1) := by decide +kernel
theorem dX0_search_93 : decode cX0_search 93 = .ok (.getfield 18, 3) := by decide +kernel
theorem dX0_search_96 : decode cX0_search 96 = .ok (.iconst 0, 1) := by decide +kernel
theorem dX0_search_97 : decode cX0_search 97 = .ok (.aload_n 0, 1) := by decide +kernel
theorem dX0_search_98 : decode cX0_search 98 = .ok (.getfield 12, 3) := by decide +kernel
theorem dX0_search_101 : decode cX0_search 101 = .ok (.getfield 26, 3) := by decide +kernel
theorem dX0_search_104 : decode cX0_search 104 = .ok (.invokestatic 81, 3) := by decide +kernel
theorem dX0_search_107 : decode cX0_search 107 = .ok (.aload_n 0, 1) := by decide +kernel
theorem dX0_search_108 : decode cX0_search 108 = .ok (.invokevirtual 87, 3) := by decide +kernel
theorem dX0_search_111 : decode cX0_search 111 = .ok (.ifCond .ne 6, 3) := by decide +kernel
theorem dX0_search_114 : decode cX0_search 114 = .ok (.goto 9, 3) := by decide +kernel
theorem dX0_search_117 : decode cX0_search 117 = .ok (.iinc 6 1, 3) := by decide +kernel
theorem dX0_search_120 : decode cX0_search 120 = .ok (.goto (-112), 3) := by decide +kernel
theorem dX0_search_123 : decode cX0_search 123 = .ok (.return_, 1) := by decide +kernel
theorem dX0_turnToNext_0 : decode cX0_turnToNext 0 = .ok (.aload_n 0, 1) := by decide +kernel
theorem dX0_turnToNext_1 : decode cX0_turnToNext 1 = .ok (.getfield 12, 3) := by decide +kernel
theorem dX0_turnToNext_4 : decode cX0_turnToNext 4 = .ok (.getfield 46, 3) := by decide +kernel
theorem dX0_turnToNext_7 : decode cX0_turnToNext 7 = .ok (.astore_n 1, 1) := by decide +kernel
theorem dX0_turnToNext_8 : decode cX0_turnToNext 8 = .ok (.aload_n 0, 1) := by decide +kernel
theorem dX0_turnToNext_9 : decode cX0_turnToNext 9 = .ok (.getfield 12, 3) := by decide +kernel
theorem dX0_turnToNext_12 : decode cX0_turnToNext 12 = .ok (.getfield 26, 3) := by decide +kernel
theorem dX0_turnToNext_15 : decode cX0_turnToNext 15 = .ok (.iconst 1, 1) := by decide +kernel
theorem dX0_turnToNext_16 : decode cX0_turnToNext 16 = .ok (.isub, 1) := by decide +kernel
theorem dX0_turnToNext_17 : decode cX0_turnToNext 17 = .ok (.istore_n 2, 1) := by decide +kernel
theorem dX0_turnToNext_18 : decode cX0_turnToNext 18 = .ok (.iload_n 2, 1) := by decide +kernel
theorem dX0_turnToNext_19 : decode cX0_turnToNext 19 = .ok (.iconst 1, 1) := by decide +kernel
theorem dX0_turnToNext_20 : decode cX0_turnToNext 20 = .ok (.isub, 1) := by decide +kernel
theorem dX0_turnToNext_21 : decode cX0_turnToNext 21 = .ok (.istore_n 3, 1) := by decide +kernel
theorem dX0_turnToNext_22 : decode cX0_turnToNext 22 = .ok (.iload_n 3, 1) := by decide +kernel
theorem dX0_turnToNext_23 : decode cX0_turnToNext 23 = .ok (.ifCond .lt 20, 3) := by decide +kernel
theorem dX0_turnToNext_26 : decode cX0_turnToNext 26 = .ok (.aload_n 1, 1) := by decide +kernel
theorem dX0_turnToNext_27 : decode cX0_turnToNext 27 = .ok (.iload_n 3, 1) := by decide +kernel
theorem dX0_turnToNext_28 : decode cX0_turnToNext 28 = .ok (.iaload, 1) := by decide +kernel
theorem dX0_turnToNext_29 : decode cX0_turnToNext 29 = .ok (.aload_n 1, 1) := by decide +kernel
theorem dX0_turnToNext_30 : decode cX0_turnToNext 30 = .ok (.iload_n 3, 1) := by decide +kernel
theorem dX0_turnToNext_31 : decode cX0_turnToNext 31 = .ok (.iconst 1, 1) := by decide +kernel
theorem dX0_turnToNext_32 : decode cX0_turnToNext 32 = .ok (.iadd, 1) := by decide +kernel
theorem dX0_turnToNext_33 : decode cX0_turnToNext 33 = .ok (.iaload, 1) := by decide +kernel
theorem dX0_turnToNext_34 : decode cX0_turnToNext 34 = .ok (.if_icmp .le 9, 3) := by decide +kernel
theorem dX0_turnToNext_37 : decode cX0_turnToNext 37 = .ok (.iinc 3 (-1), 3) := by decide +kernel
theorem dX0_turnToNext_40 : decode cX0_turnToNext 40 = .ok (.goto (-18), 3) := by decide +kernel
theorem dX0_turnToNext_43 : decode cX0_turnToNext 43 = .ok (.iload_n 3, 1) := by decide +kernel
theorem dX0_turnToNext_44 : decode cX0_turnToNext 44 = .ok (.ifCond .ge 5, 3) := by decide +kernel
theorem dX0_turnToNext_47 : decode cX0_turnToNext 47 = .ok (.iconst 0, 1) := by decide +kernel
theorem dX0_turnToNext_48 : decode cX0_turnToNext 48 = .ok (.ireturn, 1) := by decide +kernel
theorem dX0_turnToNext_49 : decode cX0_turnToNext 49 = .ok (.iload_n 2, 1) := by decide +kernel
theorem dX0_turnToNext_50 : decode cX0_turnToNext 50 = .ok (.istore 4, 2) := by decide +kernel
theorem dX0_turnToNext_52 : decode cX0_turnToNext 52 = .ok (.iload 4, 2) := by decide +kernel
theorem dX0_turnToNext_54 : decode cX0_turnToNext 54 = .ok (.iload_n 3, 1) := by decide +kernel
theorem dX0_turnToNext_55 : decode cX0_turnToNext 55 = .ok (.if_icmp .le 19, 3) := by decide +kernel
theorem dX0_turnToNext_58 : decode cX0_turnToNext 58 = .ok (.aload_n 1, 1) := by decide +kernel
theorem dX0_turnToNext_59 : decode cX0_turnToNext 59 = .ok (.iload 4, 2) := by decide +kernel
theorem dX0_turnToNext_61 : decode cX0_turnToNext 61 = .ok (.iaload, 1) := by decide +kernel
theorem dX0_turnToNext_62 : decode cX0_turnToNext 62 = .ok (.aload_n 1, 1) := by decide +kernel
theorem dX0_turnToNext_63 : decode cX0_turnToNext 63 = .ok (.iload_n 3, 1) := by decide +kernel
theorem dX0_turnToNext_64 : decode cX0_turnToNext 64 = .ok (.iaload, 1) := by decide +kernel
theorem dX0_turnToNext_65 : decode cX0_turnToNext 65 = .ok (.if_icmp .ge 9, 3) := by decide +kernel
theorem dX0_turnToNext_68 : decode cX0_turnToNext 68 = .ok (.iinc 4 (-1), 3) := by decide +kernel
theorem dX0_turnToNext_71 : decode cX0_turnToNext 71 = .ok (.goto (-19), 3) := by decide +kernel
theorem dX0_turnToNext_74 : decode cX0_turnToNext 74 = .ok (.aload_n 1, 1) := by decide +kernel
theorem dX0_turnToNext_75 : decode cX0_turnToNext 75 = .ok (.iload_n 3, 1) := by decide +kernel
theorem dX0_turnToNext_76 : decode cX0_turnToNext 76 = .ok (.iload 4, 2) := by decide +kernel
theorem dX0_turnToNext_78 : decode cX0_turnToNext 78 = .ok (.invokestatic 91, 3) := by decide +kernel
theorem dX0_turnToNext_81 : decode cX0_turnToNext 81 = .ok (.iload_n 3, 1) := by decide +kernel
theorem dX0_turnToNext_82 : decode cX0_turnToNext 82 = .ok (.iconst 1, 1) := by decide +kernel
theorem dX0_turnToNext_83 : decode cX0_turnToNext 83 = .ok (.iadd, 1) := by decide +kernel
theorem dX0_turnToNext_84 : decode cX0_turnToNext 84 = .ok (.istore 5, 2) := by decide +kernel
theorem dX0_turnToNext_86 : decode cX0_turnToNext 86 = .ok (.iload_n 2, 1) := by decide +kernel
theorem dX0_turnToNext_87 : decode cX0_turnToNext 87 = .ok (.istore 6, 2) := by decide +kernel
theorem dX0_turnToNext_89 : decode cX0_turnToNext 89 = .ok (.iload 5, 2) := by decide +kernel
theorem dX0_turnToNext_91 : decode cX0_turnToNext 91 = .ok (.iload 6, 2) := by decide +kernel
theorem dX0_turnToNext_93 : decode cX0_turnToNext 93 = .ok (.if_icmp .ge 20, 3) := by decide +kernel
theorem dX0_turnToNext_96 : decode cX0_turnToNext 96 = .ok (.aload_n 1, 1) := by decide +kernel
theorem dX0_turnToNext_97 : decode cX0_turnToNext 97 = .ok (.iload 5, 2) := by decide +kernel
theorem dX0_turnToNext_99 : decode cX0_turnToNext 99 = .ok (.iload 6, 2) := by decide +kernel
theorem dX0_turnToNext_101 : decode cX0_turnToNext 101 = .ok (.invokestatic 91, 3) := by decide +kernel
theorem dX0_turnToNext_104 : decode cX0_turnToNext 104 = .ok (.iinc 5 1, 3) := by decide +kernel
theorem dX0_turnToNext_107 : decode cX0_turnToNext 107 = .ok (.iinc 6 (-1), 3) := by decide +kernel
theorem dX0_turnToNext_110 : decode cX0_turnToNext 110 = .ok (.goto (-21), 3) := by decide +kernel
theorem dX0_turnToNext_113 : decode cX0_turnToNext 113 = .ok (.iconst 1, 1) := by decide +kernel
theorem dX0_turnToNext_114 : decode cX0_turnToNext 114 = .ok (.ireturn, 1) := by decide +kernel
theorem dX1_init_0 : decode cX1_init 0 = .ok (.aload_n 0, 1) := by decide +kernel
theorem dX1_init_1 : decode cX1_init 1 = .ok (.invokespecial 3, 3) := by decide +kernel
theorem dX1_init_4 : decode cX1_init 4 = .ok (.aload_n 0, 1) := by decide +kernel
theorem dX1_init_5 : decode cX1_init 5 = .ok (.iconst 2, 1) := by decide +kernel
theorem dX1_init_6 : decode cX1_init 6 = .ok (.newarray .int, 2) := by decide +kernel
theorem dX1_init_8 : decode cX1_init 8 = .ok (.putfield 9, 3) := by decide +kernel
theorem dX1_init_11 : decode cX1_init 11 = .ok (.aload_n 0, 1) := by decide +kernel
theorem dX1_init_12 : decode cX1_init 12 = .ok (.iconst 2, 1) := by decide +kernel
theorem dX1_init_13 : decode cX1_init 13 = .ok (.newarray .int, 2) := by decide +kernel
theorem dX1_init_15 : decode cX1_init 15 = .ok (.putfield 15, 3) := by decide +kernel
theorem dX1_init_18 : decode cX1_init 18 = .ok (.aload_n 0, 1) := by decide +kernel
theorem dX1_init_19 : decode cX1_init 19 = .ok (.bipush 12, 2) := by decide +kernel
theorem dX1_init_21 : decode cX1_init 21 = .ok (.newarray .int, 2) := by decide +kernel
theorem dX1_init_23 : decode cX1_init 23 = .ok (.putfield 18, 3) := by decide +kernel
theorem dX1_init_26 : decode cX1_init 26 = .ok (.aload_n 0, 1) := by decide +kernel
theorem dX1_init_27 : decode cX1_init 27 = .ok (.bipush 9, 2) := by decide +kernel
theorem dX1_init_29 : decode cX1_init 29 = .ok (.bipush 9, 2) := by decide +kernel
theorem dX1_init_31 : decode cX1_init 31 = .ok (.multianewarray 21 2, 4) := by decide +kernel
theorem dX1_init_35 : decode cX1_init 35 = .ok (.putfield 23, 3) := by decide +kernel
theorem dX1_init_38 : decode cX1_init 38 = .ok (.aload_n 0, 1) := by decide +kernel
theorem dX1_init_39 : decode cX1_init 39 = .ok (.bipush 9, 2) := by decide +kernel
theorem dX1_init_41 : decode cX1_init 41 = .ok (.newarray .int, 2) := by decide +kernel
theorem dX1_init_43 : decode cX1_init 43 = .ok (.putfield 26, 3) := by decide +kernel
theorem dX1_init_46 : decode cX1_init 46 = .ok (.aload_n 0, 1) := by decide +kernel
theorem dX1_init_47 : decode cX1_init 47 = .ok (.new 29, 3) := by decide +kernel
theorem dX1_init_50 : decode cX1_init 50 = .ok (.dup, 1) := by decide +kernel
theorem dX1_init_51 : decode cX1_init 51 = .ok (.invokespecial 31, 3) := by decide +kernel
theorem dX1_init_54 : decode cX1_init 54 = .ok (.putfield 32, 3) := by decide +kernel
theorem dX1_init_57 : decode cX1_init 57 = .ok (.return_, 1) := by decide +kernel
theorem dX1_find_0 : decode cX1_find 0 = .ok (.aload_n 0, 1) := by decide +kernel
theorem dX1_find_1 : decode cX1_find 1 = .ok (.iload 4, 2) := by decide +kernel
theorem dX1_find_3 : decode cX1_find 3 = .ok (.putfield 36, 3) := by decide +kernel
theorem dX1_find_6 : decode cX1_find 6 = .ok (.aload_n 3, 1) := by decide +kernel
theorem dX1_find_7 : decode cX1_find 7 = .ok (.iconst 0, 1) := by decide +kernel
theorem dX1_find_8 : decode cX1_find 8 = .ok (.aload_n 0, 1) := by decide +kernel
theorem dX1_find_9 : decode cX1_find 9 = .ok (.getfield 18, 3) := by decide +kernel
theorem dX1_find_12 : decode cX1_find 12 = .ok (.iconst 0, 1) := by decide +kernel
theorem dX1_find_13 : decode cX1_find 13 = .ok (.bipush 12, 2) := by decide +kernel
theorem dX1_find_15 : decode cX1_find 15 = .ok (.invokestatic 40, 3) := by decide +kernel
theorem dX1_find_18 : decode cX1_find 18 = .ok (.iconst 0, 1) := by decide +kernel
theorem dX1_find_19 : decode cX1_find 19 = .ok (.istore 5, 2) := by decide +kernel
theorem dX1_find_21 : decode cX1_find 21 = .ok (.iload 5, 2) := by decide +kernel
theorem dX1_find_23 : decode cX1_find 23 = .ok (.aload_n 1, 1) := by decide +kernel
theorem dX1_find_24 : decode cX1_find 24 = .ok (.getfield 46, 3) := by decide +kernel
theorem dX1_find_27 : decode cX1_find 27 = .ok (.if_icmp .ge 55, 3) := by decide +kernel
theorem dX1_find_30 : decode cX1_find 30 = .ok (.aload_n 0, 1) := by decide +kernel
theorem dX1_find_31 : decode cX1_find 31 = .ok (.getfield 26, 3) := by decide +kernel
theorem dX1_find_34 : decode cX1_find 34 = .ok (.iload 5, 2) := by decide +kernel
theorem dX1_find_36 : decode cX1_find 36 = .ok (.iload 5, 2) := by decide +kernel
theorem dX1_find_38 : decode cX1_find 38 = .ok (.iastore, 1) := by decide +kernel
theorem dX1_find_39 : decode cX1_find 39 = .ok (.iconst 0, 1) := by decide +kernel
theorem dX1_find_40 : decode cX1_find 40 = .ok (.istore 6, 2) := by decide +kernel
theorem dX1_find_42 : decode cX1_find 42 = .ok (.iload 6, 2) := by decide +kernel
theorem dX1_find_44 : decode cX1_find 44 = .ok (.aload_n 1, 1) := by decide +kernel
theorem dX1_find_45 : decode cX1_find 45 = .ok (.getfield 46, 3) := by decide +kernel
theorem dX1_find_48 : decode cX1_find 48 = .ok (.if_icmp .ge 28, 3) := by decide +kernel
theorem dX1_find_51 : decode cX1_find 51 = .ok (.aload_n 0, 1) := by decide +kernel
theorem dX1_find_52 : decode cX1_find 52 = .ok (.getfield 23, 3) := by decide +kernel
theorem dX1_find_55 : decode cX1_find 55 = .ok (.iload 5, 2) := by decide +kernel
theorem dX1_find_57 : decode cX1_find 57 = .ok (.aaload, 1) := by decide +kernel
theorem dX1_find_58 : decode cX1_find 58 = .ok (.iload 6, 2) := by decide +kernel
theorem dX1_find_60 : decode cX1_find 60 = .ok (.aload_n 2, 1) := by decide +kernel
theorem dX1_find_61 : decode cX1_find 61 = .ok (.aload_n 1, 1) := by decide +kernel
theorem dX1_find_62 : decode cX1_find 62 = .ok (.iload 6, 2) := by decide +kernel
theorem dX1_find_64 : decode cX1_find 64 = .ok (.iload 5, 2) := by decide +kernel
theorem dX1_find_66 : decode cX1_find 66 = .ok (.invokevirtual 51, 3) := by decide +kernel
theorem dX1_find_69 : decode cX1_find 69 = .ok (.iastore, 1) := by decide +kernel
theorem dX1_find_70 : decode cX1_find 70 = .ok (.iinc 6 1, 3) := by decide +kernel
theorem dX1_find_73 : decode cX1_find 73 = .ok (.goto (-31), 3) := by decide +kernel
theorem dX1_find_76 : decode cX1_find 76 = .ok (.iinc 5 1, 3) := by decide +kernel
theorem dX1_find_79 : decode cX1_find 79 = .ok (.goto (-58), 3) := by decide +kernel
theorem dX1_find_82 : decode cX1_find 82 = .ok (.aload_n 0, 1) := by decide +kernel
theorem dX1_find_83 : decode cX1_find 83 = .ok (.aload_n 1, 1) := by decide +kernel
theorem dX1_find_84 : decode cX1_find 84 = .ok (.invokevirtual 57, 3) := by decide +kernel
theorem dX1_find_87 : decode cX1_find 87 = .ok (.ifCond .eq 11, 3) := by decide +kernel
theorem dX1_find_90 : decode cX1_find 90 = .ok (.aload_n 0, 1) := by decide +kernel
theorem dX1_find_91 : decode cX1_find 91 = .ok (.iconst 0, 1) := by decide +kernel
theorem dX1_find_92 : decode cX1_find 92 = .ok (.putfield 61, 3) := by decide +kernel
theorem dX1_find_95 : decode cX1_find 95 = .ok (.goto 38, 3) := by decide +kernel
theorem dX1_find_98 : decode cX1_find 98 = .ok (.aload_n 0, 1) := by decide +kernel
theorem dX1_find_99 : decode cX1_find 99 = .ok (.aload_n 1, 1) := by decide +kernel
theorem dX1_find_100 : decode cX1_find 100 = .ok (.iconst 0, 1) := by decide +kernel
theorem dX1_find_101 : decode cX1_find 101 = .ok (.iconst 0, 1) := by decide +kernel
theorem dX1_find_102 : decode cX1_find 102 = .ok (.invokevirtual 64, 3) := by decide +kernel
theorem dX1_find_105 : decode cX1_find 105 = .ok (.ifCond .eq 11, 3) := by decide +kernel
theorem dX1_find_108 : decode cX1_find 108 = .ok (.aload_n 0, 1) := by decide +kernel
theorem dX1_find_109 : decode cX1_find 109 = .ok (.iconst 1, 1) := by decide +kernel
theorem dX1_find_110 : decode cX1_find 110 = .ok (.putfield 61, 3) := by decide +kernel
theorem dX1_find_113 : decode cX1_find 113 = .ok (.goto 20, 3) := by decide +kernel
theorem dX1_find_116 : decode cX1_find 116 = .ok (.aload_n 0, 1) := by decide +kernel
theorem dX1_find_117 : decode cX1_find 117 = .ok (.aload_n 0, 1) := by decide +kernel
theorem dX1_find_118 : decode cX1_find 118 = .ok (.aload_n 1, 1) := by decide +kernel
theorem dX1_find_119 : decode cX1_find 119 = .ok (.invokevirtual 68, 3) := by decide +kernel
theorem dX1_find_122 : decode cX1_find 122 = .ok (.ifCond .eq 7, 3) := by decide +kernel
theorem dX1_find_125 : decode cX1_find 125 = .ok (.iconst 2, 1) := by decide +kernel
theorem dX1_find_126 : decode cX1_find 126 = .ok (.goto 4, 3) := by decide +kernel
theorem dX1_find_129 : decode cX1_find 129 = .ok (.iconst (-1), 1) := by decide +kernel
theorem dX1_find_130 : decode cX1_find 130 = .ok (.putfield 61, 3) := by decide +kernel
theorem dX1_find_133 : decode cX1_find 133 = .ok (.return_, 1) := by decide +kernel
theorem dX1_moveOne_0 : decode cX1_moveOne 0 = .ok (.iload_n 3, 1) := by decide +kernel
theorem dX1_moveOne_1 : decode cX1_moveOne 1 = .ok (.istore 4, 2) := by decide +kernel
theorem dX1_moveOne_3 : decode cX1_moveOne 3 = .ok (.iload 4, 2) := by decide +kernel
theorem dX1_moveOne_5 : decode cX1_moveOne 5 = .ok (.aload_n 1, 1) := by decide +kernel
theorem dX1_moveOne_6 : decode cX1_moveOne 6 = .ok (.getfield 71, 3) := by decide +kernel
theorem dX1_moveOne_9 : decode cX1_moveOne 9 = .ok (.if_icmp .ge 80, 3) := by decide +kernel
theorem dX1_moveOne_12 : decode cX1_moveOne 12 = .ok (.aload_n 0, 1) := by decide +kernel
theorem dX1_moveOne_13 : decode cX1_moveOne 13 = .ok (.getfield 18, 3) := by decide +kernel
theorem dX1_moveOne_16 : decode cX1_moveOne 16 = .ok (.iload 4, 2) := by decide +kernel
theorem dX1_moveOne_18 : decode cX1_moveOne 18 = .ok (.iaload, 1) := by decide +kernel
theorem dX1_moveOne_19 : decode cX1_moveOne 19 = .ok (.istore 5, 2) := by decide +kernel
theorem dX1_moveOne_21 : decode cX1_moveOne 21 = .ok (.iconst 0, 1) := by decide +kernel
theorem dX1_moveOne_22 : decode cX1_moveOne 22 = .ok (.istore 6, 2) := by decide +kernel
theorem dX1_moveOne_24 : decode cX1_moveOne 24 = .ok (.iload 6, 2) := by decide +kernel
theorem dX1_moveOne_26 : decode cX1_moveOne 26 = .ok (.aload_n 1, 1) := by decide +kernel
theorem dX1_moveOne_27 : decode cX1_moveOne 27 = .ok (.getfield 46, 3) := by decide +kernel
theorem dX1_moveOne_30 : decode cX1_moveOne 30 = .ok (.if_icmp .ge 44, 3) := by decide +kernel
theorem dX1_moveOne_33 : decode cX1_moveOne 33 = .ok (.aload_n 0, 1) := by decide +kernel
theorem dX1_moveOne_34 : decode cX1_moveOne 34 = .ok (.getfield 18, 3) := by decide +kernel
theorem dX1_moveOne_37 : decode cX1_moveOne 37 = .ok (.iload 4, 2) := by decide +kernel
theorem dX1_moveOne_39 : decode cX1_moveOne 39 = .ok (.iload 6, 2) := by decide +kernel
theorem dX1_moveOne_41 : decode cX1_moveOne 41 = .ok (.iastore, 1) := by decide +kernel
theorem dX1_moveOne_42 : decode cX1_moveOne 42 = .ok (.iload 6, 2) := by decide +kernel
theorem dX1_moveOne_44 : decode cX1_moveOne 44 = .ok (.iload 5, 2) := by decide +kernel
theorem dX1_moveOne_46 : decode cX1_moveOne 46 = .ok (.if_icmp .eq 22, 3) := by decide +kernel
theorem dX1_moveOne_49 : decode cX1_moveOne 49 = .ok (.aload_n 0, 1) := by decide +kernel
theorem dX1_moveOne_50 : decode cX1_moveOne 50 = .ok (.aload_n 1, 1) := by decide +kernel
theorem dX1_moveOne_51 : decode cX1_moveOne 51 = .ok (.invokevirtual 57, 3) := by decide +kernel
theorem dX1_moveOne_54 : decode cX1_moveOne 54 = .ok (.ifCond .eq 14, 3) := by decide +kernel
theorem dX1_moveOne_57 : decode cX1_moveOne 57 = .ok (.aload_n 0, 1) := by decide +kernel
theorem dX1_moveOne_58 : decode cX1_moveOne 58 = .ok (.iload_n 2, 1) := by decide +kernel
theorem dX1_moveOne_59 : decode cX1_moveOne 59 = .ok (.iload 4, 2) := by decide +kernel
theorem dX1_moveOne_61 : decode cX1_moveOne 61 = .ok (.iload 6, 2) := by decide +kernel
theorem dX1_moveOne_63 : decode cX1_moveOne 63 = .ok (.invokevirtual 74, 3) := by decide +kernel
theorem dX1_moveOne_66 : decode cX1_moveOne 66 = .ok (.iconst 1, 1) := by decide +kernel
theorem dX1_moveOne_67 : decode cX1_moveOne 67 = .ok (.ireturn, 1) := by decide +kernel
theorem dX1_moveOne_68 : decode cX1_moveOne 68 = .ok (.iinc 6 1, 3) := by decide +kernel
theorem dX1_moveOne_71 : decode cX1_moveOne 71 = .ok (.goto (-47), 3) := by decide +kernel
theorem dX1_moveOne_74 : decode cX1_moveOne 74 = .ok (.aload_n 0, 1) := by decide +kernel
theorem dX1_moveOne_75 : decode cX1_moveOne 75 = .ok (.getfield 18, 3) := by decide +kernel
theorem dX1_moveOne_78 : decode cX1_moveOne 78 = .ok (.iload 4, 2) := by decide +kernel
theorem dX1_moveOne_80 : decode cX1_moveOne 80 = .ok (.iload 5, 2) := by decide +kernel
theorem dX1_moveOne_82 : decode cX1_moveOne 82 = .ok (.iastore, 1) := by decide +kernel
theorem dX1_moveOne_83 : decode cX1_moveOne 83 = .ok (.iinc 4 1, 3) := by decide +kernel
theorem dX1_moveOne_86 : decode cX1_moveOne 86 = .ok (.goto (-83), 3) := by decide +kernel
theorem dX1_moveOne_89 : decode cX1_moveOne 89 = .ok (.iconst 0, 1) := by decide +kernel
theorem dX1_moveOne_90 : decode cX1_moveOne 90 = .ok (.ireturn, 1) := by decide +kernel
theorem dX1_moveTwo_0 : decode cX1_moveTwo 0 = .ok (.iconst 0, 1) := by decide +kernel
theorem dX1_moveTwo_1 : decode cX1_moveTwo 1 = .ok (.istore_n 2, 1) := by decide +kernel
theorem dX1_moveTwo_2 : decode cX1_moveTwo 2 = .ok (.iload_n 2, 1) := by decide +kernel
theorem dX1_moveTwo_3 : decode cX1_moveTwo 3 = .ok (.aload_n 1, 1) := by decide +kernel
theorem dX1_moveTwo_4 : decode cX1_moveTwo 4 = .ok (.getfield 71, 3) := by decide +kernel
theorem dX1_moveTwo_7 : decode cX1_moveTwo 7 = .ok (.if_icmp .ge 77, 3) := by decide +kernel
theorem dX1_moveTwo_10 : decode cX1_moveTwo 10 = .ok (.aload_n 0, 1) := by decide +kernel
theorem dX1_moveTwo_11 : decode cX1_moveTwo 11 = .ok (.getfield 18, 3) := by decide +kernel
theorem dX1_moveTwo_14 : decode cX1_moveTwo 14 = .ok (.iload_n 2, 1) := by decide +kernel
theorem dX1_moveTwo_15 : decode cX1_moveTwo 15 = .ok (.iaload, 1) := by decide +kernel
theorem dX1_moveTwo_16 : decode cX1_moveTwo 16 = .ok (.istore_n 3, 1) := by decide +kernel
theorem dX1_moveTwo_17 : decode cX1_moveTwo 17 = .ok (.iconst 0, 1) := by decide +kernel
theorem dX1_moveTwo_18 : decode cX1_moveTwo 18 = .ok (.istore 4, 2) := by decide +kernel
theorem dX1_moveTwo_20 : decode cX1_moveTwo 20 = .ok (.iload 4, 2) := by decide +kernel
theorem dX1_moveTwo_22 : decode cX1_moveTwo 22 = .ok (.aload_n 1, 1) := by decide +kernel
theorem dX1_moveTwo_23 : decode cX1_moveTwo 23 = .ok (.getfield 46, 3) := by decide +kernel
theorem dX1_moveTwo_26 : decode cX1_moveTwo 26 = .ok (.if_icmp .ge 45, 3) := by decide +kernel
theorem dX1_moveTwo_29 : decode cX1_moveTwo 29 = .ok (.aload_n 0, 1) := by decide +kernel
theorem dX1_moveTwo_30 : decode cX1_moveTwo 30 = .ok (.getfield 18, 3) := by decide +kernel
theorem dX1_moveTwo_33 : decode cX1_moveTwo 33 = .ok (.iload_n 2, 1) := by decide +kernel
theorem dX1_moveTwo_34 : decode cX1_moveTwo 34 = .ok (.iload 4, 2) := by decide +kernel
theorem dX1_moveTwo_36 : decode cX1_moveTwo 36 = .ok (.iastore, 1) := by decide +kernel
theorem dX1_moveTwo_37 : decode cX1_moveTwo 37 = .ok (.iload 4, 2) := by decide +kernel
theorem dX1_moveTwo_39 : decode cX1_moveTwo 39 = .ok (.iload_n 3, 1) := by decide +kernel
theorem dX1_moveTwo_40 : decode cX1_moveTwo 40 = .ok (.if_icmp .eq 25, 3) := by decide +kernel
theorem dX1_moveTwo_43 : decode cX1_moveTwo 43 = .ok (.aload_n 0, 1) := by decide +kernel
theorem dX1_moveTwo_44 : decode cX1_moveTwo 44 = .ok (.aload_n 1, 1) := by decide +kernel
theorem dX1_moveTwo_45 : decode cX1_moveTwo 45 = .ok (.iconst 1, 1) := by decide +kernel
theorem dX1_moveTwo_46 : decode cX1_moveTwo 46 = .ok (.iload_n 2, 1) := by decide +kernel
theorem dX1_moveTwo_47 : decode cX1_moveTwo 47 = .ok (.iconst 1, 1) := by decide +kernel
theorem dX1_moveTwo_48 : decode cX1_moveTwo 48 = .ok (.iadd, 1) := by decide +kernel
theorem dX1_moveTwo_49 : decode cX1_moveTwo 49 = .ok (.invokevirtual 64, 3) := by decide +kernel
theorem dX1_moveTwo_52 : decode cX1_moveTwo 52 = .ok (.ifCond .eq 13, 3) := by decide +kernel
theorem dX1_moveTwo_55 : decode cX1_moveTwo 55 = .ok (.aload_n 0, 1) := by decide +kernel
theorem dX1_moveTwo_56 : decode cX1_moveTwo 56 = .ok (.iconst 0, 1) := by decide +kernel
theorem dX1_moveTwo_57 : decode cX1_moveTwo 57 = .ok (.iload_n 2, 1) := by decide +kernel
theorem dX1_moveTwo_58 : decode cX1_moveTwo 58 = .ok (.iload 4, 2) := by decide +kernel
theorem dX1_moveTwo_60 : decode cX1_moveTwo 60 = .ok (.invokevirtual 74, 3) := by decide +kernel
theorem dX1_moveTwo_63 : decode cX1_moveTwo 63 = .ok (.iconst 1, 1) := by decide +kernel
theorem dX1_moveTwo_64 : decode cX1_moveTwo 64 = .ok (.ireturn, 1) := by decide +kernel
theorem dX1_moveTwo_65 : decode cX1_moveTwo 65 = .ok (.iinc 4 1, 3) := by decide +kernel
theorem dX1_moveTwo_68 : decode cX1_moveTwo 68 = .ok (.goto (-48), 3) := by decide +kernel
theorem dX1_moveTwo_71 : decode cX1_moveTwo 71 = .ok (.aload_n 0, 1) := by decide +kernel
theorem dX1_moveTwo_72 : decode cX1_moveTwo 72 = .ok (.getfield 18, 3) := by decide +kernel
theorem dX1_moveTwo_75 : decode cX1_moveTwo 75 = .ok (.iload_n 2, 1) := by decide +kernel
theorem dX1_moveTwo_76 : decode cX1_moveTwo 76 = .ok (.iload_n 3, 1) := by decide +kernel
theorem dX1_moveTwo_77 : decode cX1_moveTwo 77 = .ok (.iastore, 1) := by decide +kernel
theorem dX1_moveTwo_78 : decode cX1_moveTwo 78 = .ok (.iinc 2 1, 3) := by decide +kernel
theorem dX1_moveTwo_81 : decode cX1_moveTwo 81 = .ok (.goto (-79), 3) := by decide +kernel
theorem dX1_moveTwo_84 : decode cX1_moveTwo 84 = .ok (.iconst 0, 1) := by decide +kernel
theorem dX1_moveTwo_85 : decode cX1_moveTwo 85 = .ok (.ireturn, 1) := by decide +kernel
theorem dX1_hold_0 : decode cX1_hold 0 = .ok (.iload_n 1, 1) := by decide +kernel
theorem dX1_hold_1 : decode cX1_hold 1 = .ok (.ifCond .lt 8, 3) := by decide +kernel
theorem dX1_hold_4 : decode cX1_hold 4 = .ok (.iload_n 1, 1) := by decide +kernel
theorem dX1_hold_5 : decode cX1_hold 5 = .ok (.iconst 2, 1) := by decide +kernel
theorem dX1_hold_6 : decode cX1_hold 6 = .ok (.if_icmp .lt 4, 3) := by decide +kernel
theorem dX1_hold_9 : decode cX1_hold 9 = .ok (.return_, 1) := by decide +kernel
theorem dX1_hold_10 : decode cX1_hold 10 = .ok (.aload_n 0, 1) := by decide +kernel
theorem dX1_hold_11 : decode cX1_hold 11 = .ok (.getfield 9, 3) := by decide +kernel
theorem dX1_hold_14 : decode cX1_hold 14 = .ok (.iload_n 1, 1) := by decide +kernel
theorem dX1_hold_15 : decode cX1_hold 15 = .ok (.iload_n 2, 1) := by decide +kernel
theorem dX1_hold_16 : decode cX1_hold 16 = .ok (.iastore, 1) := by decide +kernel
theorem dX1_hold_17 : decode cX1_hold 17 = .ok (.aload_n 0, 1) := by decide +kernel
theorem dX1_hold_18 : decode cX1_hold 18 = .ok (.getfield 15, 3) := by decide +kernel
theorem dX1_hold_21 : decode cX1_hold 21 = .ok (.iload_n 1, 1) := by decide +kernel
theorem dX1_hold_22 : decode cX1_hold 22 = .ok (.iload_n 3, 1) := by decide +kernel
theorem dX1_hold_23 : decode cX1_hold 23 = .ok (.iastore, 1) := by decide +kernel
theorem dX1_hold_24 : decode cX1_hold 24 = .ok (.return_, 1) := by decide +kernel
theorem dX1_isInTime_0 : decode cX1_isInTime 0 = .ok (.iconst 0, 1) := by decide +kernel
theorem dX1_isInTime_1 : decode cX1_isInTime 1 = .ok (.istore_n 2, 1) := by decide +kernel
theorem dX1_isInTime_2 : decode cX1_isInTime 2 = .ok (.iload_n 2, 1) := by decide +kernel
theorem dX1_isInTime_3 : decode cX1_isInTime 3 = .ok (.aload_n 1, 1) := by decide +kernel
theorem dX1_isInTime_4 : decode cX1_isInTime 4 = .ok (.getfield 46, 3) := by decide +kernel
theorem dX1_isInTime_7 : decode cX1_isInTime 7 = .ok (.if_icmp .ge 89, 3) := by decide +kernel
theorem dX1_isInTime_10 : decode cX1_isInTime 10 = .ok (.iconst 0, 1) := by decide +kernel
theorem dX1_isInTime_11 : decode cX1_isInTime 11 = .ok (.istore_n 3, 1) := by decide +kernel
theorem dX1_isInTime_12 : decode cX1_isInTime 12 = .ok (.iload_n 3, 1) := by decide +kernel
theorem dX1_isInTime_13 : decode cX1_isInTime 13 = .ok (.aload_n 1, 1) := by decide +kernel
theorem dX1_isInTime_14 : decode cX1_isInTime 14 = .ok (.getfield 71, 3) := by decide +kernel
theorem dX1_isInTime_17 : decode cX1_isInTime 17 = .ok (.if_icmp .ge 36, 3) := by decide +kernel
theorem dX1_isInTime_20 : decode cX1_isInTime 20 = .ok (.aload_n 0, 1) := by decide +kernel
theorem dX1_isInTime_21 : decode cX1_isInTime 21 = .ok (.getfield 32, 3) := by decide +kernel
theorem dX1_isInTime_24 : decode cX1_isInTime 24 = .ok (.getfield 78, 3) := by decide +kernel
theorem dX1_isInTime_27 : decode cX1_isInTime 27 = .ok (.iload_n 3, 1) := by decide +kernel
theorem dX1_isInTime_28 : decode cX1_isInTime 28 = .ok (.aload_n 0, 1) := by decide +kernel
theorem dX1_isInTime_29 : decode cX1_isInTime 29 = .ok (.getfield 23, 3) := by decide +kernel
theorem dX1_isInTime_32 : decode cX1_isInTime 32 = .ok (.aload_n 0, 1) := by decide +kernel
theorem dX1_isInTime_33 : decode cX1_isInTime 33 = .ok (.getfield 26, 3) := by decide +kernel
theorem dX1_isInTime_36 : decode cX1_isInTime 36 = .ok (.iload_n 2, 1) := by decide +kernel
theorem dX1_isInTime_37 : decode cX1_isInTime 37 = .ok (.iaload, 1) := by decide +kernel
theorem dX1_isInTime_38 : decode cX1_isInTime 38 = .ok (.aaload, 1) := by decide +kernel
theorem dX1_isInTime_39 : decode cX1_isInTime 39 = .ok (.aload_n 0, 1) := by decide +kernel
theorem dX1_isInTime_40 : decode cX1_isInTime 40 = .ok (.getfield 18, 3) := by decide +kernel
theorem dX1_isInTime_43 : decode cX1_isInTime 43 = .ok (.iload_n 3, 1) := by decide +kernel
theorem dX1_isInTime_44 : decode cX1_isInTime 44 = .ok (.iaload, 1) := by decide +kernel
theorem dX1_isInTime_45 : decode cX1_isInTime 45 = .ok (.iaload, 1) := by decide +kernel
theorem dX1_isInTime_46 : decode cX1_isInTime 46 = .ok (.iastore, 1) := by decide +kernel
theorem dX1_isInTime_47 : decode cX1_isInTime 47 = .ok (.iinc 3 1, 3) := by decide +kernel
theorem dX1_isInTime_50 : decode cX1_isInTime 50 = .ok (.goto (-38), 3) := by decide +kernel
theorem dX1_isInTime_53 : decode cX1_isInTime 53 = .ok (.aload_n 0, 1) := by decide +kernel
theorem dX1_isInTime_54 : decode cX1_isInTime 54 = .ok (.getfield 32, 3) := by decide +kernel
theorem dX1_isInTime_57 : decode cX1_isInTime 57 = .ok (.aload_n 1, 1) := by decide +kernel
theorem dX1_isInTime_58 : decode cX1_isInTime 58 = .ok (.aload_n 1, 1) := by decide +kernel
theorem dX1_isInTime_59 : decode cX1_isInTime 59 = .ok (.invokevirtual 81, 3) := by decide +kernel
theorem dX1_isInTime_62 : decode cX1_isInTime 62 = .ok (.invokevirtual 85, 3) := by decide +kernel
theorem dX1_isInTime_65 : decode cX1_isInTime 65 = .ok (.istore_n 3, 1) := by decide +kernel
theorem dX1_isInTime_66 : decode cX1_isInTime 66 = .ok (.iload_n 3, 1) := by decide +kernel
theorem dX1_isInTime_67 : decode cX1_isInTime 67 = .ok (.iconst (-1), 1) := by decide +kernel
theorem dX1_isInTime_68 : decode cX1_isInTime 68 = .ok (.if_icmp .eq 11, 3) := by decide +kernel
theorem dX1_isInTime_71 : decode cX1_isInTime 71 = .ok (.iload_n 3, 1) := by decide +kernel
theorem dX1_isInTime_72 : decode cX1_isInTime 72 = .ok (.aload_n 0, 1) := by decide +kernel
theorem dX1_isInTime_73 : decode cX1_isInTime 73 = .ok (.getfield 36, 3) := by decide +kernel
theorem dX1_isInTime_76 : decode cX1_isInTime 76 = .ok (.if_icmp .le 14, 3) := by decide +kernel
theorem dX1_isInTime_79 : decode cX1_isInTime 79 = .ok (.aload_n 0, 1) := by decide +kernel
theorem dX1_isInTime_80 : decode cX1_isInTime 80 = .ok (.getfield 26, 3) := by decide +kernel
theorem dX1_isInTime_83 : decode cX1_isInTime 83 = .ok (.iconst 0, 1) := by decide +kernel
theorem dX1_isInTime_84 : decode cX1_isInTime 84 = .ok (.iload_n 2, 1) := by decide +kernel
theorem dX1_isInTime_85 : decode cX1_isInTime 85 = .ok (.invokestatic 89, 3) := by decide +kernel
theorem dX1_isInTime_88 : decode cX1_isInTime 88 = .ok (.iconst 0, 1) := by decide +kernel
theorem dX1_isInTime_89 : decode cX1_isInTime 89 = .ok (.ireturn, 1) := by decide +kernel
theorem dX1_isInTime_90 : decode cX1_isInTime 90 = .ok (.iinc 2 1, 3) := by decide +kernel
theorem dX1_isInTime_93 : decode cX1_isInTime 93 = .ok (.goto (-91), 3) := by decide +kernel
theorem dX1_isInTime_96 : decode cX1_isInTime 96 = .ok (.iconst 1, 1) := by decide +kernel
theorem dX1_isInTime_97 : decode cX1_isInTime 97 = .ok (.ireturn, 1) := by decide +kernel
theorem dX2_init_0 : decode cX2_init 0 = .ok (.aload_n 0, 1) := by decide +kernel
theorem dX2_init_1 : decode cX2_init 1 = .ok (.invokespecial 3, 3) := by decide +kernel
theorem dX2_init_4 : decode cX2_init 4 = .ok (.aload_n 0, 1) := by decide +kernel
theorem dX2_init_5 : decode cX2_init 5 = .ok (.bipush 12, 2) := by decide +kernel
theorem dX2_init_7 : decode cX2_init 7 = .ok (.newarray .int, 2) := by decide +kernel
theorem dX2_init_9 : decode cX2_init 9 = .ok (.putfield 9, 3) := by decide +kernel
theorem dX2_init_12 : decode cX2_init 12 = .ok (.aload_n 0, 1) := by decide +kernel
theorem dX2_init_13 : decode cX2_init 13 = .ok (.bipush 12, 2) := by decide +kernel
theorem dX2_init_15 : decode cX2_init 15 = .ok (.newarray .int, 2) := by decide +kernel
theorem dX2_init_17 : decode cX2_init 17 = .ok (.putfield 15, 3) := by decide +kernel
theorem dX2_init_20 : decode cX2_init 20 = .ok (.return_, 1) := by decide +kernel
theorem dX2_begin_0 : decode cX2_begin 0 = .ok (.aload_n 0, 1) := by decide +kernel
theorem dX2_begin_1 : decode cX2_begin 1 = .ok (.iconst 0, 1) := by decide +kernel
theorem dX2_begin_2 : decode cX2_begin 2 = .ok (.putfield 18, 3) := by decide +kernel
theorem dX2_begin_5 : decode cX2_begin 5 = .ok (.iconst 0, 1) := by decide +kernel
theorem dX2_begin_6 : decode cX2_begin 6 = .ok (.istore_n 2, 1) := by decide +kernel
theorem dX2_begin_7 : decode cX2_begin 7 = .ok (.iload_n 2, 1) := by decide +kernel
theorem dX2_begin_8 : decode cX2_begin 8 = .ok (.bipush 12, 2) := by decide +kernel
theorem dX2_begin_10 : decode cX2_begin 10 = .ok (.if_icmp .ge 42, 3) := by decide +kernel
theorem dX2_begin_13 : decode cX2_begin 13 = .ok (.aload_n 0, 1) := by decide +kernel
theorem dX2_begin_14 : decode cX2_begin 14 = .ok (.getfield 9, 3) := by decide +kernel
theorem dX2_begin_17 : decode cX2_begin 17 = .ok (.iload_n 2, 1) := by decide +kernel
theorem dX2_begin_18 : decode cX2_begin 18 = .ok (.iload_n 2, 1) := by decide +kernel
theorem dX2_begin_19 : decode cX2_begin 19 = .ok (.aload_n 1, 1) := by decide +kernel
theorem dX2_begin_20 : decode cX2_begin 20 = .ok (.getfield 22, 3) := by decide +kernel
theorem dX2_begin_23 : decode cX2_begin 23 = .ok (.if_icmp .ge 12, 3) := by decide +kernel
theorem dX2_begin_26 : decode cX2_begin 26 = .ok (.aload_n 1, 1) := by decide +kernel
theorem dX2_begin_27 : decode cX2_begin 27 = .ok (.getfield 27, 3) := by decide +kernel
theorem dX2_begin_30 : decode cX2_begin 30 = .ok (.iload_n 2, 1) := by decide +kernel
theorem dX2_begin_31 : decode cX2_begin 31 = .ok (.iaload, 1) := by decide +kernel
theorem dX2_begin_32 : decode cX2_begin 32 = .ok (.goto 4, 3) := by decide +kernel
theorem dX2_begin_35 : decode cX2_begin 35 = .ok (.iconst 0, 1) := by decide +kernel
theorem dX2_begin_36 : decode cX2_begin 36 = .ok (.iastore, 1) := by decide +kernel
theorem dX2_begin_37 : decode cX2_begin 37 = .ok (.aload_n 0, 1) := by decide +kernel
theorem dX2_begin_38 : decode cX2_begin 38 = .ok (.getfield 15, 3) := by decide +kernel
theorem dX2_begin_41 : decode cX2_begin 41 = .ok (.iload_n 2, 1) := by decide +kernel
theorem dX2_begin_42 : decode cX2_begin 42 = .ok (.iconst 1, 1) := by decide +kernel
theorem dX2_begin_43 : decode cX2_begin 43 = .ok (.iload_n 2, 1) := by decide +kernel
theorem dX2_begin_44 : decode cX2_begin 44 = .ok (.ishl, 1) := by decide +kernel
theorem dX2_begin_45 : decode cX2_begin 45 = .ok (.iastore, 1) := by decide +kernel
theorem dX2_begin_46 : decode cX2_begin 46 = .ok (.iinc 2 1, 3) := by decide +kernel
theorem dX2_begin_49 : decode cX2_begin 49 = .ok (.goto (-42), 3) := by decide +kernel
theorem dX2_begin_52 : decode cX2_begin 52 = .ok (.return_, 1) := by decide +kernel
theorem dX2_becomes_0 : decode cX2_becomes 0 = .ok (.aload_n 1, 1) := by decide +kernel
theorem dX2_becomes_1 : decode cX2_becomes 1 = .ok (.getfield 9, 3) := by decide +kernel
theorem dX2_becomes_4 : decode cX2_becomes 4 = .ok (.iconst 0, 1) := by decide +kernel
theorem dX2_becomes_5 : decode cX2_becomes 5 = .ok (.aload_n 0, 1) := by decide +kernel
theorem dX2_becomes_6 : decode cX2_becomes 6 = .ok (.getfield 9, 3) := by decide +kernel
theorem dX2_becomes_9 : decode cX2_becomes 9 = .ok (.iconst 0, 1) := by decide +kernel
theorem dX2_becomes_10 : decode cX2_becomes 10 = .ok (.bipush 12, 2) := by decide +kernel
theorem dX2_becomes_12 : decode cX2_becomes 12 = .ok (.invokestatic 30, 3) := by decide +kernel
theorem dX2_becomes_15 : decode cX2_becomes 15 = .ok (.aload_n 1, 1) := by decide +kernel
theorem dX2_becomes_16 : decode cX2_becomes 16 = .ok (.getfield 15, 3) := by decide +kernel
theorem dX2_becomes_19 : decode cX2_becomes 19 = .ok (.iconst 0, 1) := by decide +kernel
theorem dX2_becomes_20 : decode cX2_becomes 20 = .ok (.aload_n 0, 1) := by decide +kernel
theorem dX2_becomes_21 : decode cX2_becomes 21 = .ok (.getfield 15, 3) := by decide +kernel
theorem dX2_becomes_24 : decode cX2_becomes 24 = .ok (.iconst 0, 1) := by decide +kernel
theorem dX2_becomes_25 : decode cX2_becomes 25 = .ok (.bipush 12, 2) := by decide +kernel
theorem dX2_becomes_27 : decode cX2_becomes 27 = .ok (.invokestatic 30, 3) := by decide +kernel
theorem dX2_becomes_30 : decode cX2_becomes 30 = .ok (.aload_n 0, 1) := by decide +kernel
theorem dX2_becomes_31 : decode cX2_becomes 31 = .ok (.aload_n 1, 1) := by decide +kernel
theorem dX2_becomes_32 : decode cX2_becomes 32 = .ok (.getfield 18, 3) := by decide +kernel
theorem dX2_becomes_35 : decode cX2_becomes 35 = .ok (.putfield 18, 3) := by decide +kernel
theorem dX2_becomes_38 : decode cX2_becomes 38 = .ok (.aload_n 0, 1) := by decide +kernel
theorem dX2_becomes_39 : decode cX2_becomes 39 = .ok (.aload_n 1, 1) := by decide +kernel
theorem dX2_becomes_40 : decode cX2_becomes 40 = .ok (.getfield 36, 3) := by decide +kernel
theorem dX2_becomes_43 : decode cX2_becomes 43 = .ok (.putfield 36, 3) := by decide +kernel
theorem dX2_becomes_46 : decode cX2_becomes 46 = .ok (.return_, 1) := by decide +kernel
theorem dX2_partsAt_0 : decode cX2_partsAt 0 = .ok (.iconst 0, 1) := by decide +kernel
theorem dX2_partsAt_1 : decode cX2_partsAt 1 = .ok (.istore_n 3, 1) := by decide +kernel
theorem dX2_partsAt_2 : decode cX2_partsAt 2 = .ok (.iconst 0, 1) := by decide +kernel
theorem dX2_partsAt_3 : decode cX2_partsAt 3 = .ok (.istore 4, 2) := by decide +kernel
theorem dX2_partsAt_5 : decode cX2_partsAt 5 = .ok (.iload 4, 2) := by decide +kernel
theorem dX2_partsAt_7 : decode cX2_partsAt 7 = .ok (.iload_n 2, 1) := by decide +kernel
theorem dX2_partsAt_8 : decode cX2_partsAt 8 = .ok (.if_icmp .ge 27, 3) := by decide +kernel
theorem dX2_partsAt_11 : decode cX2_partsAt 11 = .ok (.aload_n 0, 1) := by decide +kernel
theorem dX2_partsAt_12 : decode cX2_partsAt 12 = .ok (.getfield 9, 3) := by decide +kernel
theorem dX2_partsAt_15 : decode cX2_partsAt 15 = .ok (.iload 4, 2) := by decide +kernel
theorem dX2_partsAt_17 : decode cX2_partsAt 17 = .ok (.iaload, 1) := by decide +kernel
theorem dX2_partsAt_18 : decode cX2_partsAt 18 = .ok (.iload_n 1, 1) := by decide +kernel
theorem dX2_partsAt_19 : decode cX2_partsAt 19 = .ok (.if_icmp .ne 10, 3) := by decide +kernel
theorem dX2_partsAt_22 : decode cX2_partsAt 22 = .ok (.iload_n 3, 1) := by decide +kernel
theorem dX2_partsAt_23 : decode cX2_partsAt 23 = .ok (.iconst 1, 1) := by decide +kernel
theorem dX2_partsAt_24 : decode cX2_partsAt 24 = .ok (.iload 4, 2) := by decide +kernel
theorem dX2_partsAt_26 : decode cX2_partsAt 26 = .ok (.ishl, 1) := by decide +kernel
theorem dX2_partsAt_27 : decode cX2_partsAt 27 = .ok (.ior, 1) := by decide +kernel
theorem dX2_partsAt_28 : decode cX2_partsAt 28 = .ok (.istore_n 3, 1) := by decide +kernel
theorem dX2_partsAt_29 : decode cX2_partsAt 29 = .ok (.iinc 4 1, 3) := by decide +kernel
theorem dX2_partsAt_32 : decode cX2_partsAt 32 = .ok (.goto (-27), 3) := by decide +kernel
theorem dX2_partsAt_35 : decode cX2_partsAt 35 = .ok (.iload_n 3, 1) := by decide +kernel
theorem dX2_partsAt_36 : decode cX2_partsAt 36 = .ok (.ireturn, 1) := by decide +kernel
theorem dX2_draw_0 : decode cX2_draw 0 = .ok (.aload_n 0, 1) := by decide +kernel
theorem dX2_draw_1 : decode cX2_draw 1 = .ok (.aload_n 0, 1) := by decide +kernel
theorem dX2_draw_2 : decode cX2_draw 2 = .ok (.getfield 36, 3) := by decide +kernel
theorem dX2_draw_5 : decode cX2_draw 5 = .ok (.i2l, 1) := by decide +kernel
theorem dX2_draw_6 : decode cX2_draw 6 = .ok (.ldc2_w 39, 3) := by decide +kernel
theorem dX2_draw_9 : decode cX2_draw 9 = .ok (.lmul, 1) := by decide +kernel
theorem dX2_draw_10 : decode cX2_draw 10 = .ok (.ldc2_w 41, 3) := by decide +kernel
theorem dX2_draw_13 : decode cX2_draw 13 = .ok (.ladd, 1) := by decide +kernel
theorem dX2_draw_14 : decode cX2_draw 14 = .ok (.ldc2_w 43, 3) := by decide +kernel
theorem dX2_draw_17 : decode cX2_draw 17 = .ok (.land, 1) := by decide +kernel
theorem dX2_draw_18 : decode cX2_draw 18 = .ok (.l2i, 1) := by decide +kernel
theorem dX2_draw_19 : decode cX2_draw 19 = .ok (.putfield 36, 3) := by decide +kernel
theorem dX2_draw_22 : decode cX2_draw 22 = .ok (.aload_n 0, 1) := by decide +kernel
theorem dX2_draw_23 : decode cX2_draw 23 = .ok (.getfield 36, 3) := by decide +kernel
theorem dX2_draw_26 : decode cX2_draw 26 = .ok (.ldc 45, 2) := by decide +kernel
theorem dX2_draw_28 : decode cX2_draw 28 = .ok (.idiv, 1) := by decide +kernel
theorem dX2_draw_29 : decode cX2_draw 29 = .ok (.iload_n 1, 1) := by decide +kernel
theorem dX2_draw_30 : decode cX2_draw 30 = .ok (.iconst 1, 1) := by decide +kernel
theorem dX2_draw_31 : decode cX2_draw 31 = .ok (.invokestatic 46, 3) := by decide +kernel
theorem dX2_draw_34 : decode cX2_draw 34 = .ok (.irem, 1) := by decide +kernel
theorem dX2_draw_35 : decode cX2_draw 35 = .ok (.ireturn, 1) := by decide +kernel
theorem dX3_init_0 : decode cX3_init 0 = .ok (.aload_n 0, 1) := by decide +kernel
theorem dX3_init_1 : decode cX3_init 1 = .ok (.invokespecial 3, 3) := by decide +kernel
theorem dX3_init_4 : decode cX3_init 4 = .ok (.aload_n 0, 1) := by decide +kernel
theorem dX3_init_5 : decode cX3_init 5 = .ok (.bipush 9, 2) := by decide +kernel
theorem dX3_init_7 : decode cX3_init 7 = .ok (.newarray .int, 2) := by decide +kernel
theorem dX3_init_9 : decode cX3_init 9 = .ok (.putfield 9, 3) := by decide +kernel
theorem dX3_init_12 : decode cX3_init 12 = .ok (.aload_n 0, 1) := by decide +kernel
theorem dX3_init_13 : decode cX3_init 13 = .ok (.bipush 9, 2) := by decide +kernel
theorem dX3_init_15 : decode cX3_init 15 = .ok (.newarray .int, 2) := by decide +kernel
theorem dX3_init_17 : decode cX3_init 17 = .ok (.putfield 15, 3) := by decide +kernel
theorem dX3_init_20 : decode cX3_init 20 = .ok (.aload_n 0, 1) := by decide +kernel
theorem dX3_init_21 : decode cX3_init 21 = .ok (.iconst 4, 1) := by decide +kernel
theorem dX3_init_22 : decode cX3_init 22 = .ok (.bipush 9, 2) := by decide +kernel
theorem dX3_init_24 : decode cX3_init 24 = .ok (.multianewarray 18 2, 4) := by decide +kernel
theorem dX3_init_28 : decode cX3_init 28 = .ok (.putfield 20, 3) := by decide +kernel
theorem dX3_init_31 : decode cX3_init 31 = .ok (.aload_n 0, 1) := by decide +kernel
theorem dX3_init_32 : decode cX3_init 32 = .ok (.bipush 9, 2) := by decide +kernel
theorem dX3_init_34 : decode cX3_init 34 = .ok (.bipush 9, 2) := by decide +kernel
theorem dX3_init_36 : decode cX3_init 36 = .ok (.multianewarray 18 2, 4) := by decide +kernel
theorem dX3_init_40 : decode cX3_init 40 = .ok (.putfield 23, 3) := by decide +kernel
theorem dX3_init_43 : decode cX3_init 43 = .ok (.aload_n 0, 1) := by decide +kernel
theorem dX3_init_44 : decode cX3_init 44 = .ok (.bipush 12, 2) := by decide +kernel
theorem dX3_init_46 : decode cX3_init 46 = .ok (.newarray .int, 2) := by decide +kernel
theorem dX3_init_48 : decode cX3_init 48 = .ok (.putfield 26, 3) := by decide +kernel
theorem dX3_init_51 : decode cX3_init 51 = .ok (.aload_n 0, 1) := by decide +kernel
theorem dX3_init_52 : decode cX3_init 52 = .ok (.bipush 12, 2) := by decide +kernel
theorem dX3_init_54 : decode cX3_init 54 = .ok (.newarray .int, 2) := by decide +kernel
theorem dX3_init_56 : decode cX3_init 56 = .ok (.putfield 29, 3) := by decide +kernel
theorem dX3_init_59 : decode cX3_init 59 = .ok (.aload_n 0, 1) := by decide +kernel
theorem dX3_init_60 : decode cX3_init 60 = .ok (.bipush 12, 2) := by decide +kernel
theorem dX3_init_62 : decode cX3_init 62 = .ok (.newarray .int, 2) := by decide +kernel
theorem dX3_init_64 : decode cX3_init 64 = .ok (.putfield 32, 3) := by decide +kernel
theorem dX3_init_67 : decode cX3_init 67 = .ok (.aload_n 0, 1) := by decide +kernel
theorem dX3_init_68 : decode cX3_init 68 = .ok (.bipush 12, 2) := by decide +kernel
theorem dX3_init_70 : decode cX3_init 70 = .ok (.newarray .int, 2) := by decide +kernel
theorem dX3_init_72 : decode cX3_init 72 = .ok (.putfield 35, 3) := by decide +kernel
theorem dX3_init_75 : decode cX3_init 75 = .ok (.return_, 1) := by decide +kernel
theorem dX3_learn_0 : decode cX3_learn 0 = .ok (.aload_n 0, 1) := by decide +kernel
theorem dX3_learn_1 : decode cX3_learn 1 = .ok (.invokevirtual 38, 3) := by decide +kernel
theorem dX3_learn_4 : decode cX3_learn 4 = .ok (.iconst 0, 1) := by decide +kernel
theorem dX3_learn_5 : decode cX3_learn 5 = .ok (.istore_n 2, 1) := by decide +kernel
theorem dX3_learn_6 : decode cX3_learn 6 = .ok (.iload_n 2, 1) := by decide +kernel
theorem dX3_learn_7 : decode cX3_learn 7 = .ok (.sipush 600, 3) := by decide +kernel
theorem dX3_learn_10 : decode cX3_learn 10 = .ok (.if_icmp .ge 71, 3) := by decide +kernel
theorem dX3_learn_13 : decode cX3_learn 13 = .ok (.aload_n 1, 1) := by decide +kernel
theorem dX3_learn_14 : decode cX3_learn 14 = .ok (.invokevirtual 41, 3) := by decide +kernel
theorem dX3_learn_17 : decode cX3_learn 17 = .ok (.ifCond .eq 64, 3) := by decide +kernel
theorem dX3_learn_20 : decode cX3_learn 20 = .ok (.aload_n 1, 1) := by decide +kernel
theorem dX3_learn_21 : decode cX3_learn 21 = .ok (.ldc 47, 2) := by decide +kernel
theorem dX3_learn_23 : decode cX3_learn 23 = .ok (.invokevirtual 49, 3) := by decide +kernel
theorem dX3_learn_26 : decode cX3_learn 26 = .ok (.ifCond .eq 11, 3) := by decide +kernel
theorem dX3_learn_29 : decode cX3_learn 29 = .ok (.aload_n 0, 1) := by decide +kernel
theorem dX3_learn_30 : decode cX3_learn 30 = .ok (.aload_n 1, 1) := by decide +kernel
theorem dX3_learn_31 : decode cX3_learn 31 = .ok (.invokevirtual 53, 3) := by decide +kernel
theorem dX3_learn_34 : decode cX3_learn 34 = .ok (.goto 41, 3) := by decide +kernel
theorem dX3_learn_37 : decode cX3_learn 37 = .ok (.aload_n 1, 1) := by decide +kernel
theorem dX3_learn_38 : decode cX3_learn 38 = .ok (.ldc 57, 2) := by decide +kernel
theorem dX3_learn_40 : decode cX3_learn 40 = .ok (.invokevirtual 49, 3) := by decide +kernel
theorem dX3_learn_43 : decode cX3_learn 43 = .ok (.ifCond .eq 11, 3) := by decide +kernel
theorem dX3_learn_46 : decode cX3_learn 46 = .ok (.aload_n 0, 1) := by decide +kernel
theorem dX3_learn_47 : decode cX3_learn 47 = .ok (.aload_n 1, 1) := by decide +kernel
theorem dX3_learn_48 : decode cX3_learn 48 = .ok (.invokevirtual 59, 3) := by decide +kernel
theorem dX3_learn_51 : decode cX3_learn 51 = .ok (.goto 24, 3) := by decide +kernel
theorem dX3_learn_54 : decode cX3_learn 54 = .ok (.aload_n 1, 1) := by decide +kernel
theorem dX3_learn_55 : decode cX3_learn 55 = .ok (.ldc 62, 2) := by decide +kernel
theorem dX3_learn_57 : decode cX3_learn 57 = .ok (.invokevirtual 49, 3) := by decide +kernel
theorem dX3_learn_60 : decode cX3_learn 60 = .ok (.ifCond .eq 11, 3) := by decide +kernel
theorem dX3_learn_63 : decode cX3_learn 63 = .ok (.aload_n 0, 1) := by decide +kernel
theorem dX3_learn_64 : decode cX3_learn 64 = .ok (.aload_n 1, 1) := by decide +kernel
theorem dX3_learn_65 : decode cX3_learn 65 = .ok (.invokevirtual 64, 3) := by decide +kernel
theorem dX3_learn_68 : decode cX3_learn 68 = .ok (.goto 7, 3) := by decide +kernel
theorem dX3_learn_71 : decode cX3_learn 71 = .ok (.aload_n 1, 1) := by decide +kernel
theorem dX3_learn_72 : decode cX3_learn 72 = .ok (.invokevirtual 67, 3) := by decide +kernel
theorem dX3_learn_75 : decode cX3_learn 75 = .ok (.iinc 2 1, 3) := by decide +kernel
theorem dX3_learn_78 : decode cX3_learn 78 = .ok (.goto (-72), 3) := by decide +kernel
theorem dX3_learn_81 : decode cX3_learn 81 = .ok (.aload_n 0, 1) := by decide +kernel
theorem dX3_learn_82 : decode cX3_learn 82 = .ok (.invokevirtual 70, 3) := by decide +kernel
theorem dX3_learn_85 : decode cX3_learn 85 = .ok (.return_, 1) := by decide +kernel
theorem dX3_allParts_0 : decode cX3_allParts 0 = .ok (.aload_n 0, 1) := by decide +kernel
theorem dX3_allParts_1 : decode cX3_allParts 1 = .ok (.getfield 73, 3) := by decide +kernel
theorem dX3_allParts_4 : decode cX3_allParts 4 = .ok (.invokestatic 77, 3) := by decide +kernel
theorem dX3_allParts_7 : decode cX3_allParts 7 = .ok (.ireturn, 1) := by decide +kernel
theorem dX3_canBeIn_0 : decode cX3_canBeIn 0 = .ok (.iconst 0, 1) := by decide +kernel
theorem dX3_canBeIn_1 : decode cX3_canBeIn 1 = .ok (.istore_n 2, 1) := by decide +kernel
theorem dX3_canBeIn_2 : decode cX3_canBeIn 2 = .ok (.iconst 0, 1) := by decide +kernel
theorem dX3_canBeIn_3 : decode cX3_canBeIn 3 = .ok (.istore_n 3, 1) := by decide +kernel
theorem dX3_canBeIn_4 : decode cX3_canBeIn 4 = .ok (.iload_n 3, 1) := by decide +kernel
theorem dX3_canBeIn_5 : decode cX3_canBeIn 5 = .ok (.aload_n 0, 1) := by decide +kernel
theorem dX3_canBeIn_6 : decode cX3_canBeIn 6 = .ok (.getfield 73, 3) := by decide +kernel
theorem dX3_canBeIn_9 : decode cX3_canBeIn 9 = .ok (.if_icmp .ge 36, 3) := by decide +kernel
theorem dX3_canBeIn_12 : decode cX3_canBeIn 12 = .ok (.iload_n 1, 1) := by decide +kernel
theorem dX3_canBeIn_13 : decode cX3_canBeIn 13 = .ok (.iload_n 3, 1) := by decide +kernel
theorem dX3_canBeIn_14 : decode cX3_canBeIn 14 = .ok (.invokestatic 81, 3) := by decide +kernel
theorem dX3_canBeIn_17 : decode cX3_canBeIn 17 = .ok (.ifCond .eq 22, 3) := by decide +kernel
theorem dX3_canBeIn_20 : decode cX3_canBeIn 20 = .ok (.aload_n 0, 1) := by decide +kernel
theorem dX3_canBeIn_21 : decode cX3_canBeIn 21 = .ok (.getfield 35, 3) := by decide +kernel
theorem dX3_canBeIn_24 : decode cX3_canBeIn 24 = .ok (.iload_n 3, 1) := by decide +kernel
theorem dX3_canBeIn_25 : decode cX3_canBeIn 25 = .ok (.iaload, 1) := by decide +kernel
theorem dX3_canBeIn_26 : decode cX3_canBeIn 26 = .ok (.iload_n 2, 1) := by decide +kernel
theorem dX3_canBeIn_27 : decode cX3_canBeIn 27 = .ok (.iconst (-1), 1) := by decide +kernel
theorem dX3_canBeIn_28 : decode cX3_canBeIn 28 = .ok (.ixor, 1) := by decide +kernel
theorem dX3_canBeIn_29 : decode cX3_canBeIn 29 = .ok (.iand, 1) := by decide +kernel
theorem dX3_canBeIn_30 : decode cX3_canBeIn 30 = .ok (.ifCond .ne 9, 3) := by decide +kernel
theorem dX3_canBeIn_33 : decode cX3_canBeIn 33 = .ok (.iload_n 2, 1) := by decide +kernel
theorem dX3_canBeIn_34 : decode cX3_canBeIn 34 = .ok (.iconst 1, 1) := by decide +kernel
theorem dX3_canBeIn_35 : decode cX3_canBeIn 35 = .ok (.iload_n 3, 1) := by decide +kernel
theorem dX3_canBeIn_36 : decode cX3_canBeIn 36 = .ok (.ishl, 1) := by decide +kernel
theorem dX3_canBeIn_37 : decode cX3_canBeIn 37 = .ok (.ior, 1) := by decide +kernel
theorem dX3_canBeIn_38 : decode cX3_canBeIn 38 = .ok (.istore_n 2, 1) := by decide +kernel
theorem dX3_canBeIn_39 : decode cX3_canBeIn 39 = .ok (.iinc 3 1, 3) := by decide +kernel
theorem dX3_canBeIn_42 : decode cX3_canBeIn 42 = .ok (.goto (-38), 3) := by decide +kernel
theorem dX3_canBeIn_45 : decode cX3_canBeIn 45 = .ok (.iload_n 2, 1) := by decide +kernel
theorem dX3_canBeIn_46 : decode cX3_canBeIn 46 = .ok (.ireturn, 1) := by decide +kernel
theorem dX3_gainOf_0 : decode cX3_gainOf 0 = .ok (.iconst 0, 1) := by decide +kernel
theorem dX3_gainOf_1 : decode cX3_gainOf 1 = .ok (.istore_n 2, 1) := by decide +kernel
theorem dX3_gainOf_2 : decode cX3_gainOf 2 = .ok (.iconst 0, 1) := by decide +kernel
theorem dX3_gainOf_3 : decode cX3_gainOf 3 = .ok (.istore_n 3, 1) := by decide +kernel
theorem dX3_gainOf_4 : decode cX3_gainOf 4 = .ok (.iload_n 3, 1) := by decide +kernel
theorem dX3_gainOf_5 : decode cX3_gainOf 5 = .ok (.aload_n 0, 1) := by decide +kernel
theorem dX3_gainOf_6 : decode cX3_gainOf 6 = .ok (.getfield 73, 3) := by decide +kernel
theorem dX3_gainOf_9 : decode cX3_gainOf 9 = .ok (.if_icmp .ge 26, 3) := by decide +kernel
theorem dX3_gainOf_12 : decode cX3_gainOf 12 = .ok (.iload_n 1, 1) := by decide +kernel
theorem dX3_gainOf_13 : decode cX3_gainOf 13 = .ok (.iload_n 3, 1) := by decide +kernel
theorem dX3_gainOf_14 : decode cX3_gainOf 14 = .ok (.invokestatic 81, 3) := by decide +kernel
theorem dX3_gainOf_17 : decode cX3_gainOf 17 = .ok (.ifCond .eq 12, 3) := by decide +kernel
theorem dX3_gainOf_20 : decode cX3_gainOf 20 = .ok (.iload_n 2, 1) := by decide +kernel
theorem dX3_gainOf_21 : decode cX3_gainOf 21 = .ok (.aload_n 0, 1) := by decide +kernel
theorem dX3_gainOf_22 : decode cX3_gainOf 22 = .ok (.getfield 32, 3) := by decide +kernel
theorem dX3_gainOf_25 : decode cX3_gainOf 25 = .ok (.iload_n 3, 1) := by decide +kernel
theorem dX3_gainOf_26 : decode cX3_gainOf 26 = .ok (.iaload, 1) := by decide +kernel
theorem dX3_gainOf_27 : decode cX3_gainOf 27 = .ok (.iadd, 1) := by decide +kernel
theorem dX3_gainOf_28 : decode cX3_gainOf 28 = .ok (.istore_n 2, 1) := by decide +kernel
theorem dX3_gainOf_29 : decode cX3_gainOf 29 = .ok (.iinc 3 1, 3) := by decide +kernel
theorem dX3_gainOf_32 : decode cX3_gainOf 32 = .ok (.goto (-28), 3) := by decide +kernel
theorem dX3_gainOf_35 : decode cX3_gainOf 35 = .ok (.iload_n 2, 1) := by decide +kernel
theorem dX3_gainOf_36 : decode cX3_gainOf 36 = .ok (.ireturn, 1) := by decide +kernel
theorem dX3_shareOf_0 : decode cX3_shareOf 0 = .ok (.ldc2_w 85, 3) := by decide +kernel
theorem dX3_shareOf_3 : decode cX3_shareOf 3 = .ok (.lstore 4, 2) := by decide +kernel
theorem dX3_shareOf_5 : decode cX3_shareOf 5 = .ok (.iconst 0, 1) := by decide +kernel
theorem dX3_shareOf_6 : decode cX3_shareOf 6 = .ok (.istore 6, 2) := by decide +kernel
theorem dX3_shareOf_8 : decode cX3_shareOf 8 = .ok (.iload 6, 2) := by decide +kernel
theorem dX3_shareOf_10 : decode cX3_shareOf 10 = .ok (.aload_n 0, 1) := by decide +kernel
theorem dX3_shareOf_11 : decode cX3_shareOf 11 = .ok (.getfield 87, 3) := by decide +kernel
theorem dX3_shareOf_14 : decode cX3_shareOf 14 = .ok (.if_icmp .ge 55, 3) := by decide +kernel
theorem dX3_shareOf_17 : decode cX3_shareOf 17 = .ok (.iload 6, 2) := by decide +kernel
theorem dX3_shareOf_19 : decode cX3_shareOf 19 = .ok (.iload_n 2, 1) := by decide +kernel
theorem dX3_shareOf_20 : decode cX3_shareOf 20 = .ok (.if_icmp .eq 43, 3) := by decide +kernel
theorem dX3_shareOf_23 : decode cX3_shareOf 23 = .ok (.lload 4, 2) := by decide +kernel
theorem dX3_shareOf_25 : decode cX3_shareOf 25 = .ok (.aload_n 0, 1) := by decide +kernel
theorem dX3_shareOf_26 : decode cX3_shareOf 26 = .ok (.getfield 20, 3) := by decide +kernel
theorem dX3_shareOf_29 : decode cX3_shareOf 29 = .ok (.iload_n 3, 1) := by decide +kernel
theorem dX3_shareOf_30 : decode cX3_shareOf 30 = .ok (.aaload, 1) := by decide +kernel
theorem dX3_shareOf_31 : decode cX3_shareOf 31 = .ok (.iload 6, 2) := by decide +kernel
theorem dX3_shareOf_33 : decode cX3_shareOf 33 = .ok (.iaload, 1) := by decide +kernel
theorem dX3_shareOf_34 : decode cX3_shareOf 34 = .ok (.i2l, 1) := by decide +kernel
theorem dX3_shareOf_35 : decode cX3_shareOf 35 = .ok (.lmul, 1) := by decide +kernel
theorem dX3_shareOf_36 : decode cX3_shareOf 36 = .ok (.ldc2_w 90, 3) := by decide +kernel
theorem dX3_shareOf_39 : decode cX3_shareOf 39 = .ok (.ldiv, 1) := by decide +kernel
theorem dX3_shareOf_40 : decode cX3_shareOf 40 = .ok (.lstore 7, 2) := by decide +kernel
theorem dX3_shareOf_42 : decode cX3_shareOf 42 = .ok (.iload_n 1, 1) := by decide +kernel
theorem dX3_shareOf_43 : decode cX3_shareOf 43 = .ok (.iload 6, 2) := by decide +kernel
theorem dX3_shareOf_45 : decode cX3_shareOf 45 = .ok (.invokestatic 81, 3) := by decide +kernel
theorem dX3_shareOf_48 : decode cX3_shareOf 48 = .ok (.ifCond .eq 8, 3) := by decide +kernel
theorem dX3_shareOf_51 : decode cX3_shareOf 51 = .ok (.lload 7, 2) := by decide +kernel
theorem dX3_shareOf_53 : decode cX3_shareOf 53 = .ok (.goto 8, 3) := by decide +kernel
theorem dX3_shareOf_56 : decode cX3_shareOf 56 = .ok (.lload 4, 2) := by decide +kernel
theorem dX3_shareOf_58 : decode cX3_shareOf 58 = .ok (.lload 7, 2) := by decide +kernel
theorem dX3_shareOf_60 : decode cX3_shareOf 60 = .ok (.lsub, 1) := by decide +kernel
theorem dX3_shareOf_61 : decode cX3_shareOf 61 = .ok (.lstore 4, 2) := by decide +kernel
theorem dX3_shareOf_63 : decode cX3_shareOf 63 = .ok (.iinc 6 1, 3) := by decide +kernel
theorem dX3_shareOf_66 : decode cX3_shareOf 66 = .ok (.goto (-58), 3) := by decide +kernel
theorem dX3_shareOf_69 : decode cX3_shareOf 69 = .ok (.lload 4, 2) := by decide +kernel
theorem dX3_shareOf_71 : decode cX3_shareOf 71 = .ok (.lreturn, 1) := by decide +kernel
theorem dX3_forget_0 : decode cX3_forget 0 = .ok (.aload_n 0, 1) := by decide +kernel
theorem dX3_forget_1 : decode cX3_forget 1 = .ok (.iconst 0, 1) := by decide +kernel
theorem dX3_forget_2 : decode cX3_forget 2 = .ok (.putfield 87, 3) := by decide +kernel
theorem dX3_forget_5 : decode cX3_forget 5 = .ok (.aload_n 0, 1) := by decide +kernel
theorem dX3_forget_6 : decode cX3_forget 6 = .ok (.iconst 0, 1) := by decide +kernel
theorem dX3_forget_7 : decode cX3_forget 7 = .ok (.putfield 73, 3) := by decide +kernel
theorem dX3_forget_10 : decode cX3_forget 10 = .ok (.iconst 0, 1) := by decide +kernel
theorem dX3_forget_11 : decode cX3_forget 11 = .ok (.istore_n 1, 1) := by decide +kernel
theorem dX3_forget_12 : decode cX3_forget 12 = .ok (.iload_n 1, 1) := by decide +kernel
theorem dX3_forget_13 : decode cX3_forget 13 = .ok (.bipush 9, 2) := by decide +kernel
theorem dX3_forget_15 : decode cX3_forget 15 = .ok (.if_icmp .ge 30, 3) := by decide +kernel
theorem dX3_forget_18 : decode cX3_forget 18 = .ok (.aload_n 0, 1) := by decide +kernel
theorem dX3_forget_19 : decode cX3_forget 19 = .ok (.getfield 23, 3) := by decide +kernel
theorem dX3_forget_22 : decode cX3_forget 22 = .ok (.iload_n 1, 1) := by decide +kernel
theorem dX3_forget_23 : decode cX3_forget 23 = .ok (.aaload, 1) := by decide +kernel
theorem dX3_forget_24 : decode cX3_forget 24 = .ok (.sipush 500, 3) := by decide +kernel
theorem dX3_forget_27 : decode cX3_forget 27 = .ok (.invokestatic 92, 3) := by decide +kernel
theorem dX3_forget_30 : decode cX3_forget 30 = .ok (.aload_n 0, 1) := by decide +kernel
theorem dX3_forget_31 : decode cX3_forget 31 = .ok (.getfield 23, 3) := by decide +kernel
theorem dX3_forget_34 : decode cX3_forget 34 = .ok (.iload_n 1, 1) := by decide +kernel
theorem dX3_forget_35 : decode cX3_forget 35 = .ok (.aaload, 1) := by decide +kernel
theorem dX3_forget_36 : decode cX3_forget 36 = .ok (.iload_n 1, 1) := by decide +kernel
theorem dX3_forget_37 : decode cX3_forget 37 = .ok (.iconst 0, 1) := by decide +kernel
theorem dX3_forget_38 : decode cX3_forget 38 = .ok (.iastore, 1) := by decide +kernel
theorem dX3_forget_39 : decode cX3_forget 39 = .ok (.iinc 1 1, 3) := by decide +kernel
theorem dX3_forget_42 : decode cX3_forget 42 = .ok (.goto (-30), 3) := by decide +kernel
theorem dX3_forget_45 : decode cX3_forget 45 = .ok (.return_, 1) := by decide +kernel
theorem dX3_learnHouse_0 : decode cX3_learnHouse 0 = .ok (.aload_n 0, 1) := by decide +kernel
theorem dX3_learnHouse_1 : decode cX3_learnHouse 1 = .ok (.getfield 87, 3) := by decide +kernel
theorem dX3_learnHouse_4 : decode cX3_learnHouse 4 = .ok (.bipush 9, 2) := by decide +kernel
theorem dX3_learnHouse_6 : decode cX3_learnHouse 6 = .ok (.if_icmp .lt 13, 3) := by decide +kernel
theorem dX3_learnHouse_9 : decode cX3_learnHouse 9 = .ok (.aload_n 1, 1) := by decide +kernel
theorem dX3_learnHouse_10 : decode cX3_learnHouse 10 = .ok (.iconst 3, 1) := by decide +kernel
theorem dX3_learnHouse_11 : decode cX3_learnHouse 11 = .ok (.aload_n 1, 1) := by decide +kernel
theorem dX3_learnHouse_12 : decode cX3_learnHouse 12 = .ok (.getfield 98, 3) := by decide +kernel
theorem dX3_learnHouse_15 : decode cX3_learnHouse 15 = .ok (.invokevirtual 101, 3) := by decide +kernel
theorem dX3_learnHouse_18 : decode cX3_learnHouse 18 = .ok (.return_, 1) := by decide +kernel
theorem dX3_learnHouse_19 : decode cX3_learnHouse 19 = .ok (.aload_n 0, 1) := by decide +kernel
theorem dX3_learnHouse_20 : decode cX3_learnHouse 20 = .ok (.getfield 9, 3) := by decide +kernel
theorem dX3_learnHouse_23 : decode cX3_learnHouse 23 = .ok (.aload_n 0, 1) := by decide +kernel
theorem dX3_learnHouse_24 : decode cX3_learnHouse 24 = .ok (.getfield 87, 3) := by decide +kernel
theorem dX3_learnHouse_27 : decode cX3_learnHouse 27 = .ok (.aload_n 1, 1) := by decide +kernel
theorem dX3_learnHouse_28 : decode cX3_learnHouse 28 = .ok (.iconst 0, 1) := by decide +kernel
theorem dX3_learnHouse_29 : decode cX3_learnHouse 29 = .ok (.bipush 60, 2) := by decide +kernel
theorem dX3_learnHouse_31 : decode cX3_learnHouse 31 = .ok (.invokevirtual 105, 3) := by decide +kernel
theorem dX3_learnHouse_34 : decode cX3_learnHouse 34 = .ok (.iastore, 1) := by decide +kernel
theorem dX3_learnHouse_35 : decode cX3_learnHouse 35 = .ok (.aload_n 0, 1) := by decide +kernel
theorem dX3_learnHouse_36 : decode cX3_learnHouse 36 = .ok (.getfield 15, 3) := by decide +kernel
theorem dX3_learnHouse_39 : decode cX3_learnHouse 39 = .ok (.aload_n 0, 1) := by decide +kernel
theorem dX3_learnHouse_40 : decode cX3_learnHouse 40 = .ok (.getfield 87, 3) := by decide +kernel
theorem dX3_learnHouse_43 : decode cX3_learnHouse 43 = .ok (.aload_n 1, 1) := by decide +kernel
theorem dX3_learnHouse_44 : decode cX3_learnHouse 44 = .ok (.iconst 0, 1) := by decide +kernel
theorem dX3_learnHouse_45 : decode cX3_learnHouse 45 = .ok (.bipush 60, 2) := by decide +kernel
theorem dX3_learnHouse_47 : decode cX3_learnHouse 47 = .ok (.invokevirtual 105, 3) := by decide +kernel
theorem dX3_learnHouse_50 : decode cX3_learnHouse 50 = .ok (.iastore, 1) := by decide +kernel
theorem dX3_learnHouse_51 : decode cX3_learnHouse 51 = .ok (.iconst 0, 1) := by decide +kernel
theorem dX3_learnHouse_52 : decode cX3_learnHouse 52 = .ok (.istore_n 2, 1) := by decide +kernel
theorem dX3_learnHouse_53 : decode cX3_learnHouse 53 = .ok (.iload_n 2, 1) := by decide +kernel
theorem dX3_learnHouse_54 : decode cX3_learnHouse 54 = .ok (.iconst 4, 1) := by decide +kernel
theorem dX3_learnHouse_55 : decode cX3_learnHouse 55 = .ok (.if_icmp .ge 27, 3) := by decide +kernel
theorem dX3_learnHouse_58 : decode cX3_learnHouse 58 = .ok (.aload_n 0, 1) := by decide +kernel
theorem dX3_learnHouse_59 : decode cX3_learnHouse 59 = .ok (.getfield 20, 3) := by decide +kernel
theorem dX3_learnHouse_62 : decode cX3_learnHouse 62 = .ok (.iload_n 2, 1) := by decide +kernel
theorem dX3_learnHouse_63 : decode cX3_learnHouse 63 = .ok (.aaload, 1) := by decide +kernel
theorem dX3_learnHouse_64 : decode cX3_learnHouse 64 = .ok (.aload_n 0, 1) := by decide +kernel
theorem dX3_learnHouse_65 : decode cX3_learnHouse 65 = .ok (.getfield 87, 3) := by decide +kernel
theorem dX3_learnHouse_68 : decode cX3_learnHouse 68 = .ok (.aload_n 1, 1) := by decide +kernel
theorem dX3_learnHouse_69 : decode cX3_learnHouse 69 = .ok (.iconst 0, 1) := by decide +kernel
theorem dX3_learnHouse_70 : decode cX3_learnHouse 70 = .ok (.bipush 100, 2) := by decide +kernel
theorem dX3_learnHouse_72 : decode cX3_learnHouse 72 = .ok (.invokevirtual 105, 3) := by decide +kernel
theorem dX3_learnHouse_75 : decode cX3_learnHouse 75 = .ok (.iastore, 1) := by decide +kernel
theorem dX3_learnHouse_76 : decode cX3_learnHouse 76 = .ok (.iinc 2 1, 3) := by decide +kernel
theorem dX3_learnHouse_79 : decode cX3_learnHouse 79 = .ok (.goto (-26), 3) := by decide +kernel
theorem dX3_learnHouse_82 : decode cX3_learnHouse 82 = .ok (.aload_n 1, 1) := by decide +kernel
theorem dX3_learnHouse_83 : decode cX3_learnHouse 83 = .ok (.invokevirtual 109, 3) := by decide +kernel
theorem dX3_learnHouse_86 : decode cX3_learnHouse 86 = .ok (.aload_n 0, 1) := by decide +kernel
theorem dX3_learnHouse_87 : decode cX3_learnHouse 87 = .ok (.dup, 1) := by decide +kernel
theorem dX3_learnHouse_88 : decode cX3_learnHouse 88 = .ok (.getfield 87, 3) := by decide +kernel
theorem dX3_learnHouse_91 : decode cX3_learnHouse 91 = .ok (.iconst 1, 1) := by decide +kernel
theorem dX3_learnHouse_92 : decode cX3_learnHouse 92 = .ok (.iadd, 1) := by decide +kernel
theorem dX3_learnHouse_93 : decode cX3_learnHouse 93 = .ok (.putfield 87, 3) := by decide +kernel
theorem dX3_learnHouse_96 : decode cX3_learnHouse 96 = .ok (.return_, 1) := by decide +kernel
theorem dX3_learnWay_0 : decode cX3_learnWay 0 = .ok (.aload_n 1, 1) := by decide +kernel
theorem dX3_learnWay_1 : decode cX3_learnWay 1 = .ok (.iconst 0, 1) := by decide +kernel
theorem dX3_learnWay_2 : decode cX3_learnWay 2 = .ok (.aload_n 0, 1) := by decide +kernel
theorem dX3_learnWay_3 : decode cX3_learnWay 3 = .ok (.getfield 87, 3) := by decide +kernel
theorem dX3_learnWay_6 : decode cX3_learnWay 6 = .ok (.iconst 1, 1) := by decide +kernel
theorem dX3_learnWay_7 : decode cX3_learnWay 7 = .ok (.isub, 1) := by decide +kernel
theorem dX3_learnWay_8 : decode cX3_learnWay 8 = .ok (.invokevirtual 105, 3) := by decide +kernel
theorem dX3_learnWay_11 : decode cX3_learnWay 11 = .ok (.istore_n 2, 1) := by decide +kernel
theorem dX3_learnWay_12 : decode cX3_learnWay 12 = .ok (.aload_n 1, 1) := by decide +kernel
theorem dX3_learnWay_13 : decode cX3_learnWay 13 = .ok (.iconst 0, 1) := by decide +kernel
theorem dX3_learnWay_14 : decode cX3_learnWay 14 = .ok (.aload_n 0, 1) := by decide +kernel
theorem dX3_learnWay_15 : decode cX3_learnWay 15 = .ok (.getfield 87, 3) := by decide +kernel
theorem dX3_learnWay_18 : decode cX3_learnWay 18 = .ok (.iconst 1, 1) := by decide +kernel
theorem dX3_learnWay_19 : decode cX3_learnWay 19 = .ok (.isub, 1) := by decide +kernel
theorem dX3_learnWay_20 : decode cX3_learnWay 20 = .ok (.invokevirtual 105, 3) := by decide +kernel
theorem dX3_learnWay_23 : decode cX3_learnWay 23 = .ok (.istore_n 3, 1) := by decide +kernel
theorem dX3_learnWay_24 : decode cX3_learnWay 24 = .ok (.aload_n 1, 1) := by decide +kernel
theorem dX3_learnWay_25 : decode cX3_learnWay 25 = .ok (.invokevirtual 112, 3) := by decide +kernel
theorem dX3_learnWay_28 : decode cX3_learnWay 28 = .ok (.ifCond .eq 26, 3) := by decide +kernel
theorem dX3_learnWay_31 : decode cX3_learnWay 31 = .ok (.aload_n 0, 1) := by decide +kernel
theorem dX3_learnWay_32 : decode cX3_learnWay 32 = .ok (.getfield 23, 3) := by decide +kernel
theorem dX3_learnWay_35 : decode cX3_learnWay 35 = .ok (.iload_n 2, 1) := by decide +kernel
theorem dX3_learnWay_36 : decode cX3_learnWay 36 = .ok (.aaload, 1) := by decide +kernel
theorem dX3_learnWay_37 : decode cX3_learnWay 37 = .ok (.iload_n 3, 1) := by decide +kernel
theorem dX3_learnWay_38 : decode cX3_learnWay 38 = .ok (.iaload, 1) := by decide +kernel
theorem dX3_learnWay_39 : decode cX3_learnWay 39 = .ok (.sipush 500, 3) := by decide +kernel
theorem dX3_learnWay_42 : decode cX3_learnWay 42 = .ok (.if_icmp .ge 12, 3) := by decide +kernel
theorem dX3_learnWay_45 : decode cX3_learnWay 45 = .ok (.aload_n 1, 1) := by decide +kernel
theorem dX3_learnWay_46 : decode cX3_learnWay 46 = .ok (.iconst 4, 1) := by decide +kernel
theorem dX3_learnWay_47 : decode cX3_learnWay 47 = .ok (.aload_n 1, 1) := by decide +kernel
theorem dX3_learnWay_48 : decode cX3_learnWay 48 = .ok (.getfield 98, 3) := by decide +kernel
theorem dX3_learnWay_51 : decode cX3_learnWay 51 = .ok (.invokevirtual 101, 3) := by decide +kernel
theorem dX3_learnWay_54 : decode cX3_learnWay 54 = .ok (.aload_n 1, 1) := by decide +kernel
theorem dX3_learnWay_55 : decode cX3_learnWay 55 = .ok (.iconst 1, 1) := by decide +kernel
theorem dX3_learnWay_56 : decode cX3_learnWay 56 = .ok (.bipush 99, 2) := by decide +kernel
theorem dX3_learnWay_58 : decode cX3_learnWay 58 = .ok (.invokevirtual 105, 3) := by decide +kernel
theorem dX3_learnWay_61 : decode cX3_learnWay 61 = .ok (.istore 4, 2) := by decide +kernel
theorem dX3_learnWay_63 : decode cX3_learnWay 63 = .ok (.aload_n 1, 1) := by decide +kernel
theorem dX3_learnWay_64 : decode cX3_learnWay 64 = .ok (.invokevirtual 109, 3) := by decide +kernel
theorem dX3_learnWay_67 : decode cX3_learnWay 67 = .ok (.aload_n 1, 1) := by decide +kernel
theorem dX3_learnWay_68 : decode cX3_learnWay 68 = .ok (.invokevirtual 112, 3) := by decide +kernel
theorem dX3_learnWay_71 : decode cX3_learnWay 71 = .ok (.ifCond .eq 23, 3) := by decide +kernel
theorem dX3_learnWay_74 : decode cX3_learnWay 74 = .ok (.aload_n 0, 1) := by decide +kernel
theorem dX3_learnWay_75 : decode cX3_learnWay 75 = .ok (.getfield 23, 3) := by decide +kernel
theorem dX3_learnWay_78 : decode cX3_learnWay 78 = .ok (.iload_n 2, 1) := by decide +kernel
theorem dX3_learnWay_79 : decode cX3_learnWay 79 = .ok (.aaload, 1) := by decide +kernel
theorem dX3_learnWay_80 : decode cX3_learnWay 80 = .ok (.iload_n 3, 1) := by decide +kernel
theorem dX3_learnWay_81 : decode cX3_learnWay 81 = .ok (.iload 4, 2) := by decide +kernel
theorem dX3_learnWay_83 : decode cX3_learnWay 83 = .ok (.iastore, 1) := by decide +kernel
theorem dX3_learnWay_84 : decode cX3_learnWay 84 = .ok (.aload_n 0, 1) := by decide +kernel
theorem dX3_learnWay_85 : decode cX3_learnWay 85 = .ok (.getfield 23, 3) := by decide +kernel
theorem dX3_learnWay_88 : decode cX3_learnWay 88 = .ok (.iload_n 3, 1) := by decide +kernel
theorem dX3_learnWay_89 : decode cX3_learnWay 89 = .ok (.aaload, 1) := by decide +kernel
theorem dX3_learnWay_90 : decode cX3_learnWay 90 = .ok (.iload_n 2, 1) := by decide +kernel
theorem dX3_learnWay_91 : decode cX3_learnWay 91 = .ok (.iload 4, 2) := by decide +kernel
theorem dX3_learnWay_93 : decode cX3_learnWay 93 = .ok (.iastore, 1) := by decide +kernel
theorem dX3_learnWay_94 : decode cX3_learnWay 94 = .ok (.return_, 1) := by decide +kernel
theorem dX3_learnPart_0 : decode cX3_learnPart 0 = .ok (.aload_n 0, 1) := by decide +kernel
theorem dX3_learnPart_1 : decode cX3_learnPart 1 = .ok (.getfield 73, 3) := by decide +kernel
theorem dX3_learnPart_4 : decode cX3_learnPart 4 = .ok (.bipush 12, 2) := by decide +kernel
theorem dX3_learnPart_6 : decode cX3_learnPart 6 = .ok (.if_icmp .lt 13, 3) := by decide +kernel
theorem dX3_learnPart_9 : decode cX3_learnPart 9 = .ok (.aload_n 1, 1) := by decide +kernel
theorem dX3_learnPart_10 : decode cX3_learnPart 10 = .ok (.iconst 3, 1) := by decide +kernel
theorem dX3_learnPart_11 : decode cX3_learnPart 11 = .ok (.aload_n 1, 1) := by decide +kernel
theorem dX3_learnPart_12 : decode cX3_learnPart 12 = .ok (.getfield 98, 3) := by decide +kernel
theorem dX3_learnPart_15 : decode cX3_learnPart 15 = .ok (.invokevirtual 101, 3) := by decide +kernel
theorem dX3_learnPart_18 : decode cX3_learnPart 18 = .ok (.return_, 1) := by decide +kernel
theorem dX3_learnPart_19 : decode cX3_learnPart 19 = .ok (.aload_n 0, 1) := by decide +kernel
theorem dX3_learnPart_20 : decode cX3_learnPart 20 = .ok (.getfield 26, 3) := by decide +kernel
theorem dX3_learnPart_23 : decode cX3_learnPart 23 = .ok (.aload_n 0, 1) := by decide +kernel
theorem dX3_learnPart_24 : decode cX3_learnPart 24 = .ok (.getfield 73, 3) := by decide +kernel
theorem dX3_learnPart_27 : decode cX3_learnPart 27 = .ok (.aload_n 1, 1) := by decide +kernel
theorem dX3_learnPart_28 : decode cX3_learnPart 28 = .ok (.iconst 0, 1) := by decide +kernel
theorem dX3_learnPart_29 : decode cX3_learnPart 29 = .ok (.aload_n 0, 1) := by decide +kernel
theorem dX3_learnPart_30 : decode cX3_learnPart 30 = .ok (.getfield 87, 3) := by decide +kernel
theorem dX3_learnPart_33 : decode cX3_learnPart 33 = .ok (.iconst 1, 1) := by decide +kernel
theorem dX3_learnPart_34 : decode cX3_learnPart 34 = .ok (.isub, 1) := by decide +kernel
theorem dX3_learnPart_35 : decode cX3_learnPart 35 = .ok (.invokevirtual 105, 3) := by decide +kernel
theorem dX3_learnPart_38 : decode cX3_learnPart 38 = .ok (.iastore, 1) := by decide +kernel
theorem dX3_learnPart_39 : decode cX3_learnPart 39 = .ok (.aload_n 0, 1) := by decide +kernel
theorem dX3_learnPart_40 : decode cX3_learnPart 40 = .ok (.getfield 29, 3) := by decide +kernel
theorem dX3_learnPart_43 : decode cX3_learnPart 43 = .ok (.aload_n 0, 1) := by decide +kernel
theorem dX3_learnPart_44 : decode cX3_learnPart 44 = .ok (.getfield 73, 3) := by decide +kernel
theorem dX3_learnPart_47 : decode cX3_learnPart 47 = .ok (.aload_n 1, 1) := by decide +kernel
theorem dX3_learnPart_48 : decode cX3_learnPart 48 = .ok (.iconst 0, 1) := by decide +kernel
theorem dX3_learnPart_49 : decode cX3_learnPart 49 = .ok (.bipush 60, 2) := by decide +kernel
theorem dX3_learnPart_51 : decode cX3_learnPart 51 = .ok (.invokevirtual 105, 3) := by decide +kernel
theorem dX3_learnPart_54 : decode cX3_learnPart 54 = .ok (.iastore, 1) := by decide +kernel
theorem dX3_learnPart_55 : decode cX3_learnPart 55 = .ok (.aload_n 0, 1) := by decide +kernel
theorem dX3_learnPart_56 : decode cX3_learnPart 56 = .ok (.getfield 32, 3) := by decide +kernel
theorem dX3_learnPart_59 : decode cX3_learnPart 59 = .ok (.aload_n 0, 1) := by decide +kernel
theorem dX3_learnPart_60 : decode cX3_learnPart 60 = .ok (.getfield 73, 3) := by decide +kernel
theorem dX3_learnPart_63 : decode cX3_learnPart 63 = .ok (.aload_n 1, 1) := by decide +kernel
theorem dX3_learnPart_64 : decode cX3_learnPart 64 = .ok (.iconst 0, 1) := by decide +kernel
theorem dX3_learnPart_65 : decode cX3_learnPart 65 = .ok (.bipush 99, 2) := by decide +kernel
theorem dX3_learnPart_67 : decode cX3_learnPart 67 = .ok (.invokevirtual 105, 3) := by decide +kernel
theorem dX3_learnPart_70 : decode cX3_learnPart 70 = .ok (.iastore, 1) := by decide +kernel
theorem dX3_learnPart_71 : decode cX3_learnPart 71 = .ok (.aload_n 0, 1) := by decide +kernel
theorem dX3_learnPart_72 : decode cX3_learnPart 72 = .ok (.getfield 35, 3) := by decide +kernel
theorem dX3_learnPart_75 : decode cX3_learnPart 75 = .ok (.aload_n 0, 1) := by decide +kernel
theorem dX3_learnPart_76 : decode cX3_learnPart 76 = .ok (.getfield 73, 3) := by decide +kernel
theorem dX3_learnPart_79 : decode cX3_learnPart 79 = .ok (.aload_n 1, 1) := by decide +kernel
theorem dX3_learnPart_80 : decode cX3_learnPart 80 = .ok (.ldc 115, 2) := by decide +kernel
theorem dX3_learnPart_82 : decode cX3_learnPart 82 = .ok (.invokevirtual 49, 3) := by decide +kernel
theorem dX3_learnPart_85 : decode cX3_learnPart 85 = .ok (.ifCond .eq 11, 3) := by decide +kernel
theorem dX3_learnPart_88 : decode cX3_learnPart 88 = .ok (.aload_n 0, 1) := by decide +kernel
theorem dX3_learnPart_89 : decode cX3_learnPart 89 = .ok (.aload_n 1, 1) := by decide +kernel
theorem dX3_learnPart_90 : decode cX3_learnPart 90 = .ok (.invokevirtual 117, 3) := by decide +kernel
theorem dX3_learnPart_93 : decode cX3_learnPart 93 = .ok (.goto 4, 3) := by decide +kernel
theorem dX3_learnPart_96 : decode cX3_learnPart 96 = .ok (.iconst 0, 1) := by decide +kernel
theorem dX3_learnPart_97 : decode cX3_learnPart 97 = .ok (.iastore, 1) := by decide +kernel
theorem dX3_learnPart_98 : decode cX3_learnPart 98 = .ok (.aload_n 1, 1) := by decide +kernel
theorem dX3_learnPart_99 : decode cX3_learnPart 99 = .ok (.invokevirtual 109, 3) := by decide +kernel
theorem dX3_learnPart_102 : decode cX3_learnPart 102 = .ok (.aload_n 0, 1) := by decide +kernel
theorem dX3_learnPart_103 : decode cX3_learnPart 103 = .ok (.dup, 1) := by decide +kernel
theorem dX3_learnPart_104 : decode cX3_learnPart 104 = .ok (.getfield 73, 3) := by decide +kernel
theorem dX3_learnPart_107 : decode cX3_learnPart 107 = .ok (.iconst 1, 1) := by decide +kernel
theorem dX3_learnPart_108 : decode cX3_learnPart 108 = .ok (.iadd, 1) := by decide +kernel
theorem dX3_learnPart_109 : decode cX3_learnPart 109 = .ok (.putfield 73, 3) := by decide +kernel
theorem dX3_learnPart_112 : decode cX3_learnPart 112 = .ok (.return_, 1) := by decide +kernel
theorem dX3_learnBehind_0 : decode cX3_learnBehind 0 = .ok (.iconst 0, 1) := by decide +kernel
theorem dX3_learnBehind_1 : decode cX3_learnBehind 1 = .ok (.istore_n 2, 1) := by decide +kernel
theorem dX3_learnBehind_2 : decode cX3_learnBehind 2 = .ok (.iconst 0, 1) := by decide +kernel
theorem dX3_learnBehind_3 : decode cX3_learnBehind 3 = .ok (.istore_n 3, 1) := by decide +kernel
theorem dX3_learnBehind_4 : decode cX3_learnBehind 4 = .ok (.iload_n 3, 1) := by decide +kernel
theorem dX3_learnBehind_5 : decode cX3_learnBehind 5 = .ok (.bipush 12, 2) := by decide +kernel
theorem dX3_learnBehind_7 : decode cX3_learnBehind 7 = .ok (.if_icmp .ge 73, 3) := by decide +kernel
theorem dX3_learnBehind_10 : decode cX3_learnBehind 10 = .ok (.aload_n 1, 1) := by decide +kernel
theorem dX3_learnBehind_11 : decode cX3_learnBehind 11 = .ok (.invokevirtual 112, 3) := by decide +kernel
theorem dX3_learnBehind_14 : decode cX3_learnBehind 14 = .ok (.ifCond .eq 66, 3) := by decide +kernel
theorem dX3_learnBehind_17 : decode cX3_learnBehind 17 = .ok (.aload_n 1, 1) := by decide +kernel
theorem dX3_learnBehind_18 : decode cX3_learnBehind 18 = .ok (.iconst 0, 1) := by decide +kernel
theorem dX3_learnBehind_19 : decode cX3_learnBehind 19 = .ok (.aload_n 0, 1) := by decide +kernel
theorem dX3_learnBehind_20 : decode cX3_learnBehind 20 = .ok (.getfield 73, 3) := by decide +kernel
theorem dX3_learnBehind_23 : decode cX3_learnBehind 23 = .ok (.iconst 1, 1) := by decide +kernel
theorem dX3_learnBehind_24 : decode cX3_learnBehind 24 = .ok (.isub, 1) := by decide +kernel
theorem dX3_learnBehind_25 : decode cX3_learnBehind 25 = .ok (.invokevirtual 105, 3) := by decide +kernel
theorem dX3_learnBehind_28 : decode cX3_learnBehind 28 = .ok (.istore 4, 2) := by decide +kernel
theorem dX3_learnBehind_30 : decode cX3_learnBehind 30 = .ok (.aload_n 1, 1) := by decide +kernel
theorem dX3_learnBehind_31 : decode cX3_learnBehind 31 = .ok (.invokevirtual 112, 3) := by decide +kernel
theorem dX3_learnBehind_34 : decode cX3_learnBehind 34 = .ok (.ifCond .eq 21, 3) := by decide +kernel
theorem dX3_learnBehind_37 : decode cX3_learnBehind 37 = .ok (.iload_n 2, 1) := by decide +kernel
theorem dX3_learnBehind_38 : decode cX3_learnBehind 38 = .ok (.iload 4, 2) := by decide +kernel
theorem dX3_learnBehind_40 : decode cX3_learnBehind 40 = .ok (.invokestatic 81, 3) := by decide +kernel
theorem dX3_learnBehind_43 : decode cX3_learnBehind 43 = .ok (.ifCond .eq 12, 3) := by decide +kernel
theorem dX3_learnBehind_46 : decode cX3_learnBehind 46 = .ok (.aload_n 1, 1) := by decide +kernel
theorem dX3_learnBehind_47 : decode cX3_learnBehind 47 = .ok (.iconst 4, 1) := by decide +kernel
theorem dX3_learnBehind_48 : decode cX3_learnBehind 48 = .ok (.aload_n 1, 1) := by decide +kernel
theorem dX3_learnBehind_49 : decode cX3_learnBehind 49 = .ok (.getfield 98, 3) := by decide +kernel
theorem dX3_learnBehind_52 : decode cX3_learnBehind 52 = .ok (.invokevirtual 101, 3) := by decide +kernel
theorem dX3_learnBehind_55 : decode cX3_learnBehind 55 = .ok (.iload_n 2, 1) := by decide +kernel
theorem dX3_learnBehind_56 : decode cX3_learnBehind 56 = .ok (.iconst 1, 1) := by decide +kernel
theorem dX3_learnBehind_57 : decode cX3_learnBehind 57 = .ok (.iload 4, 2) := by decide +kernel
theorem dX3_learnBehind_59 : decode cX3_learnBehind 59 = .ok (.ishl, 1) := by decide +kernel
theorem dX3_learnBehind_60 : decode cX3_learnBehind 60 = .ok (.ior, 1) := by decide +kernel
theorem dX3_learnBehind_61 : decode cX3_learnBehind 61 = .ok (.istore_n 2, 1) := by decide +kernel
theorem dX3_learnBehind_62 : decode cX3_learnBehind 62 = .ok (.aload_n 1, 1) := by decide +kernel
theorem dX3_learnBehind_63 : decode cX3_learnBehind 63 = .ok (.bipush 44, 2) := by decide +kernel
theorem dX3_learnBehind_65 : decode cX3_learnBehind 65 = .ok (.invokevirtual 121, 3) := by decide +kernel
theorem dX3_learnBehind_68 : decode cX3_learnBehind 68 = .ok (.ifCond .ne 6, 3) := by decide +kernel
theorem dX3_learnBehind_71 : decode cX3_learnBehind 71 = .ok (.goto 9, 3) := by decide +kernel
theorem dX3_learnBehind_74 : decode cX3_learnBehind 74 = .ok (.iinc 3 1, 3) := by decide +kernel
theorem dX3_learnBehind_77 : decode cX3_learnBehind 77 = .ok (.goto (-73), 3) := by decide +kernel
theorem dX3_learnBehind_80 : decode cX3_learnBehind 80 = .ok (.iload_n 2, 1) := by decide +kernel
theorem dX3_learnBehind_81 : decode cX3_learnBehind 81 = .ok (.ireturn, 1) := by decide +kernel
theorem dX3_shortenWays_0 : decode cX3_shortenWays 0 = .ok (.iconst 0, 1) := by decide +kernel
theorem dX3_shortenWays_1 : decode cX3_shortenWays 1 = .ok (.istore_n 1, 1) := by decide +kernel
theorem dX3_shortenWays_2 : decode cX3_shortenWays 2 = .ok (.iload_n 1, 1) := by decide +kernel
theorem dX3_shortenWays_3 : decode cX3_shortenWays 3 = .ok (.aload_n 0, 1) := by decide +kernel
theorem dX3_shortenWays_4 : decode cX3_shortenWays 4 = .ok (.getfield 87, 3) := by decide +kernel
theorem dX3_shortenWays_7 : decode cX3_shortenWays 7 = .ok (.if_icmp .ge 77, 3) := by decide +kernel
theorem dX3_shortenWays_10 : decode cX3_shortenWays 10 = .ok (.iconst 0, 1) := by decide +kernel
theorem dX3_shortenWays_11 : decode cX3_shortenWays 11 = .ok (.istore_n 2, 1) := by decide +kernel
theorem dX3_shortenWays_12 : decode cX3_shortenWays 12 = .ok (.iload_n 2, 1) := by decide +kernel
theorem dX3_shortenWays_13 : decode cX3_shortenWays 13 = .ok (.aload_n 0, 1) := by decide +kernel
theorem dX3_shortenWays_14 : decode cX3_shortenWays 14 = .ok (.getfield 87, 3) := by decide +kernel
theorem dX3_shortenWays_17 : decode cX3_shortenWays 17 = .ok (.if_icmp .ge 61, 3) := by decide +kernel
theorem dX3_shortenWays_20 : decode cX3_shortenWays 20 = .ok (.iconst 0, 1) := by decide +kernel
theorem dX3_shortenWays_21 : decode cX3_shortenWays 21 = .ok (.istore_n 3, 1) := by decide +kernel
theorem dX3_shortenWays_22 : decode cX3_shortenWays 22 = .ok (.iload_n 3, 1) := by decide +kernel
theorem dX3_shortenWays_23 : decode cX3_shortenWays 23 = .ok (.aload_n 0, 1) := by decide +kernel
theorem dX3_shortenWays_24 : decode cX3_shortenWays 24 = .ok (.getfield 87, 3) := by decide +kernel
theorem dX3_shortenWays_27 : decode cX3_shortenWays 27 = .ok (.if_icmp .ge 45, 3) := by decide +kernel
theorem dX3_shortenWays_30 : decode cX3_shortenWays 30 = .ok (.aload_n 0, 1) := by decide +kernel
theorem dX3_shortenWays_31 : decode cX3_shortenWays 31 = .ok (.getfield 23, 3) := by decide +kernel
theorem dX3_shortenWays_34 : decode cX3_shortenWays 34 = .ok (.iload_n 2, 1) := by decide +kernel
theorem dX3_shortenWays_35 : decode cX3_shortenWays 35 = .ok (.aaload, 1) := by decide +kernel
theorem dX3_shortenWays_36 : decode cX3_shortenWays 36 = .ok (.iload_n 3, 1) := by decide +kernel
theorem dX3_shortenWays_37 : decode cX3_shortenWays 37 = .ok (.aload_n 0, 1) := by decide +kernel
theorem dX3_shortenWays_38 : decode cX3_shortenWays 38 = .ok (.getfield 23, 3) := by decide +kernel
theorem dX3_shortenWays_41 : decode cX3_shortenWays 41 = .ok (.iload_n 2, 1) := by decide +kernel
theorem dX3_shortenWays_42 : decode cX3_shortenWays 42 = .ok (.aaload, 1) := by decide +kernel
theorem dX3_shortenWays_43 : decode cX3_shortenWays 43 = .ok (.iload_n 3, 1) := by decide +kernel
theorem dX3_shortenWays_44 : decode cX3_shortenWays 44 = .ok (.iaload, 1) := by decide +kernel
theorem dX3_shortenWays_45 : decode cX3_shortenWays 45 = .ok (.aload_n 0, 1) := by decide +kernel
theorem dX3_shortenWays_46 : decode cX3_shortenWays 46 = .ok (.getfield 23, 3) := by decide +kernel
theorem dX3_shortenWays_49 : decode cX3_shortenWays 49 = .ok (.iload_n 2, 1) := by decide +kernel
theorem dX3_shortenWays_50 : decode cX3_shortenWays 50 = .ok (.aaload, 1) := by decide +kernel
theorem dX3_shortenWays_51 : decode cX3_shortenWays 51 = .ok (.iload_n 1, 1) := by decide +kernel
theorem dX3_shortenWays_52 : decode cX3_shortenWays 52 = .ok (.iaload, 1) := by decide +kernel
theorem dX3_shortenWays_53 : decode cX3_shortenWays 53 = .ok (.aload_n 0, 1) := by decide +kernel
theorem dX3_shortenWays_54 : decode cX3_shortenWays 54 = .ok (.getfield 23, 3) := by decide +kernel
theorem dX3_shortenWays_57 : decode cX3_shortenWays 57 = .ok (.iload_n 1, 1) := by decide +kernel
theorem dX3_shortenWays_58 : decode cX3_shortenWays 58 = .ok (.aaload, 1) := by decide +kernel
theorem dX3_shortenWays_59 : decode cX3_shortenWays 59 = .ok (.iload_n 3, 1) := by decide +kernel
theorem dX3_shortenWays_60 : decode cX3_shortenWays 60 = .ok (.iaload, 1) := by decide +kernel
theorem dX3_shortenWays_61 : decode cX3_shortenWays 61 = .ok (.iadd, 1) := by decide +kernel
theorem dX3_shortenWays_62 : decode cX3_shortenWays 62 = .ok (.invokestatic 125, 3) := by decide +kernel
theorem dX3_shortenWays_65 : decode cX3_shortenWays 65 = .ok (.iastore, 1) := by decide +kernel
theorem dX3_shortenWays_66 : decode cX3_shortenWays 66 = .ok (.iinc 3 1, 3) := by decide +kernel
theorem dX3_shortenWays_69 : decode cX3_shortenWays 69 = .ok (.goto (-47), 3) := by decide +kernel
theorem dX3_shortenWays_72 : decode cX3_shortenWays 72 = .ok (.iinc 2 1, 3) := by decide +kernel
theorem dX3_shortenWays_75 : decode cX3_shortenWays 75 = .ok (.goto (-63), 3) := by decide +kernel
theorem dX3_shortenWays_78 : decode cX3_shortenWays 78 = .ok (.iinc 1 1, 3) := by decide +kernel
theorem dX3_shortenWays_81 : decode cX3_shortenWays 81 = .ok (.goto (-79), 3) := by decide +kernel
theorem dX3_shortenWays_84 : decode cX3_shortenWays 84 = .ok (.return_, 1) := by decide +kernel
theorem dX4_init_0 : decode cX4_init 0 = .ok (.aload_n 0, 1) := by decide +kernel
theorem dX4_init_1 : decode cX4_init 1 = .ok (.invokespecial 3, 3) := by decide +kernel
theorem dX4_init_4 : decode cX4_init 4 = .ok (.aload_n 0, 1) := by decide +kernel
theorem dX4_init_5 : decode cX4_init 5 = .ok (.bipush 20, 2) := by decide +kernel
theorem dX4_init_7 : decode cX4_init 7 = .ok (.newarray .int, 2) := by decide +kernel
theorem dX4_init_9 : decode cX4_init 9 = .ok (.putfield 9, 3) := by decide +kernel
theorem dX4_init_12 : decode cX4_init 12 = .ok (.aload_n 0, 1) := by decide +kernel
theorem dX4_init_13 : decode cX4_init 13 = .ok (.bipush 20, 2) := by decide +kernel
theorem dX4_init_15 : decode cX4_init 15 = .ok (.newarray .int, 2) := by decide +kernel
theorem dX4_init_17 : decode cX4_init 17 = .ok (.putfield 15, 3) := by decide +kernel
theorem dX4_init_20 : decode cX4_init 20 = .ok (.return_, 1) := by decide +kernel
theorem dX4_learn_0 : decode cX4_learn 0 = .ok (.aload_n 0, 1) := by decide +kernel
theorem dX4_learn_1 : decode cX4_learn 1 = .ok (.iconst 0, 1) := by decide +kernel
theorem dX4_learn_2 : decode cX4_learn 2 = .ok (.putfield 18, 3) := by decide +kernel
theorem dX4_learn_5 : decode cX4_learn 5 = .ok (.iconst 0, 1) := by decide +kernel
theorem dX4_learn_6 : decode cX4_learn 6 = .ok (.istore_n 3, 1) := by decide +kernel
theorem dX4_learn_7 : decode cX4_learn 7 = .ok (.iload_n 3, 1) := by decide +kernel
theorem dX4_learn_8 : decode cX4_learn 8 = .ok (.sipush 600, 3) := by decide +kernel
theorem dX4_learn_11 : decode cX4_learn 11 = .ok (.if_icmp .ge 38, 3) := by decide +kernel
theorem dX4_learn_14 : decode cX4_learn 14 = .ok (.aload_n 1, 1) := by decide +kernel
theorem dX4_learn_15 : decode cX4_learn 15 = .ok (.invokevirtual 22, 3) := by decide +kernel
theorem dX4_learn_18 : decode cX4_learn 18 = .ok (.ifCond .eq 31, 3) := by decide +kernel
theorem dX4_learn_21 : decode cX4_learn 21 = .ok (.aload_n 1, 1) := by decide +kernel
theorem dX4_learn_22 : decode cX4_learn 22 = .ok (.ldc 28, 2) := by decide +kernel
theorem dX4_learn_24 : decode cX4_learn 24 = .ok (.invokevirtual 30, 3) := by decide +kernel
theorem dX4_learn_27 : decode cX4_learn 27 = .ok (.ifCond .eq 12, 3) := by decide +kernel
theorem dX4_learn_30 : decode cX4_learn 30 = .ok (.aload_n 0, 1) := by decide +kernel
theorem dX4_learn_31 : decode cX4_learn 31 = .ok (.aload_n 1, 1) := by decide +kernel
theorem dX4_learn_32 : decode cX4_learn 32 = .ok (.iload_n 2, 1) := by decide +kernel
theorem dX4_learn_33 : decode cX4_learn 33 = .ok (.invokevirtual 34, 3) := by decide +kernel
theorem dX4_learn_36 : decode cX4_learn 36 = .ok (.goto 7, 3) := by decide +kernel
theorem dX4_learn_39 : decode cX4_learn 39 = .ok (.aload_n 1, 1) := by decide +kernel
theorem dX4_learn_40 : decode cX4_learn 40 = .ok (.invokevirtual 38, 3) := by decide +kernel
theorem dX4_learn_43 : decode cX4_learn 43 = .ok (.iinc 3 1, 3) := by decide +kernel
theorem dX4_learn_46 : decode cX4_learn 46 = .ok (.goto (-39), 3) := by decide +kernel
theorem dX4_learn_49 : decode cX4_learn 49 = .ok (.return_, 1) := by decide +kernel
theorem dX4_learnWake_0 : decode cX4_learnWake 0 = .ok (.aload_n 0, 1) := by decide +kernel
theorem dX4_learnWake_1 : decode cX4_learnWake 1 = .ok (.getfield 18, 3) := by decide +kernel
theorem dX4_learnWake_4 : decode cX4_learnWake 4 = .ok (.bipush 20, 2) := by decide +kernel
theorem dX4_learnWake_6 : decode cX4_learnWake 6 = .ok (.if_icmp .lt 13, 3) := by decide +kernel
theorem dX4_learnWake_9 : decode cX4_learnWake 9 = .ok (.aload_n 1, 1) := by decide +kernel
theorem dX4_learnWake_10 : decode cX4_learnWake 10 = .ok (.iconst 3, 1) := by decide +kernel
theorem dX4_learnWake_11 : decode cX4_learnWake 11 = .ok (.aload_n 1, 1) := by decide +kernel
theorem dX4_learnWake_12 : decode cX4_learnWake 12 = .ok (.getfield 41, 3) := by decide +kernel
theorem dX4_learnWake_15 : decode cX4_learnWake 15 = .ok (.invokevirtual 44, 3) := by decide +kernel
theorem dX4_learnWake_18 : decode cX4_learnWake 18 = .ok (.return_, 1) := by decide +kernel
theorem dX4_learnWake_19 : decode cX4_learnWake 19 = .ok (.aload_n 1, 1) := by decide +kernel
theorem dX4_learnWake_20 : decode cX4_learnWake 20 = .ok (.iconst 0, 1) := by decide +kernel
theorem dX4_learnWake_21 : decode cX4_learnWake 21 = .ok (.iload_n 2, 1) := by decide +kernel
theorem dX4_learnWake_22 : decode cX4_learnWake 22 = .ok (.iconst 1, 1) := by decide +kernel
theorem dX4_learnWake_23 : decode cX4_learnWake 23 = .ok (.isub, 1) := by decide +kernel
theorem dX4_learnWake_24 : decode cX4_learnWake 24 = .ok (.invokevirtual 48, 3) := by decide +kernel
theorem dX4_learnWake_27 : decode cX4_learnWake 27 = .ok (.istore_n 3, 1) := by decide +kernel
theorem dX4_learnWake_28 : decode cX4_learnWake 28 = .ok (.aload_n 1, 1) := by decide +kernel
theorem dX4_learnWake_29 : decode cX4_learnWake 29 = .ok (.iconst 0, 1) := by decide +kernel
theorem dX4_learnWake_30 : decode cX4_learnWake 30 = .ok (.iload_n 2, 1) := by decide +kernel
theorem dX4_learnWake_31 : decode cX4_learnWake 31 = .ok (.iconst 1, 1) := by decide +kernel
theorem dX4_learnWake_32 : decode cX4_learnWake 32 = .ok (.isub, 1) := by decide +kernel
theorem dX4_learnWake_33 : decode cX4_learnWake 33 = .ok (.invokevirtual 48, 3) := by decide +kernel
theorem dX4_learnWake_36 : decode cX4_learnWake 36 = .ok (.istore 4, 2) := by decide +kernel
theorem dX4_learnWake_38 : decode cX4_learnWake 38 = .ok (.aload_n 1, 1) := by decide +kernel
theorem dX4_learnWake_39 : decode cX4_learnWake 39 = .ok (.invokevirtual 52, 3) := by decide +kernel
theorem dX4_learnWake_42 : decode cX4_learnWake 42 = .ok (.ifCond .eq 27, 3) := by decide +kernel
theorem dX4_learnWake_45 : decode cX4_learnWake 45 = .ok (.iload_n 3, 1) := by decide +kernel
theorem dX4_learnWake_46 : decode cX4_learnWake 46 = .ok (.iload 4, 2) := by decide +kernel
theorem dX4_learnWake_48 : decode cX4_learnWake 48 = .ok (.if_icmp .eq 12, 3) := by decide +kernel
theorem dX4_learnWake_51 : decode cX4_learnWake 51 = .ok (.aload_n 0, 1) := by decide +kernel
theorem dX4_learnWake_52 : decode cX4_learnWake 52 = .ok (.iload 4, 2) := by decide +kernel
theorem dX4_learnWake_54 : decode cX4_learnWake 54 = .ok (.invokevirtual 55, 3) := by decide +kernel
theorem dX4_learnWake_57 : decode cX4_learnWake 57 = .ok (.ifCond .eq 12, 3) := by decide +kernel
theorem dX4_learnWake_60 : decode cX4_learnWake 60 = .ok (.aload_n 1, 1) := by decide +kernel
theorem dX4_learnWake_61 : decode cX4_learnWake 61 = .ok (.iconst 4, 1) := by decide +kernel
theorem dX4_learnWake_62 : decode cX4_learnWake 62 = .ok (.aload_n 1, 1) := by decide +kernel
theorem dX4_learnWake_63 : decode cX4_learnWake 63 = .ok (.getfield 41, 3) := by decide +kernel
theorem dX4_learnWake_66 : decode cX4_learnWake 66 = .ok (.invokevirtual 44, 3) := by decide +kernel
theorem dX4_learnWake_69 : decode cX4_learnWake 69 = .ok (.aload_n 1, 1) := by decide +kernel
theorem dX4_learnWake_70 : decode cX4_learnWake 70 = .ok (.invokevirtual 59, 3) := by decide +kernel
theorem dX4_learnWake_73 : decode cX4_learnWake 73 = .ok (.aload_n 0, 1) := by decide +kernel
theorem dX4_learnWake_74 : decode cX4_learnWake 74 = .ok (.getfield 9, 3) := by decide +kernel
theorem dX4_learnWake_77 : decode cX4_learnWake 77 = .ok (.aload_n 0, 1) := by decide +kernel
theorem dX4_learnWake_78 : decode cX4_learnWake 78 = .ok (.getfield 18, 3) := by decide +kernel
theorem dX4_learnWake_81 : decode cX4_learnWake 81 = .ok (.iload_n 3, 1) := by decide +kernel
theorem dX4_learnWake_82 : decode cX4_learnWake 82 = .ok (.iastore, 1) := by decide +kernel
theorem dX4_learnWake_83 : decode cX4_learnWake 83 = .ok (.aload_n 0, 1) := by decide +kernel
theorem dX4_learnWake_84 : decode cX4_learnWake 84 = .ok (.getfield 15, 3) := by decide +kernel
theorem dX4_learnWake_87 : decode cX4_learnWake 87 = .ok (.aload_n 0, 1) := by decide +kernel
theorem dX4_learnWake_88 : decode cX4_learnWake 88 = .ok (.getfield 18, 3) := by decide +kernel
theorem dX4_learnWake_91 : decode cX4_learnWake 91 = .ok (.iload 4, 2) := by decide +kernel
theorem dX4_learnWake_93 : decode cX4_learnWake 93 = .ok (.iastore, 1) := by decide +kernel
theorem dX4_learnWake_94 : decode cX4_learnWake 94 = .ok (.aload_n 0, 1) := by decide +kernel
theorem dX4_learnWake_95 : decode cX4_learnWake 95 = .ok (.dup, 1) := by decide +kernel
theorem dX4_learnWake_96 : decode cX4_learnWake 96 = .ok (.getfield 18, 3) := by decide +kernel
theorem dX4_learnWake_99 : decode cX4_learnWake 99 = .ok (.iconst 1, 1) := by decide +kernel
theorem dX4_learnWake_100 : decode cX4_learnWake 100 = .ok (.iadd, 1) := by decide +kernel
theorem dX4_learnWake_101 : decode cX4_learnWake 101 = .ok (.putfield 18, 3) := by decide +kernel
theorem dX4_learnWake_104 : decode cX4_learnWake 104 = .ok (.return_, 1) := by decide +kernel
theorem dX4_isWoken_0 : decode cX4_isWoken 0 = .ok (.iconst 0, 1) := by decide +kernel
theorem dX4_isWoken_1 : decode cX4_isWoken 1 = .ok (.istore_n 2, 1) := by decide +kernel
theorem dX4_isWoken_2 : decode cX4_isWoken 2 = .ok (.iload_n 2, 1) := by decide +kernel
theorem dX4_isWoken_3 : decode cX4_isWoken 3 = .ok (.aload_n 0, 1) := by decide +kernel
theorem dX4_isWoken_4 : decode cX4_isWoken 4 = .ok (.getfield 18, 3) := by decide +kernel
theorem dX4_isWoken_7 : decode cX4_isWoken 7 = .ok (.if_icmp .ge 21, 3) := by decide +kernel
theorem dX4_isWoken_10 : decode cX4_isWoken 10 = .ok (.aload_n 0, 1) := by decide +kernel
theorem dX4_isWoken_11 : decode cX4_isWoken 11 = .ok (.getfield 15, 3) := by decide +kernel
theorem dX4_isWoken_14 : decode cX4_isWoken 14 = .ok (.iload_n 2, 1) := by decide +kernel
theorem dX4_isWoken_15 : decode cX4_isWoken 15 = .ok (.iaload, 1) := by decide +kernel
theorem dX4_isWoken_16 : decode cX4_isWoken 16 = .ok (.iload_n 1, 1) := by decide +kernel
theorem dX4_isWoken_17 : decode cX4_isWoken 17 = .ok (.if_icmp .ne 5, 3) := by decide +kernel
theorem dX4_isWoken_20 : decode cX4_isWoken 20 = .ok (.iconst 1, 1) := by decide +kernel
theorem dX4_isWoken_21 : decode cX4_isWoken 21 = .ok (.ireturn, 1) := by decide +kernel
theorem dX4_isWoken_22 : decode cX4_isWoken 22 = .ok (.iinc 2 1, 3) := by decide +kernel
theorem dX4_isWoken_25 : decode cX4_isWoken 25 = .ok (.goto (-23), 3) := by decide +kernel
theorem dX4_isWoken_28 : decode cX4_isWoken 28 = .ok (.iconst 0, 1) := by decide +kernel
theorem dX4_isWoken_29 : decode cX4_isWoken 29 = .ok (.ireturn, 1) := by decide +kernel
theorem dX5_init_0 : decode cX5_init 0 = .ok (.aload_n 0, 1) := by decide +kernel
theorem dX5_init_1 : decode cX5_init 1 = .ok (.invokespecial 3, 3) := by decide +kernel
theorem dX5_init_4 : decode cX5_init 4 = .ok (.aload_n 0, 1) := by decide +kernel
theorem dX5_init_5 : decode cX5_init 5 = .ok (.bipush 12, 2) := by decide +kernel
theorem dX5_init_7 : decode cX5_init 7 = .ok (.newarray .int, 2) := by decide +kernel
theorem dX5_init_9 : decode cX5_init 9 = .ok (.putfield 9, 3) := by decide +kernel
theorem dX5_init_12 : decode cX5_init 12 = .ok (.aload_n 0, 1) := by decide +kernel
theorem dX5_init_13 : decode cX5_init 13 = .ok (.bipush 12, 2) := by decide +kernel
theorem dX5_init_15 : decode cX5_init 15 = .ok (.newarray .int, 2) := by decide +kernel
theorem dX5_init_17 : decode cX5_init 17 = .ok (.putfield 15, 3) := by decide +kernel
theorem dX5_init_20 : decode cX5_init 20 = .ok (.aload_n 0, 1) := by decide +kernel
theorem dX5_init_21 : decode cX5_init 21 = .ok (.iconst (-1), 1) := by decide +kernel
theorem dX5_init_22 : decode cX5_init 22 = .ok (.putfield 18, 3) := by decide +kernel
theorem dX5_init_25 : decode cX5_init 25 = .ok (.aload_n 0, 1) := by decide +kernel
theorem dX5_init_26 : decode cX5_init 26 = .ok (.bipush 12, 2) := by decide +kernel
theorem dX5_init_28 : decode cX5_init 28 = .ok (.newarray .int, 2) := by decide +kernel
theorem dX5_init_30 : decode cX5_init 30 = .ok (.putfield 22, 3) := by decide +kernel
theorem dX5_init_33 : decode cX5_init 33 = .ok (.return_, 1) := by decide +kernel
theorem dX5_gather_0 : decode cX5_gather 0 = .ok (.iconst 0, 1) := by decide +kernel
theorem dX5_gather_1 : decode cX5_gather 1 = .ok (.istore 5, 2) := by decide +kernel
theorem dX5_gather_3 : decode cX5_gather 3 = .ok (.iload 5, 2) := by decide +kernel
theorem dX5_gather_5 : decode cX5_gather 5 = .ok (.aload_n 1, 1) := by decide +kernel
theorem dX5_gather_6 : decode cX5_gather 6 = .ok (.getfield 25, 3) := by decide +kernel
theorem dX5_gather_9 : decode cX5_gather 9 = .ok (.if_icmp .ge 27, 3) := by decide +kernel
theorem dX5_gather_12 : decode cX5_gather 12 = .ok (.aload_n 0, 1) := by decide +kernel
theorem dX5_gather_13 : decode cX5_gather 13 = .ok (.getfield 9, 3) := by decide +kernel
theorem dX5_gather_16 : decode cX5_gather 16 = .ok (.iload 5, 2) := by decide +kernel
theorem dX5_gather_18 : decode cX5_gather 18 = .ok (.aload_n 2, 1) := by decide +kernel
theorem dX5_gather_19 : decode cX5_gather 19 = .ok (.aload_n 1, 1) := by decide +kernel
theorem dX5_gather_20 : decode cX5_gather 20 = .ok (.aload_n 3, 1) := by decide +kernel
theorem dX5_gather_21 : decode cX5_gather 21 = .ok (.iload 5, 2) := by decide +kernel
theorem dX5_gather_23 : decode cX5_gather 23 = .ok (.iaload, 1) := by decide +kernel
theorem dX5_gather_24 : decode cX5_gather 24 = .ok (.iload 4, 2) := by decide +kernel
theorem dX5_gather_26 : decode cX5_gather 26 = .ok (.invokevirtual 30, 3) := by decide +kernel
theorem dX5_gather_29 : decode cX5_gather 29 = .ok (.iastore, 1) := by decide +kernel
theorem dX5_gather_30 : decode cX5_gather 30 = .ok (.iinc 5 1, 3) := by decide +kernel
theorem dX5_gather_33 : decode cX5_gather 33 = .ok (.goto (-30), 3) := by decide +kernel
theorem dX5_gather_36 : decode cX5_gather 36 = .ok (.return_, 1) := by decide +kernel
theorem dX5_countNever_0 : decode cX5_countNever 0 = .ok (.iconst 0, 1) := by decide +kernel
theorem dX5_countNever_1 : decode cX5_countNever 1 = .ok (.istore_n 2, 1) := by decide +kernel
theorem dX5_countNever_2 : decode cX5_countNever 2 = .ok (.iload_n 2, 1) := by decide +kernel
theorem dX5_countNever_3 : decode cX5_countNever 3 = .ok (.iload_n 1, 1) := by decide +kernel
theorem dX5_countNever_4 : decode cX5_countNever 4 = .ok (.if_icmp .ge 24, 3) := by decide +kernel
theorem dX5_countNever_7 : decode cX5_countNever 7 = .ok (.aload_n 0, 1) := by decide +kernel
theorem dX5_countNever_8 : decode cX5_countNever 8 = .ok (.getfield 9, 3) := by decide +kernel
theorem dX5_countNever_11 : decode cX5_countNever 11 = .ok (.iload_n 2, 1) := by decide +kernel
theorem dX5_countNever_12 : decode cX5_countNever 12 = .ok (.aload_n 0, 1) := by decide +kernel
theorem dX5_countNever_13 : decode cX5_countNever 13 = .ok (.getfield 9, 3) := by decide +kernel
theorem dX5_countNever_16 : decode cX5_countNever 16 = .ok (.iload_n 2, 1) := by decide +kernel
theorem dX5_countNever_17 : decode cX5_countNever 17 = .ok (.iaload, 1) := by decide +kernel
theorem dX5_countNever_18 : decode cX5_countNever 18 = .ok (.invokestatic 36, 3) := by decide +kernel
theorem dX5_countNever_21 : decode cX5_countNever 21 = .ok (.iastore, 1) := by decide +kernel
theorem dX5_countNever_22 : decode cX5_countNever 22 = .ok (.iinc 2 1, 3) := by decide +kernel
theorem dX5_countNever_25 : decode cX5_countNever 25 = .ok (.goto (-23), 3) := by decide +kernel
theorem dX5_countNever_28 : decode cX5_countNever 28 = .ok (.return_, 1) := by decide +kernel
theorem dX5_laterThan_0 : decode cX5_laterThan 0 = .ok (.iconst 0, 1) := by decide +kernel
theorem dX5_laterThan_1 : decode cX5_laterThan 1 = .ok (.istore_n 3, 1) := by decide +kernel
theorem dX5_laterThan_2 : decode cX5_laterThan 2 = .ok (.iconst 0, 1) := by decide +kernel
theorem dX5_laterThan_3 : decode cX5_laterThan 3 = .ok (.istore 4, 2) := by decide +kernel
theorem dX5_laterThan_5 : decode cX5_laterThan 5 = .ok (.iload 4, 2) := by decide +kernel
theorem dX5_laterThan_7 : decode cX5_laterThan 7 = .ok (.iload_n 2, 1) := by decide +kernel
theorem dX5_laterThan_8 : decode cX5_laterThan 8 = .ok (.if_icmp .ge 43, 3) := by decide +kernel
theorem dX5_laterThan_11 : decode cX5_laterThan 11 = .ok (.iload_n 1, 1) := by decide +kernel
theorem dX5_laterThan_12 : decode cX5_laterThan 12 = .ok (.iconst (-1), 1) := by decide +kernel
theorem dX5_laterThan_13 : decode cX5_laterThan 13 = .ok (.if_icmp .eq 32, 3) := by decide +kernel
theorem dX5_laterThan_16 : decode cX5_laterThan 16 = .ok (.aload_n 0, 1) := by decide +kernel
theorem dX5_laterThan_17 : decode cX5_laterThan 17 = .ok (.getfield 9, 3) := by decide +kernel
theorem dX5_laterThan_20 : decode cX5_laterThan 20 = .ok (.iload 4, 2) := by decide +kernel
theorem dX5_laterThan_22 : decode cX5_laterThan 22 = .ok (.iaload, 1) := by decide +kernel
theorem dX5_laterThan_23 : decode cX5_laterThan 23 = .ok (.iconst (-1), 1) := by decide +kernel
theorem dX5_laterThan_24 : decode cX5_laterThan 24 = .ok (.if_icmp .eq 14, 3) := by decide +kernel
theorem dX5_laterThan_27 : decode cX5_laterThan 27 = .ok (.iload_n 1, 1) := by decide +kernel
theorem dX5_laterThan_28 : decode cX5_laterThan 28 = .ok (.aload_n 0, 1) := by decide +kernel
theorem dX5_laterThan_29 : decode cX5_laterThan 29 = .ok (.getfield 9, 3) := by decide +kernel
theorem dX5_laterThan_32 : decode cX5_laterThan 32 = .ok (.iload 4, 2) := by decide +kernel
theorem dX5_laterThan_34 : decode cX5_laterThan 34 = .ok (.iaload, 1) := by decide +kernel
theorem dX5_laterThan_35 : decode cX5_laterThan 35 = .ok (.if_icmp .ge 10, 3) := by decide +kernel
theorem dX5_laterThan_38 : decode cX5_laterThan 38 = .ok (.iload_n 3, 1) := by decide +kernel
theorem dX5_laterThan_39 : decode cX5_laterThan 39 = .ok (.iconst 1, 1) := by decide +kernel
theorem dX5_laterThan_40 : decode cX5_laterThan 40 = .ok (.iload 4, 2) := by decide +kernel
theorem dX5_laterThan_42 : decode cX5_laterThan 42 = .ok (.ishl, 1) := by decide +kernel
theorem dX5_laterThan_43 : decode cX5_laterThan 43 = .ok (.ior, 1) := by decide +kernel
theorem dX5_laterThan_44 : decode cX5_laterThan 44 = .ok (.istore_n 3, 1) := by decide +kernel
theorem dX5_laterThan_45 : decode cX5_laterThan 45 = .ok (.iinc 4 1, 3) := by decide +kernel
theorem dX5_laterThan_48 : decode cX5_laterThan 48 = .ok (.goto (-43), 3) := by decide +kernel
theorem dX5_laterThan_51 : decode cX5_laterThan 51 = .ok (.iload_n 3, 1) := by decide +kernel
theorem dX5_laterThan_52 : decode cX5_laterThan 52 = .ok (.ireturn, 1) := by decide +kernel
theorem dX5_run_0 : decode cX5_run 0 = .ok (.aload_n 0, 1) := by decide +kernel
theorem dX5_run_1 : decode cX5_run 1 = .ok (.iconst 0, 1) := by decide +kernel
theorem dX5_run_2 : decode cX5_run 2 = .ok (.putfield 40, 3) := by decide +kernel
theorem dX5_run_5 : decode cX5_run 5 = .ok (.aload_n 0, 1) := by decide +kernel
theorem dX5_run_6 : decode cX5_run 6 = .ok (.iconst (-1), 1) := by decide +kernel
theorem dX5_run_7 : decode cX5_run 7 = .ok (.putfield 18, 3) := by decide +kernel
theorem dX5_run_10 : decode cX5_run 10 = .ok (.iconst 0, 1) := by decide +kernel
theorem dX5_run_11 : decode cX5_run 11 = .ok (.istore_n 3, 1) := by decide +kernel
theorem dX5_run_12 : decode cX5_run 12 = .ok (.iload_n 3, 1) := by decide +kernel
theorem dX5_run_13 : decode cX5_run 13 = .ok (.aload_n 1, 1) := by decide +kernel
theorem dX5_run_14 : decode cX5_run 14 = .ok (.getfield 25, 3) := by decide +kernel
theorem dX5_run_17 : decode cX5_run 17 = .ok (.if_icmp .ge 40, 3) := by decide +kernel
theorem dX5_run_20 : decode cX5_run 20 = .ok (.iload_n 2, 1) := by decide +kernel
theorem dX5_run_21 : decode cX5_run 21 = .ok (.iload_n 3, 1) := by decide +kernel
theorem dX5_run_22 : decode cX5_run 22 = .ok (.invokestatic 43, 3) := by decide +kernel
theorem dX5_run_25 : decode cX5_run 25 = .ok (.ifCond .eq 26, 3) := by decide +kernel
theorem dX5_run_28 : decode cX5_run 28 = .ok (.aload_n 0, 1) := by decide +kernel
theorem dX5_run_29 : decode cX5_run 29 = .ok (.getfield 9, 3) := by decide +kernel
theorem dX5_run_32 : decode cX5_run 32 = .ok (.iload_n 3, 1) := by decide +kernel
theorem dX5_run_33 : decode cX5_run 33 = .ok (.iaload, 1) := by decide +kernel
theorem dX5_run_34 : decode cX5_run 34 = .ok (.iconst (-1), 1) := by decide +kernel
theorem dX5_run_35 : decode cX5_run 35 = .ok (.if_icmp .ne 5, 3) := by decide +kernel
theorem dX5_run_38 : decode cX5_run 38 = .ok (.iconst (-1), 1) := by decide +kernel
theorem dX5_run_39 : decode cX5_run 39 = .ok (.ireturn, 1) := by decide +kernel
theorem dX5_run_40 : decode cX5_run 40 = .ok (.aload_n 0, 1) := by decide +kernel
theorem dX5_run_41 : decode cX5_run 41 = .ok (.aload_n 1, 1) := by decide +kernel
theorem dX5_run_42 : decode cX5_run 42 = .ok (.iload_n 3, 1) := by decide +kernel
theorem dX5_run_43 : decode cX5_run 43 = .ok (.invokevirtual 47, 3) := by decide +kernel
theorem dX5_run_46 : decode cX5_run 46 = .ok (.aload_n 0, 1) := by decide +kernel
theorem dX5_run_47 : decode cX5_run 47 = .ok (.iload_n 3, 1) := by decide +kernel
theorem dX5_run_48 : decode cX5_run 48 = .ok (.invokevirtual 51, 3) := by decide +kernel
theorem dX5_run_51 : decode cX5_run 51 = .ok (.iinc 3 1, 3) := by decide +kernel
theorem dX5_run_54 : decode cX5_run 54 = .ok (.goto (-42), 3) := by decide +kernel
theorem dX5_run_57 : decode cX5_run 57 = .ok (.aload_n 0, 1) := by decide +kernel
theorem dX5_run_58 : decode cX5_run 58 = .ok (.aload_n 1, 1) := by decide +kernel
theorem dX5_run_59 : decode cX5_run 59 = .ok (.invokevirtual 55, 3) := by decide +kernel
theorem dX5_run_62 : decode cX5_run 62 = .ok (.ireturn, 1) := by decide +kernel
theorem dX5_makeReady_0 : decode cX5_makeReady 0 = .ok (.aload_n 0, 1) := by decide +kernel
theorem dX5_makeReady_1 : decode cX5_makeReady 1 = .ok (.getfield 9, 3) := by decide +kernel
theorem dX5_makeReady_4 : decode cX5_makeReady 4 = .ok (.iload_n 2, 1) := by decide +kernel
theorem dX5_makeReady_5 : decode cX5_makeReady 5 = .ok (.iaload, 1) := by decide +kernel
theorem dX5_makeReady_6 : decode cX5_makeReady 6 = .ok (.istore_n 3, 1) := by decide +kernel
theorem dX5_makeReady_7 : decode cX5_makeReady 7 = .ok (.iconst 0, 1) := by decide +kernel
theorem dX5_makeReady_8 : decode cX5_makeReady 8 = .ok (.istore 4, 2) := by decide +kernel
theorem dX5_makeReady_10 : decode cX5_makeReady 10 = .ok (.iload 4, 2) := by decide +kernel
theorem dX5_makeReady_12 : decode cX5_makeReady 12 = .ok (.iload_n 2, 1) := by decide +kernel
theorem dX5_makeReady_13 : decode cX5_makeReady 13 = .ok (.if_icmp .ge 43, 3) := by decide +kernel
theorem dX5_makeReady_16 : decode cX5_makeReady 16 = .ok (.aload_n 1, 1) := by decide +kernel
theorem dX5_makeReady_17 : decode cX5_makeReady 17 = .ok (.getfield 59, 3) := by decide +kernel
theorem dX5_makeReady_20 : decode cX5_makeReady 20 = .ok (.iload_n 2, 1) := by decide +kernel
theorem dX5_makeReady_21 : decode cX5_makeReady 21 = .ok (.iaload, 1) := by decide +kernel
theorem dX5_makeReady_22 : decode cX5_makeReady 22 = .ok (.iload 4, 2) := by decide +kernel
theorem dX5_makeReady_24 : decode cX5_makeReady 24 = .ok (.invokestatic 43, 3) := by decide +kernel
theorem dX5_makeReady_27 : decode cX5_makeReady 27 = .ok (.ifCond .eq 23, 3) := by decide +kernel
theorem dX5_makeReady_30 : decode cX5_makeReady 30 = .ok (.iload_n 3, 1) := by decide +kernel
theorem dX5_makeReady_31 : decode cX5_makeReady 31 = .ok (.aload_n 0, 1) := by decide +kernel
theorem dX5_makeReady_32 : decode cX5_makeReady 32 = .ok (.getfield 22, 3) := by decide +kernel
theorem dX5_makeReady_35 : decode cX5_makeReady 35 = .ok (.iload 4, 2) := by decide +kernel
theorem dX5_makeReady_37 : decode cX5_makeReady 37 = .ok (.iaload, 1) := by decide +kernel
theorem dX5_makeReady_38 : decode cX5_makeReady 38 = .ok (.aload_n 1, 1) := by decide +kernel
theorem dX5_makeReady_39 : decode cX5_makeReady 39 = .ok (.getfield 62, 3) := by decide +kernel
theorem dX5_makeReady_42 : decode cX5_makeReady 42 = .ok (.iload 4, 2) := by decide +kernel
theorem dX5_makeReady_44 : decode cX5_makeReady 44 = .ok (.iaload, 1) := by decide +kernel
theorem dX5_makeReady_45 : decode cX5_makeReady 45 = .ok (.iadd, 1) := by decide +kernel
theorem dX5_makeReady_46 : decode cX5_makeReady 46 = .ok (.invokestatic 65, 3) := by decide +kernel
theorem dX5_makeReady_49 : decode cX5_makeReady 49 = .ok (.istore_n 3, 1) := by decide +kernel
theorem dX5_makeReady_50 : decode cX5_makeReady 50 = .ok (.iinc 4 1, 3) := by decide +kernel
theorem dX5_makeReady_53 : decode cX5_makeReady 53 = .ok (.goto (-43), 3) := by decide +kernel
theorem dX5_makeReady_56 : decode cX5_makeReady 56 = .ok (.aload_n 0, 1) := by decide +kernel
theorem dX5_makeReady_57 : decode cX5_makeReady 57 = .ok (.getfield 22, 3) := by decide +kernel
theorem dX5_makeReady_60 : decode cX5_makeReady 60 = .ok (.iload_n 2, 1) := by decide +kernel
theorem dX5_makeReady_61 : decode cX5_makeReady 61 = .ok (.iload_n 3, 1) := by decide +kernel
theorem dX5_makeReady_62 : decode cX5_makeReady 62 = .ok (.iastore, 1) := by decide +kernel
theorem dX5_makeReady_63 : decode cX5_makeReady 63 = .ok (.return_, 1) := by decide +kernel
theorem dX5_queueUp_0 : decode cX5_queueUp 0 = .ok (.aload_n 0, 1) := by decide +kernel
theorem dX5_queueUp_1 : decode cX5_queueUp 1 = .ok (.getfield 40, 3) := by decide +kernel
theorem dX5_queueUp_4 : decode cX5_queueUp 4 = .ok (.bipush 12, 2) := by decide +kernel
theorem dX5_queueUp_6 : decode cX5_queueUp 6 = .ok (.if_icmp .lt 4, 3) := by decide +kernel
theorem dX5_queueUp_9 : decode cX5_queueUp 9 = .ok (.return_, 1) := by decide +kernel
theorem dX5_queueUp_10 : decode cX5_queueUp 10 = .ok (.aload_n 0, 1) := by decide +kernel
theorem dX5_queueUp_11 : decode cX5_queueUp 11 = .ok (.getfield 40, 3) := by decide +kernel
theorem dX5_queueUp_14 : decode cX5_queueUp 14 = .ok (.istore_n 2, 1) := by decide +kernel
theorem dX5_queueUp_15 : decode cX5_queueUp 15 = .ok (.iload_n 2, 1) := by decide +kernel
theorem dX5_queueUp_16 : decode cX5_queueUp 16 = .ok (.ifCond .le 45, 3) := by decide +kernel
theorem dX5_queueUp_19 : decode cX5_queueUp 19 = .ok (.aload_n 0, 1) := by decide +kernel
theorem dX5_queueUp_20 : decode cX5_queueUp 20 = .ok (.getfield 22, 3) := by decide +kernel
theorem dX5_queueUp_23 : decode cX5_queueUp 23 = .ok (.aload_n 0, 1) := by decide +kernel
theorem dX5_queueUp_24 : decode cX5_queueUp 24 = .ok (.getfield 15, 3) := by decide +kernel
theorem dX5_queueUp_27 : decode cX5_queueUp 27 = .ok (.iload_n 2, 1) := by decide +kernel
theorem dX5_queueUp_28 : decode cX5_queueUp 28 = .ok (.iconst 1, 1) := by decide +kernel
theorem dX5_queueUp_29 : decode cX5_queueUp 29 = .ok (.isub, 1) := by decide +kernel
theorem dX5_queueUp_30 : decode cX5_queueUp 30 = .ok (.iaload, 1) := by decide +kernel
theorem dX5_queueUp_31 : decode cX5_queueUp 31 = .ok (.iaload, 1) := by decide +kernel
theorem dX5_queueUp_32 : decode cX5_queueUp 32 = .ok (.aload_n 0, 1) := by decide +kernel
theorem dX5_queueUp_33 : decode cX5_queueUp 33 = .ok (.getfield 22, 3) := by decide +kernel
theorem dX5_queueUp_36 : decode cX5_queueUp 36 = .ok (.iload_n 1, 1) := by decide +kernel
theorem dX5_queueUp_37 : decode cX5_queueUp 37 = .ok (.iaload, 1) := by decide +kernel
theorem dX5_queueUp_38 : decode cX5_queueUp 38 = .ok (.if_icmp .le 23, 3) := by decide +kernel
theorem dX5_queueUp_41 : decode cX5_queueUp 41 = .ok (.aload_n 0, 1) := by decide +kernel
theorem dX5_queueUp_42 : decode cX5_queueUp 42 = .ok (.getfield 15, 3) := by decide +kernel
theorem dX5_queueUp_45 : decode cX5_queueUp 45 = .ok (.iload_n 2, 1) := by decide +kernel
theorem dX5_queueUp_46 : decode cX5_queueUp 46 = .ok (.aload_n 0, 1) := by decide +kernel
theorem dX5_queueUp_47 : decode cX5_queueUp 47 = .ok (.getfield 15, 3) := by decide +kernel
theorem dX5_queueUp_50 : decode cX5_queueUp 50 = .ok (.iload_n 2, 1) := by decide +kernel
theorem dX5_queueUp_51 : decode cX5_queueUp 51 = .ok (.iconst 1, 1) := by decide +kernel
theorem dX5_queueUp_52 : decode cX5_queueUp 52 = .ok (.isub, 1) := by decide +kernel
theorem dX5_queueUp_53 : decode cX5_queueUp 53 = .ok (.iaload, 1) := by decide +kernel
theorem dX5_queueUp_54 : decode cX5_queueUp 54 = .ok (.iastore, 1) := by decide +kernel
theorem dX5_queueUp_55 : decode cX5_queueUp 55 = .ok (.iinc 2 (-1), 3) := by decide +kernel
theorem dX5_queueUp_58 : decode cX5_queueUp 58 = .ok (.goto (-43), 3) := by decide +kernel
theorem dX5_queueUp_61 : decode cX5_queueUp 61 = .ok (.aload_n 0, 1) := by decide +kernel
theorem dX5_queueUp_62 : decode cX5_queueUp 62 = .ok (.getfield 15, 3) := by decide +kernel
theorem dX5_queueUp_65 : decode cX5_queueUp 65 = .ok (.iload_n 2, 1) := by decide +kernel
theorem dX5_queueUp_66 : decode cX5_queueUp 66 = .ok (.iload_n 1, 1) := by decide +kernel
theorem dX5_queueUp_67 : decode cX5_queueUp 67 = .ok (.iastore, 1) := by decide +kernel
theorem dX5_queueUp_68 : decode cX5_queueUp 68 = .ok (.aload_n 0, 1) := by decide +kernel
theorem dX5_queueUp_69 : decode cX5_queueUp 69 = .ok (.dup, 1) := by decide +kernel
theorem dX5_queueUp_70 : decode cX5_queueUp 70 = .ok (.getfield 40, 3) := by decide +kernel
theorem dX5_queueUp_73 : decode cX5_queueUp 73 = .ok (.iconst 1, 1) := by decide +kernel
theorem dX5_queueUp_74 : decode cX5_queueUp 74 = .ok (.iadd, 1) := by decide +kernel
theorem dX5_queueUp_75 : decode cX5_queueUp 75 = .ok (.putfield 40, 3) := by decide +kernel
theorem dX5_queueUp_78 : decode cX5_queueUp 78 = .ok (.return_, 1) := by decide +kernel
theorem dX5_putAll_0 : decode cX5_putAll 0 = .ok (.iconst 0, 1) := by decide +kernel
theorem dX5_putAll_1 : decode cX5_putAll 1 = .ok (.istore_n 2, 1) := by decide +kernel
theorem dX5_putAll_2 : decode cX5_putAll 2 = .ok (.iconst 0, 1) := by decide +kernel
theorem dX5_putAll_3 : decode cX5_putAll 3 = .ok (.istore_n 3, 1) := by decide +kernel
theorem dX5_putAll_4 : decode cX5_putAll 4 = .ok (.iload_n 3, 1) := by decide +kernel
theorem dX5_putAll_5 : decode cX5_putAll 5 = .ok (.aload_n 0, 1) := by decide +kernel
theorem dX5_putAll_6 : decode cX5_putAll 6 = .ok (.getfield 40, 3) := by decide +kernel
theorem dX5_putAll_9 : decode cX5_putAll 9 = .ok (.if_icmp .ge 56, 3) := by decide +kernel
theorem dX5_putAll_12 : decode cX5_putAll 12 = .ok (.aload_n 0, 1) := by decide +kernel
theorem dX5_putAll_13 : decode cX5_putAll 13 = .ok (.getfield 15, 3) := by decide +kernel
theorem dX5_putAll_16 : decode cX5_putAll 16 = .ok (.iload_n 3, 1) := by decide +kernel
theorem dX5_putAll_17 : decode cX5_putAll 17 = .ok (.iaload, 1) := by decide +kernel
theorem dX5_putAll_18 : decode cX5_putAll 18 = .ok (.istore 4, 2) := by decide +kernel
theorem dX5_putAll_20 : decode cX5_putAll 20 = .ok (.iload_n 3, 1) := by decide +kernel
theorem dX5_putAll_21 : decode cX5_putAll 21 = .ok (.ifCond .eq 14, 3) := by decide +kernel
theorem dX5_putAll_24 : decode cX5_putAll 24 = .ok (.aload_n 0, 1) := by decide +kernel
theorem dX5_putAll_25 : decode cX5_putAll 25 = .ok (.getfield 9, 3) := by decide +kernel
theorem dX5_putAll_28 : decode cX5_putAll 28 = .ok (.iload 4, 2) := by decide +kernel
theorem dX5_putAll_30 : decode cX5_putAll 30 = .ok (.iaload, 1) := by decide +kernel
theorem dX5_putAll_31 : decode cX5_putAll 31 = .ok (.iload_n 2, 1) := by decide +kernel
theorem dX5_putAll_32 : decode cX5_putAll 32 = .ok (.if_icmp .le 17, 3) := by decide +kernel
theorem dX5_putAll_35 : decode cX5_putAll 35 = .ok (.aload_n 0, 1) := by decide +kernel
theorem dX5_putAll_36 : decode cX5_putAll 36 = .ok (.iload 4, 2) := by decide +kernel
theorem dX5_putAll_38 : decode cX5_putAll 38 = .ok (.putfield 18, 3) := by decide +kernel
theorem dX5_putAll_41 : decode cX5_putAll 41 = .ok (.aload_n 0, 1) := by decide +kernel
theorem dX5_putAll_42 : decode cX5_putAll 42 = .ok (.getfield 9, 3) := by decide +kernel
theorem dX5_putAll_45 : decode cX5_putAll 45 = .ok (.iload 4, 2) := by decide +kernel
theorem dX5_putAll_47 : decode cX5_putAll 47 = .ok (.iaload, 1) := by decide +kernel
theorem dX5_putAll_48 : decode cX5_putAll 48 = .ok (.istore_n 2, 1) := by decide +kernel
theorem dX5_putAll_49 : decode cX5_putAll 49 = .ok (.iload_n 2, 1) := by decide +kernel
theorem dX5_putAll_50 : decode cX5_putAll 50 = .ok (.aload_n 1, 1) := by decide +kernel
theorem dX5_putAll_51 : decode cX5_putAll 51 = .ok (.getfield 62, 3) := by decide +kernel
theorem dX5_putAll_54 : decode cX5_putAll 54 = .ok (.iload 4, 2) := by decide +kernel
theorem dX5_putAll_56 : decode cX5_putAll 56 = .ok (.iaload, 1) := by decide +kernel
theorem dX5_putAll_57 : decode cX5_putAll 57 = .ok (.iadd, 1) := by decide +kernel
theorem dX5_putAll_58 : decode cX5_putAll 58 = .ok (.istore_n 2, 1) := by decide +kernel
theorem dX5_putAll_59 : decode cX5_putAll 59 = .ok (.iinc 3 1, 3) := by decide +kernel
theorem dX5_putAll_62 : decode cX5_putAll 62 = .ok (.goto (-58), 3) := by decide +kernel
theorem dX5_putAll_65 : decode cX5_putAll 65 = .ok (.iload_n 2, 1) := by decide +kernel
theorem dX5_putAll_66 : decode cX5_putAll 66 = .ok (.ireturn, 1) := by decide +kernel
theorem dX6_init_0 : decode cX6_init 0 = .ok (.aload_n 0, 1) := by decide +kernel
theorem dX6_init_1 : decode cX6_init 1 = .ok (.invokespecial 3, 3) := by decide +kernel
theorem dX6_init_4 : decode cX6_init 4 = .ok (.aload_n 0, 1) := by decide +kernel
theorem dX6_init_5 : decode cX6_init 5 = .ok (.sipush 600, 3) := by decide +kernel
theorem dX6_init_8 : decode cX6_init 8 = .ok (.newarray .char, 2) := by decide +kernel
theorem dX6_init_10 : decode cX6_init 10 = .ok (.putfield 9, 3) := by decide +kernel
theorem dX6_init_13 : decode cX6_init 13 = .ok (.aload_n 0, 1) := by decide +kernel
theorem dX6_init_14 : decode cX6_init 14 = .ok (.iconst (-1), 1) := by decide +kernel
theorem dX6_init_15 : decode cX6_init 15 = .ok (.putfield 15, 3) := by decide +kernel
theorem dX6_init_18 : decode cX6_init 18 = .ok (.return_, 1) := by decide +kernel
theorem dX6_append_0 : decode cX6_append 0 = .ok (.iload_n 1, 1) := by decide +kernel
theorem dX6_append_1 : decode cX6_append 1 = .ok (.iconst 1, 1) := by decide +kernel
theorem dX6_append_2 : decode cX6_append 2 = .ok (.isub, 1) := by decide +kernel
theorem dX6_append_3 : decode cX6_append 3 = .ok (.istore 4, 2) := by decide +kernel
theorem dX6_append_5 : decode cX6_append 5 = .ok (.iload 4, 2) := by decide +kernel
theorem dX6_append_7 : decode cX6_append 7 = .ok (.ifCond .lt 51, 3) := by decide +kernel
theorem dX6_append_10 : decode cX6_append 10 = .ok (.aload_n 0, 1) := by decide +kernel
theorem dX6_append_11 : decode cX6_append 11 = .ok (.getfield 19, 3) := by decide +kernel
theorem dX6_append_14 : decode cX6_append 14 = .ok (.sipush 600, 3) := by decide +kernel
theorem dX6_append_17 : decode cX6_append 17 = .ok (.if_icmp .ge 41, 3) := by decide +kernel
theorem dX6_append_20 : decode cX6_append 20 = .ok (.aload_n 0, 1) := by decide +kernel
theorem dX6_append_21 : decode cX6_append 21 = .ok (.getfield 9, 3) := by decide +kernel
theorem dX6_append_24 : decode cX6_append 24 = .ok (.aload_n 0, 1) := by decide +kernel
theorem dX6_append_25 : decode cX6_append 25 = .ok (.getfield 19, 3) := by decide +kernel
theorem dX6_append_28 : decode cX6_append 28 = .ok (.lload_n 2, 1) := by decide +kernel
theorem dX6_append_29 : decode cX6_append 29 = .ok (.bipush 8, 2) := by decide +kernel
theorem dX6_append_31 : decode cX6_append 31 = .ok (.iload 4, 2) := by decide +kernel
theorem dX6_append_33 : decode cX6_append 33 = .ok (.imul, 1) := by decide +kernel
theorem dX6_append_34 : decode cX6_append 34 = .ok (.lushr, 1) := by decide +kernel
theorem dX6_append_35 : decode cX6_append 35 = .ok (.ldc2_w 22, 3) := by decide +kernel
theorem dX6_append_38 : decode cX6_append 38 = .ok (.land, 1) := by decide +kernel
theorem dX6_append_39 : decode cX6_append 39 = .ok (.l2i, 1) := by decide +kernel
theorem dX6_append_40 : decode cX6_append 40 = .ok (.i2c, 1) := by decide +kernel
theorem dX6_append_41 : decode cX6_append 41 = .ok (.castore, 1) := by decide +kernel
theorem dX6_append_42 : decode cX6_append 42 = .ok (.aload_n 0, 1) := by decide +kernel
theorem dX6_append_43 : decode cX6_append 43 = .ok (.dup, 1) := by decide +kernel
theorem dX6_append_44 : decode cX6_append 44 = .ok (.getfield 19, 3) := by decide +kernel
theorem dX6_append_47 : decode cX6_append 47 = .ok (.iconst 1, 1) := by decide +kernel
theorem dX6_append_48 : decode cX6_append 48 = .ok (.iadd, 1) := by decide +kernel
theorem dX6_append_49 : decode cX6_append 49 = .ok (.putfield 19, 3) := by decide +kernel
theorem dX6_append_52 : decode cX6_append 52 = .ok (.iinc 4 (-1), 3) := by decide +kernel
theorem dX6_append_55 : decode cX6_append 55 = .ok (.goto (-50), 3) := by decide +kernel
theorem dX6_append_58 : decode cX6_append 58 = .ok (.return_, 1) := by decide +kernel
theorem dX6_begin_0 : decode cX6_begin 0 = .ok (.aload_n 0, 1) := by decide +kernel
theorem dX6_begin_1 : decode cX6_begin 1 = .ok (.iconst 0, 1) := by decide +kernel
theorem dX6_begin_2 : decode cX6_begin 2 = .ok (.putfield 24, 3) := by decide +kernel
theorem dX6_begin_5 : decode cX6_begin 5 = .ok (.aload_n 0, 1) := by decide +kernel
theorem dX6_begin_6 : decode cX6_begin 6 = .ok (.iconst 0, 1) := by decide +kernel
theorem dX6_begin_7 : decode cX6_begin 7 = .ok (.putfield 27, 3) := by decide +kernel
theorem dX6_begin_10 : decode cX6_begin 10 = .ok (.aload_n 0, 1) := by decide +kernel
theorem dX6_begin_11 : decode cX6_begin 11 = .ok (.iconst 0, 1) := by decide +kernel
theorem dX6_begin_12 : decode cX6_begin 12 = .ok (.putfield 30, 3) := by decide +kernel
theorem dX6_begin_15 : decode cX6_begin 15 = .ok (.aload_n 0, 1) := by decide +kernel
theorem dX6_begin_16 : decode cX6_begin 16 = .ok (.iconst (-1), 1) := by decide +kernel
theorem dX6_begin_17 : decode cX6_begin 17 = .ok (.putfield 15, 3) := by decide +kernel
theorem dX6_begin_20 : decode cX6_begin 20 = .ok (.return_, 1) := by decide +kernel
theorem dX6_isSound_0 : decode cX6_isSound 0 = .ok (.aload_n 0, 1) := by decide +kernel
theorem dX6_isSound_1 : decode cX6_isSound 1 = .ok (.getfield 30, 3) := by decide +kernel
theorem dX6_isSound_4 : decode cX6_isSound 4 = .ok (.ifCond .ne 7, 3) := by decide +kernel
theorem dX6_isSound_7 : decode cX6_isSound 7 = .ok (.iconst 1, 1) := by decide +kernel
theorem dX6_isSound_8 : decode cX6_isSound 8 = .ok (.goto 4, 3) := by decide +kernel
theorem dX6_isSound_11 : decode cX6_isSound 11 = .ok (.iconst 0, 1) := by decide +kernel
theorem dX6_isSound_12 : decode cX6_isSound 12 = .ok (.ireturn, 1) := by decide +kernel
theorem dX6_blame_0 : decode cX6_blame 0 = .ok (.aload_n 0, 1) := by decide +kernel
theorem dX6_blame_1 : decode cX6_blame 1 = .ok (.invokevirtual 33, 3) := by decide +kernel
theorem dX6_blame_4 : decode cX6_blame 4 = .ok (.ifCond .eq 13, 3) := by decide +kernel
theorem dX6_blame_7 : decode cX6_blame 7 = .ok (.aload_n 0, 1) := by decide +kernel
theorem dX6_blame_8 : decode cX6_blame 8 = .ok (.iload_n 1, 1) := by decide +kernel
theorem dX6_blame_9 : decode cX6_blame 9 = .ok (.putfield 30, 3) := by decide +kernel
theorem dX6_blame_12 : decode cX6_blame 12 = .ok (.aload_n 0, 1) := by decide +kernel
theorem dX6_blame_13 : decode cX6_blame 13 = .ok (.iload_n 2, 1) := by decide +kernel
theorem dX6_blame_14 : decode cX6_blame 14 = .ok (.putfield 15, 3) := by decide +kernel
theorem dX6_blame_17 : decode cX6_blame 17 = .ok (.return_, 1) := by decide +kernel
theorem dX6_blameHere_0 : decode cX6_blameHere 0 = .ok (.aload_n 0, 1) := by decide +kernel
theorem dX6_blameHere_1 : decode cX6_blameHere 1 = .ok (.invokevirtual 37, 3) := by decide +kernel
theorem dX6_blameHere_4 : decode cX6_blameHere 4 = .ok (.aload_n 0, 1) := by decide +kernel
theorem dX6_blameHere_5 : decode cX6_blameHere 5 = .ok (.iconst 1, 1) := by decide +kernel
theorem dX6_blameHere_6 : decode cX6_blameHere 6 = .ok (.aload_n 0, 1) := by decide +kernel
theorem dX6_blameHere_7 : decode cX6_blameHere 7 = .ok (.getfield 24, 3) := by decide +kernel
theorem dX6_blameHere_10 : decode cX6_blameHere 10 = .ok (.invokevirtual 40, 3) := by decide +kernel
theorem dX6_blameHere_13 : decode cX6_blameHere 13 = .ok (.return_, 1) := by decide +kernel
theorem dX6_goesOn_0 : decode cX6_goesOn 0 = .ok (.aload_n 0, 1) := by decide +kernel
theorem dX6_goesOn_1 : decode cX6_goesOn 1 = .ok (.invokevirtual 37, 3) := by decide +kernel
theorem dX6_goesOn_4 : decode cX6_goesOn 4 = .ok (.aload_n 0, 1) := by decide +kernel
theorem dX6_goesOn_5 : decode cX6_goesOn 5 = .ok (.invokevirtual 33, 3) := by decide +kernel
theorem dX6_goesOn_8 : decode cX6_goesOn 8 = .ok (.ifCond .eq 18, 3) := by decide +kernel
theorem dX6_goesOn_11 : decode cX6_goesOn 11 = .ok (.aload_n 0, 1) := by decide +kernel
theorem dX6_goesOn_12 : decode cX6_goesOn 12 = .ok (.getfield 24, 3) := by decide +kernel
theorem dX6_goesOn_15 : decode cX6_goesOn 15 = .ok (.aload_n 0, 1) := by decide +kernel
theorem dX6_goesOn_16 : decode cX6_goesOn 16 = .ok (.getfield 19, 3) := by decide +kernel
theorem dX6_goesOn_19 : decode cX6_goesOn 19 = .ok (.if_icmp .ge 7, 3) := by decide +kernel
theorem dX6_goesOn_22 : decode cX6_goesOn 22 = .ok (.iconst 1, 1) := by decide +kernel
theorem dX6_goesOn_23 : decode cX6_goesOn 23 = .ok (.goto 4, 3) := by decide +kernel
theorem dX6_goesOn_26 : decode cX6_goesOn 26 = .ok (.iconst 0, 1) := by decide +kernel
theorem dX6_goesOn_27 : decode cX6_goesOn 27 = .ok (.ireturn, 1) := by decide +kernel
theorem dX6_takesWord_0 : decode cX6_takesWord 0 = .ok (.aload_n 0, 1) := by decide +kernel
theorem dX6_takesWord_1 : decode cX6_takesWord 1 = .ok (.invokevirtual 37, 3) := by decide +kernel
theorem dX6_takesWord_4 : decode cX6_takesWord 4 = .ok (.aload_n 0, 1) := by decide +kernel
theorem dX6_takesWord_5 : decode cX6_takesWord 5 = .ok (.getfield 24, 3) := by decide +kernel
theorem dX6_takesWord_8 : decode cX6_takesWord 8 = .ok (.istore_n 2, 1) := by decide +kernel
theorem dX6_takesWord_9 : decode cX6_takesWord 9 = .ok (.iload_n 2, 1) := by decide +kernel
theorem dX6_takesWord_10 : decode cX6_takesWord 10 = .ok (.aload_n 0, 1) := by decide +kernel
theorem dX6_takesWord_11 : decode cX6_takesWord 11 = .ok (.getfield 19, 3) := by decide +kernel
theorem dX6_takesWord_14 : decode cX6_takesWord 14 = .ok (.if_icmp .ge 21, 3) := by decide +kernel
theorem dX6_takesWord_17 : decode cX6_takesWord 17 = .ok (.aload_n 0, 1) := by decide +kernel
theorem dX6_takesWord_18 : decode cX6_takesWord 18 = .ok (.getfield 9, 3) := by decide +kernel
theorem dX6_takesWord_21 : decode cX6_takesWord 21 = .ok (.iload_n 2, 1) := by decide +kernel
theorem dX6_takesWord_22 : decode cX6_takesWord 22 = .ok (.caload, 1) := by decide +kernel
theorem dX6_takesWord_23 : decode cX6_takesWord 23 = .ok (.invokestatic 44, 3) := by decide +kernel
theorem dX6_takesWord_26 : decode cX6_takesWord 26 = .ok (.ifCond .eq 9, 3) := by decide +kernel
theorem dX6_takesWord_29 : decode cX6_takesWord 29 = .ok (.iinc 2 1, 3) := by decide +kernel
theorem dX6_takesWord_32 : decode cX6_takesWord 32 = .ok (.goto (-23), 3) := by decide +kernel
theorem dX6_takesWord_35 : decode cX6_takesWord 35 = .ok (.aload_n 0, 1) := by decide +kernel
theorem dX6_takesWord_36 : decode cX6_takesWord 36 = .ok (.invokevirtual 33, 3) := by decide +kernel
theorem dX6_takesWord_39 : decode cX6_takesWord 39 = .ok (.ifCond .eq 16, 3) := by decide +kernel
theorem dX6_takesWord_42 : decode cX6_takesWord 42 = .ok (.iload_n 2, 1) := by decide +kernel
theorem dX6_takesWord_43 : decode cX6_takesWord 43 = .ok (.aload_n 0, 1) := by decide +kernel
theorem dX6_takesWord_44 : decode cX6_takesWord 44 = .ok (.getfield 24, 3) := by decide +kernel
theorem dX6_takesWord_47 : decode cX6_takesWord 47 = .ok (.isub, 1) := by decide +kernel
theorem dX6_takesWord_48 : decode cX6_takesWord 48 = .ok (.aload_n 1, 1) := by decide +kernel
theorem dX6_takesWord_49 : decode cX6_takesWord 49 = .ok (.invokevirtual 48, 3) := by decide +kernel
theorem dX6_takesWord_52 : decode cX6_takesWord 52 = .ok (.if_icmp .eq 5, 3) := by decide +kernel
theorem dX6_takesWord_55 : decode cX6_takesWord 55 = .ok (.iconst 0, 1) := by decide +kernel
theorem dX6_takesWord_56 : decode cX6_takesWord 56 = .ok (.ireturn, 1) := by decide +kernel
theorem dX6_takesWord_57 : decode cX6_takesWord 57 = .ok (.iconst 0, 1) := by decide +kernel
theorem dX6_takesWord_58 : decode cX6_takesWord 58 = .ok (.istore_n 3, 1) := by decide +kernel
theorem dX6_takesWord_59 : decode cX6_takesWord 59 = .ok (.iload_n 3, 1) := by decide +kernel
theorem dX6_takesWord_60 : decode cX6_takesWord 60 = .ok (.aload_n 1, 1) := by decide +kernel
theorem dX6_takesWord_61 : decode cX6_takesWord 61 = .ok (.invokevirtual 48, 3) := by decide +kernel
theorem dX6_takesWord_64 : decode cX6_takesWord 64 = .ok (.if_icmp .ge 30, 3) := by decide +kernel
theorem dX6_takesWord_67 : decode cX6_takesWord 67 = .ok (.aload_n 0, 1) := by decide +kernel
theorem dX6_takesWord_68 : decode cX6_takesWord 68 = .ok (.getfield 9, 3) := by decide +kernel
theorem dX6_takesWord_71 : decode cX6_takesWord 71 = .ok (.aload_n 0, 1) := by decide +kernel
theorem dX6_takesWord_72 : decode cX6_takesWord 72 = .ok (.getfield 24, 3) := by decide +kernel
theorem dX6_takesWord_75 : decode cX6_takesWord 75 = .ok (.iload_n 3, 1) := by decide +kernel
theorem dX6_takesWord_76 : decode cX6_takesWord 76 = .ok (.iadd, 1) := by decide +kernel
theorem dX6_takesWord_77 : decode cX6_takesWord 77 = .ok (.caload, 1) := by decide +kernel
theorem dX6_takesWord_78 : decode cX6_takesWord 78 = .ok (.aload_n 1, 1) := by decide +kernel
theorem dX6_takesWord_79 : decode cX6_takesWord 79 = .ok (.iload_n 3, 1) := by decide +kernel
theorem dX6_takesWord_80 : decode cX6_takesWord 80 = .ok (.invokevirtual 53, 3) := by decide +kernel
theorem dX6_takesWord_83 : decode cX6_takesWord 83 = .ok (.if_icmp .eq 5, 3) := by decide +kernel
theorem dX6_takesWord_86 : decode cX6_takesWord 86 = .ok (.iconst 0, 1) := by decide +kernel
theorem dX6_takesWord_87 : decode cX6_takesWord 87 = .ok (.ireturn, 1) := by decide +kernel
theorem dX6_takesWord_88 : decode cX6_takesWord 88 = .ok (.iinc 3 1, 3) := by decide +kernel
theorem dX6_takesWord_91 : decode cX6_takesWord 91 = .ok (.goto (-32), 3) := by decide +kernel
theorem dX6_takesWord_94 : decode cX6_takesWord 94 = .ok (.aload_n 0, 1) := by decide +kernel
theorem dX6_takesWord_95 : decode cX6_takesWord 95 = .ok (.aload_n 0, 1) := by decide +kernel
theorem dX6_takesWord_96 : decode cX6_takesWord 96 = .ok (.getfield 24, 3) := by decide +kernel
theorem dX6_takesWord_99 : decode cX6_takesWord 99 = .ok (.putfield 27, 3) := by decide +kernel
theorem dX6_takesWord_102 : decode cX6_takesWord 102 = .ok (.aload_n 0, 1) := by decide +kernel
theorem dX6_takesWord_103 : decode cX6_takesWord 103 = .ok (.iload_n 2, 1) := by decide +kernel
theorem dX6_takesWord_104 : decode cX6_takesWord 104 = .ok (.putfield 24, 3) := by decide +kernel
theorem dX6_takesWord_107 : decode cX6_takesWord 107 = .ok (.iconst 1, 1) := by decide +kernel
theorem dX6_takesWord_108 : decode cX6_takesWord 108 = .ok (.ireturn, 1) := by decide +kernel
theorem dX6_takesSign_0 : decode cX6_takesSign 0 = .ok (.aload_n 0, 1) := by decide +kernel
theorem dX6_takesSign_1 : decode cX6_takesSign 1 = .ok (.invokevirtual 37, 3) := by decide +kernel
theorem dX6_takesSign_4 : decode cX6_takesSign 4 = .ok (.aload_n 0, 1) := by decide +kernel
theorem dX6_takesSign_5 : decode cX6_takesSign 5 = .ok (.invokevirtual 33, 3) := by decide +kernel
theorem dX6_takesSign_8 : decode cX6_takesSign 8 = .ok (.ifCond .eq 27, 3) := by decide +kernel
theorem dX6_takesSign_11 : decode cX6_takesSign 11 = .ok (.aload_n 0, 1) := by decide +kernel
theorem dX6_takesSign_12 : decode cX6_takesSign 12 = .ok (.getfield 24, 3) := by decide +kernel
theorem dX6_takesSign_15 : decode cX6_takesSign 15 = .ok (.aload_n 0, 1) := by decide +kernel
theorem dX6_takesSign_16 : decode cX6_takesSign 16 = .ok (.getfield 19, 3) := by decide +kernel
theorem dX6_takesSign_19 : decode cX6_takesSign 19 = .ok (.if_icmp .ge 16, 3) := by decide +kernel
theorem dX6_takesSign_22 : decode cX6_takesSign 22 = .ok (.aload_n 0, 1) := by decide +kernel
theorem dX6_takesSign_23 : decode cX6_takesSign 23 = .ok (.getfield 9, 3) := by decide +kernel
theorem dX6_takesSign_26 : decode cX6_takesSign 26 = .ok (.aload_n 0, 1) := by decide +kernel
theorem dX6_takesSign_27 : decode cX6_takesSign 27 = .ok (.getfield 24, 3) := by decide +kernel
theorem dX6_takesSign_30 : decode cX6_takesSign 30 = .ok (.caload, 1) := by decide +kernel
theorem dX6_takesSign_31 : decode cX6_takesSign 31 = .ok (.iload_n 1, 1) := by decide +kernel
theorem dX6_takesSign_32 : decode cX6_takesSign 32 = .ok (.if_icmp .eq 5, 3) := by decide +kernel
theorem dX6_takesSign_35 : decode cX6_takesSign 35 = .ok (.iconst 0, 1) := by decide +kernel
theorem dX6_takesSign_36 : decode cX6_takesSign 36 = .ok (.ireturn, 1) := by decide +kernel
theorem dX6_takesSign_37 : decode cX6_takesSign 37 = .ok (.aload_n 0, 1) := by decide +kernel
theorem dX6_takesSign_38 : decode cX6_takesSign 38 = .ok (.aload_n 0, 1) := by decide +kernel
theorem dX6_takesSign_39 : decode cX6_takesSign 39 = .ok (.getfield 24, 3) := by decide +kernel
theorem dX6_takesSign_42 : decode cX6_takesSign 42 = .ok (.putfield 27, 3) := by decide +kernel
theorem dX6_takesSign_45 : decode cX6_takesSign 45 = .ok (.aload_n 0, 1) := by decide +kernel
theorem dX6_takesSign_46 : decode cX6_takesSign 46 = .ok (.dup, 1) := by decide +kernel
theorem dX6_takesSign_47 : decode cX6_takesSign 47 = .ok (.getfield 24, 3) := by decide +kernel
theorem dX6_takesSign_50 : decode cX6_takesSign 50 = .ok (.iconst 1, 1) := by decide +kernel
theorem dX6_takesSign_51 : decode cX6_takesSign 51 = .ok (.iadd, 1) := by decide +kernel
theorem dX6_takesSign_52 : decode cX6_takesSign 52 = .ok (.putfield 24, 3) := by decide +kernel
theorem dX6_takesSign_55 : decode cX6_takesSign 55 = .ok (.iconst 1, 1) := by decide +kernel
theorem dX6_takesSign_56 : decode cX6_takesSign 56 = .ok (.ireturn, 1) := by decide +kernel
theorem dX6_endClause_0 : decode cX6_endClause 0 = .ok (.aload_n 0, 1) := by decide +kernel
theorem dX6_endClause_1 : decode cX6_endClause 1 = .ok (.bipush 59, 2) := by decide +kernel
theorem dX6_endClause_3 : decode cX6_endClause 3 = .ok (.invokevirtual 57, 3) := by decide +kernel
theorem dX6_endClause_6 : decode cX6_endClause 6 = .ok (.ifCond .ne 7, 3) := by decide +kernel
theorem dX6_endClause_9 : decode cX6_endClause 9 = .ok (.aload_n 0, 1) := by decide +kernel
theorem dX6_endClause_10 : decode cX6_endClause 10 = .ok (.invokevirtual 60, 3) := by decide +kernel
theorem dX6_endClause_13 : decode cX6_endClause 13 = .ok (.return_, 1) := by decide +kernel
theorem dX6_takeNumber_0 : decode cX6_takeNumber 0 = .ok (.aload_n 0, 1) := by decide +kernel
theorem dX6_takeNumber_1 : decode cX6_takeNumber 1 = .ok (.invokevirtual 33, 3) := by decide +kernel
theorem dX6_takeNumber_4 : decode cX6_takeNumber 4 = .ok (.ifCond .ne 5, 3) := by decide +kernel
theorem dX6_takeNumber_7 : decode cX6_takeNumber 7 = .ok (.iload_n 1, 1) := by decide +kernel
theorem dX6_takeNumber_8 : decode cX6_takeNumber 8 = .ok (.ireturn, 1) := by decide +kernel
theorem dX6_takeNumber_9 : decode cX6_takeNumber 9 = .ok (.aload_n 0, 1) := by decide +kernel
theorem dX6_takeNumber_10 : decode cX6_takeNumber 10 = .ok (.invokevirtual 37, 3) := by decide +kernel
theorem dX6_takeNumber_13 : decode cX6_takeNumber 13 = .ok (.aload_n 0, 1) := by decide +kernel
theorem dX6_takeNumber_14 : decode cX6_takeNumber 14 = .ok (.aload_n 0, 1) := by decide +kernel
theorem dX6_takeNumber_15 : decode cX6_takeNumber 15 = .ok (.getfield 24, 3) := by decide +kernel
theorem dX6_takeNumber_18 : decode cX6_takeNumber 18 = .ok (.putfield 27, 3) := by decide +kernel
theorem dX6_takeNumber_21 : decode cX6_takeNumber 21 = .ok (.iconst 0, 1) := by decide +kernel
theorem dX6_takeNumber_22 : decode cX6_takeNumber 22 = .ok (.istore_n 3, 1) := by decide +kernel
theorem dX6_takeNumber_23 : decode cX6_takeNumber 23 = .ok (.aload_n 0, 1) := by decide +kernel
theorem dX6_takeNumber_24 : decode cX6_takeNumber 24 = .ok (.getfield 24, 3) := by decide +kernel
theorem dX6_takeNumber_27 : decode cX6_takeNumber 27 = .ok (.aload_n 0, 1) := by decide +kernel
theorem dX6_takeNumber_28 : decode cX6_takeNumber 28 = .ok (.getfield 19, 3) := by decide +kernel
theorem dX6_takeNumber_31 : decode cX6_takeNumber 31 = .ok (.if_icmp .ge 62, 3) := by decide +kernel
theorem dX6_takeNumber_34 : decode cX6_takeNumber 34 = .ok (.aload_n 0, 1) := by decide +kernel
theorem dX6_takeNumber_35 : decode cX6_takeNumber 35 = .ok (.getfield 9, 3) := by decide +kernel
theorem dX6_takeNumber_38 : decode cX6_takeNumber 38 = .ok (.aload_n 0, 1) := by decide +kernel
theorem dX6_takeNumber_39 : decode cX6_takeNumber 39 = .ok (.getfield 24, 3) := by decide +kernel
theorem dX6_takeNumber_42 : decode cX6_takeNumber 42 = .ok (.caload, 1) := by decide +kernel
theorem dX6_takeNumber_43 : decode cX6_takeNumber 43 = .ok (.invokestatic 63, 3) := by decide +kernel
theorem dX6_takeNumber_46 : decode cX6_takeNumber 46 = .ok (.ifCond .eq 47, 3) := by decide +kernel
theorem dX6_takeNumber_49 : decode cX6_takeNumber 49 = .ok (.aload_n 0, 1) := by decide +kernel
theorem dX6_takeNumber_50 : decode cX6_takeNumber 50 = .ok (.getfield 24, 3) := by decide +kernel
theorem dX6_takeNumber_53 : decode cX6_takeNumber 53 = .ok (.aload_n 0, 1) := by decide +kernel
theorem dX6_takeNumber_54 : decode cX6_takeNumber 54 = .ok (.getfield 27, 3) := by decide +kernel
theorem dX6_takeNumber_57 : decode cX6_takeNumber 57 = .ok (.isub, 1) := by decide +kernel
theorem dX6_takeNumber_58 : decode cX6_takeNumber 58 = .ok (.iconst 3, 1) := by decide +kernel
theorem dX6_takeNumber_59 : decode cX6_takeNumber 59 = .ok (.if_icmp .ge 21, 3) := by decide +kernel
theorem dX6_takeNumber_62 : decode cX6_takeNumber 62 = .ok (.iload_n 3, 1) := by decide +kernel
theorem dX6_takeNumber_63 : decode cX6_takeNumber 63 = .ok (.bipush 10, 2) := by decide +kernel
theorem dX6_takeNumber_65 : decode cX6_takeNumber 65 = .ok (.imul, 1) := by decide +kernel
theorem dX6_takeNumber_66 : decode cX6_takeNumber 66 = .ok (.aload_n 0, 1) := by decide +kernel
theorem dX6_takeNumber_67 : decode cX6_takeNumber 67 = .ok (.getfield 9, 3) := by decide +kernel
theorem dX6_takeNumber_70 : decode cX6_takeNumber 70 = .ok (.aload_n 0, 1) := by decide +kernel
theorem dX6_takeNumber_71 : decode cX6_takeNumber 71 = .ok (.getfield 24, 3) := by decide +kernel
theorem dX6_takeNumber_74 : decode cX6_takeNumber 74 = .ok (.caload, 1) := by decide +kernel
theorem dX6_takeNumber_75 : decode cX6_takeNumber 75 = .ok (.iadd, 1) := by decide +kernel
theorem dX6_takeNumber_76 : decode cX6_takeNumber 76 = .ok (.bipush 48, 2) := by decide +kernel
theorem dX6_takeNumber_78 : decode cX6_takeNumber 78 = .ok (.isub, 1) := by decide +kernel
theorem dX6_takeNumber_79 : decode cX6_takeNumber 79 = .ok (.istore_n 3, 1) := by decide +kernel
theorem dX6_takeNumber_80 : decode cX6_takeNumber 80 = .ok (.aload_n 0, 1) := by decide +kernel
theorem dX6_takeNumber_81 : decode cX6_takeNumber 81 = .ok (.dup, 1) := by decide +kernel
theorem dX6_takeNumber_82 : decode cX6_takeNumber 82 = .ok (.getfield 24, 3) := by decide +kernel
theorem dX6_takeNumber_85 : decode cX6_takeNumber 85 = .ok (.iconst 1, 1) := by decide +kernel
theorem dX6_takeNumber_86 : decode cX6_takeNumber 86 = .ok (.iadd, 1) := by decide +kernel
theorem dX6_takeNumber_87 : decode cX6_takeNumber 87 = .ok (.putfield 24, 3) := by decide +kernel
theorem dX6_takeNumber_90 : decode cX6_takeNumber 90 = .ok (.goto (-67), 3) := by decide +kernel
theorem dX6_takeNumber_93 : decode cX6_takeNumber 93 = .ok (.aload_n 0, 1) := by decide +kernel
theorem dX6_takeNumber_94 : decode cX6_takeNumber 94 = .ok (.getfield 24, 3) := by decide +kernel
theorem dX6_takeNumber_97 : decode cX6_takeNumber 97 = .ok (.aload_n 0, 1) := by decide +kernel
theorem dX6_takeNumber_98 : decode cX6_takeNumber 98 = .ok (.getfield 27, 3) := by decide +kernel
theorem dX6_takeNumber_101 : decode cX6_takeNumber 101 = .ok (.isub, 1) := by decide +kernel
theorem dX6_takeNumber_102 : decode cX6_takeNumber 102 = .ok (.istore 4, 2) := by decide +kernel
theorem dX6_takeNumber_104 : decode cX6_takeNumber 104 = .ok (.iload 4, 2) := by decide +kernel
theorem dX6_takeNumber_106 : decode cX6_takeNumber 106 = .ok (.ifCond .ne 15, 3) := by decide +kernel
theorem dX6_takeNumber_109 : decode cX6_takeNumber 109 = .ok (.aload_n 0, 1) := by decide +kernel
theorem dX6_takeNumber_110 : decode cX6_takeNumber 110 = .ok (.iconst 1, 1) := by decide +kernel
theorem dX6_takeNumber_111 : decode cX6_takeNumber 111 = .ok (.aload_n 0, 1) := by decide +kernel
theorem dX6_takeNumber_112 : decode cX6_takeNumber 112 = .ok (.getfield 27, 3) := by decide +kernel
theorem dX6_takeNumber_115 : decode cX6_takeNumber 115 = .ok (.invokevirtual 40, 3) := by decide +kernel
theorem dX6_takeNumber_118 : decode cX6_takeNumber 118 = .ok (.goto 28, 3) := by decide +kernel
theorem dX6_takeNumber_121 : decode cX6_takeNumber 121 = .ok (.iload 4, 2) := by decide +kernel
theorem dX6_takeNumber_123 : decode cX6_takeNumber 123 = .ok (.iconst 3, 1) := by decide +kernel
theorem dX6_takeNumber_124 : decode cX6_takeNumber 124 = .ok (.if_icmp .gt 13, 3) := by decide +kernel
theorem dX6_takeNumber_127 : decode cX6_takeNumber 127 = .ok (.iload_n 3, 1) := by decide +kernel
theorem dX6_takeNumber_128 : decode cX6_takeNumber 128 = .ok (.iload_n 1, 1) := by decide +kernel
theorem dX6_takeNumber_129 : decode cX6_takeNumber 129 = .ok (.if_icmp .lt 8, 3) := by decide +kernel
theorem dX6_takeNumber_132 : decode cX6_takeNumber 132 = .ok (.iload_n 3, 1) := by decide +kernel
theorem dX6_takeNumber_133 : decode cX6_takeNumber 133 = .ok (.iload_n 2, 1) := by decide +kernel
theorem dX6_takeNumber_134 : decode cX6_takeNumber 134 = .ok (.if_icmp .le 12, 3) := by decide +kernel
theorem dX6_takeNumber_137 : decode cX6_takeNumber 137 = .ok (.aload_n 0, 1) := by decide +kernel
theorem dX6_takeNumber_138 : decode cX6_takeNumber 138 = .ok (.iconst 2, 1) := by decide +kernel
theorem dX6_takeNumber_139 : decode cX6_takeNumber 139 = .ok (.aload_n 0, 1) := by decide +kernel
theorem dX6_takeNumber_140 : decode cX6_takeNumber 140 = .ok (.getfield 27, 3) := by decide +kernel
theorem dX6_takeNumber_143 : decode cX6_takeNumber 143 = .ok (.invokevirtual 40, 3) := by decide +kernel
theorem dX6_takeNumber_146 : decode cX6_takeNumber 146 = .ok (.aload_n 0, 1) := by decide +kernel
theorem dX6_takeNumber_147 : decode cX6_takeNumber 147 = .ok (.invokevirtual 33, 3) := by decide +kernel
theorem dX6_takeNumber_150 : decode cX6_takeNumber 150 = .ok (.ifCond .eq 7, 3) := by decide +kernel
theorem dX6_takeNumber_153 : decode cX6_takeNumber 153 = .ok (.iload_n 3, 1) := by decide +kernel
theorem dX6_takeNumber_154 : decode cX6_takeNumber 154 = .ok (.goto 4, 3) := by decide +kernel
theorem dX6_takeNumber_157 : decode cX6_takeNumber 157 = .ok (.iload_n 1, 1) := by decide +kernel
theorem dX6_takeNumber_158 : decode cX6_takeNumber 158 = .ok (.ireturn, 1) := by decide +kernel
theorem dX6_skipBlanks_0 : decode cX6_skipBlanks 0 = .ok (.aload_n 0, 1) := by decide +kernel
theorem dX6_skipBlanks_1 : decode cX6_skipBlanks 1 = .ok (.getfield 24, 3) := by decide +kernel
theorem dX6_skipBlanks_4 : decode cX6_skipBlanks 4 = .ok (.aload_n 0, 1) := by decide +kernel
theorem dX6_skipBlanks_5 : decode cX6_skipBlanks 5 = .ok (.getfield 19, 3) := by decide +kernel
theorem dX6_skipBlanks_8 : decode cX6_skipBlanks 8 = .ok (.if_icmp .ge 30, 3) := by decide +kernel
theorem dX6_skipBlanks_11 : decode cX6_skipBlanks 11 = .ok (.aload_n 0, 1) := by decide +kernel
theorem dX6_skipBlanks_12 : decode cX6_skipBlanks 12 = .ok (.getfield 9, 3) := by decide +kernel
theorem dX6_skipBlanks_15 : decode cX6_skipBlanks 15 = .ok (.aload_n 0, 1) := by decide +kernel
theorem dX6_skipBlanks_16 : decode cX6_skipBlanks 16 = .ok (.getfield 24, 3) := by decide +kernel
theorem dX6_skipBlanks_19 : decode cX6_skipBlanks 19 = .ok (.caload, 1) := by decide +kernel
theorem dX6_skipBlanks_20 : decode cX6_skipBlanks 20 = .ok (.bipush 32, 2) := by decide +kernel
theorem dX6_skipBlanks_22 : decode cX6_skipBlanks 22 = .ok (.if_icmp .ne 16, 3) := by decide +kernel
theorem dX6_skipBlanks_25 : decode cX6_skipBlanks 25 = .ok (.aload_n 0, 1) := by decide +kernel
theorem dX6_skipBlanks_26 : decode cX6_skipBlanks 26 = .ok (.dup, 1) := by decide +kernel
theorem dX6_skipBlanks_27 : decode cX6_skipBlanks 27 = .ok (.getfield 24, 3) := by decide +kernel
theorem dX6_skipBlanks_30 : decode cX6_skipBlanks 30 = .ok (.iconst 1, 1) := by decide +kernel
theorem dX6_skipBlanks_31 : decode cX6_skipBlanks 31 = .ok (.iadd, 1) := by decide +kernel
theorem dX6_skipBlanks_32 : decode cX6_skipBlanks 32 = .ok (.putfield 24, 3) := by decide +kernel
theorem dX6_skipBlanks_35 : decode cX6_skipBlanks 35 = .ok (.goto (-35), 3) := by decide +kernel
theorem dX6_skipBlanks_38 : decode cX6_skipBlanks 38 = .ok (.return_, 1) := by decide +kernel
theorem dX6_isLetter_0 : decode cX6_isLetter 0 = .ok (.iload_n 0, 1) := by decide +kernel
theorem dX6_isLetter_1 : decode cX6_isLetter 1 = .ok (.bipush 97, 2) := by decide +kernel
theorem dX6_isLetter_3 : decode cX6_isLetter 3 = .ok (.if_icmp .lt 13, 3) := by decide +kernel
theorem dX6_isLetter_6 : decode cX6_isLetter 6 = .ok (.iload_n 0, 1) := by decide +kernel
theorem dX6_isLetter_7 : decode cX6_isLetter 7 = .ok (.bipush 122, 2) := by decide +kernel
theorem dX6_isLetter_9 : decode cX6_isLetter 9 = .ok (.if_icmp .gt 7, 3) := by decide +kernel
theorem dX6_isLetter_12 : decode cX6_isLetter 12 = .ok (.iconst 1, 1) := by decide +kernel
theorem dX6_isLetter_13 : decode cX6_isLetter 13 = .ok (.goto 4, 3) := by decide +kernel
theorem dX6_isLetter_16 : decode cX6_isLetter 16 = .ok (.iconst 0, 1) := by decide +kernel
theorem dX6_isLetter_17 : decode cX6_isLetter 17 = .ok (.ireturn, 1) := by decide +kernel
theorem dX6_isFigure_0 : decode cX6_isFigure 0 = .ok (.iload_n 0, 1) := by decide +kernel
theorem dX6_isFigure_1 : decode cX6_isFigure 1 = .ok (.bipush 48, 2) := by decide +kernel
theorem dX6_isFigure_3 : decode cX6_isFigure 3 = .ok (.if_icmp .lt 13, 3) := by decide +kernel
theorem dX6_isFigure_6 : decode cX6_isFigure 6 = .ok (.iload_n 0, 1) := by decide +kernel
theorem dX6_isFigure_7 : decode cX6_isFigure 7 = .ok (.bipush 57, 2) := by decide +kernel
theorem dX6_isFigure_9 : decode cX6_isFigure 9 = .ok (.if_icmp .gt 7, 3) := by decide +kernel
theorem dX6_isFigure_12 : decode cX6_isFigure 12 = .ok (.iconst 1, 1) := by decide +kernel
theorem dX6_isFigure_13 : decode cX6_isFigure 13 = .ok (.goto 4, 3) := by decide +kernel
theorem dX6_isFigure_16 : decode cX6_isFigure 16 = .ok (.iconst 0, 1) := by decide +kernel
theorem dX6_isFigure_17 : decode cX6_isFigure 17 = .ok (.ireturn, 1) := by decide +kernel
theorem dX7_init_0 : decode cX7_init 0 = .ok (.aload_n 0, 1) := by decide +kernel
theorem dX7_init_1 : decode cX7_init 1 = .ok (.invokespecial 3, 3) := by decide +kernel
theorem dX7_init_4 : decode cX7_init 4 = .ok (.aload_n 0, 1) := by decide +kernel
theorem dX7_init_5 : decode cX7_init 5 = .ok (.bipush 9, 2) := by decide +kernel
theorem dX7_init_7 : decode cX7_init 7 = .ok (.newarray .int, 2) := by decide +kernel
theorem dX7_init_9 : decode cX7_init 9 = .ok (.putfield 9, 3) := by decide +kernel
theorem dX7_init_12 : decode cX7_init 12 = .ok (.aload_n 0, 1) := by decide +kernel
theorem dX7_init_13 : decode cX7_init 13 = .ok (.bipush 9, 2) := by decide +kernel
theorem dX7_init_15 : decode cX7_init 15 = .ok (.newarray .int, 2) := by decide +kernel
theorem dX7_init_17 : decode cX7_init 17 = .ok (.putfield 15, 3) := by decide +kernel
theorem dX7_init_20 : decode cX7_init 20 = .ok (.aload_n 0, 1) := by decide +kernel
theorem dX7_init_21 : decode cX7_init 21 = .ok (.bipush 9, 2) := by decide +kernel
theorem dX7_init_23 : decode cX7_init 23 = .ok (.newarray .int, 2) := by decide +kernel
theorem dX7_init_25 : decode cX7_init 25 = .ok (.putfield 18, 3) := by decide +kernel
theorem dX7_init_28 : decode cX7_init 28 = .ok (.aload_n 0, 1) := by decide +kernel
theorem dX7_init_29 : decode cX7_init 29 = .ok (.bipush 9, 2) := by decide +kernel
theorem dX7_init_31 : decode cX7_init 31 = .ok (.newarray .int, 2) := by decide +kernel
theorem dX7_init_33 : decode cX7_init 33 = .ok (.putfield 21, 3) := by decide +kernel
theorem dX7_init_36 : decode cX7_init 36 = .ok (.return_, 1) := by decide +kernel
theorem dX7_run_0 : decode cX7_run 0 = .ok (.aload_n 0, 1) := by decide +kernel
theorem dX7_run_1 : decode cX7_run 1 = .ok (.getfield 9, 3) := by decide +kernel
theorem dX7_run_4 : decode cX7_run 4 = .ok (.iconst (-1), 1) := by decide +kernel
theorem dX7_run_5 : decode cX7_run 5 = .ok (.invokestatic 24, 3) := by decide +kernel
theorem dX7_run_8 : decode cX7_run 8 = .ok (.aload_n 0, 1) := by decide +kernel
theorem dX7_run_9 : decode cX7_run 9 = .ok (.getfield 15, 3) := by decide +kernel
theorem dX7_run_12 : decode cX7_run 12 = .ok (.iconst (-1), 1) := by decide +kernel
theorem dX7_run_13 : decode cX7_run 13 = .ok (.invokestatic 24, 3) := by decide +kernel
theorem dX7_run_16 : decode cX7_run 16 = .ok (.aload_n 0, 1) := by decide +kernel
theorem dX7_run_17 : decode cX7_run 17 = .ok (.iconst 0, 1) := by decide +kernel
theorem dX7_run_18 : decode cX7_run 18 = .ok (.putfield 30, 3) := by decide +kernel
theorem dX7_run_21 : decode cX7_run 21 = .ok (.aload_n 0, 1) := by decide +kernel
theorem dX7_run_22 : decode cX7_run 22 = .ok (.iload_n 3, 1) := by decide +kernel
theorem dX7_run_23 : decode cX7_run 23 = .ok (.iconst 0, 1) := by decide +kernel
theorem dX7_run_24 : decode cX7_run 24 = .ok (.invokevirtual 34, 3) := by decide +kernel
theorem dX7_run_27 : decode cX7_run 27 = .ok (.iconst 0, 1) := by decide +kernel
theorem dX7_run_28 : decode cX7_run 28 = .ok (.istore 5, 2) := by decide +kernel
theorem dX7_run_30 : decode cX7_run 30 = .ok (.iload 5, 2) := by decide +kernel
theorem dX7_run_32 : decode cX7_run 32 = .ok (.aload_n 0, 1) := by decide +kernel
theorem dX7_run_33 : decode cX7_run 33 = .ok (.getfield 30, 3) := by decide +kernel
theorem dX7_run_36 : decode cX7_run 36 = .ok (.if_icmp .ge 32, 3) := by decide +kernel
theorem dX7_run_39 : decode cX7_run 39 = .ok (.iload 5, 2) := by decide +kernel
theorem dX7_run_41 : decode cX7_run 41 = .ok (.bipush 9, 2) := by decide +kernel
theorem dX7_run_43 : decode cX7_run 43 = .ok (.if_icmp .ge 25, 3) := by decide +kernel
theorem dX7_run_46 : decode cX7_run 46 = .ok (.aload_n 0, 1) := by decide +kernel
theorem dX7_run_47 : decode cX7_run 47 = .ok (.aload_n 1, 1) := by decide +kernel
theorem dX7_run_48 : decode cX7_run 48 = .ok (.aload_n 2, 1) := by decide +kernel
theorem dX7_run_49 : decode cX7_run 49 = .ok (.aload_n 0, 1) := by decide +kernel
theorem dX7_run_50 : decode cX7_run 50 = .ok (.getfield 21, 3) := by decide +kernel
theorem dX7_run_53 : decode cX7_run 53 = .ok (.iload 5, 2) := by decide +kernel
theorem dX7_run_55 : decode cX7_run 55 = .ok (.iaload, 1) := by decide +kernel
theorem dX7_run_56 : decode cX7_run 56 = .ok (.iload_n 3, 1) := by decide +kernel
theorem dX7_run_57 : decode cX7_run 57 = .ok (.iload 4, 2) := by decide +kernel
theorem dX7_run_59 : decode cX7_run 59 = .ok (.invokevirtual 38, 3) := by decide +kernel
theorem dX7_run_62 : decode cX7_run 62 = .ok (.iinc 5 1, 3) := by decide +kernel
theorem dX7_run_65 : decode cX7_run 65 = .ok (.goto (-35), 3) := by decide +kernel
theorem dX7_run_68 : decode cX7_run 68 = .ok (.return_, 1) := by decide +kernel
theorem dX7_arrival_0 : decode cX7_arrival 0 = .ok (.aload_n 0, 1) := by decide +kernel
theorem dX7_arrival_1 : decode cX7_arrival 1 = .ok (.getfield 15, 3) := by decide +kernel
theorem dX7_arrival_4 : decode cX7_arrival 4 = .ok (.iload_n 2, 1) := by decide +kernel
theorem dX7_arrival_5 : decode cX7_arrival 5 = .ok (.iaload, 1) := by decide +kernel
theorem dX7_arrival_6 : decode cX7_arrival 6 = .ok (.iconst (-1), 1) := by decide +kernel
theorem dX7_arrival_7 : decode cX7_arrival 7 = .ok (.if_icmp .ne 5, 3) := by decide +kernel
theorem dX7_arrival_10 : decode cX7_arrival 10 = .ok (.iconst (-1), 1) := by decide +kernel
theorem dX7_arrival_11 : decode cX7_arrival 11 = .ok (.ireturn, 1) := by decide +kernel
theorem dX7_arrival_12 : decode cX7_arrival 12 = .ok (.aload_n 0, 1) := by decide +kernel
theorem dX7_arrival_13 : decode cX7_arrival 13 = .ok (.getfield 15, 3) := by decide +kernel
theorem dX7_arrival_16 : decode cX7_arrival 16 = .ok (.iload_n 2, 1) := by decide +kernel
theorem dX7_arrival_17 : decode cX7_arrival 17 = .ok (.iaload, 1) := by decide +kernel
theorem dX7_arrival_18 : decode cX7_arrival 18 = .ok (.aload_n 1, 1) := by decide +kernel
theorem dX7_arrival_19 : decode cX7_arrival 19 = .ok (.getfield 42, 3) := by decide +kernel
theorem dX7_arrival_22 : decode cX7_arrival 22 = .ok (.aload_n 0, 1) := by decide +kernel
theorem dX7_arrival_23 : decode cX7_arrival 23 = .ok (.getfield 18, 3) := by decide +kernel
theorem dX7_arrival_26 : decode cX7_arrival 26 = .ok (.iload_n 2, 1) := by decide +kernel
theorem dX7_arrival_27 : decode cX7_arrival 27 = .ok (.iaload, 1) := by decide +kernel
theorem dX7_arrival_28 : decode cX7_arrival 28 = .ok (.aaload, 1) := by decide +kernel
theorem dX7_arrival_29 : decode cX7_arrival 29 = .ok (.iload_n 3, 1) := by decide +kernel
theorem dX7_arrival_30 : decode cX7_arrival 30 = .ok (.iaload, 1) := by decide +kernel
theorem dX7_arrival_31 : decode cX7_arrival 31 = .ok (.iadd, 1) := by decide +kernel
theorem dX7_arrival_32 : decode cX7_arrival 32 = .ok (.ireturn, 1) := by decide +kernel
theorem dX7_rouse_0 : decode cX7_rouse 0 = .ok (.aload_n 0, 1) := by decide +kernel
theorem dX7_rouse_1 : decode cX7_rouse 1 = .ok (.getfield 30, 3) := by decide +kernel
theorem dX7_rouse_4 : decode cX7_rouse 4 = .ok (.bipush 9, 2) := by decide +kernel
theorem dX7_rouse_6 : decode cX7_rouse 6 = .ok (.if_icmp .lt 4, 3) := by decide +kernel
theorem dX7_rouse_9 : decode cX7_rouse 9 = .ok (.return_, 1) := by decide +kernel
theorem dX7_rouse_10 : decode cX7_rouse 10 = .ok (.aload_n 0, 1) := by decide +kernel
theorem dX7_rouse_11 : decode cX7_rouse 11 = .ok (.getfield 9, 3) := by decide +kernel
theorem dX7_rouse_14 : decode cX7_rouse 14 = .ok (.iload_n 1, 1) := by decide +kernel
theorem dX7_rouse_15 : decode cX7_rouse 15 = .ok (.iload_n 2, 1) := by decide +kernel
theorem dX7_rouse_16 : decode cX7_rouse 16 = .ok (.iastore, 1) := by decide +kernel
theorem dX7_rouse_17 : decode cX7_rouse 17 = .ok (.aload_n 0, 1) := by decide +kernel
theorem dX7_rouse_18 : decode cX7_rouse 18 = .ok (.getfield 15, 3) := by decide +kernel
theorem dX7_rouse_21 : decode cX7_rouse 21 = .ok (.iload_n 1, 1) := by decide +kernel
theorem dX7_rouse_22 : decode cX7_rouse 22 = .ok (.iload_n 2, 1) := by decide +kernel
theorem dX7_rouse_23 : decode cX7_rouse 23 = .ok (.iastore, 1) := by decide +kernel
theorem dX7_rouse_24 : decode cX7_rouse 24 = .ok (.aload_n 0, 1) := by decide +kernel
theorem dX7_rouse_25 : decode cX7_rouse 25 = .ok (.getfield 18, 3) := by decide +kernel
theorem dX7_rouse_28 : decode cX7_rouse 28 = .ok (.iload_n 1, 1) := by decide +kernel
theorem dX7_rouse_29 : decode cX7_rouse 29 = .ok (.iload_n 1, 1) := by decide +kernel
theorem dX7_rouse_30 : decode cX7_rouse 30 = .ok (.iastore, 1) := by decide +kernel
theorem dX7_rouse_31 : decode cX7_rouse 31 = .ok (.aload_n 0, 1) := by decide +kernel
theorem dX7_rouse_32 : decode cX7_rouse 32 = .ok (.getfield 21, 3) := by decide +kernel
theorem dX7_rouse_35 : decode cX7_rouse 35 = .ok (.aload_n 0, 1) := by decide +kernel
theorem dX7_rouse_36 : decode cX7_rouse 36 = .ok (.getfield 30, 3) := by decide +kernel
theorem dX7_rouse_39 : decode cX7_rouse 39 = .ok (.iload_n 1, 1) := by decide +kernel
theorem dX7_rouse_40 : decode cX7_rouse 40 = .ok (.iastore, 1) := by decide +kernel
theorem dX7_rouse_41 : decode cX7_rouse 41 = .ok (.aload_n 0, 1) := by decide +kernel
theorem dX7_rouse_42 : decode cX7_rouse 42 = .ok (.dup, 1) := by decide +kernel
theorem dX7_rouse_43 : decode cX7_rouse 43 = .ok (.getfield 30, 3) := by decide +kernel
theorem dX7_rouse_46 : decode cX7_rouse 46 = .ok (.iconst 1, 1) := by decide +kernel
theorem dX7_rouse_47 : decode cX7_rouse 47 = .ok (.iadd, 1) := by decide +kernel
theorem dX7_rouse_48 : decode cX7_rouse 48 = .ok (.putfield 30, 3) := by decide +kernel
theorem dX7_rouse_51 : decode cX7_rouse 51 = .ok (.return_, 1) := by decide +kernel
theorem dX7_goRound_0 : decode cX7_goRound 0 = .ok (.iload_n 3, 1) := by decide +kernel
theorem dX7_goRound_1 : decode cX7_goRound 1 = .ok (.istore 6, 2) := by decide +kernel
theorem dX7_goRound_3 : decode cX7_goRound 3 = .ok (.aload_n 0, 1) := by decide +kernel
theorem dX7_goRound_4 : decode cX7_goRound 4 = .ok (.getfield 9, 3) := by decide +kernel
theorem dX7_goRound_7 : decode cX7_goRound 7 = .ok (.iload_n 3, 1) := by decide +kernel
theorem dX7_goRound_8 : decode cX7_goRound 8 = .ok (.iaload, 1) := by decide +kernel
theorem dX7_goRound_9 : decode cX7_goRound 9 = .ok (.istore 7, 2) := by decide +kernel
theorem dX7_goRound_11 : decode cX7_goRound 11 = .ok (.iconst 0, 1) := by decide +kernel
theorem dX7_goRound_12 : decode cX7_goRound 12 = .ok (.istore 8, 2) := by decide +kernel
theorem dX7_goRound_14 : decode cX7_goRound 14 = .ok (.iconst 0, 1) := by decide +kernel
theorem dX7_goRound_15 : decode cX7_goRound 15 = .ok (.istore 9, 2) := by decide +kernel
theorem dX7_goRound_17 : decode cX7_goRound 17 = .ok (.iload 9, 2) := by decide +kernel
theorem dX7_goRound_19 : decode cX7_goRound 19 = .ok (.aload_n 2, 1) := by decide +kernel
theorem dX7_goRound_20 : decode cX7_goRound 20 = .ok (.getfield 48, 3) := by decide +kernel
theorem dX7_goRound_23 : decode cX7_goRound 23 = .ok (.if_icmp .ge 112, 3) := by decide +kernel
theorem dX7_goRound_26 : decode cX7_goRound 26 = .ok (.aload_n 2, 1) := by decide +kernel
theorem dX7_goRound_27 : decode cX7_goRound 27 = .ok (.getfield 51, 3) := by decide +kernel
theorem dX7_goRound_30 : decode cX7_goRound 30 = .ok (.iload 9, 2) := by decide +kernel
theorem dX7_goRound_32 : decode cX7_goRound 32 = .ok (.iaload, 1) := by decide +kernel
theorem dX7_goRound_33 : decode cX7_goRound 33 = .ok (.iload_n 3, 1) := by decide +kernel
theorem dX7_goRound_34 : decode cX7_goRound 34 = .ok (.if_icmp .ne 95, 3) := by decide +kernel
theorem dX7_goRound_37 : decode cX7_goRound 37 = .ok (.aload_n 2, 1) := by decide +kernel
theorem dX7_goRound_38 : decode cX7_goRound 38 = .ok (.getfield 54, 3) := by decide +kernel
theorem dX7_goRound_41 : decode cX7_goRound 41 = .ok (.iload 9, 2) := by decide +kernel
theorem dX7_goRound_43 : decode cX7_goRound 43 = .ok (.iaload, 1) := by decide +kernel
theorem dX7_goRound_44 : decode cX7_goRound 44 = .ok (.istore 10, 2) := by decide +kernel
theorem dX7_goRound_46 : decode cX7_goRound 46 = .ok (.iload 7, 2) := by decide +kernel
theorem dX7_goRound_48 : decode cX7_goRound 48 = .ok (.aload_n 1, 1) := by decide +kernel
theorem dX7_goRound_49 : decode cX7_goRound 49 = .ok (.getfield 42, 3) := by decide +kernel
theorem dX7_goRound_52 : decode cX7_goRound 52 = .ok (.iload 6, 2) := by decide +kernel
theorem dX7_goRound_54 : decode cX7_goRound 54 = .ok (.aaload, 1) := by decide +kernel
theorem dX7_goRound_55 : decode cX7_goRound 55 = .ok (.iload 10, 2) := by decide +kernel
theorem dX7_goRound_57 : decode cX7_goRound 57 = .ok (.iaload, 1) := by decide +kernel
theorem dX7_goRound_58 : decode cX7_goRound 58 = .ok (.iadd, 1) := by decide +kernel
theorem dX7_goRound_59 : decode cX7_goRound 59 = .ok (.istore 7, 2) := by decide +kernel
theorem dX7_goRound_61 : decode cX7_goRound 61 = .ok (.iload 10, 2) := by decide +kernel
theorem dX7_goRound_63 : decode cX7_goRound 63 = .ok (.istore 6, 2) := by decide +kernel
theorem dX7_goRound_65 : decode cX7_goRound 65 = .ok (.iload 10, 2) := by decide +kernel
theorem dX7_goRound_67 : decode cX7_goRound 67 = .ok (.iload 4, 2) := by decide +kernel
theorem dX7_goRound_69 : decode cX7_goRound 69 = .ok (.if_icmp .eq 37, 3) := by decide +kernel
theorem dX7_goRound_72 : decode cX7_goRound 72 = .ok (.iload 5, 2) := by decide +kernel
theorem dX7_goRound_74 : decode cX7_goRound 74 = .ok (.iload 10, 2) := by decide +kernel
theorem dX7_goRound_76 : decode cX7_goRound 76 = .ok (.invokestatic 57, 3) := by decide +kernel
theorem dX7_goRound_79 : decode cX7_goRound 79 = .ok (.ifCond .eq 27, 3) := by decide +kernel
theorem dX7_goRound_82 : decode cX7_goRound 82 = .ok (.iload 7, 2) := by decide +kernel
theorem dX7_goRound_84 : decode cX7_goRound 84 = .ok (.aload_n 1, 1) := by decide +kernel
theorem dX7_goRound_85 : decode cX7_goRound 85 = .ok (.getfield 61, 3) := by decide +kernel
theorem dX7_goRound_88 : decode cX7_goRound 88 = .ok (.iload 10, 2) := by decide +kernel
theorem dX7_goRound_90 : decode cX7_goRound 90 = .ok (.iaload, 1) := by decide +kernel
theorem dX7_goRound_91 : decode cX7_goRound 91 = .ok (.iadd, 1) := by decide +kernel
theorem dX7_goRound_92 : decode cX7_goRound 92 = .ok (.istore 7, 2) := by decide +kernel
theorem dX7_goRound_94 : decode cX7_goRound 94 = .ok (.iload 8, 2) := by decide +kernel
theorem dX7_goRound_96 : decode cX7_goRound 96 = .ok (.iconst 1, 1) := by decide +kernel
theorem dX7_goRound_97 : decode cX7_goRound 97 = .ok (.iload 10, 2) := by decide +kernel
theorem dX7_goRound_99 : decode cX7_goRound 99 = .ok (.ishl, 1) := by decide +kernel
theorem dX7_goRound_100 : decode cX7_goRound 100 = .ok (.ior, 1) := by decide +kernel
theorem dX7_goRound_101 : decode cX7_goRound 101 = .ok (.istore 8, 2) := by decide +kernel
theorem dX7_goRound_103 : decode cX7_goRound 103 = .ok (.goto 26, 3) := by decide +kernel
theorem dX7_goRound_106 : decode cX7_goRound 106 = .ok (.iload 10, 2) := by decide +kernel
theorem dX7_goRound_108 : decode cX7_goRound 108 = .ok (.iload 4, 2) := by decide +kernel
theorem dX7_goRound_110 : decode cX7_goRound 110 = .ok (.if_icmp .eq 19, 3) := by decide +kernel
theorem dX7_goRound_113 : decode cX7_goRound 113 = .ok (.aload_n 0, 1) := by decide +kernel
theorem dX7_goRound_114 : decode cX7_goRound 114 = .ok (.iload 10, 2) := by decide +kernel
theorem dX7_goRound_116 : decode cX7_goRound 116 = .ok (.iload 7, 2) := by decide +kernel
theorem dX7_goRound_118 : decode cX7_goRound 118 = .ok (.aload_n 1, 1) := by decide +kernel
theorem dX7_goRound_119 : decode cX7_goRound 119 = .ok (.getfield 64, 3) := by decide +kernel
theorem dX7_goRound_122 : decode cX7_goRound 122 = .ok (.iload 10, 2) := by decide +kernel
theorem dX7_goRound_124 : decode cX7_goRound 124 = .ok (.iaload, 1) := by decide +kernel
theorem dX7_goRound_125 : decode cX7_goRound 125 = .ok (.iadd, 1) := by decide +kernel
theorem dX7_goRound_126 : decode cX7_goRound 126 = .ok (.invokevirtual 34, 3) := by decide +kernel
theorem dX7_goRound_129 : decode cX7_goRound 129 = .ok (.iinc 9 1, 3) := by decide +kernel
theorem dX7_goRound_132 : decode cX7_goRound 132 = .ok (.goto (-115), 3) := by decide +kernel
theorem dX7_goRound_135 : decode cX7_goRound 135 = .ok (.iconst 0, 1) := by decide +kernel
theorem dX7_goRound_136 : decode cX7_goRound 136 = .ok (.istore 9, 2) := by decide +kernel
theorem dX7_goRound_138 : decode cX7_goRound 138 = .ok (.iload 9, 2) := by decide +kernel
theorem dX7_goRound_140 : decode cX7_goRound 140 = .ok (.aload_n 1, 1) := by decide +kernel
theorem dX7_goRound_141 : decode cX7_goRound 141 = .ok (.getfield 67, 3) := by decide +kernel
theorem dX7_goRound_144 : decode cX7_goRound 144 = .ok (.if_icmp .ge 37, 3) := by decide +kernel
theorem dX7_goRound_147 : decode cX7_goRound 147 = .ok (.iload 8, 2) := by decide +kernel
theorem dX7_goRound_149 : decode cX7_goRound 149 = .ok (.iload 9, 2) := by decide +kernel
theorem dX7_goRound_151 : decode cX7_goRound 151 = .ok (.invokestatic 57, 3) := by decide +kernel
theorem dX7_goRound_154 : decode cX7_goRound 154 = .ok (.ifCond .eq 21, 3) := by decide +kernel
theorem dX7_goRound_157 : decode cX7_goRound 157 = .ok (.aload_n 0, 1) := by decide +kernel
theorem dX7_goRound_158 : decode cX7_goRound 158 = .ok (.getfield 15, 3) := by decide +kernel
theorem dX7_goRound_161 : decode cX7_goRound 161 = .ok (.iload 9, 2) := by decide +kernel
theorem dX7_goRound_163 : decode cX7_goRound 163 = .ok (.iload 7, 2) := by decide +kernel
theorem dX7_goRound_165 : decode cX7_goRound 165 = .ok (.iastore, 1) := by decide +kernel
theorem dX7_goRound_166 : decode cX7_goRound 166 = .ok (.aload_n 0, 1) := by decide +kernel
theorem dX7_goRound_167 : decode cX7_goRound 167 = .ok (.getfield 18, 3) := by decide +kernel
theorem dX7_goRound_170 : decode cX7_goRound 170 = .ok (.iload 9, 2) := by decide +kernel
theorem dX7_goRound_172 : decode cX7_goRound 172 = .ok (.iload 6, 2) := by decide +kernel
theorem dX7_goRound_174 : decode cX7_goRound 174 = .ok (.iastore, 1) := by decide +kernel
theorem dX7_goRound_175 : decode cX7_goRound 175 = .ok (.iinc 9 1, 3) := by decide +kernel
theorem dX7_goRound_178 : decode cX7_goRound 178 = .ok (.goto (-40), 3) := by decide +kernel
theorem dX7_goRound_181 : decode cX7_goRound 181 = .ok (.return_, 1) := by decide +kernel
