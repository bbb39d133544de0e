theorem dL_is_16 : decode cL_is 16 = .ok (.ifCond .ne 7, 3) := by decide +kernel
theorem dL_is_19 : decode cL_is 19 = .ok (.iconst 1, 1) := by decide +kernel
theorem dL_is_20 : decode cL_is 20 = .ok (.goto 4, 3) := by decide +kernel
theorem dL_is_23 : decode cL_is 23 = .ok (.iconst 0, 1) := by decide +kernel
theorem dL_is_24 : decode cL_is 24 = .ok (.ireturn, 1) := by decide +kernel
theorem dL_is_25 : decode cL_is 25 = .ok (.lload 4, 2) := by decide +kernel
theorem dL_is_27 : decode cL_is 27 = .ok (.lload 6, 2) := by decide +kernel
theorem dL_is_29 : decode cL_is 29 = .ok (.invokestatic 89, 3) := by decide +kernel
theorem dL_is_32 : decode cL_is 32 = .ok (.lstore 8, 2) := by decide +kernel
theorem dL_is_34 : decode cL_is 34 = .ok (.lload_n 0, 1) := by decide +kernel
theorem dL_is_35 : decode cL_is 35 = .ok (.lload 4, 2) := by decide +kernel
theorem dL_is_37 : decode cL_is 37 = .ok (.lload 8, 2) := by decide +kernel
theorem dL_is_39 : decode cL_is 39 = .ok (.ldiv, 1) := by decide +kernel
theorem dL_is_40 : decode cL_is 40 = .ok (.lcmp, 1) := by decide +kernel
theorem dL_is_41 : decode cL_is 41 = .ok (.ifCond .ne 17, 3) := by decide +kernel
theorem dL_is_44 : decode cL_is 44 = .ok (.lload_n 2, 1) := by decide +kernel
theorem dL_is_45 : decode cL_is 45 = .ok (.lload 6, 2) := by decide +kernel
theorem dL_is_47 : decode cL_is 47 = .ok (.lload 8, 2) := by decide +kernel
theorem dL_is_49 : decode cL_is 49 = .ok (.ldiv, 1) := by decide +kernel
theorem dL_is_50 : decode cL_is 50 = .ok (.lcmp, 1) := by decide +kernel
theorem dL_is_51 : decode cL_is 51 = .ok (.ifCond .ne 7, 3) := by decide +kernel
theorem dL_is_54 : decode cL_is 54 = .ok (.iconst 1, 1) := by decide +kernel
theorem dL_is_55 : decode cL_is 55 = .ok (.goto 4, 3) := by decide +kernel
theorem dL_is_58 : decode cL_is 58 = .ok (.iconst 0, 1) := by decide +kernel
theorem dL_is_59 : decode cL_is 59 = .ok (.ireturn, 1) := by decide +kernel
theorem dL_wiresOf_0 : decode cL_wiresOf 0 = .ok (.iconst 0, 1) := by decide +kernel
theorem dL_wiresOf_1 : decode cL_wiresOf 1 = .ok (.istore 4, 2) := by decide +kernel
theorem dL_wiresOf_3 : decode cL_wiresOf 3 = .ok (.iconst 0, 1) := by decide +kernel
theorem dL_wiresOf_4 : decode cL_wiresOf 4 = .ok (.istore 5, 2) := by decide +kernel
theorem dL_wiresOf_6 : decode cL_wiresOf 6 = .ok (.iload 5, 2) := by decide +kernel
theorem dL_wiresOf_8 : decode cL_wiresOf 8 = .ok (.aload_n 1, 1) := by decide +kernel
theorem dL_wiresOf_9 : decode cL_wiresOf 9 = .ok (.iconst 3, 1) := by decide +kernel
theorem dL_wiresOf_10 : decode cL_wiresOf 10 = .ok (.iaload, 1) := by decide +kernel
theorem dL_wiresOf_11 : decode cL_wiresOf 11 = .ok (.if_icmp .ge 46, 3) := by decide +kernel
theorem dL_wiresOf_14 : decode cL_wiresOf 14 = .ok (.aload_n 1, 1) := by decide +kernel
theorem dL_wiresOf_15 : decode cL_wiresOf 15 = .ok (.iconst 4, 1) := by decide +kernel
theorem dL_wiresOf_16 : decode cL_wiresOf 16 = .ok (.iaload, 1) := by decide +kernel
theorem dL_wiresOf_17 : decode cL_wiresOf 17 = .ok (.iload 5, 2) := by decide +kernel
theorem dL_wiresOf_19 : decode cL_wiresOf 19 = .ok (.ishr, 1) := by decide +kernel
theorem dL_wiresOf_20 : decode cL_wiresOf 20 = .ok (.iconst 1, 1) := by decide +kernel
theorem dL_wiresOf_21 : decode cL_wiresOf 21 = .ok (.iand, 1) := by decide +kernel
theorem dL_wiresOf_22 : decode cL_wiresOf 22 = .ok (.iconst 1, 1) := by decide +kernel
theorem dL_wiresOf_23 : decode cL_wiresOf 23 = .ok (.if_icmp .ne 28, 3) := by decide +kernel
theorem dL_wiresOf_26 : decode cL_wiresOf 26 = .ok (.aload_n 2, 1) := by decide +kernel
theorem dL_wiresOf_27 : decode cL_wiresOf 27 = .ok (.iload 5, 2) := by decide +kernel
theorem dL_wiresOf_29 : decode cL_wiresOf 29 = .ok (.iaload, 1) := by decide +kernel
theorem dL_wiresOf_30 : decode cL_wiresOf 30 = .ok (.iload_n 0, 1) := by decide +kernel
theorem dL_wiresOf_31 : decode cL_wiresOf 31 = .ok (.if_icmp .eq 11, 3) := by decide +kernel
theorem dL_wiresOf_34 : decode cL_wiresOf 34 = .ok (.aload_n 3, 1) := by decide +kernel
theorem dL_wiresOf_35 : decode cL_wiresOf 35 = .ok (.iload 5, 2) := by decide +kernel
theorem dL_wiresOf_37 : decode cL_wiresOf 37 = .ok (.iaload, 1) := by decide +kernel
theorem dL_wiresOf_38 : decode cL_wiresOf 38 = .ok (.iload_n 0, 1) := by decide +kernel
theorem dL_wiresOf_39 : decode cL_wiresOf 39 = .ok (.if_icmp .ne 12, 3) := by decide +kernel
theorem dL_wiresOf_42 : decode cL_wiresOf 42 = .ok (.iload 4, 2) := by decide +kernel
theorem dL_wiresOf_44 : decode cL_wiresOf 44 = .ok (.iconst 1, 1) := by decide +kernel
theorem dL_wiresOf_45 : decode cL_wiresOf 45 = .ok (.iload 5, 2) := by decide +kernel
theorem dL_wiresOf_47 : decode cL_wiresOf 47 = .ok (.ishl, 1) := by decide +kernel
theorem dL_wiresOf_48 : decode cL_wiresOf 48 = .ok (.ior, 1) := by decide +kernel
theorem dL_wiresOf_49 : decode cL_wiresOf 49 = .ok (.istore 4, 2) := by decide +kernel
theorem dL_wiresOf_51 : decode cL_wiresOf 51 = .ok (.iinc 5 1, 3) := by decide +kernel
theorem dL_wiresOf_54 : decode cL_wiresOf 54 = .ok (.goto (-48), 3) := by decide +kernel
theorem dL_wiresOf_57 : decode cL_wiresOf 57 = .ok (.iload 4, 2) := by decide +kernel
theorem dL_wiresOf_59 : decode cL_wiresOf 59 = .ok (.ireturn, 1) := by decide +kernel
theorem dL_lowest_0 : decode cL_lowest 0 = .ok (.iconst 0, 1) := by decide +kernel
theorem dL_lowest_1 : decode cL_lowest 1 = .ok (.istore_n 1, 1) := by decide +kernel
theorem dL_lowest_2 : decode cL_lowest 2 = .ok (.iload_n 0, 1) := by decide +kernel
theorem dL_lowest_3 : decode cL_lowest 3 = .ok (.iload_n 1, 1) := by decide +kernel
theorem dL_lowest_4 : decode cL_lowest 4 = .ok (.ishr, 1) := by decide +kernel
theorem dL_lowest_5 : decode cL_lowest 5 = .ok (.iconst 1, 1) := by decide +kernel
theorem dL_lowest_6 : decode cL_lowest 6 = .ok (.iand, 1) := by decide +kernel
theorem dL_lowest_7 : decode cL_lowest 7 = .ok (.ifCond .ne 9, 3) := by decide +kernel
theorem dL_lowest_10 : decode cL_lowest 10 = .ok (.iinc 1 1, 3) := by decide +kernel
theorem dL_lowest_13 : decode cL_lowest 13 = .ok (.goto (-11), 3) := by decide +kernel
theorem dL_lowest_16 : decode cL_lowest 16 = .ok (.iload_n 1, 1) := by decide +kernel
theorem dL_lowest_17 : decode cL_lowest 17 = .ok (.ireturn, 1) := by decide +kernel
theorem dL_adds_0 : decode cL_adds 0 = .ok (.aload_n 3, 1) := by decide +kernel
theorem dL_adds_1 : decode cL_adds 1 = .ok (.iconst 3, 1) := by decide +kernel
theorem dL_adds_2 : decode cL_adds 2 = .ok (.dup2, 1) := by decide +kernel
theorem dL_adds_3 : decode cL_adds 3 = .ok (.iaload, 1) := by decide +kernel
theorem dL_adds_4 : decode cL_adds 4 = .ok (.dup_x2, 1) := by decide +kernel
theorem dL_adds_5 : decode cL_adds 5 = .ok (.iconst 1, 1) := by decide +kernel
theorem dL_adds_6 : decode cL_adds 6 = .ok (.iadd, 1) := by decide +kernel
theorem dL_adds_7 : decode cL_adds 7 = .ok (.iastore, 1) := by decide +kernel
theorem dL_adds_8 : decode cL_adds 8 = .ok (.istore 7, 2) := by decide +kernel
theorem dL_adds_10 : decode cL_adds 10 = .ok (.aload 4, 2) := by decide +kernel
theorem dL_adds_12 : decode cL_adds 12 = .ok (.iload 7, 2) := by decide +kernel
theorem dL_adds_14 : decode cL_adds 14 = .ok (.iload_n 0, 1) := by decide +kernel
theorem dL_adds_15 : decode cL_adds 15 = .ok (.iastore, 1) := by decide +kernel
theorem dL_adds_16 : decode cL_adds 16 = .ok (.aload 5, 2) := by decide +kernel
theorem dL_adds_18 : decode cL_adds 18 = .ok (.iload 7, 2) := by decide +kernel
theorem dL_adds_20 : decode cL_adds 20 = .ok (.iload_n 1, 1) := by decide +kernel
theorem dL_adds_21 : decode cL_adds 21 = .ok (.iastore, 1) := by decide +kernel
theorem dL_adds_22 : decode cL_adds 22 = .ok (.aload 6, 2) := by decide +kernel
theorem dL_adds_24 : decode cL_adds 24 = .ok (.iload 7, 2) := by decide +kernel
theorem dL_adds_26 : decode cL_adds 26 = .ok (.iload_n 2, 1) := by decide +kernel
theorem dL_adds_27 : decode cL_adds 27 = .ok (.iastore, 1) := by decide +kernel
theorem dL_adds_28 : decode cL_adds 28 = .ok (.aload_n 3, 1) := by decide +kernel
theorem dL_adds_29 : decode cL_adds 29 = .ok (.iconst 4, 1) := by decide +kernel
theorem dL_adds_30 : decode cL_adds 30 = .ok (.dup2, 1) := by decide +kernel
theorem dL_adds_31 : decode cL_adds 31 = .ok (.iaload, 1) := by decide +kernel
theorem dL_adds_32 : decode cL_adds 32 = .ok (.iconst 1, 1) := by decide +kernel
theorem dL_adds_33 : decode cL_adds 33 = .ok (.iload 7, 2) := by decide +kernel
theorem dL_adds_35 : decode cL_adds 35 = .ok (.ishl, 1) := by decide +kernel
theorem dL_adds_36 : decode cL_adds 36 = .ok (.ior, 1) := by decide +kernel
theorem dL_adds_37 : decode cL_adds 37 = .ok (.iastore, 1) := by decide +kernel
theorem dL_adds_38 : decode cL_adds 38 = .ok (.iload 7, 2) := by decide +kernel
theorem dL_adds_40 : decode cL_adds 40 = .ok (.ireturn, 1) := by decide +kernel
set_option maxRecDepth 20000 in
theorem ggL_does_L_wiresOf : GoodIn wsL_does wsL_wiresOf := goodIn_r _ [5] (by decide +kernel) (by decide +kernel)
set_option maxRecDepth 20000 in
theorem gL_does_L_wiresOf : GoodIn wsL_does (va_wsS RL 93 yL_wiresOf wsL_wiresOf) := goodIn_app (goodIn_of _ (by decide +kernel)) ggL_does_L_wiresOf
set_option maxRecDepth 20000 in
theorem ggL_does_L_lowest : GoodIn wsL_does wsL_lowest := goodIn_r _ [8] (by decide +kernel) (by decide +kernel)
set_option maxRecDepth 20000 in
theorem gL_does_L_lowest : GoodIn wsL_does (va_wsS RL 97 yL_lowest wsL_lowest) := goodIn_app (goodIn_of _ (by decide +kernel)) ggL_does_L_lowest
set_option maxRecDepth 20000 in
theorem ggL_does_L_stars : GoodIn wsL_does wsL_stars := goodIn_r _ [11, 2, 3, 4, 5, 6, 7, 8, 12, 13, 14] (by decide +kernel) (by decide +kernel)
set_option maxRecDepth 20000 in
theorem gL_does_L_stars : GoodIn wsL_does (va_wsS RL 100 yL_stars wsL_stars) := goodIn_app (goodIn_of _ (by decide +kernel)) ggL_does_L_stars
set_option maxRecDepth 20000 in
theorem ggL_does_L_adds : GoodIn wsL_does wsL_adds := goodIn_r _ [14] (by decide +kernel) (by decide +kernel)
set_option maxRecDepth 20000 in
theorem gL_does_L_adds : GoodIn wsL_does (va_wsS RL 104 yL_adds wsL_adds) := goodIn_app (goodIn_of _ (by decide +kernel)) ggL_does_L_adds
theorem dL_does_0 : decode cL_does 0 = .ok (.iload_n 0, 1) := by decide +kernel
theorem dL_does_1 : decode cL_does 1 = .ok (.ifCond .ne 28, 3) := by decide +kernel
theorem dL_does_4 : decode cL_does 4 = .ok (.aload_n 3, 1) := by decide +kernel
theorem dL_does_5 : decode cL_does 5 = .ok (.iload_n 1, 1) := by decide +kernel
theorem dL_does_6 : decode cL_does 6 = .ok (.iaload, 1) := by decide +kernel
theorem dL_does_7 : decode cL_does 7 = .ok (.aload 4, 2) := by decide +kernel
theorem dL_does_9 : decode cL_does 9 = .ok (.iload_n 1, 1) := by decide +kernel
theorem dL_does_10 : decode cL_does 10 = .ok (.iaload, 1) := by decide +kernel
theorem dL_does_11 : decode cL_does 11 = .ok (.if_icmp .eq 5, 3) := by decide +kernel
theorem dL_does_14 : decode cL_does 14 = .ok (.iconst 0, 1) := by decide +kernel
theorem dL_does_15 : decode cL_does 15 = .ok (.ireturn, 1) := by decide +kernel
theorem dL_does_16 : decode cL_does 16 = .ok (.aload_n 2, 1) := by decide +kernel
theorem dL_does_17 : decode cL_does 17 = .ok (.iconst 4, 1) := by decide +kernel
theorem dL_does_18 : decode cL_does 18 = .ok (.dup2, 1) := by decide +kernel
theorem dL_does_19 : decode cL_does 19 = .ok (.iaload, 1) := by decide +kernel
theorem dL_does_20 : decode cL_does 20 = .ok (.iconst 1, 1) := by decide +kernel
theorem dL_does_21 : decode cL_does 21 = .ok (.iload_n 1, 1) := by decide +kernel
theorem dL_does_22 : decode cL_does 22 = .ok (.ishl, 1) := by decide +kernel
theorem dL_does_23 : decode cL_does 23 = .ok (.iconst (-1), 1) := by decide +kernel
theorem dL_does_24 : decode cL_does 24 = .ok (.ixor, 1) := by decide +kernel
theorem dL_does_25 : decode cL_does 25 = .ok (.iand, 1) := by decide +kernel
theorem dL_does_26 : decode cL_does 26 = .ok (.iastore, 1) := by decide +kernel
theorem dL_does_27 : decode cL_does 27 = .ok (.iconst 1, 1) := by decide +kernel
theorem dL_does_28 : decode cL_does 28 = .ok (.ireturn, 1) := by decide +kernel
theorem dL_does_29 : decode cL_does 29 = .ok (.iload_n 0, 1) := by decide +kernel
theorem dL_does_30 : decode cL_does 30 = .ok (.iconst 1, 1) := by decide +kernel
theorem dL_does_31 : decode cL_does 31 = .ok (.if_icmp .ne 100, 3) := by decide +kernel
theorem dL_does_34 : decode cL_does 34 = .ok (.aload_n 3, 1) := by decide +kernel
theorem dL_does_35 : decode cL_does 35 = .ok (.iload_n 1, 1) := by decide +kernel
theorem dL_does_36 : decode cL_does 36 = .ok (.iaload, 1) := by decide +kernel
theorem dL_does_37 : decode cL_does 37 = .ok (.aload_n 2, 1) := by decide +kernel
theorem dL_does_38 : decode cL_does 38 = .ok (.aload_n 3, 1) := by decide +kernel
theorem dL_does_39 : decode cL_does 39 = .ok (.aload 4, 2) := by decide +kernel
theorem dL_does_41 : decode cL_does 41 = .ok (.invokestatic 93, 3) := by decide +kernel
theorem dL_does_44 : decode cL_does 44 = .ok (.aload 4, 2) := by decide +kernel
theorem dL_does_46 : decode cL_does 46 = .ok (.iload_n 1, 1) := by decide +kernel
theorem dL_does_47 : decode cL_does 47 = .ok (.iaload, 1) := by decide +kernel
theorem dL_does_48 : decode cL_does 48 = .ok (.aload_n 2, 1) := by decide +kernel
theorem dL_does_49 : decode cL_does 49 = .ok (.aload_n 3, 1) := by decide +kernel
theorem dL_does_50 : decode cL_does 50 = .ok (.aload 4, 2) := by decide +kernel
theorem dL_does_52 : decode cL_does 52 = .ok (.invokestatic 93, 3) := by decide +kernel
theorem dL_does_55 : decode cL_does 55 = .ok (.iand, 1) := by decide +kernel
theorem dL_does_56 : decode cL_does 56 = .ok (.iconst 1, 1) := by decide +kernel
theorem dL_does_57 : decode cL_does 57 = .ok (.iload_n 1, 1) := by decide +kernel
theorem dL_does_58 : decode cL_does 58 = .ok (.ishl, 1) := by decide +kernel
theorem dL_does_59 : decode cL_does 59 = .ok (.iconst (-1), 1) := by decide +kernel
theorem dL_does_60 : decode cL_does 60 = .ok (.ixor, 1) := by decide +kernel
theorem dL_does_61 : decode cL_does 61 = .ok (.iand, 1) := by decide +kernel
theorem dL_does_62 : decode cL_does 62 = .ok (.istore 6, 2) := by decide +kernel
theorem dL_does_64 : decode cL_does 64 = .ok (.aload_n 3, 1) := by decide +kernel
theorem dL_does_65 : decode cL_does 65 = .ok (.iload_n 1, 1) := by decide +kernel
theorem dL_does_66 : decode cL_does 66 = .ok (.iaload, 1) := by decide +kernel
theorem dL_does_67 : decode cL_does 67 = .ok (.aload 4, 2) := by decide +kernel
theorem dL_does_69 : decode cL_does 69 = .ok (.iload_n 1, 1) := by decide +kernel
theorem dL_does_70 : decode cL_does 70 = .ok (.iaload, 1) := by decide +kernel
theorem dL_does_71 : decode cL_does 71 = .ok (.if_icmp .eq 26, 3) := by decide +kernel
theorem dL_does_74 : decode cL_does 74 = .ok (.iload 6, 2) := by decide +kernel
theorem dL_does_76 : decode cL_does 76 = .ok (.ifCond .eq 21, 3) := by decide +kernel
theorem dL_does_79 : decode cL_does 79 = .ok (.aload 5, 2) := by decide +kernel
theorem dL_does_81 : decode cL_does 81 = .ok (.iload_n 1, 1) := by decide +kernel
theorem dL_does_82 : decode cL_does 82 = .ok (.iaload, 1) := by decide +kernel
theorem dL_does_83 : decode cL_does 83 = .ok (.aload 5, 2) := by decide +kernel
theorem dL_does_85 : decode cL_does 85 = .ok (.iload 6, 2) := by decide +kernel
theorem dL_does_87 : decode cL_does 87 = .ok (.invokestatic 97, 3) := by decide +kernel
theorem dL_does_90 : decode cL_does 90 = .ok (.iaload, 1) := by decide +kernel
theorem dL_does_91 : decode cL_does 91 = .ok (.iadd, 1) := by decide +kernel
theorem dL_does_92 : decode cL_does 92 = .ok (.bipush 60, 2) := by decide +kernel
theorem dL_does_94 : decode cL_does 94 = .ok (.if_icmp .le 5, 3) := by decide +kernel
theorem dL_does_97 : decode cL_does 97 = .ok (.iconst 0, 1) := by decide +kernel
theorem dL_does_98 : decode cL_does 98 = .ok (.ireturn, 1) := by decide +kernel
theorem dL_does_99 : decode cL_does 99 = .ok (.aload 5, 2) := by decide +kernel
theorem dL_does_101 : decode cL_does 101 = .ok (.iload_n 1, 1) := by decide +kernel
theorem dL_does_102 : decode cL_does 102 = .ok (.dup2, 1) := by decide +kernel
theorem dL_does_103 : decode cL_does 103 = .ok (.iaload, 1) := by decide +kernel
theorem dL_does_104 : decode cL_does 104 = .ok (.aload 5, 2) := by decide +kernel
theorem dL_does_106 : decode cL_does 106 = .ok (.iload 6, 2) := by decide +kernel
theorem dL_does_108 : decode cL_does 108 = .ok (.invokestatic 97, 3) := by decide +kernel
theorem dL_does_111 : decode cL_does 111 = .ok (.iaload, 1) := by decide +kernel
theorem dL_does_112 : decode cL_does 112 = .ok (.iadd, 1) := by decide +kernel
theorem dL_does_113 : decode cL_does 113 = .ok (.iastore, 1) := by decide +kernel
theorem dL_does_114 : decode cL_does 114 = .ok (.aload_n 2, 1) := by decide +kernel
theorem dL_does_115 : decode cL_does 115 = .ok (.iconst 4, 1) := by decide +kernel
theorem dL_does_116 : decode cL_does 116 = .ok (.dup2, 1) := by decide +kernel
theorem dL_does_117 : decode cL_does 117 = .ok (.iaload, 1) := by decide +kernel
theorem dL_does_118 : decode cL_does 118 = .ok (.iconst 1, 1) := by decide +kernel
theorem dL_does_119 : decode cL_does 119 = .ok (.iload 6, 2) := by decide +kernel
theorem dL_does_121 : decode cL_does 121 = .ok (.invokestatic 97, 3) := by decide +kernel
theorem dL_does_124 : decode cL_does 124 = .ok (.ishl, 1) := by decide +kernel
theorem dL_does_125 : decode cL_does 125 = .ok (.iconst (-1), 1) := by decide +kernel
theorem dL_does_126 : decode cL_does 126 = .ok (.ixor, 1) := by decide +kernel
theorem dL_does_127 : decode cL_does 127 = .ok (.iand, 1) := by decide +kernel
theorem dL_does_128 : decode cL_does 128 = .ok (.iastore, 1) := by decide +kernel
theorem dL_does_129 : decode cL_does 129 = .ok (.iconst 1, 1) := by decide +kernel
theorem dL_does_130 : decode cL_does 130 = .ok (.ireturn, 1) := by decide +kernel
theorem dL_does_131 : decode cL_does 131 = .ok (.iload_n 0, 1) := by decide +kernel
theorem dL_does_132 : decode cL_does 132 = .ok (.iconst 5, 1) := by decide +kernel
theorem dL_does_133 : decode cL_does 133 = .ok (.if_icmp .ne 14, 3) := by decide +kernel
theorem dL_does_136 : decode cL_does 136 = .ok (.iload_n 1, 1) := by decide +kernel
theorem dL_does_137 : decode cL_does 137 = .ok (.aload_n 2, 1) := by decide +kernel
theorem dL_does_138 : decode cL_does 138 = .ok (.aload_n 3, 1) := by decide +kernel
theorem dL_does_139 : decode cL_does 139 = .ok (.aload 4, 2) := by decide +kernel
theorem dL_does_141 : decode cL_does 141 = .ok (.aload 5, 2) := by decide +kernel
theorem dL_does_143 : decode cL_does 143 = .ok (.invokestatic 100, 3) := by decide +kernel
theorem dL_does_146 : decode cL_does 146 = .ok (.ireturn, 1) := by decide +kernel
theorem dL_does_147 : decode cL_does 147 = .ok (.iload_n 1, 1) := by decide +kernel
theorem dL_does_148 : decode cL_does 148 = .ok (.aload_n 2, 1) := by decide +kernel
theorem dL_does_149 : decode cL_does 149 = .ok (.aload_n 3, 1) := by decide +kernel
theorem dL_does_150 : decode cL_does 150 = .ok (.aload 4, 2) := by decide +kernel
theorem dL_does_152 : decode cL_does 152 = .ok (.invokestatic 93, 3) := by decide +kernel
theorem dL_does_155 : decode cL_does 155 = .ok (.istore 6, 2) := by decide +kernel
theorem dL_does_157 : decode cL_does 157 = .ok (.iconst 3, 1) := by decide +kernel
theorem dL_does_158 : decode cL_does 158 = .ok (.newarray .int, 2) := by decide +kernel
theorem dL_does_160 : decode cL_does 160 = .ok (.astore 7, 2) := by decide +kernel
theorem dL_does_162 : decode cL_does 162 = .ok (.iconst 3, 1) := by decide +kernel
theorem dL_does_163 : decode cL_does 163 = .ok (.newarray .int, 2) := by decide +kernel
theorem dL_does_165 : decode cL_does 165 = .ok (.astore 8, 2) := by decide +kernel
theorem dL_does_167 : decode cL_does 167 = .ok (.iconst 0, 1) := by decide +kernel
theorem dL_does_168 : decode cL_does 168 = .ok (.istore 9, 2) := by decide +kernel
theorem dL_does_170 : decode cL_does 170 = .ok (.iconst 1, 1) := by decide +kernel
theorem dL_does_171 : decode cL_does 171 = .ok (.iload_n 1, 1) := by decide +kernel
theorem dL_does_172 : decode cL_does 172 = .ok (.ishl, 1) := by decide +kernel
theorem dL_does_173 : decode cL_does 173 = .ok (.istore 10, 2) := by decide +kernel
theorem dL_does_175 : decode cL_does 175 = .ok (.iconst 0, 1) := by decide +kernel
theorem dL_does_176 : decode cL_does 176 = .ok (.istore 11, 2) := by decide +kernel
theorem dL_does_178 : decode cL_does 178 = .ok (.iload 11, 2) := by decide +kernel
theorem dL_does_180 : decode cL_does 180 = .ok (.aload_n 2, 1) := by decide +kernel
theorem dL_does_181 : decode cL_does 181 = .ok (.iconst 3, 1) := by decide +kernel
theorem dL_does_182 : decode cL_does 182 = .ok (.iaload, 1) := by decide +kernel
theorem dL_does_183 : decode cL_does 183 = .ok (.if_icmp .ge 85, 3) := by decide +kernel
theorem dL_does_186 : decode cL_does 186 = .ok (.iload 6, 2) := by decide +kernel
theorem dL_does_188 : decode cL_does 188 = .ok (.iload 11, 2) := by decide +kernel
theorem dL_does_190 : decode cL_does 190 = .ok (.ishr, 1) := by decide +kernel
theorem dL_does_191 : decode cL_does 191 = .ok (.iconst 1, 1) := by decide +kernel
theorem dL_does_192 : decode cL_does 192 = .ok (.iand, 1) := by decide +kernel
theorem dL_does_193 : decode cL_does 193 = .ok (.ifCond .ne 6, 3) := by decide +kernel
theorem dL_does_196 : decode cL_does 196 = .ok (.goto 66, 3) := by decide +kernel
theorem dL_does_199 : decode cL_does 199 = .ok (.iload 9, 2) := by decide +kernel
theorem dL_does_201 : decode cL_does 201 = .ok (.iconst 3, 1) := by decide +kernel
theorem dL_does_202 : decode cL_does 202 = .ok (.if_icmp .ne 5, 3) := by decide +kernel
theorem dL_does_205 : decode cL_does 205 = .ok (.iconst 0, 1) := by decide +kernel
theorem dL_does_206 : decode cL_does 206 = .ok (.ireturn, 1) := by decide +kernel
theorem dL_does_207 : decode cL_does 207 = .ok (.aload 7, 2) := by decide +kernel
theorem dL_does_209 : decode cL_does 209 = .ok (.iload 9, 2) := by decide +kernel
theorem dL_does_211 : decode cL_does 211 = .ok (.iload 11, 2) := by decide +kernel
theorem dL_does_213 : decode cL_does 213 = .ok (.iastore, 1) := by decide +kernel
theorem dL_does_214 : decode cL_does 214 = .ok (.aload 8, 2) := by decide +kernel
theorem dL_does_216 : decode cL_does 216 = .ok (.iload 9, 2) := by decide +kernel
theorem dL_does_218 : decode cL_does 218 = .ok (.aload_n 3, 1) := by decide +kernel
theorem dL_does_219 : decode cL_does 219 = .ok (.iload 11, 2) := by decide +kernel
theorem dL_does_221 : decode cL_does 221 = .ok (.iaload, 1) := by decide +kernel
theorem dL_does_222 : decode cL_does 222 = .ok (.aload 4, 2) := by decide +kernel
theorem dL_does_224 : decode cL_does 224 = .ok (.iload 11, 2) := by decide +kernel
theorem dL_does_226 : decode cL_does 226 = .ok (.iaload, 1) := by decide +kernel
theorem dL_does_227 : decode cL_does 227 = .ok (.iadd, 1) := by decide +kernel
theorem dL_does_228 : decode cL_does 228 = .ok (.iload_n 1, 1) := by decide +kernel
theorem dL_does_229 : decode cL_does 229 = .ok (.isub, 1) := by decide +kernel
theorem dL_does_230 : decode cL_does 230 = .ok (.iastore, 1) := by decide +kernel
theorem dL_does_231 : decode cL_does 231 = .ok (.iload 10, 2) := by decide +kernel
theorem dL_does_233 : decode cL_does 233 = .ok (.aload 8, 2) := by decide +kernel
theorem dL_does_235 : decode cL_does 235 = .ok (.iload 9, 2) := by decide +kernel
theorem dL_does_237 : decode cL_does 237 = .ok (.iaload, 1) := by decide +kernel
theorem dL_does_238 : decode cL_does 238 = .ok (.ishr, 1) := by decide +kernel
theorem dL_does_239 : decode cL_does 239 = .ok (.iconst 1, 1) := by decide +kernel
theorem dL_does_240 : decode cL_does 240 = .ok (.iand, 1) := by decide +kernel
theorem dL_does_241 : decode cL_does 241 = .ok (.iconst 1, 1) := by decide +kernel
theorem dL_does_242 : decode cL_does 242 = .ok (.if_icmp .ne 5, 3) := by decide +kernel
theorem dL_does_245 : decode cL_does 245 = .ok (.iconst 0, 1) := by decide +kernel
theorem dL_does_246 : decode cL_does 246 = .ok (.ireturn, 1) := by decide +kernel
theorem dL_does_247 : decode cL_does 247 = .ok (.iload 10, 2) := by decide +kernel
theorem dL_does_249 : decode cL_does 249 = .ok (.iconst 1, 1) := by decide +kernel
theorem dL_does_250 : decode cL_does 250 = .ok (.aload 8, 2) := by decide +kernel
theorem dL_does_252 : decode cL_does 252 = .ok (.iload 9, 2) := by decide +kernel
theorem dL_does_254 : decode cL_does 254 = .ok (.iaload, 1) := by decide +kernel
theorem dL_does_255 : decode cL_does 255 = .ok (.ishl, 1) := by decide +kernel
theorem dL_does_256 : decode cL_does 256 = .ok (.ior, 1) := by decide +kernel
theorem dL_does_257 : decode cL_does 257 = .ok (.istore 10, 2) := by decide +kernel
theorem dL_does_259 : decode cL_does 259 = .ok (.iinc 9 1, 3) := by decide +kernel
theorem dL_does_262 : decode cL_does 262 = .ok (.iinc 11 1, 3) := by decide +kernel
theorem dL_does_265 : decode cL_does 265 = .ok (.goto (-87), 3) := by decide +kernel
theorem dL_does_268 : decode cL_does 268 = .ok (.aload_n 2, 1) := by decide +kernel
theorem dL_does_269 : decode cL_does 269 = .ok (.iconst 2, 1) := by decide +kernel
theorem dL_does_270 : decode cL_does 270 = .ok (.iaload, 1) := by decide +kernel
theorem dL_does_271 : decode cL_does 271 = .ok (.iload_n 1, 1) := by decide +kernel
theorem dL_does_272 : decode cL_does 272 = .ok (.ishr, 1) := by decide +kernel
theorem dL_does_273 : decode cL_does 273 = .ok (.iconst 1, 1) := by decide +kernel
theorem dL_does_274 : decode cL_does 274 = .ok (.iand, 1) := by decide +kernel
theorem dL_does_275 : decode cL_does 275 = .ok (.iconst 1, 1) := by decide +kernel
theorem dL_does_276 : decode cL_does 276 = .ok (.if_icmp .eq 27, 3) := by decide +kernel
theorem dL_does_279 : decode cL_does 279 = .ok (.iload 9, 2) := by decide +kernel
theorem dL_does_281 : decode cL_does 281 = .ok (.iload_n 0, 1) := by decide +kernel
theorem dL_does_282 : decode cL_does 282 = .ok (.iconst 2, 1) := by decide +kernel
theorem dL_does_283 : decode cL_does 283 = .ok (.if_icmp .ne 7, 3) := by decide +kernel
theorem dL_does_286 : decode cL_does 286 = .ok (.iconst 1, 1) := by decide +kernel
theorem dL_does_287 : decode cL_does 287 = .ok (.goto 13, 3) := by decide +kernel
theorem dL_does_290 : decode cL_does 290 = .ok (.iload_n 0, 1) := by decide +kernel
theorem dL_does_291 : decode cL_does 291 = .ok (.iconst 3, 1) := by decide +kernel
theorem dL_does_292 : decode cL_does 292 = .ok (.if_icmp .ne 7, 3) := by decide +kernel
theorem dL_does_295 : decode cL_does 295 = .ok (.iconst 2, 1) := by decide +kernel
theorem dL_does_296 : decode cL_does 296 = .ok (.goto 4, 3) := by decide +kernel
theorem dL_does_299 : decode cL_does 299 = .ok (.iconst 3, 1) := by decide +kernel
theorem dL_does_300 : decode cL_does 300 = .ok (.if_icmp .eq 5, 3) := by decide +kernel
theorem dL_does_303 : decode cL_does 303 = .ok (.iconst 0, 1) := by decide +kernel
theorem dL_does_304 : decode cL_does 304 = .ok (.ireturn, 1) := by decide +kernel
theorem dL_does_305 : decode cL_does 305 = .ok (.iconst 0, 1) := by decide +kernel
theorem dL_does_306 : decode cL_does 306 = .ok (.istore 11, 2) := by decide +kernel
theorem dL_does_308 : decode cL_does 308 = .ok (.iconst 0, 1) := by decide +kernel
theorem dL_does_309 : decode cL_does 309 = .ok (.istore 12, 2) := by decide +kernel
theorem dL_does_311 : decode cL_does 311 = .ok (.iload 12, 2) := by decide +kernel
theorem dL_does_313 : decode cL_does 313 = .ok (.iload 9, 2) := by decide +kernel
theorem dL_does_315 : decode cL_does 315 = .ok (.if_icmp .ge 22, 3) := by decide +kernel
theorem dL_does_318 : decode cL_does 318 = .ok (.iload 11, 2) := by decide +kernel
theorem dL_does_320 : decode cL_does 320 = .ok (.aload 5, 2) := by decide +kernel
theorem dL_does_322 : decode cL_does 322 = .ok (.aload 7, 2) := by decide +kernel
theorem dL_does_324 : decode cL_does 324 = .ok (.iload 12, 2) := by decide +kernel
theorem dL_does_326 : decode cL_does 326 = .ok (.iaload, 1) := by decide +kernel
theorem dL_does_327 : decode cL_does 327 = .ok (.iaload, 1) := by decide +kernel
theorem dL_does_328 : decode cL_does 328 = .ok (.iadd, 1) := by decide +kernel
theorem dL_does_329 : decode cL_does 329 = .ok (.istore 11, 2) := by decide +kernel
theorem dL_does_331 : decode cL_does 331 = .ok (.iinc 12 1, 3) := by decide +kernel
theorem dL_does_334 : decode cL_does 334 = .ok (.goto (-23), 3) := by decide +kernel
theorem dL_does_337 : decode cL_does 337 = .ok (.iload_n 0, 1) := by decide +kernel
theorem dL_does_338 : decode cL_does 338 = .ok (.iconst 3, 1) := by decide +kernel
theorem dL_does_339 : decode cL_does 339 = .ok (.if_icmp .ne 32, 3) := by decide +kernel
theorem dL_does_342 : decode cL_does 342 = .ok (.aload_n 2, 1) := by decide +kernel
theorem dL_does_343 : decode cL_does 343 = .ok (.iconst 3, 1) := by decide +kernel
theorem dL_does_344 : decode cL_does 344 = .ok (.iaload, 1) := by decide +kernel
theorem dL_does_345 : decode cL_does 345 = .ok (.bipush 19, 2) := by decide +kernel
theorem dL_does_347 : decode cL_does 347 = .ok (.if_icmp .gt 37, 3) := by decide +kernel
theorem dL_does_350 : decode cL_does 350 = .ok (.aload 5, 2) := by decide +kernel
theorem dL_does_352 : decode cL_does 352 = .ok (.aload 7, 2) := by decide +kernel
theorem dL_does_354 : decode cL_does 354 = .ok (.iconst 0, 1) := by decide +kernel
theorem dL_does_355 : decode cL_does 355 = .ok (.iaload, 1) := by decide +kernel
theorem dL_does_356 : decode cL_does 356 = .ok (.iaload, 1) := by decide +kernel
theorem dL_does_357 : decode cL_does 357 = .ok (.aload 5, 2) := by decide +kernel
theorem dL_does_359 : decode cL_does 359 = .ok (.aload 7, 2) := by decide +kernel
theorem dL_does_361 : decode cL_does 361 = .ok (.iconst 1, 1) := by decide +kernel
theorem dL_does_362 : decode cL_does 362 = .ok (.iaload, 1) := by decide +kernel
theorem dL_does_363 : decode cL_does 363 = .ok (.iaload, 1) := by decide +kernel
theorem dL_does_364 : decode cL_does 364 = .ok (.imul, 1) := by decide +kernel
theorem dL_does_365 : decode cL_does 365 = .ok (.iload 11, 2) := by decide +kernel
theorem dL_does_367 : decode cL_does 367 = .ok (.irem, 1) := by decide +kernel
theorem dL_does_368 : decode cL_does 368 = .ok (.ifCond .gt 16, 3) := by decide +kernel
theorem dL_does_371 : decode cL_does 371 = .ok (.iload_n 0, 1) := by decide +kernel
theorem dL_does_372 : decode cL_does 372 = .ok (.iconst 4, 1) := by decide +kernel
theorem dL_does_373 : decode cL_does 373 = .ok (.if_icmp .ne 13, 3) := by decide +kernel
theorem dL_does_376 : decode cL_does 376 = .ok (.aload_n 2, 1) := by decide +kernel
theorem dL_does_377 : decode cL_does 377 = .ok (.iconst 3, 1) := by decide +kernel
theorem dL_does_378 : decode cL_does 378 = .ok (.iaload, 1) := by decide +kernel
theorem dL_does_379 : decode cL_does 379 = .ok (.bipush 17, 2) := by decide +kernel
theorem dL_does_381 : decode cL_does 381 = .ok (.if_icmp .le 5, 3) := by decide +kernel
theorem dL_does_384 : decode cL_does 384 = .ok (.iconst 0, 1) := by decide +kernel
theorem dL_does_385 : decode cL_does 385 = .ok (.ireturn, 1) := by decide +kernel
theorem dL_does_386 : decode cL_does 386 = .ok (.iconst 0, 1) := by decide +kernel
theorem dL_does_387 : decode cL_does 387 = .ok (.istore 12, 2) := by decide +kernel
theorem dL_does_389 : decode cL_does 389 = .ok (.iload 12, 2) := by decide +kernel
theorem dL_does_391 : decode cL_does 391 = .ok (.iconst 3, 1) := by decide +kernel
theorem dL_does_392 : decode cL_does 392 = .ok (.if_icmp .ge 43, 3) := by decide +kernel
theorem dL_does_395 : decode cL_does 395 = .ok (.iload_n 0, 1) := by decide +kernel
theorem dL_does_396 : decode cL_does 396 = .ok (.iconst 4, 1) := by decide +kernel
theorem dL_does_397 : decode cL_does 397 = .ok (.if_icmp .ne 38, 3) := by decide +kernel
theorem dL_does_400 : decode cL_does 400 = .ok (.aload 5, 2) := by decide +kernel
theorem dL_does_402 : decode cL_does 402 = .ok (.aload 7, 2) := by decide +kernel
theorem dL_does_404 : decode cL_does 404 = .ok (.iload 12, 2) := by decide +kernel
theorem dL_does_406 : decode cL_does 406 = .ok (.iaload, 1) := by decide +kernel
theorem dL_does_407 : decode cL_does 407 = .ok (.iaload, 1) := by decide +kernel
theorem dL_does_408 : decode cL_does 408 = .ok (.aload 5, 2) := by decide +kernel
theorem dL_does_410 : decode cL_does 410 = .ok (.aload 7, 2) := by decide +kernel
theorem dL_does_412 : decode cL_does 412 = .ok (.iload 12, 2) := by decide +kernel
theorem dL_does_414 : decode cL_does 414 = .ok (.iconst 1, 1) := by decide +kernel
theorem dL_does_415 : decode cL_does 415 = .ok (.iadd, 1) := by decide +kernel
theorem dL_does_416 : decode cL_does 416 = .ok (.iconst 3, 1) := by decide +kernel
theorem dL_does_417 : decode cL_does 417 = .ok (.irem, 1) := by decide +kernel
theorem dL_does_418 : decode cL_does 418 = .ok (.iaload, 1) := by decide +kernel
theorem dL_does_419 : decode cL_does 419 = .ok (.iaload, 1) := by decide +kernel
theorem dL_does_420 : decode cL_does 420 = .ok (.imul, 1) := by decide +kernel
theorem dL_does_421 : decode cL_does 421 = .ok (.iload 11, 2) := by decide +kernel
theorem dL_does_423 : decode cL_does 423 = .ok (.irem, 1) := by decide +kernel
theorem dL_does_424 : decode cL_does 424 = .ok (.ifCond .le 5, 3) := by decide +kernel
theorem dL_does_427 : decode cL_does 427 = .ok (.iconst 0, 1) := by decide +kernel
theorem dL_does_428 : decode cL_does 428 = .ok (.ireturn, 1) := by decide +kernel
theorem dL_does_429 : decode cL_does 429 = .ok (.iinc 12 1, 3) := by decide +kernel
theorem dL_does_432 : decode cL_does 432 = .ok (.goto (-43), 3) := by decide +kernel
theorem dL_does_435 : decode cL_does 435 = .ok (.aload_n 2, 1) := by decide +kernel
theorem dL_does_436 : decode cL_does 436 = .ok (.iconst 1, 1) := by decide +kernel
theorem dL_does_437 : decode cL_does 437 = .ok (.dup2, 1) := by decide +kernel
theorem dL_does_438 : decode cL_does 438 = .ok (.iaload, 1) := by decide +kernel
theorem dL_does_439 : decode cL_does 439 = .ok (.iconst 1, 1) := by decide +kernel
theorem dL_does_440 : decode cL_does 440 = .ok (.iload_n 1, 1) := by decide +kernel
theorem dL_does_441 : decode cL_does 441 = .ok (.ishl, 1) := by decide +kernel
theorem dL_does_442 : decode cL_does 442 = .ok (.iconst (-1), 1) := by decide +kernel
theorem dL_does_443 : decode cL_does 443 = .ok (.ixor, 1) := by decide +kernel
theorem dL_does_444 : decode cL_does 444 = .ok (.iand, 1) := by decide +kernel
theorem dL_does_445 : decode cL_does 445 = .ok (.iastore, 1) := by decide +kernel
theorem dL_does_446 : decode cL_does 446 = .ok (.aload_n 2, 1) := by decide +kernel
theorem dL_does_447 : decode cL_does 447 = .ok (.iconst 4, 1) := by decide +kernel
theorem dL_does_448 : decode cL_does 448 = .ok (.dup2, 1) := by decide +kernel
theorem dL_does_449 : decode cL_does 449 = .ok (.iaload, 1) := by decide +kernel
theorem dL_does_450 : decode cL_does 450 = .ok (.iload 6, 2) := by decide +kernel
theorem dL_does_452 : decode cL_does 452 = .ok (.iconst (-1), 1) := by decide +kernel
theorem dL_does_453 : decode cL_does 453 = .ok (.ixor, 1) := by decide +kernel
theorem dL_does_454 : decode cL_does 454 = .ok (.iand, 1) := by decide +kernel
theorem dL_does_455 : decode cL_does 455 = .ok (.iastore, 1) := by decide +kernel
theorem dL_does_456 : decode cL_does 456 = .ok (.iconst 0, 1) := by decide +kernel
theorem dL_does_457 : decode cL_does 457 = .ok (.istore 12, 2) := by decide +kernel
theorem dL_does_459 : decode cL_does 459 = .ok (.iload 12, 2) := by decide +kernel
theorem dL_does_461 : decode cL_does 461 = .ok (.iload 9, 2) := by decide +kernel
theorem dL_does_463 : decode cL_does 463 = .ok (.if_icmp .ge 68, 3) := by decide +kernel
theorem dL_does_466 : decode cL_does 466 = .ok (.iload 12, 2) := by decide +kernel
theorem dL_does_468 : decode cL_does 468 = .ok (.iconst 1, 1) := by decide +kernel
theorem dL_does_469 : decode cL_does 469 = .ok (.iadd, 1) := by decide +kernel
theorem dL_does_470 : decode cL_does 470 = .ok (.istore 13, 2) := by decide +kernel
theorem dL_does_472 : decode cL_does 472 = .ok (.iload 13, 2) := by decide +kernel
theorem dL_does_474 : decode cL_does 474 = .ok (.iload 9, 2) := by decide +kernel
theorem dL_does_476 : decode cL_does 476 = .ok (.if_icmp .ge 49, 3) := by decide +kernel
theorem dL_does_479 : decode cL_does 479 = .ok (.aload 8, 2) := by decide +kernel
theorem dL_does_481 : decode cL_does 481 = .ok (.iload 12, 2) := by decide +kernel
theorem dL_does_483 : decode cL_does 483 = .ok (.iaload, 1) := by decide +kernel
theorem dL_does_484 : decode cL_does 484 = .ok (.aload 8, 2) := by decide +kernel
theorem dL_does_486 : decode cL_does 486 = .ok (.iload 13, 2) := by decide +kernel
theorem dL_does_488 : decode cL_does 488 = .ok (.iaload, 1) := by decide +kernel
theorem dL_does_489 : decode cL_does 489 = .ok (.aload 5, 2) := by decide +kernel
theorem dL_does_491 : decode cL_does 491 = .ok (.aload 7, 2) := by decide +kernel
theorem dL_does_493 : decode cL_does 493 = .ok (.iload 12, 2) := by decide +kernel
theorem dL_does_495 : decode cL_does 495 = .ok (.iaload, 1) := by decide +kernel
theorem dL_does_496 : decode cL_does 496 = .ok (.iaload, 1) := by decide +kernel
theorem dL_does_497 : decode cL_does 497 = .ok (.aload 5, 2) := by decide +kernel
theorem dL_does_499 : decode cL_does 499 = .ok (.aload 7, 2) := by decide +kernel
theorem dL_does_501 : decode cL_does 501 = .ok (.iload 13, 2) := by decide +kernel
theorem dL_does_503 : decode cL_does 503 = .ok (.iaload, 1) := by decide +kernel
theorem dL_does_504 : decode cL_does 504 = .ok (.iaload, 1) := by decide +kernel
theorem dL_does_505 : decode cL_does 505 = .ok (.imul, 1) := by decide +kernel
theorem dL_does_506 : decode cL_does 506 = .ok (.iload 11, 2) := by decide +kernel
theorem dL_does_508 : decode cL_does 508 = .ok (.idiv, 1) := by decide +kernel
theorem dL_does_509 : decode cL_does 509 = .ok (.aload_n 2, 1) := by decide +kernel
theorem dL_does_510 : decode cL_does 510 = .ok (.aload_n 3, 1) := by decide +kernel
theorem dL_does_511 : decode cL_does 511 = .ok (.aload 4, 2) := by decide +kernel
theorem dL_does_513 : decode cL_does 513 = .ok (.aload 5, 2) := by decide +kernel
theorem dL_does_515 : decode cL_does 515 = .ok (.invokestatic 104, 3) := by decide +kernel
theorem dL_does_518 : decode cL_does 518 = .ok (.pop, 1) := by decide +kernel
theorem dL_does_519 : decode cL_does 519 = .ok (.iinc 13 1, 3) := by decide +kernel
theorem dL_does_522 : decode cL_does 522 = .ok (.goto (-50), 3) := by decide +kernel
theorem dL_does_525 : decode cL_does 525 = .ok (.iinc 12 1, 3) := by decide +kernel
theorem dL_does_528 : decode cL_does 528 = .ok (.goto (-69), 3) := by decide +kernel
theorem dL_does_531 : decode cL_does 531 = .ok (.iconst 1, 1) := by decide +kernel
theorem dL_does_532 : decode cL_does 532 = .ok (.ireturn, 1) := by decide +kernel
set_option maxRecDepth 20000 in
theorem ggL_stars_L_wiresOf : GoodIn wsL_stars wsL_wiresOf := goodIn_r _ [4] (by decide +kernel) (by decide +kernel)
set_option maxRecDepth 20000 in
theorem gL_stars_L_wiresOf : GoodIn wsL_stars (va_wsS RL 93 yL_wiresOf wsL_wiresOf) := goodIn_app (goodIn_of _ (by decide +kernel)) ggL_stars_L_wiresOf
set_option maxRecDepth 20000 in
theorem ggL_stars_L_lowest : GoodIn wsL_stars wsL_lowest := goodIn_r _ [7] (by decide +kernel) (by decide +kernel)
set_option maxRecDepth 20000 in
theorem gL_stars_L_lowest : GoodIn wsL_stars (va_wsS RL 97 yL_lowest wsL_lowest) := goodIn_app (goodIn_of _ (by decide +kernel)) ggL_stars_L_lowest
set_option maxRecDepth 20000 in
theorem ggL_stars_L_adds : GoodIn wsL_stars wsL_adds := goodIn_r _ [10] (by decide +kernel) (by decide +kernel)
set_option maxRecDepth 20000 in
theorem gL_stars_L_adds : GoodIn wsL_stars (va_wsS RL 104 yL_adds wsL_adds) := goodIn_app (goodIn_of _ (by decide +kernel)) ggL_stars_L_adds
theorem dL_stars_0 : decode cL_stars 0 = .ok (.aload_n 2, 1) := by decide +kernel
theorem dL_stars_1 : decode cL_stars 1 = .ok (.iload_n 0, 1) := by decide +kernel
theorem dL_stars_2 : decode cL_stars 2 = .ok (.iaload, 1) := by decide +kernel
theorem dL_stars_3 : decode cL_stars 3 = .ok (.aload_n 3, 1) := by decide +kernel
theorem dL_stars_4 : decode cL_stars 4 = .ok (.iload_n 0, 1) := by decide +kernel
theorem dL_stars_5 : decode cL_stars 5 = .ok (.iaload, 1) := by decide +kernel
theorem dL_stars_6 : decode cL_stars 6 = .ok (.if_icmp .eq 19, 3) := by decide +kernel
theorem dL_stars_9 : decode cL_stars 9 = .ok (.aload_n 1, 1) := by decide +kernel
theorem dL_stars_10 : decode cL_stars 10 = .ok (.iconst 3, 1) := by decide +kernel
theorem dL_stars_11 : decode cL_stars 11 = .ok (.iaload, 1) := by decide +kernel
theorem dL_stars_12 : decode cL_stars 12 = .ok (.bipush 17, 2) := by decide +kernel
theorem dL_stars_14 : decode cL_stars 14 = .ok (.if_icmp .gt 11, 3) := by decide +kernel
theorem dL_stars_17 : decode cL_stars 17 = .ok (.aload_n 1, 1) := by decide +kernel
theorem dL_stars_18 : decode cL_stars 18 = .ok (.iconst 0, 1) := by decide +kernel
theorem dL_stars_19 : decode cL_stars 19 = .ok (.iaload, 1) := by decide +kernel
theorem dL_stars_20 : decode cL_stars 20 = .ok (.bipush 6, 2) := by decide +kernel
theorem dL_stars_22 : decode cL_stars 22 = .ok (.if_icmp .le 5, 3) := by decide +kernel
theorem dL_stars_25 : decode cL_stars 25 = .ok (.iconst 0, 1) := by decide +kernel
theorem dL_stars_26 : decode cL_stars 26 = .ok (.ireturn, 1) := by decide +kernel
theorem dL_stars_27 : decode cL_stars 27 = .ok (.iconst 0, 1) := by decide +kernel
theorem dL_stars_28 : decode cL_stars 28 = .ok (.istore 5, 2) := by decide +kernel
theorem dL_stars_30 : decode cL_stars 30 = .ok (.iload 5, 2) := by decide +kernel
theorem dL_stars_32 : decode cL_stars 32 = .ok (.aload_n 1, 1) := by decide +kernel
theorem dL_stars_33 : decode cL_stars 33 = .ok (.iconst 3, 1) := by decide +kernel
theorem dL_stars_34 : decode cL_stars 34 = .ok (.iaload, 1) := by decide +kernel
theorem dL_stars_35 : decode cL_stars 35 = .ok (.if_icmp .ge 328, 3) := by decide +kernel
theorem dL_stars_38 : decode cL_stars 38 = .ok (.aload_n 2, 1) := by decide +kernel
theorem dL_stars_39 : decode cL_stars 39 = .ok (.iload_n 0, 1) := by decide +kernel
theorem dL_stars_40 : decode cL_stars 40 = .ok (.iaload, 1) := by decide +kernel
theorem dL_stars_41 : decode cL_stars 41 = .ok (.aload_n 1, 1) := by decide +kernel
theorem dL_stars_42 : decode cL_stars 42 = .ok (.aload_n 2, 1) := by decide +kernel
theorem dL_stars_43 : decode cL_stars 43 = .ok (.aload_n 3, 1) := by decide +kernel
theorem dL_stars_44 : decode cL_stars 44 = .ok (.invokestatic 93, 3) := by decide +kernel
theorem dL_stars_47 : decode cL_stars 47 = .ok (.iload 5, 2) := by decide +kernel
theorem dL_stars_49 : decode cL_stars 49 = .ok (.ishr, 1) := by decide +kernel
theorem dL_stars_50 : decode cL_stars 50 = .ok (.iconst 1, 1) := by decide +kernel
theorem dL_stars_51 : decode cL_stars 51 = .ok (.iand, 1) := by decide +kernel
theorem dL_stars_52 : decode cL_stars 52 = .ok (.ifCond .eq 305, 3) := by decide +kernel
theorem dL_stars_55 : decode cL_stars 55 = .ok (.aload_n 2, 1) := by decide +kernel
theorem dL_stars_56 : decode cL_stars 56 = .ok (.iload 5, 2) := by decide +kernel
theorem dL_stars_58 : decode cL_stars 58 = .ok (.iaload, 1) := by decide +kernel
theorem dL_stars_59 : decode cL_stars 59 = .ok (.aload_n 3, 1) := by decide +kernel
theorem dL_stars_60 : decode cL_stars 60 = .ok (.iload 5, 2) := by decide +kernel
theorem dL_stars_62 : decode cL_stars 62 = .ok (.iaload, 1) := by decide +kernel
theorem dL_stars_63 : decode cL_stars 63 = .ok (.if_icmp .ne 6, 3) := by decide +kernel
theorem dL_stars_66 : decode cL_stars 66 = .ok (.goto 291, 3) := by decide +kernel
theorem dL_stars_69 : decode cL_stars 69 = .ok (.aload_n 2, 1) := by decide +kernel
theorem dL_stars_70 : decode cL_stars 70 = .ok (.iload 5, 2) := by decide +kernel
theorem dL_stars_72 : decode cL_stars 72 = .ok (.iaload, 1) := by decide +kernel
theorem dL_stars_73 : decode cL_stars 73 = .ok (.aload_n 3, 1) := by decide +kernel
theorem dL_stars_74 : decode cL_stars 74 = .ok (.iload 5, 2) := by decide +kernel
theorem dL_stars_76 : decode cL_stars 76 = .ok (.iaload, 1) := by decide +kernel
theorem dL_stars_77 : decode cL_stars 77 = .ok (.iadd, 1) := by decide +kernel
theorem dL_stars_78 : decode cL_stars 78 = .ok (.aload_n 2, 1) := by decide +kernel
theorem dL_stars_79 : decode cL_stars 79 = .ok (.iload_n 0, 1) := by decide +kernel
theorem dL_stars_80 : decode cL_stars 80 = .ok (.iaload, 1) := by decide +kernel
theorem dL_stars_81 : decode cL_stars 81 = .ok (.isub, 1) := by decide +kernel
theorem dL_stars_82 : decode cL_stars 82 = .ok (.istore 6, 2) := by decide +kernel
theorem dL_stars_84 : decode cL_stars 84 = .ok (.iload 6, 2) := by decide +kernel
theorem dL_stars_86 : decode cL_stars 86 = .ok (.aload_n 3, 1) := by decide +kernel
theorem dL_stars_87 : decode cL_stars 87 = .ok (.iload_n 0, 1) := by decide +kernel
theorem dL_stars_88 : decode cL_stars 88 = .ok (.iaload, 1) := by decide +kernel
theorem dL_stars_89 : decode cL_stars 89 = .ok (.if_icmp .ne 7, 3) := by decide +kernel
theorem dL_stars_92 : decode cL_stars 92 = .ok (.iconst 0, 1) := by decide +kernel
theorem dL_stars_93 : decode cL_stars 93 = .ok (.goto 21, 3) := by decide +kernel
theorem dL_stars_96 : decode cL_stars 96 = .ok (.iload 6, 2) := by decide +kernel
theorem dL_stars_98 : decode cL_stars 98 = .ok (.aload_n 1, 1) := by decide +kernel
theorem dL_stars_99 : decode cL_stars 99 = .ok (.aload_n 2, 1) := by decide +kernel
theorem dL_stars_100 : decode cL_stars 100 = .ok (.aload_n 3, 1) := by decide +kernel
theorem dL_stars_101 : decode cL_stars 101 = .ok (.invokestatic 93, 3) := by decide +kernel
theorem dL_stars_104 : decode cL_stars 104 = .ok (.aload_n 3, 1) := by decide +kernel
theorem dL_stars_105 : decode cL_stars 105 = .ok (.iload_n 0, 1) := by decide +kernel
theorem dL_stars_106 : decode cL_stars 106 = .ok (.iaload, 1) := by decide +kernel
theorem dL_stars_107 : decode cL_stars 107 = .ok (.aload_n 1, 1) := by decide +kernel
theorem dL_stars_108 : decode cL_stars 108 = .ok (.aload_n 2, 1) := by decide +kernel
theorem dL_stars_109 : decode cL_stars 109 = .ok (.aload_n 3, 1) := by decide +kernel
theorem dL_stars_110 : decode cL_stars 110 = .ok (.invokestatic 93, 3) := by decide +kernel
theorem dL_stars_113 : decode cL_stars 113 = .ok (.iand, 1) := by decide +kernel
theorem dL_stars_114 : decode cL_stars 114 = .ok (.istore 7, 2) := by decide +kernel
theorem dL_stars_116 : decode cL_stars 116 = .ok (.iload 7, 2) := by decide +kernel
theorem dL_stars_118 : decode cL_stars 118 = .ok (.ifCond .ne 6, 3) := by decide +kernel
theorem dL_stars_121 : decode cL_stars 121 = .ok (.goto 236, 3) := by decide +kernel
theorem dL_stars_124 : decode cL_stars 124 = .ok (.iload 7, 2) := by decide +kernel
theorem dL_stars_126 : decode cL_stars 126 = .ok (.invokestatic 97, 3) := by decide +kernel
theorem dL_stars_129 : decode cL_stars 129 = .ok (.istore 8, 2) := by decide +kernel
theorem dL_stars_131 : decode cL_stars 131 = .ok (.aload 4, 2) := by decide +kernel
theorem dL_stars_133 : decode cL_stars 133 = .ok (.iload_n 0, 1) := by decide +kernel
theorem dL_stars_134 : decode cL_stars 134 = .ok (.iaload, 1) := by decide +kernel
theorem dL_stars_135 : decode cL_stars 135 = .ok (.aload 4, 2) := by decide +kernel
theorem dL_stars_137 : decode cL_stars 137 = .ok (.iload 5, 2) := by decide +kernel
theorem dL_stars_139 : decode cL_stars 139 = .ok (.iaload, 1) := by decide +kernel
theorem dL_stars_140 : decode cL_stars 140 = .ok (.imul, 1) := by decide +kernel
theorem dL_stars_141 : decode cL_stars 141 = .ok (.aload 4, 2) := by decide +kernel
theorem dL_stars_143 : decode cL_stars 143 = .ok (.iload_n 0, 1) := by decide +kernel
theorem dL_stars_144 : decode cL_stars 144 = .ok (.iaload, 1) := by decide +kernel
theorem dL_stars_145 : decode cL_stars 145 = .ok (.aload 4, 2) := by decide +kernel
theorem dL_stars_147 : decode cL_stars 147 = .ok (.iload 8, 2) := by decide +kernel
theorem dL_stars_149 : decode cL_stars 149 = .ok (.iaload, 1) := by decide +kernel
theorem dL_stars_150 : decode cL_stars 150 = .ok (.imul, 1) := by decide +kernel
theorem dL_stars_151 : decode cL_stars 151 = .ok (.iadd, 1) := by decide +kernel
theorem dL_stars_152 : decode cL_stars 152 = .ok (.aload 4, 2) := by decide +kernel
theorem dL_stars_154 : decode cL_stars 154 = .ok (.iload 5, 2) := by decide +kernel
theorem dL_stars_156 : decode cL_stars 156 = .ok (.iaload, 1) := by decide +kernel
theorem dL_stars_157 : decode cL_stars 157 = .ok (.aload 4, 2) := by decide +kernel
theorem dL_stars_159 : decode cL_stars 159 = .ok (.iload 8, 2) := by decide +kernel
theorem dL_stars_161 : decode cL_stars 161 = .ok (.iaload, 1) := by decide +kernel
theorem dL_stars_162 : decode cL_stars 162 = .ok (.imul, 1) := by decide +kernel
theorem dL_stars_163 : decode cL_stars 163 = .ok (.iadd, 1) := by decide +kernel
theorem dL_stars_164 : decode cL_stars 164 = .ok (.istore 9, 2) := by decide +kernel
theorem dL_stars_166 : decode cL_stars 166 = .ok (.iload 9, 2) := by decide +kernel
theorem dL_stars_168 : decode cL_stars 168 = .ok (.aload 4, 2) := by decide +kernel
theorem dL_stars_170 : decode cL_stars 170 = .ok (.iload_n 0, 1) := by decide +kernel
theorem dL_stars_171 : decode cL_stars 171 = .ok (.iaload, 1) := by decide +kernel
theorem dL_stars_172 : decode cL_stars 172 = .ok (.irem, 1) := by decide +kernel
theorem dL_stars_173 : decode cL_stars 173 = .ok (.ifCond .gt 63, 3) := by decide +kernel
theorem dL_stars_176 : decode cL_stars 176 = .ok (.iload 9, 2) := by decide +kernel
theorem dL_stars_178 : decode cL_stars 178 = .ok (.aload 4, 2) := by decide +kernel
theorem dL_stars_180 : decode cL_stars 180 = .ok (.iload 5, 2) := by decide +kernel
theorem dL_stars_182 : decode cL_stars 182 = .ok (.iaload, 1) := by decide +kernel
theorem dL_stars_183 : decode cL_stars 183 = .ok (.irem, 1) := by decide +kernel
theorem dL_stars_184 : decode cL_stars 184 = .ok (.ifCond .gt 52, 3) := by decide +kernel
theorem dL_stars_187 : decode cL_stars 187 = .ok (.iload 9, 2) := by decide +kernel
theorem dL_stars_189 : decode cL_stars 189 = .ok (.aload 4, 2) := by decide +kernel
theorem dL_stars_191 : decode cL_stars 191 = .ok (.iload 8, 2) := by decide +kernel
theorem dL_stars_193 : decode cL_stars 193 = .ok (.iaload, 1) := by decide +kernel
theorem dL_stars_194 : decode cL_stars 194 = .ok (.irem, 1) := by decide +kernel
theorem dL_stars_195 : decode cL_stars 195 = .ok (.ifCond .gt 41, 3) := by decide +kernel
theorem dL_stars_198 : decode cL_stars 198 = .ok (.iload 9, 2) := by decide +kernel
theorem dL_stars_200 : decode cL_stars 200 = .ok (.aload 4, 2) := by decide +kernel
theorem dL_stars_202 : decode cL_stars 202 = .ok (.iload_n 0, 1) := by decide +kernel
theorem dL_stars_203 : decode cL_stars 203 = .ok (.iaload, 1) := by decide +kernel
theorem dL_stars_204 : decode cL_stars 204 = .ok (.idiv, 1) := by decide +kernel
theorem dL_stars_205 : decode cL_stars 205 = .ok (.bipush 60, 2) := by decide +kernel
theorem dL_stars_207 : decode cL_stars 207 = .ok (.if_icmp .gt 29, 3) := by decide +kernel
theorem dL_stars_210 : decode cL_stars 210 = .ok (.iload 9, 2) := by decide +kernel
theorem dL_stars_212 : decode cL_stars 212 = .ok (.aload 4, 2) := by decide +kernel
theorem dL_stars_214 : decode cL_stars 214 = .ok (.iload 5, 2) := by decide +kernel
theorem dL_stars_216 : decode cL_stars 216 = .ok (.iaload, 1) := by decide +kernel
theorem dL_stars_217 : decode cL_stars 217 = .ok (.idiv, 1) := by decide +kernel
theorem dL_stars_218 : decode cL_stars 218 = .ok (.bipush 60, 2) := by decide +kernel
theorem dL_stars_220 : decode cL_stars 220 = .ok (.if_icmp .gt 16, 3) := by decide +kernel
theorem dL_stars_223 : decode cL_stars 223 = .ok (.iload 9, 2) := by decide +kernel
theorem dL_stars_225 : decode cL_stars 225 = .ok (.aload 4, 2) := by decide +kernel
theorem dL_stars_227 : decode cL_stars 227 = .ok (.iload 8, 2) := by decide +kernel
theorem dL_stars_229 : decode cL_stars 229 = .ok (.iaload, 1) := by decide +kernel
theorem dL_stars_230 : decode cL_stars 230 = .ok (.idiv, 1) := by decide +kernel
theorem dL_stars_231 : decode cL_stars 231 = .ok (.bipush 60, 2) := by decide +kernel
theorem dL_stars_233 : decode cL_stars 233 = .ok (.if_icmp .le 5, 3) := by decide +kernel
theorem dL_stars_236 : decode cL_stars 236 = .ok (.iconst 0, 1) := by decide +kernel
theorem dL_stars_237 : decode cL_stars 237 = .ok (.ireturn, 1) := by decide +kernel
theorem dL_stars_238 : decode cL_stars 238 = .ok (.aload_n 1, 1) := by decide +kernel
theorem dL_stars_239 : decode cL_stars 239 = .ok (.iconst 4, 1) := by decide +kernel
theorem dL_stars_240 : decode cL_stars 240 = .ok (.dup2, 1) := by decide +kernel
theorem dL_stars_241 : decode cL_stars 241 = .ok (.iaload, 1) := by decide +kernel
theorem dL_stars_242 : decode cL_stars 242 = .ok (.iconst 1, 1) := by decide +kernel
theorem dL_stars_243 : decode cL_stars 243 = .ok (.iload_n 0, 1) := by decide +kernel
theorem dL_stars_244 : decode cL_stars 244 = .ok (.ishl, 1) := by decide +kernel
theorem dL_stars_245 : decode cL_stars 245 = .ok (.iconst 1, 1) := by decide +kernel
theorem dL_stars_246 : decode cL_stars 246 = .ok (.iload 5, 2) := by decide +kernel
theorem dL_stars_248 : decode cL_stars 248 = .ok (.ishl, 1) := by decide +kernel
theorem dL_stars_249 : decode cL_stars 249 = .ok (.ior, 1) := by decide +kernel
theorem dL_stars_250 : decode cL_stars 250 = .ok (.iconst 1, 1) := by decide +kernel
theorem dL_stars_251 : decode cL_stars 251 = .ok (.iload 8, 2) := by decide +kernel
theorem dL_stars_253 : decode cL_stars 253 = .ok (.ishl, 1) := by decide +kernel
theorem dL_stars_254 : decode cL_stars 254 = .ok (.ior, 1) := by decide +kernel
theorem dL_stars_255 : decode cL_stars 255 = .ok (.iconst (-1), 1) := by decide +kernel
theorem dL_stars_256 : decode cL_stars 256 = .ok (.ixor, 1) := by decide +kernel
theorem dL_stars_257 : decode cL_stars 257 = .ok (.iand, 1) := by decide +kernel
theorem dL_stars_258 : decode cL_stars 258 = .ok (.iastore, 1) := by decide +kernel
theorem dL_stars_259 : decode cL_stars 259 = .ok (.aload_n 1, 1) := by decide +kernel
theorem dL_stars_260 : decode cL_stars 260 = .ok (.iconst 0, 1) := by decide +kernel
theorem dL_stars_261 : decode cL_stars 261 = .ok (.dup2, 1) := by decide +kernel
theorem dL_stars_262 : decode cL_stars 262 = .ok (.iaload, 1) := by decide +kernel
theorem dL_stars_263 : decode cL_stars 263 = .ok (.dup_x2, 1) := by decide +kernel
theorem dL_stars_264 : decode cL_stars 264 = .ok (.iconst 1, 1) := by decide +kernel
theorem dL_stars_265 : decode cL_stars 265 = .ok (.iadd, 1) := by decide +kernel
theorem dL_stars_266 : decode cL_stars 266 = .ok (.iastore, 1) := by decide +kernel
theorem dL_stars_267 : decode cL_stars 267 = .ok (.istore 10, 2) := by decide +kernel
theorem dL_stars_269 : decode cL_stars 269 = .ok (.aload_n 1, 1) := by decide +kernel
theorem dL_stars_270 : decode cL_stars 270 = .ok (.iconst 1, 1) := by decide +kernel
theorem dL_stars_271 : decode cL_stars 271 = .ok (.dup2, 1) := by decide +kernel
theorem dL_stars_272 : decode cL_stars 272 = .ok (.iaload, 1) := by decide +kernel
theorem dL_stars_273 : decode cL_stars 273 = .ok (.iconst 1, 1) := by decide +kernel
theorem dL_stars_274 : decode cL_stars 274 = .ok (.iload 10, 2) := by decide +kernel
theorem dL_stars_276 : decode cL_stars 276 = .ok (.ishl, 1) := by decide +kernel
theorem dL_stars_277 : decode cL_stars 277 = .ok (.ior, 1) := by decide +kernel
theorem dL_stars_278 : decode cL_stars 278 = .ok (.iastore, 1) := by decide +kernel
theorem dL_stars_279 : decode cL_stars 279 = .ok (.aload_n 1, 1) := by decide +kernel
theorem dL_stars_280 : decode cL_stars 280 = .ok (.iconst 2, 1) := by decide +kernel
theorem dL_stars_281 : decode cL_stars 281 = .ok (.dup2, 1) := by decide +kernel
theorem dL_stars_282 : decode cL_stars 282 = .ok (.iaload, 1) := by decide +kernel
theorem dL_stars_283 : decode cL_stars 283 = .ok (.iconst 1, 1) := by decide +kernel
theorem dL_stars_284 : decode cL_stars 284 = .ok (.iload 10, 2) := by decide +kernel
theorem dL_stars_286 : decode cL_stars 286 = .ok (.ishl, 1) := by decide +kernel
theorem dL_stars_287 : decode cL_stars 287 = .ok (.iconst (-1), 1) := by decide +kernel
theorem dL_stars_288 : decode cL_stars 288 = .ok (.ixor, 1) := by decide +kernel
theorem dL_stars_289 : decode cL_stars 289 = .ok (.iand, 1) := by decide +kernel
theorem dL_stars_290 : decode cL_stars 290 = .ok (.iastore, 1) := by decide +kernel
theorem dL_stars_291 : decode cL_stars 291 = .ok (.aload_n 2, 1) := by decide +kernel
theorem dL_stars_292 : decode cL_stars 292 = .ok (.iload_n 0, 1) := by decide +kernel
theorem dL_stars_293 : decode cL_stars 293 = .ok (.iaload, 1) := by decide +kernel
theorem dL_stars_294 : decode cL_stars 294 = .ok (.iload 10, 2) := by decide +kernel
theorem dL_stars_296 : decode cL_stars 296 = .ok (.iload 9, 2) := by decide +kernel
theorem dL_stars_298 : decode cL_stars 298 = .ok (.aload 4, 2) := by decide +kernel
theorem dL_stars_300 : decode cL_stars 300 = .ok (.iload 8, 2) := by decide +kernel
theorem dL_stars_302 : decode cL_stars 302 = .ok (.iaload, 1) := by decide +kernel
theorem dL_stars_303 : decode cL_stars 303 = .ok (.idiv, 1) := by decide +kernel
theorem dL_stars_304 : decode cL_stars 304 = .ok (.aload_n 1, 1) := by decide +kernel
theorem dL_stars_305 : decode cL_stars 305 = .ok (.aload_n 2, 1) := by decide +kernel
theorem dL_stars_306 : decode cL_stars 306 = .ok (.aload_n 3, 1) := by decide +kernel
theorem dL_stars_307 : decode cL_stars 307 = .ok (.aload 4, 2) := by decide +kernel
theorem dL_stars_309 : decode cL_stars 309 = .ok (.invokestatic 104, 3) := by decide +kernel
theorem dL_stars_312 : decode cL_stars 312 = .ok (.pop, 1) := by decide +kernel
theorem dL_stars_313 : decode cL_stars 313 = .ok (.aload_n 3, 1) := by decide +kernel
theorem dL_stars_314 : decode cL_stars 314 = .ok (.iload_n 0, 1) := by decide +kernel
theorem dL_stars_315 : decode cL_stars 315 = .ok (.iaload, 1) := by decide +kernel
theorem dL_stars_316 : decode cL_stars 316 = .ok (.iload 10, 2) := by decide +kernel
theorem dL_stars_318 : decode cL_stars 318 = .ok (.iload 9, 2) := by decide +kernel
theorem dL_stars_320 : decode cL_stars 320 = .ok (.aload 4, 2) := by decide +kernel
theorem dL_stars_322 : decode cL_stars 322 = .ok (.iload 5, 2) := by decide +kernel
theorem dL_stars_324 : decode cL_stars 324 = .ok (.iaload, 1) := by decide +kernel
theorem dL_stars_325 : decode cL_stars 325 = .ok (.idiv, 1) := by decide +kernel
theorem dL_stars_326 : decode cL_stars 326 = .ok (.aload_n 1, 1) := by decide +kernel
theorem dL_stars_327 : decode cL_stars 327 = .ok (.aload_n 2, 1) := by decide +kernel
theorem dL_stars_328 : decode cL_stars 328 = .ok (.aload_n 3, 1) := by decide +kernel
theorem dL_stars_329 : decode cL_stars 329 = .ok (.aload 4, 2) := by decide +kernel
theorem dL_stars_331 : decode cL_stars 331 = .ok (.invokestatic 104, 3) := by decide +kernel
theorem dL_stars_334 : decode cL_stars 334 = .ok (.pop, 1) := by decide +kernel
theorem dL_stars_335 : decode cL_stars 335 = .ok (.iload 6, 2) := by decide +kernel
theorem dL_stars_337 : decode cL_stars 337 = .ok (.iload 10, 2) := by decide +kernel
theorem dL_stars_339 : decode cL_stars 339 = .ok (.iload 9, 2) := by decide +kernel
theorem dL_stars_341 : decode cL_stars 341 = .ok (.aload 4, 2) := by decide +kernel
theorem dL_stars_343 : decode cL_stars 343 = .ok (.iload_n 0, 1) := by decide +kernel
theorem dL_stars_344 : decode cL_stars 344 = .ok (.iaload, 1) := by decide +kernel
theorem dL_stars_345 : decode cL_stars 345 = .ok (.idiv, 1) := by decide +kernel
theorem dL_stars_346 : decode cL_stars 346 = .ok (.aload_n 1, 1) := by decide +kernel
theorem dL_stars_347 : decode cL_stars 347 = .ok (.aload_n 2, 1) := by decide +kernel
theorem dL_stars_348 : decode cL_stars 348 = .ok (.aload_n 3, 1) := by decide +kernel
theorem dL_stars_349 : decode cL_stars 349 = .ok (.aload 4, 2) := by decide +kernel
theorem dL_stars_351 : decode cL_stars 351 = .ok (.invokestatic 104, 3) := by decide +kernel
theorem dL_stars_354 : decode cL_stars 354 = .ok (.pop, 1) := by decide +kernel
theorem dL_stars_355 : decode cL_stars 355 = .ok (.iconst 1, 1) := by decide +kernel
theorem dL_stars_356 : decode cL_stars 356 = .ok (.ireturn, 1) := by decide +kernel
theorem dL_stars_357 : decode cL_stars 357 = .ok (.iinc 5 1, 3) := by decide +kernel
theorem dL_stars_360 : decode cL_stars 360 = .ok (.goto (-330), 3) := by decide +kernel
theorem dL_stars_363 : decode cL_stars 363 = .ok (.iconst 0, 1) := by decide +kernel
theorem dL_stars_364 : decode cL_stars 364 = .ok (.ireturn, 1) := by decide +kernel
theorem dL_copies_0 : decode cL_copies 0 = .ok (.iconst 0, 1) := by decide +kernel
theorem dL_copies_1 : decode cL_copies 1 = .ok (.istore_n 2, 1) := by decide +kernel
theorem dL_copies_2 : decode cL_copies 2 = .ok (.iload_n 2, 1) := by decide +kernel
theorem dL_copies_3 : decode cL_copies 3 = .ok (.aload_n 0, 1) := by decide +kernel
theorem dL_copies_4 : decode cL_copies 4 = .ok (.arraylength, 1) := by decide +kernel
theorem dL_copies_5 : decode cL_copies 5 = .ok (.if_icmp .ge 15, 3) := by decide +kernel
theorem dL_copies_8 : decode cL_copies 8 = .ok (.aload_n 1, 1) := by decide +kernel
theorem dL_copies_9 : decode cL_copies 9 = .ok (.iload_n 2, 1) := by decide +kernel
theorem dL_copies_10 : decode cL_copies 10 = .ok (.aload_n 0, 1) := by decide +kernel
theorem dL_copies_11 : decode cL_copies 11 = .ok (.iload_n 2, 1) := by decide +kernel
theorem dL_copies_12 : decode cL_copies 12 = .ok (.iaload, 1) := by decide +kernel
theorem dL_copies_13 : decode cL_copies 13 = .ok (.iastore, 1) := by decide +kernel
theorem dL_copies_14 : decode cL_copies 14 = .ok (.iinc 2 1, 3) := by decide +kernel
theorem dL_copies_17 : decode cL_copies 17 = .ok (.goto (-15), 3) := by decide +kernel
theorem dL_copies_20 : decode cL_copies 20 = .ok (.return_, 1) := by decide +kernel
theorem dL_isThere_0 : decode cL_isThere 0 = .ok (.iload_n 0, 1) := by decide +kernel
theorem dL_isThere_1 : decode cL_isThere 1 = .ok (.ifCond .eq 13, 3) := by decide +kernel
theorem dL_isThere_4 : decode cL_isThere 4 = .ok (.iload_n 0, 1) := by decide +kernel
theorem dL_isThere_5 : decode cL_isThere 5 = .ok (.iconst 1, 1) := by decide +kernel
theorem dL_isThere_6 : decode cL_isThere 6 = .ok (.if_icmp .eq 8, 3) := by decide +kernel
theorem dL_isThere_9 : decode cL_isThere 9 = .ok (.iload_n 0, 1) := by decide +kernel
theorem dL_isThere_10 : decode cL_isThere 10 = .ok (.iconst 5, 1) := by decide +kernel
theorem dL_isThere_11 : decode cL_isThere 11 = .ok (.if_icmp .ne 9, 3) := by decide +kernel
theorem dL_isThere_14 : decode cL_isThere 14 = .ok (.aload_n 2, 1) := by decide +kernel
theorem dL_isThere_15 : decode cL_isThere 15 = .ok (.iconst 4, 1) := by decide +kernel
theorem dL_isThere_16 : decode cL_isThere 16 = .ok (.iaload, 1) := by decide +kernel
theorem dL_isThere_17 : decode cL_isThere 17 = .ok (.goto 6, 3) := by decide +kernel
theorem dL_isThere_20 : decode cL_isThere 20 = .ok (.aload_n 2, 1) := by decide +kernel
theorem dL_isThere_21 : decode cL_isThere 21 = .ok (.iconst 1, 1) := by decide +kernel
theorem dL_isThere_22 : decode cL_isThere 22 = .ok (.iaload, 1) := by decide +kernel
theorem dL_isThere_23 : decode cL_isThere 23 = .ok (.iload_n 1, 1) := by decide +kernel
theorem dL_isThere_24 : decode cL_isThere 24 = .ok (.ishr, 1) := by decide +kernel
theorem dL_isThere_25 : decode cL_isThere 25 = .ok (.iconst 1, 1) := by decide +kernel
theorem dL_isThere_26 : decode cL_isThere 26 = .ok (.iand, 1) := by decide +kernel
theorem dL_isThere_27 : decode cL_isThere 27 = .ok (.iconst 1, 1) := by decide +kernel
theorem dL_isThere_28 : decode cL_isThere 28 = .ok (.if_icmp .ne 7, 3) := by decide +kernel
theorem dL_isThere_31 : decode cL_isThere 31 = .ok (.iconst 1, 1) := by decide +kernel
theorem dL_isThere_32 : decode cL_isThere 32 = .ok (.goto 4, 3) := by decide +kernel
theorem dL_isThere_35 : decode cL_isThere 35 = .ok (.iconst 0, 1) := by decide +kernel
theorem dL_isThere_36 : decode cL_isThere 36 = .ok (.ireturn, 1) := by decide +kernel
set_option maxRecDepth 20000 in
theorem ggL_isTold_L_rest : GoodIn wsL_isTold wsL_rest := goodIn_r _ [6, 7, 8, 5, 9, 10, 11, 12, 13, 14, 15, 16, 17] (by decide +kernel) (by decide +kernel)
set_option maxRecDepth 20000 in
theorem gL_isTold_L_rest : GoodIn wsL_isTold (va_wsS RL 85 yL_rest wsL_rest) := goodIn_app (goodIn_of _ (by decide +kernel)) ggL_isTold_L_rest
set_option maxRecDepth 20000 in
theorem ggL_isTold_L_minor : GoodIn wsL_isTold wsL_minor := goodIn_r _ [12, 13, 14, 15, 16, 5, 17] (by decide +kernel) (by decide +kernel)
set_option maxRecDepth 20000 in
theorem gL_isTold_L_minor : GoodIn wsL_isTold (va_wsS RL 81 yL_minor wsL_minor) := goodIn_app (goodIn_of _ (by decide +kernel)) ggL_isTold_L_minor
set_option maxRecDepth 20000 in
theorem ggL_isTold_X7_nodes : GoodIn wsL_isTold wsX7_nodes := goodIn_r _ [22, 23, 24, 315, 316, 317, 318, 319, 320, 321, 322, 323, 324, 325, 326, 327, 328, 329] (by decide +kernel) (by decide +kernel)
set_option maxRecDepth 20000 in
theorem gL_isTold_X7_nodes : GoodIn wsL_isTold (wsV RL 108 RX7 yX7_nodes wsX7_nodes) := goodIn_app (goodIn_of _ (by decide +kernel)) ggL_isTold_X7_nodes
set_option maxRecDepth 20000 in
theorem ggL_isTold_X7_wires : GoodIn wsL_isTold wsX7_wires := goodIn_r _ [28, 23, 29, 315, 316, 317, 318, 319, 320, 321, 322, 323, 324, 325, 326, 327, 328, 329] (by decide +kernel) (by decide +kernel)
set_option maxRecDepth 20000 in
theorem gL_isTold_X7_wires : GoodIn wsL_isTold (wsV RL 111 RX7 yX7_wires wsX7_wires) := goodIn_app (goodIn_of _ (by decide +kernel)) ggL_isTold_X7_wires
set_option maxRecDepth 20000 in
theorem ggL_isTold_X7_rest : GoodIn wsL_isTold wsX7_rest := goodIn_r _ [33, 34, 35, 36, 21, 37, 38, 23, 39, 40, 41, 42, 43, 44, 45, 46, 47, 48, 49, 50, 51, 52, 53, 54, 55, 56, 57, 58, 59, 60, 61, 62, 63, 64, 65, 66, 67, 68, 69, 70, 71, 72, 73, 74, 75, 76, 77, 78, 79, 80, 81, 82, 83, 84, 85, 86, 87, 88, 89, 90, 91, 92, 93, 94, 95, 96, 97, 98, 99, 100, 101, 102, 103, 104, 105, 106, 107, 108, 109, 110, 111, 112, 113, 114, 115, 116, 117, 118, 315, 316, 317, 318, 319, 320, 321, 322, 323, 324, 325, 326, 327, 328, 329, 330, 331, 332, 333, 334, 335, 336, 337, 338] (by decide +kernel) (by decide +kernel)
set_option maxRecDepth 20000 in
theorem gL_isTold_X7_rest : GoodIn wsL_isTold (wsV RL 114 RX7 yX7_rest wsX7_rest) := goodIn_app (goodIn_of _ (by decide +kernel)) ggL_isTold_X7_rest
set_option maxRecDepth 20000 in
theorem ggL_isTold_X7_trees : GoodIn wsL_isTold wsX7_trees := goodIn_r _ [122, 123, 124, 125, 21, 126, 23, 38, 127, 128, 129, 72, 130, 131, 132, 133, 134, 135, 75, 76, 136, 91, 92, 40, 41, 42, 43, 44, 45, 46, 47, 48, 49, 50, 51, 52, 53, 54, 55, 56, 57, 58, 59, 60, 61, 62, 63, 64, 65, 66, 67, 68, 69, 70, 71, 73, 74, 77, 78, 79, 80, 81, 82, 83, 84, 85, 86, 87, 88, 89, 90, 93, 94, 95, 96, 97, 98, 99, 100, 101, 102, 103, 104, 105, 106, 107, 108, 109, 110, 111, 112, 113, 114, 115, 116, 117, 118, 315, 316, 317, 318, 319, 320, 321, 322, 323, 324, 325, 326, 327, 328, 329, 330, 331, 332, 333, 334, 335, 336, 337, 338] (by decide +kernel) (by decide +kernel)
set_option maxRecDepth 20000 in
theorem gL_isTold_X7_trees : GoodIn wsL_isTold (wsV RL 117 RX7 yX7_trees wsX7_trees) := goodIn_app (goodIn_of _ (by decide +kernel)) ggL_isTold_X7_trees
set_option maxRecDepth 20000 in
theorem ggL_isTold_X7_treesAnew : GoodIn wsL_isTold wsX7_treesAnew := goodIn_r _ [140, 141, 142, 143, 144, 145, 146, 147, 148, 149, 128, 129, 72, 130, 131, 132, 133, 134, 135, 75, 21, 76, 150, 151, 152, 153, 154, 155, 156, 157, 158, 159, 160, 70, 71, 73, 74, 161, 78, 79, 80, 81, 82, 83, 84, 85, 86, 87, 88, 89, 90, 162, 163, 164, 165, 166, 167, 168, 169, 170, 171, 172, 115, 116, 117, 118, 173, 174, 175, 176, 91, 92, 177, 178, 179, 315, 316, 317, 318, 319, 320, 321, 339, 340, 341, 322, 323, 324, 325, 326, 327, 328, 329] (by decide +kernel) (by decide +kernel)
set_option maxRecDepth 20000 in
theorem gL_isTold_X7_treesAnew : GoodIn wsL_isTold (wsV RL 120 RX7 yX7_treesAnew wsX7_treesAnew) := goodIn_app (goodIn_of _ (by decide +kernel)) ggL_isTold_X7_treesAnew
set_option maxRecDepth 20000 in
theorem ggL_isTold_L_low : GoodIn wsL_isTold wsL_low := goodIn_r _ [182] (by decide +kernel) (by decide +kernel)
set_option maxRecDepth 20000 in
theorem gL_isTold_L_low : GoodIn wsL_isTold (va_wsS RL 123 yL_low wsL_low) := goodIn_app (goodIn_of _ (by decide +kernel)) ggL_isTold_L_low
set_option maxRecDepth 20000 in
theorem ggL_isTold_L_wireIs : GoodIn wsL_isTold wsL_wireIs := goodIn_ca (goodIn_ca (goodIn_r _ [185, 186, 187, 188, 189, 190, 21, 191, 192, 193, 23, 194, 195, 196, 197, 198, 199, 200, 70, 71, 72, 73, 74, 75, 76, 201, 82, 83, 84, 85, 202, 87, 88, 89, 90, 203, 115, 116, 117, 118, 315, 316, 317, 318, 319, 320, 321, 322, 323, 324, 325, 326, 327, 328, 329] (by decide +kernel) (by decide +kernel)) (goodIn_sub (fun _ h => List.mem_cons_of_mem _ (List.mem_append_left _ (List.mem_append_right _ h))) (by decide +kernel))) (goodIn_sub (fun _ h => List.mem_cons_of_mem _ (List.mem_append_right _ h)) (by decide +kernel))
set_option maxRecDepth 20000 in
theorem gL_isTold_L_wireIs : GoodIn wsL_isTold (va_wsS RL 126 yL_wireIs wsL_wireIs) := goodIn_app (goodIn_of _ (by decide +kernel)) ggL_isTold_L_wireIs
set_option maxRecDepth 20000 in
theorem ggL_isTold_L_answer : GoodIn wsL_isTold wsL_answer := goodIn_ca (goodIn_ca (goodIn_r _ [206, 186, 187, 1, 2, 207, 208, 209, 21, 210, 192, 193, 211, 212, 213, 214, 198, 199, 23, 215, 216, 217, 72, 218, 219, 131, 132, 133, 134, 135, 75, 76, 220, 221, 222, 223, 38, 39, 136, 91, 92, 224, 46, 47, 43, 48, 49, 50, 51, 52, 53, 54, 55, 56, 57, 58, 59, 60, 61, 62, 63, 64, 65, 66, 67, 68, 69, 70, 71, 73, 74, 77, 78, 79, 80, 81, 82, 83, 84, 85, 86, 87, 88, 89, 90, 93, 94, 95, 96, 97, 98, 99, 100, 101, 102, 103, 104, 105, 106, 107, 108, 109, 110, 111, 112, 113, 114, 115, 116, 117, 118, 34, 35, 36, 37, 40, 41, 42, 44, 45, 225, 226, 227, 228, 229, 230, 231, 232, 233, 234, 315, 316, 317, 318, 319, 320, 321, 322, 323, 324, 325, 326, 327, 328, 329, 330, 331, 332, 333, 334, 335, 336, 337, 338] (by decide +kernel) (by decide +kernel)) (goodIn_sub (fun _ h => List.mem_cons_of_mem _ (List.mem_append_left _ (List.mem_append_right _ h))) (by decide +kernel))) (goodIn_sub (fun _ h => List.mem_cons_of_mem _ (List.mem_append_right _ h)) (by decide +kernel))
set_option maxRecDepth 20000 in
theorem gL_isTold_L_answer : GoodIn wsL_isTold (va_wsS RL 129 yL_answer wsL_answer) := goodIn_app (goodIn_of _ (by decide +kernel)) ggL_isTold_L_answer
set_option maxRecDepth 20000 in
theorem ggL_isTold_L_pair : GoodIn wsL_isTold wsL_pair := goodIn_r _ [237, 15, 16, 5, 17, 3, 4, 6, 7, 8, 9, 10, 11, 12, 13, 14] (by decide +kernel) (by decide +kernel)
set_option maxRecDepth 20000 in
theorem gL_isTold_L_pair : GoodIn wsL_isTold (va_wsS RL 132 yL_pair wsL_pair) := goodIn_app (goodIn_of _ (by decide +kernel)) ggL_isTold_L_pair
set_option maxRecDepth 20000 in
theorem ggL_isTold_L_is : GoodIn wsL_isTold wsL_is := goodIn_r _ [240, 241, 242, 5, 243] (by decide +kernel) (by decide +kernel)
set_option maxRecDepth 20000 in
theorem gL_isTold_L_is : GoodIn wsL_isTold (va_wsS RL 135 yL_is wsL_is) := goodIn_app (goodIn_of _ (by decide +kernel)) ggL_isTold_L_is
set_option maxRecDepth 20000 in
theorem ggL_isTold_L_distance : GoodIn wsL_isTold wsL_distance := goodIn_ca (goodIn_r _ [246, 186, 1, 247, 248, 249, 21, 250, 38, 251, 252, 253, 254, 198, 199, 23, 255, 132, 133, 72, 134, 135, 75, 76, 225, 226, 227, 228, 229, 230, 231, 232, 233, 234, 136, 91, 92, 40, 41, 42, 43, 44, 45, 46, 47, 48, 49, 50, 51, 52, 53, 54, 55, 56, 57, 58, 59, 60, 61, 62, 63, 64, 65, 66, 67, 68, 69, 70, 71, 73, 74, 77, 78, 79, 80, 81, 82, 83, 84, 85, 86, 87, 88, 89, 90, 93, 94, 95, 96, 97, 98, 99, 100, 101, 102, 103, 104, 105, 106, 107, 108, 109, 110, 111, 112, 113, 114, 115, 116, 117, 118, 123, 124, 125, 126, 127, 128, 129, 130, 131, 315, 316, 317, 318, 319, 320, 321, 322, 323, 324, 325, 326, 327, 328, 329, 330, 331, 332, 333, 334, 335, 336, 337, 338] (by decide +kernel) (by decide +kernel)) (goodIn_sub (fun _ h => List.mem_cons_of_mem _ (List.mem_append_right _ h)) (by decide +kernel))
set_option maxRecDepth 20000 in
theorem gL_isTold_L_distance : GoodIn wsL_isTold (va_wsS RL 139 yL_distance wsL_distance) := goodIn_app (goodIn_of _ (by decide +kernel)) ggL_isTold_L_distance
set_option maxRecDepth 20000 in
theorem ggL_isTold_L_chance : GoodIn wsL_isTold wsL_chance := goodIn_ca (goodIn_ca (goodIn_r _ [258, 186, 187, 1, 2, 259, 260, 261, 21, 262, 192, 193, 38, 251, 252, 253, 254, 198, 199, 23, 255, 132, 133, 72, 134, 135, 75, 76, 136, 91, 92, 224, 46, 47, 43, 48, 49, 50, 51, 52, 53, 54, 55, 56, 57, 58, 59, 60, 61, 62, 63, 64, 65, 66, 67, 68, 69, 70, 71, 73, 74, 77, 78, 79, 80, 81, 82, 83, 84, 85, 86, 87, 88, 89, 90, 93, 94, 95, 96, 97, 98, 99, 100, 101, 102, 103, 104, 105, 106, 107, 108, 109, 110, 111, 112, 113, 114, 115, 116, 117, 118, 40, 41, 42, 44, 45, 225, 226, 227, 228, 229, 230, 231, 232, 233, 234, 315, 316, 317, 318, 319, 320, 321, 322, 323, 324, 325, 326, 327, 328, 329, 330, 331, 332, 333, 334, 335, 336, 337, 338] (by decide +kernel) (by decide +kernel)) (goodIn_sub (fun _ h => List.mem_cons_of_mem _ (List.mem_append_left _ (List.mem_append_right _ h))) (by decide +kernel))) (goodIn_sub (fun _ h => List.mem_cons_of_mem _ (List.mem_append_right _ h)) (by decide +kernel))
set_option maxRecDepth 20000 in
theorem gL_isTold_L_chance : GoodIn wsL_isTold (va_wsS RL 141 yL_chance wsL_chance) := goodIn_app (goodIn_of _ (by decide +kernel)) ggL_isTold_L_chance
