theorem dX8_wires_9 : decode cX8_wires 9 = .ok (.ireturn, 1) := by decide +kernel
theorem dX8_marks_0 : decode cX8_marks 0 = .ok (.iconst 0, 1) := by decide +kernel
theorem dX8_marks_1 : decode cX8_marks 1 = .ok (.istore_n 3, 1) := by decide +kernel
theorem dX8_marks_2 : decode cX8_marks 2 = .ok (.iload_n 3, 1) := by decide +kernel
theorem dX8_marks_3 : decode cX8_marks 3 = .ok (.bipush 7, 2) := by decide +kernel
theorem dX8_marks_5 : decode cX8_marks 5 = .ok (.if_icmp .ge 35, 3) := by decide +kernel
theorem dX8_marks_8 : decode cX8_marks 8 = .ok (.aload_n 0, 1) := by decide +kernel
theorem dX8_marks_9 : decode cX8_marks 9 = .ok (.getfield 25, 3) := by decide +kernel
theorem dX8_marks_12 : decode cX8_marks 12 = .ok (.iload_n 3, 1) := by decide +kernel
theorem dX8_marks_13 : decode cX8_marks 13 = .ok (.aload_n 0, 1) := by decide +kernel
theorem dX8_marks_14 : decode cX8_marks 14 = .ok (.getfield 25, 3) := by decide +kernel
theorem dX8_marks_17 : decode cX8_marks 17 = .ok (.iload_n 3, 1) := by decide +kernel
theorem dX8_marks_18 : decode cX8_marks 18 = .ok (.iaload, 1) := by decide +kernel
theorem dX8_marks_19 : decode cX8_marks 19 = .ok (.iload_n 1, 1) := by decide +kernel
theorem dX8_marks_20 : decode cX8_marks 20 = .ok (.if_icmp .ne 7, 3) := by decide +kernel
theorem dX8_marks_23 : decode cX8_marks 23 = .ok (.iload_n 2, 1) := by decide +kernel
theorem dX8_marks_24 : decode cX8_marks 24 = .ok (.goto 9, 3) := by decide +kernel
theorem dX8_marks_27 : decode cX8_marks 27 = .ok (.aload_n 0, 1) := by decide +kernel
theorem dX8_marks_28 : decode cX8_marks 28 = .ok (.getfield 25, 3) := by decide +kernel
theorem dX8_marks_31 : decode cX8_marks 31 = .ok (.iload_n 3, 1) := by decide +kernel
theorem dX8_marks_32 : decode cX8_marks 32 = .ok (.iaload, 1) := by decide +kernel
theorem dX8_marks_33 : decode cX8_marks 33 = .ok (.iastore, 1) := by decide +kernel
theorem dX8_marks_34 : decode cX8_marks 34 = .ok (.iinc 3 1, 3) := by decide +kernel
theorem dX8_marks_37 : decode cX8_marks 37 = .ok (.goto (-35), 3) := by decide +kernel
theorem dX8_marks_40 : decode cX8_marks 40 = .ok (.return_, 1) := by decide +kernel
set_option maxRecDepth 20000 in
theorem ggX8_weightOf_X8_isIn : GoodIn wsX8_weightOf wsX8_isIn := goodIn_r _ [9] (by decide +kernel) (by decide +kernel)
set_option maxRecDepth 20000 in
theorem gX8_weightOf_X8_isIn : GoodIn wsX8_weightOf (va_wsS RX8 58 yX8_isIn wsX8_isIn) := goodIn_app (goodIn_of _ (by decide +kernel)) ggX8_weightOf_X8_isIn
set_option maxRecDepth 20000 in
theorem ggX8_weightOf_X8_marks : GoodIn wsX8_weightOf wsX8_marks := goodIn_r _ [13, 1, 14, 15, 16, 17, 18, 19, 20, 21, 22, 23, 24, 25, 26, 27, 28, 29, 30, 31, 32, 33, 34] (by decide +kernel) (by decide +kernel)
set_option maxRecDepth 20000 in
theorem gX8_weightOf_X8_marks : GoodIn wsX8_weightOf (wsV RX8 96 RX8 yX8_marks wsX8_marks) := goodIn_app (goodIn_of _ (by decide +kernel)) ggX8_weightOf_X8_marks
theorem dX8_weightOf_0 : decode cX8_weightOf 0 = .ok (.iconst 0, 1) := by decide +kernel
theorem dX8_weightOf_1 : decode cX8_weightOf 1 = .ok (.istore_n 2, 1) := by decide +kernel
theorem dX8_weightOf_2 : decode cX8_weightOf 2 = .ok (.iload_n 2, 1) := by decide +kernel
theorem dX8_weightOf_3 : decode cX8_weightOf 3 = .ok (.bipush 7, 2) := by decide +kernel
theorem dX8_weightOf_5 : decode cX8_weightOf 5 = .ok (.if_icmp .ge 16, 3) := by decide +kernel
theorem dX8_weightOf_8 : decode cX8_weightOf 8 = .ok (.aload_n 0, 1) := by decide +kernel
theorem dX8_weightOf_9 : decode cX8_weightOf 9 = .ok (.getfield 25, 3) := by decide +kernel
theorem dX8_weightOf_12 : decode cX8_weightOf 12 = .ok (.iload_n 2, 1) := by decide +kernel
theorem dX8_weightOf_13 : decode cX8_weightOf 13 = .ok (.iload_n 2, 1) := by decide +kernel
theorem dX8_weightOf_14 : decode cX8_weightOf 14 = .ok (.iastore, 1) := by decide +kernel
theorem dX8_weightOf_15 : decode cX8_weightOf 15 = .ok (.iinc 2 1, 3) := by decide +kernel
theorem dX8_weightOf_18 : decode cX8_weightOf 18 = .ok (.goto (-16), 3) := by decide +kernel
theorem dX8_weightOf_21 : decode cX8_weightOf 21 = .ok (.lconst 1, 1) := by decide +kernel
theorem dX8_weightOf_22 : decode cX8_weightOf 22 = .ok (.lstore_n 2, 1) := by decide +kernel
theorem dX8_weightOf_23 : decode cX8_weightOf 23 = .ok (.iconst 0, 1) := by decide +kernel
theorem dX8_weightOf_24 : decode cX8_weightOf 24 = .ok (.istore 4, 2) := by decide +kernel
theorem dX8_weightOf_26 : decode cX8_weightOf 26 = .ok (.iload 4, 2) := by decide +kernel
theorem dX8_weightOf_28 : decode cX8_weightOf 28 = .ok (.aload_n 0, 1) := by decide +kernel
theorem dX8_weightOf_29 : decode cX8_weightOf 29 = .ok (.getfield 82, 3) := by decide +kernel
theorem dX8_weightOf_32 : decode cX8_weightOf 32 = .ok (.if_icmp .ge 106, 3) := by decide +kernel
theorem dX8_weightOf_35 : decode cX8_weightOf 35 = .ok (.lload_n 2, 1) := by decide +kernel
theorem dX8_weightOf_36 : decode cX8_weightOf 36 = .ok (.lconst 0, 1) := by decide +kernel
theorem dX8_weightOf_37 : decode cX8_weightOf 37 = .ok (.lcmp, 1) := by decide +kernel
theorem dX8_weightOf_38 : decode cX8_weightOf 38 = .ok (.ifCond .le 100, 3) := by decide +kernel
theorem dX8_weightOf_41 : decode cX8_weightOf 41 = .ok (.iload_n 1, 1) := by decide +kernel
theorem dX8_weightOf_42 : decode cX8_weightOf 42 = .ok (.iload 4, 2) := by decide +kernel
theorem dX8_weightOf_44 : decode cX8_weightOf 44 = .ok (.invokestatic 58, 3) := by decide +kernel
theorem dX8_weightOf_47 : decode cX8_weightOf 47 = .ok (.ifCond .eq 85, 3) := by decide +kernel
theorem dX8_weightOf_50 : decode cX8_weightOf 50 = .ok (.aload_n 0, 1) := by decide +kernel
theorem dX8_weightOf_51 : decode cX8_weightOf 51 = .ok (.getfield 25, 3) := by decide +kernel
theorem dX8_weightOf_54 : decode cX8_weightOf 54 = .ok (.aload_n 0, 1) := by decide +kernel
theorem dX8_weightOf_55 : decode cX8_weightOf 55 = .ok (.getfield 7, 3) := by decide +kernel
theorem dX8_weightOf_58 : decode cX8_weightOf 58 = .ok (.iload 4, 2) := by decide +kernel
theorem dX8_weightOf_60 : decode cX8_weightOf 60 = .ok (.iaload, 1) := by decide +kernel
theorem dX8_weightOf_61 : decode cX8_weightOf 61 = .ok (.iaload, 1) := by decide +kernel
theorem dX8_weightOf_62 : decode cX8_weightOf 62 = .ok (.aload_n 0, 1) := by decide +kernel
theorem dX8_weightOf_63 : decode cX8_weightOf 63 = .ok (.getfield 25, 3) := by decide +kernel
theorem dX8_weightOf_66 : decode cX8_weightOf 66 = .ok (.aload_n 0, 1) := by decide +kernel
theorem dX8_weightOf_67 : decode cX8_weightOf 67 = .ok (.getfield 13, 3) := by decide +kernel
theorem dX8_weightOf_70 : decode cX8_weightOf 70 = .ok (.iload 4, 2) := by decide +kernel
theorem dX8_weightOf_72 : decode cX8_weightOf 72 = .ok (.iaload, 1) := by decide +kernel
theorem dX8_weightOf_73 : decode cX8_weightOf 73 = .ok (.iaload, 1) := by decide +kernel
theorem dX8_weightOf_74 : decode cX8_weightOf 74 = .ok (.if_icmp .ne 7, 3) := by decide +kernel
theorem dX8_weightOf_77 : decode cX8_weightOf 77 = .ok (.iconst 1, 1) := by decide +kernel
theorem dX8_weightOf_78 : decode cX8_weightOf 78 = .ok (.goto 4, 3) := by decide +kernel
theorem dX8_weightOf_81 : decode cX8_weightOf 81 = .ok (.iconst 0, 1) := by decide +kernel
theorem dX8_weightOf_82 : decode cX8_weightOf 82 = .ok (.istore 5, 2) := by decide +kernel
theorem dX8_weightOf_84 : decode cX8_weightOf 84 = .ok (.iload 5, 2) := by decide +kernel
theorem dX8_weightOf_86 : decode cX8_weightOf 86 = .ok (.ifCond .eq 7, 3) := by decide +kernel
theorem dX8_weightOf_89 : decode cX8_weightOf 89 = .ok (.lconst 0, 1) := by decide +kernel
theorem dX8_weightOf_90 : decode cX8_weightOf 90 = .ok (.goto 13, 3) := by decide +kernel
theorem dX8_weightOf_93 : decode cX8_weightOf 93 = .ok (.lload_n 2, 1) := by decide +kernel
theorem dX8_weightOf_94 : decode cX8_weightOf 94 = .ok (.aload_n 0, 1) := by decide +kernel
theorem dX8_weightOf_95 : decode cX8_weightOf 95 = .ok (.getfield 16, 3) := by decide +kernel
theorem dX8_weightOf_98 : decode cX8_weightOf 98 = .ok (.iload 4, 2) := by decide +kernel
theorem dX8_weightOf_100 : decode cX8_weightOf 100 = .ok (.iaload, 1) := by decide +kernel
theorem dX8_weightOf_101 : decode cX8_weightOf 101 = .ok (.i2l, 1) := by decide +kernel
theorem dX8_weightOf_102 : decode cX8_weightOf 102 = .ok (.lmul, 1) := by decide +kernel
theorem dX8_weightOf_103 : decode cX8_weightOf 103 = .ok (.lstore_n 2, 1) := by decide +kernel
theorem dX8_weightOf_104 : decode cX8_weightOf 104 = .ok (.aload_n 0, 1) := by decide +kernel
theorem dX8_weightOf_105 : decode cX8_weightOf 105 = .ok (.aload_n 0, 1) := by decide +kernel
theorem dX8_weightOf_106 : decode cX8_weightOf 106 = .ok (.getfield 25, 3) := by decide +kernel
theorem dX8_weightOf_109 : decode cX8_weightOf 109 = .ok (.aload_n 0, 1) := by decide +kernel
theorem dX8_weightOf_110 : decode cX8_weightOf 110 = .ok (.getfield 7, 3) := by decide +kernel
theorem dX8_weightOf_113 : decode cX8_weightOf 113 = .ok (.iload 4, 2) := by decide +kernel
theorem dX8_weightOf_115 : decode cX8_weightOf 115 = .ok (.iaload, 1) := by decide +kernel
theorem dX8_weightOf_116 : decode cX8_weightOf 116 = .ok (.iaload, 1) := by decide +kernel
theorem dX8_weightOf_117 : decode cX8_weightOf 117 = .ok (.aload_n 0, 1) := by decide +kernel
theorem dX8_weightOf_118 : decode cX8_weightOf 118 = .ok (.getfield 25, 3) := by decide +kernel
theorem dX8_weightOf_121 : decode cX8_weightOf 121 = .ok (.aload_n 0, 1) := by decide +kernel
theorem dX8_weightOf_122 : decode cX8_weightOf 122 = .ok (.getfield 13, 3) := by decide +kernel
theorem dX8_weightOf_125 : decode cX8_weightOf 125 = .ok (.iload 4, 2) := by decide +kernel
theorem dX8_weightOf_127 : decode cX8_weightOf 127 = .ok (.iaload, 1) := by decide +kernel
theorem dX8_weightOf_128 : decode cX8_weightOf 128 = .ok (.iaload, 1) := by decide +kernel
theorem dX8_weightOf_129 : decode cX8_weightOf 129 = .ok (.invokevirtual 96, 3) := by decide +kernel
theorem dX8_weightOf_132 : decode cX8_weightOf 132 = .ok (.iinc 4 1, 3) := by decide +kernel
theorem dX8_weightOf_135 : decode cX8_weightOf 135 = .ok (.goto (-109), 3) := by decide +kernel
theorem dX8_weightOf_138 : decode cX8_weightOf 138 = .ok (.lload_n 2, 1) := by decide +kernel
theorem dX8_weightOf_139 : decode cX8_weightOf 139 = .ok (.lreturn, 1) := by decide +kernel
set_option maxRecDepth 20000 in
theorem ggX8_countsEdges_X8_isIn : GoodIn wsX8_countsEdges wsX8_isIn := goodIn_r _ [8] (by decide +kernel) (by decide +kernel)
set_option maxRecDepth 20000 in
theorem gX8_countsEdges_X8_isIn : GoodIn wsX8_countsEdges (va_wsS RX8 58 yX8_isIn wsX8_isIn) := goodIn_app (goodIn_of _ (by decide +kernel)) ggX8_countsEdges_X8_isIn
theorem dX8_countsEdges_0 : decode cX8_countsEdges 0 = .ok (.iconst 0, 1) := by decide +kernel
theorem dX8_countsEdges_1 : decode cX8_countsEdges 1 = .ok (.istore_n 1, 1) := by decide +kernel
theorem dX8_countsEdges_2 : decode cX8_countsEdges 2 = .ok (.iload_n 1, 1) := by decide +kernel
theorem dX8_countsEdges_3 : decode cX8_countsEdges 3 = .ok (.bipush 7, 2) := by decide +kernel
theorem dX8_countsEdges_5 : decode cX8_countsEdges 5 = .ok (.if_icmp .ge 16, 3) := by decide +kernel
theorem dX8_countsEdges_8 : decode cX8_countsEdges 8 = .ok (.aload_n 0, 1) := by decide +kernel
theorem dX8_countsEdges_9 : decode cX8_countsEdges 9 = .ok (.getfield 28, 3) := by decide +kernel
theorem dX8_countsEdges_12 : decode cX8_countsEdges 12 = .ok (.iload_n 1, 1) := by decide +kernel
theorem dX8_countsEdges_13 : decode cX8_countsEdges 13 = .ok (.iconst 0, 1) := by decide +kernel
theorem dX8_countsEdges_14 : decode cX8_countsEdges 14 = .ok (.iastore, 1) := by decide +kernel
theorem dX8_countsEdges_15 : decode cX8_countsEdges 15 = .ok (.iinc 1 1, 3) := by decide +kernel
theorem dX8_countsEdges_18 : decode cX8_countsEdges 18 = .ok (.goto (-16), 3) := by decide +kernel
theorem dX8_countsEdges_21 : decode cX8_countsEdges 21 = .ok (.iconst 0, 1) := by decide +kernel
theorem dX8_countsEdges_22 : decode cX8_countsEdges 22 = .ok (.istore_n 1, 1) := by decide +kernel
theorem dX8_countsEdges_23 : decode cX8_countsEdges 23 = .ok (.iload_n 1, 1) := by decide +kernel
theorem dX8_countsEdges_24 : decode cX8_countsEdges 24 = .ok (.bipush 7, 2) := by decide +kernel
theorem dX8_countsEdges_26 : decode cX8_countsEdges 26 = .ok (.if_icmp .ge 50, 3) := by decide +kernel
theorem dX8_countsEdges_29 : decode cX8_countsEdges 29 = .ok (.aload_n 0, 1) := by decide +kernel
theorem dX8_countsEdges_30 : decode cX8_countsEdges 30 = .ok (.getfield 28, 3) := by decide +kernel
theorem dX8_countsEdges_33 : decode cX8_countsEdges 33 = .ok (.aload_n 0, 1) := by decide +kernel
theorem dX8_countsEdges_34 : decode cX8_countsEdges 34 = .ok (.getfield 25, 3) := by decide +kernel
theorem dX8_countsEdges_37 : decode cX8_countsEdges 37 = .ok (.iload_n 1, 1) := by decide +kernel
theorem dX8_countsEdges_38 : decode cX8_countsEdges 38 = .ok (.iaload, 1) := by decide +kernel
theorem dX8_countsEdges_39 : decode cX8_countsEdges 39 = .ok (.dup2, 1) := by decide +kernel
theorem dX8_countsEdges_40 : decode cX8_countsEdges 40 = .ok (.iaload, 1) := by decide +kernel
theorem dX8_countsEdges_41 : decode cX8_countsEdges 41 = .ok (.aload_n 0, 1) := by decide +kernel
theorem dX8_countsEdges_42 : decode cX8_countsEdges 42 = .ok (.getfield 55, 3) := by decide +kernel
theorem dX8_countsEdges_45 : decode cX8_countsEdges 45 = .ok (.iload_n 1, 1) := by decide +kernel
theorem dX8_countsEdges_46 : decode cX8_countsEdges 46 = .ok (.invokestatic 58, 3) := by decide +kernel
theorem dX8_countsEdges_49 : decode cX8_countsEdges 49 = .ok (.ifCond .eq 18, 3) := by decide +kernel
theorem dX8_countsEdges_52 : decode cX8_countsEdges 52 = .ok (.aload_n 0, 1) := by decide +kernel
theorem dX8_countsEdges_53 : decode cX8_countsEdges 53 = .ok (.getfield 66, 3) := by decide +kernel
theorem dX8_countsEdges_56 : decode cX8_countsEdges 56 = .ok (.iload_n 1, 1) := by decide +kernel
theorem dX8_countsEdges_57 : decode cX8_countsEdges 57 = .ok (.invokestatic 58, 3) := by decide +kernel
theorem dX8_countsEdges_60 : decode cX8_countsEdges 60 = .ok (.ifCond .eq 7, 3) := by decide +kernel
theorem dX8_countsEdges_63 : decode cX8_countsEdges 63 = .ok (.iconst 1, 1) := by decide +kernel
theorem dX8_countsEdges_64 : decode cX8_countsEdges 64 = .ok (.goto 4, 3) := by decide +kernel
theorem dX8_countsEdges_67 : decode cX8_countsEdges 67 = .ok (.iconst 0, 1) := by decide +kernel
theorem dX8_countsEdges_68 : decode cX8_countsEdges 68 = .ok (.iadd, 1) := by decide +kernel
theorem dX8_countsEdges_69 : decode cX8_countsEdges 69 = .ok (.iastore, 1) := by decide +kernel
theorem dX8_countsEdges_70 : decode cX8_countsEdges 70 = .ok (.iinc 1 1, 3) := by decide +kernel
theorem dX8_countsEdges_73 : decode cX8_countsEdges 73 = .ok (.goto (-50), 3) := by decide +kernel
theorem dX8_countsEdges_76 : decode cX8_countsEdges 76 = .ok (.return_, 1) := by decide +kernel
set_option maxRecDepth 20000 in
theorem ggX8_areParted_X8_countsEdges : GoodIn wsX8_areParted wsX8_countsEdges := goodIn_r _ [8, 3, 1, 2, 9, 10, 11, 7, 12, 13, 14, 15, 16, 17, 18, 19, 20, 21, 22, 23, 24, 25, 26, 27, 28, 29, 30, 31, 32, 33] (by decide +kernel) (by decide +kernel)
set_option maxRecDepth 20000 in
theorem gX8_areParted_X8_countsEdges : GoodIn wsX8_areParted (wsV RX8 100 RX8 yX8_countsEdges wsX8_countsEdges) := goodIn_app (goodIn_of _ (by decide +kernel)) ggX8_areParted_X8_countsEdges
set_option maxRecDepth 20000 in
theorem ggX8_areParted_X8_isIn : GoodIn wsX8_areParted wsX8_isIn := goodIn_r _ [12] (by decide +kernel) (by decide +kernel)
set_option maxRecDepth 20000 in
theorem gX8_areParted_X8_isIn : GoodIn wsX8_areParted (va_wsS RX8 58 yX8_isIn wsX8_isIn) := goodIn_app (goodIn_of _ (by decide +kernel)) ggX8_areParted_X8_isIn
theorem dX8_areParted_0 : decode cX8_areParted 0 = .ok (.aload_n 0, 1) := by decide +kernel
theorem dX8_areParted_1 : decode cX8_areParted 1 = .ok (.invokevirtual 100, 3) := by decide +kernel
theorem dX8_areParted_4 : decode cX8_areParted 4 = .ok (.iload_n 1, 1) := by decide +kernel
theorem dX8_areParted_5 : decode cX8_areParted 5 = .ok (.iconst (-1), 1) := by decide +kernel
theorem dX8_areParted_6 : decode cX8_areParted 6 = .ok (.if_icmp .eq 18, 3) := by decide +kernel
theorem dX8_areParted_9 : decode cX8_areParted 9 = .ok (.aload_n 0, 1) := by decide +kernel
theorem dX8_areParted_10 : decode cX8_areParted 10 = .ok (.getfield 25, 3) := by decide +kernel
theorem dX8_areParted_13 : decode cX8_areParted 13 = .ok (.iload_n 1, 1) := by decide +kernel
theorem dX8_areParted_14 : decode cX8_areParted 14 = .ok (.iaload, 1) := by decide +kernel
theorem dX8_areParted_15 : decode cX8_areParted 15 = .ok (.aload_n 0, 1) := by decide +kernel
theorem dX8_areParted_16 : decode cX8_areParted 16 = .ok (.getfield 25, 3) := by decide +kernel
theorem dX8_areParted_19 : decode cX8_areParted 19 = .ok (.iload_n 2, 1) := by decide +kernel
theorem dX8_areParted_20 : decode cX8_areParted 20 = .ok (.iaload, 1) := by decide +kernel
theorem dX8_areParted_21 : decode cX8_areParted 21 = .ok (.if_icmp .ne 7, 3) := by decide +kernel
theorem dX8_areParted_24 : decode cX8_areParted 24 = .ok (.iconst 1, 1) := by decide +kernel
theorem dX8_areParted_25 : decode cX8_areParted 25 = .ok (.goto 4, 3) := by decide +kernel
theorem dX8_areParted_28 : decode cX8_areParted 28 = .ok (.iconst 0, 1) := by decide +kernel
theorem dX8_areParted_29 : decode cX8_areParted 29 = .ok (.istore_n 3, 1) := by decide +kernel
theorem dX8_areParted_30 : decode cX8_areParted 30 = .ok (.iconst 0, 1) := by decide +kernel
theorem dX8_areParted_31 : decode cX8_areParted 31 = .ok (.istore 4, 2) := by decide +kernel
theorem dX8_areParted_33 : decode cX8_areParted 33 = .ok (.iload 4, 2) := by decide +kernel
theorem dX8_areParted_35 : decode cX8_areParted 35 = .ok (.bipush 7, 2) := by decide +kernel
theorem dX8_areParted_37 : decode cX8_areParted 37 = .ok (.if_icmp .ge 76, 3) := by decide +kernel
theorem dX8_areParted_40 : decode cX8_areParted 40 = .ok (.aload_n 0, 1) := by decide +kernel
theorem dX8_areParted_41 : decode cX8_areParted 41 = .ok (.getfield 55, 3) := by decide +kernel
theorem dX8_areParted_44 : decode cX8_areParted 44 = .ok (.iload 4, 2) := by decide +kernel
theorem dX8_areParted_46 : decode cX8_areParted 46 = .ok (.invokestatic 58, 3) := by decide +kernel
theorem dX8_areParted_49 : decode cX8_areParted 49 = .ok (.ifCond .eq 58, 3) := by decide +kernel
theorem dX8_areParted_52 : decode cX8_areParted 52 = .ok (.iload_n 1, 1) := by decide +kernel
theorem dX8_areParted_53 : decode cX8_areParted 53 = .ok (.iconst (-1), 1) := by decide +kernel
theorem dX8_areParted_54 : decode cX8_areParted 54 = .ok (.if_icmp .eq 23, 3) := by decide +kernel
theorem dX8_areParted_57 : decode cX8_areParted 57 = .ok (.aload_n 0, 1) := by decide +kernel
theorem dX8_areParted_58 : decode cX8_areParted 58 = .ok (.getfield 25, 3) := by decide +kernel
theorem dX8_areParted_61 : decode cX8_areParted 61 = .ok (.iload 4, 2) := by decide +kernel
theorem dX8_areParted_63 : decode cX8_areParted 63 = .ok (.iaload, 1) := by decide +kernel
theorem dX8_areParted_64 : decode cX8_areParted 64 = .ok (.aload_n 0, 1) := by decide +kernel
theorem dX8_areParted_65 : decode cX8_areParted 65 = .ok (.getfield 25, 3) := by decide +kernel
theorem dX8_areParted_68 : decode cX8_areParted 68 = .ok (.iload_n 1, 1) := by decide +kernel
theorem dX8_areParted_69 : decode cX8_areParted 69 = .ok (.iaload, 1) := by decide +kernel
theorem dX8_areParted_70 : decode cX8_areParted 70 = .ok (.if_icmp .ne 7, 3) := by decide +kernel
theorem dX8_areParted_73 : decode cX8_areParted 73 = .ok (.iconst 2, 1) := by decide +kernel
theorem dX8_areParted_74 : decode cX8_areParted 74 = .ok (.goto 4, 3) := by decide +kernel
theorem dX8_areParted_77 : decode cX8_areParted 77 = .ok (.iconst 1, 1) := by decide +kernel
theorem dX8_areParted_78 : decode cX8_areParted 78 = .ok (.istore 5, 2) := by decide +kernel
theorem dX8_areParted_80 : decode cX8_areParted 80 = .ok (.iload_n 3, 1) := by decide +kernel
theorem dX8_areParted_81 : decode cX8_areParted 81 = .ok (.ifCond .eq 24, 3) := by decide +kernel
theorem dX8_areParted_84 : decode cX8_areParted 84 = .ok (.aload_n 0, 1) := by decide +kernel
theorem dX8_areParted_85 : decode cX8_areParted 85 = .ok (.getfield 28, 3) := by decide +kernel
theorem dX8_areParted_88 : decode cX8_areParted 88 = .ok (.aload_n 0, 1) := by decide +kernel
theorem dX8_areParted_89 : decode cX8_areParted 89 = .ok (.getfield 25, 3) := by decide +kernel
theorem dX8_areParted_92 : decode cX8_areParted 92 = .ok (.iload 4, 2) := by decide +kernel
theorem dX8_areParted_94 : decode cX8_areParted 94 = .ok (.iaload, 1) := by decide +kernel
theorem dX8_areParted_95 : decode cX8_areParted 95 = .ok (.iaload, 1) := by decide +kernel
theorem dX8_areParted_96 : decode cX8_areParted 96 = .ok (.iload 5, 2) := by decide +kernel
theorem dX8_areParted_98 : decode cX8_areParted 98 = .ok (.if_icmp .ne 7, 3) := by decide +kernel
theorem dX8_areParted_101 : decode cX8_areParted 101 = .ok (.iconst 1, 1) := by decide +kernel
theorem dX8_areParted_102 : decode cX8_areParted 102 = .ok (.goto 4, 3) := by decide +kernel
theorem dX8_areParted_105 : decode cX8_areParted 105 = .ok (.iconst 0, 1) := by decide +kernel
theorem dX8_areParted_106 : decode cX8_areParted 106 = .ok (.istore_n 3, 1) := by decide +kernel
theorem dX8_areParted_107 : decode cX8_areParted 107 = .ok (.iinc 4 1, 3) := by decide +kernel
theorem dX8_areParted_110 : decode cX8_areParted 110 = .ok (.goto (-77), 3) := by decide +kernel
theorem dX8_areParted_113 : decode cX8_areParted 113 = .ok (.iload_n 3, 1) := by decide +kernel
theorem dX8_areParted_114 : decode cX8_areParted 114 = .ok (.ireturn, 1) := by decide +kernel
set_option maxRecDepth 20000 in
theorem ggX8_isOf_X8_areParted : GoodIn wsX8_isOf wsX8_areParted := goodIn_r _ [6, 1, 7, 8, 9, 10, 11, 5, 12, 13, 14, 15, 16, 17, 18, 19, 20, 21, 22, 23, 24, 25, 26, 27, 28, 29, 30, 31, 32, 33, 34, 35, 36, 37] (by decide +kernel) (by decide +kernel)
set_option maxRecDepth 20000 in
theorem gX8_isOf_X8_areParted : GoodIn wsX8_isOf (wsV RX8 103 RX8 yX8_areParted wsX8_areParted) := goodIn_app (goodIn_of _ (by decide +kernel)) ggX8_isOf_X8_areParted
theorem dX8_isOf_0 : decode cX8_isOf 0 = .ok (.iload_n 2, 1) := by decide +kernel
theorem dX8_isOf_1 : decode cX8_isOf 1 = .ok (.tableswitch 119 0 4 #[35, 46, 53, 61, 92], 35) := by decide +kernel
theorem dX8_isOf_36 : decode cX8_isOf 36 = .ok (.iload_n 1, 1) := by decide +kernel
theorem dX8_isOf_37 : decode cX8_isOf 37 = .ok (.iconst 1, 1) := by decide +kernel
theorem dX8_isOf_38 : decode cX8_isOf 38 = .ok (.if_icmp .ne 7, 3) := by decide +kernel
theorem dX8_isOf_41 : decode cX8_isOf 41 = .ok (.iconst 1, 1) := by decide +kernel
theorem dX8_isOf_42 : decode cX8_isOf 42 = .ok (.goto 4, 3) := by decide +kernel
theorem dX8_isOf_45 : decode cX8_isOf 45 = .ok (.iconst 0, 1) := by decide +kernel
theorem dX8_isOf_46 : decode cX8_isOf 46 = .ok (.ireturn, 1) := by decide +kernel
theorem dX8_isOf_47 : decode cX8_isOf 47 = .ok (.aload_n 0, 1) := by decide +kernel
theorem dX8_isOf_48 : decode cX8_isOf 48 = .ok (.iconst (-1), 1) := by decide +kernel
theorem dX8_isOf_49 : decode cX8_isOf 49 = .ok (.iconst (-1), 1) := by decide +kernel
theorem dX8_isOf_50 : decode cX8_isOf 50 = .ok (.invokevirtual 103, 3) := by decide +kernel
theorem dX8_isOf_53 : decode cX8_isOf 53 = .ok (.ireturn, 1) := by decide +kernel
theorem dX8_isOf_54 : decode cX8_isOf 54 = .ok (.aload_n 0, 1) := by decide +kernel
theorem dX8_isOf_55 : decode cX8_isOf 55 = .ok (.iload_n 3, 1) := by decide +kernel
theorem dX8_isOf_56 : decode cX8_isOf 56 = .ok (.iload 4, 2) := by decide +kernel
theorem dX8_isOf_58 : decode cX8_isOf 58 = .ok (.invokevirtual 103, 3) := by decide +kernel
theorem dX8_isOf_61 : decode cX8_isOf 61 = .ok (.ireturn, 1) := by decide +kernel
theorem dX8_isOf_62 : decode cX8_isOf 62 = .ok (.aload_n 0, 1) := by decide +kernel
theorem dX8_isOf_63 : decode cX8_isOf 63 = .ok (.iconst (-1), 1) := by decide +kernel
theorem dX8_isOf_64 : decode cX8_isOf 64 = .ok (.iconst (-1), 1) := by decide +kernel
theorem dX8_isOf_65 : decode cX8_isOf 65 = .ok (.invokevirtual 103, 3) := by decide +kernel
theorem dX8_isOf_68 : decode cX8_isOf 68 = .ok (.ifCond .eq 23, 3) := by decide +kernel
theorem dX8_isOf_71 : decode cX8_isOf 71 = .ok (.aload_n 0, 1) := by decide +kernel
theorem dX8_isOf_72 : decode cX8_isOf 72 = .ok (.getfield 25, 3) := by decide +kernel
theorem dX8_isOf_75 : decode cX8_isOf 75 = .ok (.iload_n 3, 1) := by decide +kernel
theorem dX8_isOf_76 : decode cX8_isOf 76 = .ok (.iaload, 1) := by decide +kernel
theorem dX8_isOf_77 : decode cX8_isOf 77 = .ok (.aload_n 0, 1) := by decide +kernel
theorem dX8_isOf_78 : decode cX8_isOf 78 = .ok (.getfield 25, 3) := by decide +kernel
theorem dX8_isOf_81 : decode cX8_isOf 81 = .ok (.iload 4, 2) := by decide +kernel
theorem dX8_isOf_83 : decode cX8_isOf 83 = .ok (.iaload, 1) := by decide +kernel
theorem dX8_isOf_84 : decode cX8_isOf 84 = .ok (.if_icmp .ne 7, 3) := by decide +kernel
theorem dX8_isOf_87 : decode cX8_isOf 87 = .ok (.iconst 1, 1) := by decide +kernel
theorem dX8_isOf_88 : decode cX8_isOf 88 = .ok (.goto 4, 3) := by decide +kernel
theorem dX8_isOf_91 : decode cX8_isOf 91 = .ok (.iconst 0, 1) := by decide +kernel
theorem dX8_isOf_92 : decode cX8_isOf 92 = .ok (.ireturn, 1) := by decide +kernel
theorem dX8_isOf_93 : decode cX8_isOf 93 = .ok (.iload_n 1, 1) := by decide +kernel
theorem dX8_isOf_94 : decode cX8_isOf 94 = .ok (.iconst 2, 1) := by decide +kernel
theorem dX8_isOf_95 : decode cX8_isOf 95 = .ok (.if_icmp .ne 23, 3) := by decide +kernel
theorem dX8_isOf_98 : decode cX8_isOf 98 = .ok (.aload_n 0, 1) := by decide +kernel
theorem dX8_isOf_99 : decode cX8_isOf 99 = .ok (.getfield 25, 3) := by decide +kernel
theorem dX8_isOf_102 : decode cX8_isOf 102 = .ok (.iload_n 3, 1) := by decide +kernel
theorem dX8_isOf_103 : decode cX8_isOf 103 = .ok (.iaload, 1) := by decide +kernel
theorem dX8_isOf_104 : decode cX8_isOf 104 = .ok (.aload_n 0, 1) := by decide +kernel
theorem dX8_isOf_105 : decode cX8_isOf 105 = .ok (.getfield 25, 3) := by decide +kernel
theorem dX8_isOf_108 : decode cX8_isOf 108 = .ok (.iload 4, 2) := by decide +kernel
theorem dX8_isOf_110 : decode cX8_isOf 110 = .ok (.iaload, 1) := by decide +kernel
theorem dX8_isOf_111 : decode cX8_isOf 111 = .ok (.if_icmp .eq 7, 3) := by decide +kernel
theorem dX8_isOf_114 : decode cX8_isOf 114 = .ok (.iconst 1, 1) := by decide +kernel
theorem dX8_isOf_115 : decode cX8_isOf 115 = .ok (.goto 4, 3) := by decide +kernel
theorem dX8_isOf_118 : decode cX8_isOf 118 = .ok (.iconst 0, 1) := by decide +kernel
theorem dX8_isOf_119 : decode cX8_isOf 119 = .ok (.ireturn, 1) := by decide +kernel
theorem dX8_isOf_120 : decode cX8_isOf 120 = .ok (.iload_n 1, 1) := by decide +kernel
theorem dX8_isOf_121 : decode cX8_isOf 121 = .ok (.iconst 2, 1) := by decide +kernel
theorem dX8_isOf_122 : decode cX8_isOf 122 = .ok (.if_icmp .ne 39, 3) := by decide +kernel
theorem dX8_isOf_125 : decode cX8_isOf 125 = .ok (.aload_n 0, 1) := by decide +kernel
theorem dX8_isOf_126 : decode cX8_isOf 126 = .ok (.getfield 25, 3) := by decide +kernel
theorem dX8_isOf_129 : decode cX8_isOf 129 = .ok (.iload_n 3, 1) := by decide +kernel
theorem dX8_isOf_130 : decode cX8_isOf 130 = .ok (.iaload, 1) := by decide +kernel
theorem dX8_isOf_131 : decode cX8_isOf 131 = .ok (.aload_n 0, 1) := by decide +kernel
theorem dX8_isOf_132 : decode cX8_isOf 132 = .ok (.getfield 25, 3) := by decide +kernel
theorem dX8_isOf_135 : decode cX8_isOf 135 = .ok (.iload 4, 2) := by decide +kernel
theorem dX8_isOf_137 : decode cX8_isOf 137 = .ok (.iaload, 1) := by decide +kernel
theorem dX8_isOf_138 : decode cX8_isOf 138 = .ok (.if_icmp .eq 23, 3) := by decide +kernel
theorem dX8_isOf_141 : decode cX8_isOf 141 = .ok (.aload_n 0, 1) := by decide +kernel
theorem dX8_isOf_142 : decode cX8_isOf 142 = .ok (.getfield 25, 3) := by decide +kernel
theorem dX8_isOf_145 : decode cX8_isOf 145 = .ok (.iload 5, 2) := by decide +kernel
theorem dX8_isOf_147 : decode cX8_isOf 147 = .ok (.iaload, 1) := by decide +kernel
theorem dX8_isOf_148 : decode cX8_isOf 148 = .ok (.aload_n 0, 1) := by decide +kernel
theorem dX8_isOf_149 : decode cX8_isOf 149 = .ok (.getfield 25, 3) := by decide +kernel
theorem dX8_isOf_152 : decode cX8_isOf 152 = .ok (.iload_n 3, 1) := by decide +kernel
theorem dX8_isOf_153 : decode cX8_isOf 153 = .ok (.iaload, 1) := by decide +kernel
theorem dX8_isOf_154 : decode cX8_isOf 154 = .ok (.if_icmp .ne 7, 3) := by decide +kernel
theorem dX8_isOf_157 : decode cX8_isOf 157 = .ok (.iconst 1, 1) := by decide +kernel
theorem dX8_isOf_158 : decode cX8_isOf 158 = .ok (.goto 4, 3) := by decide +kernel
theorem dX8_isOf_161 : decode cX8_isOf 161 = .ok (.iconst 0, 1) := by decide +kernel
theorem dX8_isOf_162 : decode cX8_isOf 162 = .ok (.ireturn, 1) := by decide +kernel
theorem dX8_setBehind_0 : decode cX8_setBehind 0 = .ok (.iload_n 1, 1) := by decide +kernel
theorem dX8_setBehind_1 : decode cX8_setBehind 1 = .ok (.aload_n 0, 1) := by decide +kernel
theorem dX8_setBehind_2 : decode cX8_setBehind 2 = .ok (.getfield 69, 3) := by decide +kernel
theorem dX8_setBehind_5 : decode cX8_setBehind 5 = .ok (.isub, 1) := by decide +kernel
theorem dX8_setBehind_6 : decode cX8_setBehind 6 = .ok (.aload_n 0, 1) := by decide +kernel
theorem dX8_setBehind_7 : decode cX8_setBehind 7 = .ok (.getfield 69, 3) := by decide +kernel
theorem dX8_setBehind_10 : decode cX8_setBehind 10 = .ok (.iand, 1) := by decide +kernel
theorem dX8_setBehind_11 : decode cX8_setBehind 11 = .ok (.ireturn, 1) := by decide +kernel
set_option maxRecDepth 20000 in
theorem ggX8_counts_X8_weightOf : GoodIn wsX8_counts wsX8_weightOf := goodIn_r _ [6, 7, 8, 9, 10, 11, 12, 13, 5, 14, 15, 16, 17, 18, 41, 42, 43, 44, 45, 46, 47, 48, 49, 50, 51, 52, 53, 54, 55, 56, 57, 58, 59, 60, 61] (by decide +kernel) (by decide +kernel)
set_option maxRecDepth 20000 in
theorem gX8_counts_X8_weightOf : GoodIn wsX8_counts (wsV RX8 106 RX8 yX8_weightOf wsX8_weightOf) := goodIn_app (goodIn_of _ (by decide +kernel)) ggX8_counts_X8_weightOf
set_option maxRecDepth 20000 in
theorem ggX8_counts_X8_many : GoodIn wsX8_counts wsX8_many := goodIn_r _ [21] (by decide +kernel) (by decide +kernel)
set_option maxRecDepth 20000 in
theorem gX8_counts_X8_many : GoodIn wsX8_counts (va_wsS RX8 85 yX8_many wsX8_many) := goodIn_app (goodIn_of _ (by decide +kernel)) ggX8_counts_X8_many
set_option maxRecDepth 20000 in
theorem ggX8_counts_X8_isOf : GoodIn wsX8_counts wsX8_isOf := goodIn_r _ [25, 7, 26, 27, 28, 5, 29, 1, 30, 31, 32, 33, 34, 35, 12, 13, 14, 41, 42, 43, 44, 45, 46, 47, 48, 49, 50, 51, 52, 53, 54, 55, 56, 57, 58, 59, 60, 61] (by decide +kernel) (by decide +kernel)
set_option maxRecDepth 20000 in
theorem gX8_counts_X8_isOf : GoodIn wsX8_counts (wsV RX8 110 RX8 yX8_isOf wsX8_isOf) := goodIn_app (goodIn_of _ (by decide +kernel)) ggX8_counts_X8_isOf
set_option maxRecDepth 20000 in
theorem ggX8_counts_X8_setBehind : GoodIn wsX8_counts wsX8_setBehind := goodIn_r _ [39, 40, 41, 42, 43, 44, 45, 46, 47, 48, 49, 50, 51, 52, 53, 54, 55, 56, 57, 58, 59, 60, 61] (by decide +kernel) (by decide +kernel)
set_option maxRecDepth 20000 in
theorem gX8_counts_X8_setBehind : GoodIn wsX8_counts (wsV RX8 114 RX8 yX8_setBehind wsX8_setBehind) := goodIn_app (goodIn_of _ (by decide +kernel)) ggX8_counts_X8_setBehind
theorem dX8_counts_0 : decode cX8_counts 0 = .ok (.lconst 0, 1) := by decide +kernel
theorem dX8_counts_1 : decode cX8_counts 1 = .ok (.lstore 5, 2) := by decide +kernel
theorem dX8_counts_3 : decode cX8_counts 3 = .ok (.iconst 0, 1) := by decide +kernel
theorem dX8_counts_4 : decode cX8_counts 4 = .ok (.istore 7, 2) := by decide +kernel
theorem dX8_counts_6 : decode cX8_counts 6 = .ok (.iconst 1, 1) := by decide +kernel
theorem dX8_counts_7 : decode cX8_counts 7 = .ok (.istore 8, 2) := by decide +kernel
theorem dX8_counts_9 : decode cX8_counts 9 = .ok (.iload 8, 2) := by decide +kernel
theorem dX8_counts_11 : decode cX8_counts 11 = .ok (.ifCond .eq 73, 3) := by decide +kernel
theorem dX8_counts_14 : decode cX8_counts 14 = .ok (.aload_n 0, 1) := by decide +kernel
theorem dX8_counts_15 : decode cX8_counts 15 = .ok (.iload 7, 2) := by decide +kernel
theorem dX8_counts_17 : decode cX8_counts 17 = .ok (.invokevirtual 106, 3) := by decide +kernel
theorem dX8_counts_20 : decode cX8_counts 20 = .ok (.lstore 9, 2) := by decide +kernel
theorem dX8_counts_22 : decode cX8_counts 22 = .ok (.lload 9, 2) := by decide +kernel
theorem dX8_counts_24 : decode cX8_counts 24 = .ok (.lconst 0, 1) := by decide +kernel
theorem dX8_counts_25 : decode cX8_counts 25 = .ok (.lcmp, 1) := by decide +kernel
theorem dX8_counts_26 : decode cX8_counts 26 = .ok (.ifCond .le 35, 3) := by decide +kernel
theorem dX8_counts_29 : decode cX8_counts 29 = .ok (.aload_n 0, 1) := by decide +kernel
theorem dX8_counts_30 : decode cX8_counts 30 = .ok (.aload_n 0, 1) := by decide +kernel
theorem dX8_counts_31 : decode cX8_counts 31 = .ok (.getfield 55, 3) := by decide +kernel
theorem dX8_counts_34 : decode cX8_counts 34 = .ok (.invokestatic 85, 3) := by decide +kernel
theorem dX8_counts_37 : decode cX8_counts 37 = .ok (.iload 7, 2) := by decide +kernel
theorem dX8_counts_39 : decode cX8_counts 39 = .ok (.invokestatic 85, 3) := by decide +kernel
theorem dX8_counts_42 : decode cX8_counts 42 = .ok (.isub, 1) := by decide +kernel
theorem dX8_counts_43 : decode cX8_counts 43 = .ok (.iload_n 1, 1) := by decide +kernel
theorem dX8_counts_44 : decode cX8_counts 44 = .ok (.iload_n 2, 1) := by decide +kernel
theorem dX8_counts_45 : decode cX8_counts 45 = .ok (.iload_n 3, 1) := by decide +kernel
theorem dX8_counts_46 : decode cX8_counts 46 = .ok (.iload 4, 2) := by decide +kernel
theorem dX8_counts_48 : decode cX8_counts 48 = .ok (.invokevirtual 110, 3) := by decide +kernel
theorem dX8_counts_51 : decode cX8_counts 51 = .ok (.ifCond .eq 10, 3) := by decide +kernel
theorem dX8_counts_54 : decode cX8_counts 54 = .ok (.lload 5, 2) := by decide +kernel
theorem dX8_counts_56 : decode cX8_counts 56 = .ok (.lload 9, 2) := by decide +kernel
theorem dX8_counts_58 : decode cX8_counts 58 = .ok (.ladd, 1) := by decide +kernel
theorem dX8_counts_59 : decode cX8_counts 59 = .ok (.lstore 5, 2) := by decide +kernel
theorem dX8_counts_61 : decode cX8_counts 61 = .ok (.aload_n 0, 1) := by decide +kernel
theorem dX8_counts_62 : decode cX8_counts 62 = .ok (.iload 7, 2) := by decide +kernel
theorem dX8_counts_64 : decode cX8_counts 64 = .ok (.invokevirtual 114, 3) := by decide +kernel
theorem dX8_counts_67 : decode cX8_counts 67 = .ok (.istore 7, 2) := by decide +kernel
theorem dX8_counts_69 : decode cX8_counts 69 = .ok (.iload 7, 2) := by decide +kernel
theorem dX8_counts_71 : decode cX8_counts 71 = .ok (.ifCond .eq 7, 3) := by decide +kernel
theorem dX8_counts_74 : decode cX8_counts 74 = .ok (.iconst 1, 1) := by decide +kernel
theorem dX8_counts_75 : decode cX8_counts 75 = .ok (.goto 4, 3) := by decide +kernel
theorem dX8_counts_78 : decode cX8_counts 78 = .ok (.iconst 0, 1) := by decide +kernel
theorem dX8_counts_79 : decode cX8_counts 79 = .ok (.istore 8, 2) := by decide +kernel
theorem dX8_counts_81 : decode cX8_counts 81 = .ok (.goto (-72), 3) := by decide +kernel
theorem dX8_counts_84 : decode cX8_counts 84 = .ok (.lload 5, 2) := by decide +kernel
theorem dX8_counts_86 : decode cX8_counts 86 = .ok (.lreturn, 1) := by decide +kernel
set_option maxRecDepth 20000 in
theorem ggX8_trees_X8_counts : GoodIn wsX8_trees wsX8_counts := goodIn_r _ [6, 7, 8, 9, 10, 5, 11, 12, 13, 14, 15, 16, 17, 18, 19, 20, 21, 22, 23, 24, 25, 26, 27, 28, 29, 30, 31, 32, 33, 34, 35, 36, 37, 38, 39, 40, 41, 42, 43, 44, 45, 46, 47, 48, 49, 50, 51, 52, 53, 54, 55, 56, 57, 58, 59, 60, 61, 62, 63, 64, 65, 66] (by decide +kernel) (by decide +kernel)
set_option maxRecDepth 20000 in
theorem gX8_trees_X8_counts : GoodIn wsX8_trees (wsV RX8 117 RX8 yX8_counts wsX8_counts) := goodIn_app (goodIn_of _ (by decide +kernel)) ggX8_trees_X8_counts
theorem dX8_trees_0 : decode cX8_trees 0 = .ok (.aload_n 0, 1) := by decide +kernel
theorem dX8_trees_1 : decode cX8_trees 1 = .ok (.iconst 0, 1) := by decide +kernel
theorem dX8_trees_2 : decode cX8_trees 2 = .ok (.putfield 47, 3) := by decide +kernel
theorem dX8_trees_5 : decode cX8_trees 5 = .ok (.aload_n 0, 1) := by decide +kernel
theorem dX8_trees_6 : decode cX8_trees 6 = .ok (.iconst 0, 1) := by decide +kernel
theorem dX8_trees_7 : decode cX8_trees 7 = .ok (.iconst 0, 1) := by decide +kernel
theorem dX8_trees_8 : decode cX8_trees 8 = .ok (.iconst 0, 1) := by decide +kernel
theorem dX8_trees_9 : decode cX8_trees 9 = .ok (.iconst 0, 1) := by decide +kernel
theorem dX8_trees_10 : decode cX8_trees 10 = .ok (.invokevirtual 117, 3) := by decide +kernel
theorem dX8_trees_13 : decode cX8_trees 13 = .ok (.lreturn, 1) := by decide +kernel
set_option maxRecDepth 20000 in
theorem ggX8_treesAnew_X8_trees : GoodIn wsX8_treesAnew wsX8_trees := goodIn_r _ [5, 6, 7, 8, 9, 4, 10, 11, 12, 13, 14, 15, 16, 17, 18, 19, 20, 21, 22, 23, 24, 25, 26, 27, 28, 29, 30, 31, 32, 33, 34, 35, 36, 37, 38, 39, 40, 41, 42, 43, 44, 45, 46, 47, 48, 49, 50, 51, 52, 53, 54, 55, 56, 57, 58, 59, 60, 61, 62, 63, 64, 65, 66, 67, 68, 69, 70] (by decide +kernel) (by decide +kernel)
set_option maxRecDepth 20000 in
theorem gX8_treesAnew_X8_trees : GoodIn wsX8_treesAnew (wsV RX8 121 RX8 yX8_trees wsX8_trees) := goodIn_app (goodIn_of _ (by decide +kernel)) ggX8_treesAnew_X8_trees
theorem dX8_treesAnew_0 : decode cX8_treesAnew 0 = .ok (.aload_n 0, 1) := by decide +kernel
theorem dX8_treesAnew_1 : decode cX8_treesAnew 1 = .ok (.invokevirtual 121, 3) := by decide +kernel
theorem dX8_treesAnew_4 : decode cX8_treesAnew 4 = .ok (.lreturn, 1) := by decide +kernel
set_option maxRecDepth 20000 in
theorem ggX8_tree_X8_weightOf : GoodIn wsX8_tree wsX8_weightOf := goodIn_r _ [7, 8, 9, 10, 11, 12, 13, 14, 6, 15, 16, 17, 18, 19, 28, 29, 30, 31, 32, 33, 34, 35, 36, 37, 38, 39, 40, 41, 42, 43, 44, 45, 46, 47, 48] (by decide +kernel) (by decide +kernel)
set_option maxRecDepth 20000 in
theorem gX8_tree_X8_weightOf : GoodIn wsX8_tree (wsV RX8 106 RX8 yX8_weightOf wsX8_weightOf) := goodIn_app (goodIn_of _ (by decide +kernel)) ggX8_tree_X8_weightOf
set_option maxRecDepth 20000 in
theorem ggX8_tree_X8_many : GoodIn wsX8_tree wsX8_many := goodIn_r _ [22] (by decide +kernel) (by decide +kernel)
set_option maxRecDepth 20000 in
theorem gX8_tree_X8_many : GoodIn wsX8_tree (va_wsS RX8 85 yX8_many wsX8_many) := goodIn_app (goodIn_of _ (by decide +kernel)) ggX8_tree_X8_many
set_option maxRecDepth 20000 in
theorem ggX8_tree_X8_setBehind : GoodIn wsX8_tree wsX8_setBehind := goodIn_r _ [26, 27, 28, 29, 30, 31, 32, 33, 34, 35, 36, 37, 38, 39, 40, 41, 42, 43, 44, 45, 46, 47, 48] (by decide +kernel) (by decide +kernel)
set_option maxRecDepth 20000 in
theorem gX8_tree_X8_setBehind : GoodIn wsX8_tree (wsV RX8 114 RX8 yX8_setBehind wsX8_setBehind) := goodIn_app (goodIn_of _ (by decide +kernel)) ggX8_tree_X8_setBehind
theorem dX8_tree_0 : decode cX8_tree 0 = .ok (.aload_n 0, 1) := by decide +kernel
theorem dX8_tree_1 : decode cX8_tree 1 = .ok (.iload_n 1, 1) := by decide +kernel
theorem dX8_tree_2 : decode cX8_tree 2 = .ok (.ifCond .lt 7, 3) := by decide +kernel
theorem dX8_tree_5 : decode cX8_tree 5 = .ok (.iconst 0, 1) := by decide +kernel
theorem dX8_tree_6 : decode cX8_tree 6 = .ok (.goto 4, 3) := by decide +kernel
theorem dX8_tree_9 : decode cX8_tree 9 = .ok (.iconst 1, 1) := by decide +kernel
theorem dX8_tree_10 : decode cX8_tree 10 = .ok (.putfield 47, 3) := by decide +kernel
theorem dX8_tree_13 : decode cX8_tree 13 = .ok (.aload_n 0, 1) := by decide +kernel
theorem dX8_tree_14 : decode cX8_tree 14 = .ok (.getfield 47, 3) := by decide +kernel
theorem dX8_tree_17 : decode cX8_tree 17 = .ok (.ifCond .le 5, 3) := by decide +kernel
theorem dX8_tree_20 : decode cX8_tree 20 = .ok (.iconst 0, 1) := by decide +kernel
theorem dX8_tree_21 : decode cX8_tree 21 = .ok (.ireturn, 1) := by decide +kernel
theorem dX8_tree_22 : decode cX8_tree 22 = .ok (.iconst 0, 1) := by decide +kernel
theorem dX8_tree_23 : decode cX8_tree 23 = .ok (.istore_n 2, 1) := by decide +kernel
theorem dX8_tree_24 : decode cX8_tree 24 = .ok (.iconst 0, 1) := by decide +kernel
theorem dX8_tree_25 : decode cX8_tree 25 = .ok (.istore_n 3, 1) := by decide +kernel
theorem dX8_tree_26 : decode cX8_tree 26 = .ok (.iconst 1, 1) := by decide +kernel
theorem dX8_tree_27 : decode cX8_tree 27 = .ok (.istore 4, 2) := by decide +kernel
theorem dX8_tree_29 : decode cX8_tree 29 = .ok (.iload 4, 2) := by decide +kernel
theorem dX8_tree_31 : decode cX8_tree 31 = .ok (.ifCond .eq 59, 3) := by decide +kernel
theorem dX8_tree_34 : decode cX8_tree 34 = .ok (.aload_n 0, 1) := by decide +kernel
theorem dX8_tree_35 : decode cX8_tree 35 = .ok (.iload_n 3, 1) := by decide +kernel
theorem dX8_tree_36 : decode cX8_tree 36 = .ok (.invokevirtual 106, 3) := by decide +kernel
theorem dX8_tree_39 : decode cX8_tree 39 = .ok (.lconst 0, 1) := by decide +kernel
theorem dX8_tree_40 : decode cX8_tree 40 = .ok (.lcmp, 1) := by decide +kernel
theorem dX8_tree_41 : decode cX8_tree 41 = .ok (.ifCond .le 29, 3) := by decide +kernel
theorem dX8_tree_44 : decode cX8_tree 44 = .ok (.aload_n 0, 1) := by decide +kernel
theorem dX8_tree_45 : decode cX8_tree 45 = .ok (.getfield 55, 3) := by decide +kernel
theorem dX8_tree_48 : decode cX8_tree 48 = .ok (.invokestatic 85, 3) := by decide +kernel
theorem dX8_tree_51 : decode cX8_tree 51 = .ok (.iload_n 3, 1) := by decide +kernel
theorem dX8_tree_52 : decode cX8_tree 52 = .ok (.invokestatic 85, 3) := by decide +kernel
theorem dX8_tree_55 : decode cX8_tree 55 = .ok (.isub, 1) := by decide +kernel
theorem dX8_tree_56 : decode cX8_tree 56 = .ok (.iconst 1, 1) := by decide +kernel
theorem dX8_tree_57 : decode cX8_tree 57 = .ok (.if_icmp .ne 13, 3) := by decide +kernel
theorem dX8_tree_60 : decode cX8_tree 60 = .ok (.iload_n 2, 1) := by decide +kernel
theorem dX8_tree_61 : decode cX8_tree 61 = .ok (.iload_n 1, 1) := by decide +kernel
theorem dX8_tree_62 : decode cX8_tree 62 = .ok (.if_icmp .ne 5, 3) := by decide +kernel
theorem dX8_tree_65 : decode cX8_tree 65 = .ok (.iload_n 3, 1) := by decide +kernel
theorem dX8_tree_66 : decode cX8_tree 66 = .ok (.ireturn, 1) := by decide +kernel
theorem dX8_tree_67 : decode cX8_tree 67 = .ok (.iinc 2 1, 3) := by decide +kernel
theorem dX8_tree_70 : decode cX8_tree 70 = .ok (.aload_n 0, 1) := by decide +kernel
theorem dX8_tree_71 : decode cX8_tree 71 = .ok (.iload_n 3, 1) := by decide +kernel
theorem dX8_tree_72 : decode cX8_tree 72 = .ok (.invokevirtual 114, 3) := by decide +kernel
theorem dX8_tree_75 : decode cX8_tree 75 = .ok (.istore_n 3, 1) := by decide +kernel
theorem dX8_tree_76 : decode cX8_tree 76 = .ok (.iload_n 3, 1) := by decide +kernel
theorem dX8_tree_77 : decode cX8_tree 77 = .ok (.ifCond .eq 7, 3) := by decide +kernel
theorem dX8_tree_80 : decode cX8_tree 80 = .ok (.iconst 1, 1) := by decide +kernel
theorem dX8_tree_81 : decode cX8_tree 81 = .ok (.goto 4, 3) := by decide +kernel
theorem dX8_tree_84 : decode cX8_tree 84 = .ok (.iconst 0, 1) := by decide +kernel
theorem dX8_tree_85 : decode cX8_tree 85 = .ok (.istore 4, 2) := by decide +kernel
theorem dX8_tree_87 : decode cX8_tree 87 = .ok (.goto (-58), 3) := by decide +kernel
theorem dX8_tree_90 : decode cX8_tree 90 = .ok (.iconst (-1), 1) := by decide +kernel
theorem dX8_tree_91 : decode cX8_tree 91 = .ok (.ireturn, 1) := by decide +kernel
set_option maxRecDepth 20000 in
theorem ggX8_rest_X8_counts : GoodIn wsX8_rest wsX8_counts := goodIn_r _ [6, 7, 8, 9, 10, 5, 11, 12, 13, 14, 15, 16, 17, 18, 19, 20, 21, 22, 23, 24, 25, 26, 27, 28, 29, 30, 31, 32, 33, 34, 35, 36, 37, 38, 39, 40, 41, 42, 43, 44, 45, 46, 47, 48, 49, 50, 51, 52, 53, 54, 55, 56, 57, 58, 59, 60, 61, 62, 63, 64, 65, 66] (by decide +kernel) (by decide +kernel)
set_option maxRecDepth 20000 in
theorem gX8_rest_X8_counts : GoodIn wsX8_rest (wsV RX8 117 RX8 yX8_counts wsX8_counts) := goodIn_app (goodIn_of _ (by decide +kernel)) ggX8_rest_X8_counts
theorem dX8_rest_0 : decode cX8_rest 0 = .ok (.aload_n 0, 1) := by decide +kernel
theorem dX8_rest_1 : decode cX8_rest 1 = .ok (.iconst 0, 1) := by decide +kernel
theorem dX8_rest_2 : decode cX8_rest 2 = .ok (.putfield 47, 3) := by decide +kernel
theorem dX8_rest_5 : decode cX8_rest 5 = .ok (.aload_n 0, 1) := by decide +kernel
theorem dX8_rest_6 : decode cX8_rest 6 = .ok (.iconst 1, 1) := by decide +kernel
theorem dX8_rest_7 : decode cX8_rest 7 = .ok (.iconst 0, 1) := by decide +kernel
theorem dX8_rest_8 : decode cX8_rest 8 = .ok (.iconst 0, 1) := by decide +kernel
theorem dX8_rest_9 : decode cX8_rest 9 = .ok (.iconst 0, 1) := by decide +kernel
theorem dX8_rest_10 : decode cX8_rest 10 = .ok (.invokevirtual 117, 3) := by decide +kernel
theorem dX8_rest_13 : decode cX8_rest 13 = .ok (.lreturn, 1) := by decide +kernel
theorem dX8_common_0 : decode cX8_common 0 = .ok (.lload_n 0, 1) := by decide +kernel
theorem dX8_common_1 : decode cX8_common 1 = .ok (.lconst 0, 1) := by decide +kernel
theorem dX8_common_2 : decode cX8_common 2 = .ok (.lcmp, 1) := by decide +kernel
theorem dX8_common_3 : decode cX8_common 3 = .ok (.ifCond .ge 8, 3) := by decide +kernel
theorem dX8_common_6 : decode cX8_common 6 = .ok (.lload_n 0, 1) := by decide +kernel
theorem dX8_common_7 : decode cX8_common 7 = .ok (.lneg, 1) := by decide +kernel
theorem dX8_common_8 : decode cX8_common 8 = .ok (.goto 4, 3) := by decide +kernel
theorem dX8_common_11 : decode cX8_common 11 = .ok (.lload_n 0, 1) := by decide +kernel
theorem dX8_common_12 : decode cX8_common 12 = .ok (.lstore 4, 2) := by decide +kernel
theorem dX8_common_14 : decode cX8_common 14 = .ok (.lload_n 2, 1) := by decide +kernel
theorem dX8_common_15 : decode cX8_common 15 = .ok (.lstore 6, 2) := by decide +kernel
theorem dX8_common_17 : decode cX8_common 17 = .ok (.lload 6, 2) := by decide +kernel
theorem dX8_common_19 : decode cX8_common 19 = .ok (.lconst 0, 1) := by decide +kernel
theorem dX8_common_20 : decode cX8_common 20 = .ok (.lcmp, 1) := by decide +kernel
theorem dX8_common_21 : decode cX8_common 21 = .ok (.ifCond .le 21, 3) := by decide +kernel
theorem dX8_common_24 : decode cX8_common 24 = .ok (.lload 4, 2) := by decide +kernel
theorem dX8_common_26 : decode cX8_common 26 = .ok (.lload 6, 2) := by decide +kernel
theorem dX8_common_28 : decode cX8_common 28 = .ok (.lrem, 1) := by decide +kernel
theorem dX8_common_29 : decode cX8_common 29 = .ok (.lstore 8, 2) := by decide +kernel
theorem dX8_common_31 : decode cX8_common 31 = .ok (.lload 6, 2) := by decide +kernel
theorem dX8_common_33 : decode cX8_common 33 = .ok (.lstore 4, 2) := by decide +kernel
theorem dX8_common_35 : decode cX8_common 35 = .ok (.lload 8, 2) := by decide +kernel
theorem dX8_common_37 : decode cX8_common 37 = .ok (.lstore 6, 2) := by decide +kernel
theorem dX8_common_39 : decode cX8_common 39 = .ok (.goto (-22), 3) := by decide +kernel
theorem dX8_common_42 : decode cX8_common 42 = .ok (.lload 4, 2) := by decide +kernel
theorem dX8_common_44 : decode cX8_common 44 = .ok (.lreturn, 1) := by decide +kernel
set_option maxRecDepth 20000 in
theorem ggX8_part_X8_common : GoodIn wsX8_part wsX8_common := goodIn_r _ [4] (by decide +kernel) (by decide +kernel)
set_option maxRecDepth 20000 in
theorem gX8_part_X8_common : GoodIn wsX8_part (va_wsS RX8 125 yX8_common wsX8_common) := goodIn_app (goodIn_of _ (by decide +kernel)) ggX8_part_X8_common
theorem dX8_part_0 : decode cX8_part 0 = .ok (.lload_n 2, 1) := by decide +kernel
theorem dX8_part_1 : decode cX8_part 1 = .ok (.lconst 0, 1) := by decide +kernel
theorem dX8_part_2 : decode cX8_part 2 = .ok (.lcmp, 1) := by decide +kernel
theorem dX8_part_3 : decode cX8_part 3 = .ok (.ifCond .ne 5, 3) := by decide +kernel
theorem dX8_part_6 : decode cX8_part 6 = .ok (.lconst 0, 1) := by decide +kernel
theorem dX8_part_7 : decode cX8_part 7 = .ok (.lreturn, 1) := by decide +kernel
theorem dX8_part_8 : decode cX8_part 8 = .ok (.lload_n 0, 1) := by decide +kernel
theorem dX8_part_9 : decode cX8_part 9 = .ok (.lload_n 2, 1) := by decide +kernel
theorem dX8_part_10 : decode cX8_part 10 = .ok (.invokestatic 125, 3) := by decide +kernel
theorem dX8_part_13 : decode cX8_part 13 = .ok (.lstore 5, 2) := by decide +kernel
theorem dX8_part_15 : decode cX8_part 15 = .ok (.iload 4, 2) := by decide +kernel
theorem dX8_part_17 : decode cX8_part 17 = .ok (.ifCond .eq 7, 3) := by decide +kernel
theorem dX8_part_20 : decode cX8_part 20 = .ok (.lload_n 2, 1) := by decide +kernel
theorem dX8_part_21 : decode cX8_part 21 = .ok (.goto 4, 3) := by decide +kernel
theorem dX8_part_24 : decode cX8_part 24 = .ok (.lload_n 0, 1) := by decide +kernel
theorem dX8_part_25 : decode cX8_part 25 = .ok (.lload 5, 2) := by decide +kernel
theorem dX8_part_27 : decode cX8_part 27 = .ok (.ldiv, 1) := by decide +kernel
theorem dX8_part_28 : decode cX8_part 28 = .ok (.lreturn, 1) := by decide +kernel
set_option maxRecDepth 20000 in
theorem ggX8_answer_X8_isEdge : GoodIn wsX8_answer wsX8_isEdge := goodIn_r _ [6, 7, 8, 9, 10, 5, 11, 12, 13, 14, 15, 16, 17, 18, 63, 64, 65, 66, 67, 68, 69, 70, 71, 72, 73, 74, 75, 76, 77, 78, 79, 80, 81, 82, 83] (by decide +kernel) (by decide +kernel)
set_option maxRecDepth 20000 in
theorem gX8_answer_X8_isEdge : GoodIn wsX8_answer (wsV RX8 129 RX8 yX8_isEdge wsX8_isEdge) := goodIn_app (goodIn_of _ (by decide +kernel)) ggX8_answer_X8_isEdge
set_option maxRecDepth 20000 in
theorem ggX8_answer_X8_counts : GoodIn wsX8_answer wsX8_counts := goodIn_r _ [22, 12, 23, 24, 25, 5, 26, 27, 28, 29, 30, 31, 16, 17, 18, 32, 33, 34, 35, 36, 37, 38, 39, 40, 41, 42, 43, 44, 45, 46, 47, 48, 49, 50, 51, 7, 52, 53, 54, 55, 56, 63, 64, 65, 66, 67, 68, 69, 70, 71, 72, 73, 74, 75, 76, 77, 78, 79, 80, 81, 82, 83] (by decide +kernel) (by decide +kernel)
set_option maxRecDepth 20000 in
theorem gX8_answer_X8_counts : GoodIn wsX8_answer (wsV RX8 117 RX8 yX8_counts wsX8_counts) := goodIn_app (goodIn_of _ (by decide +kernel)) ggX8_answer_X8_counts
set_option maxRecDepth 20000 in
theorem ggX8_answer_X8_part : GoodIn wsX8_answer wsX8_part := goodIn_r _ [59, 60, 61, 5, 62] (by decide +kernel) (by decide +kernel)
set_option maxRecDepth 20000 in
theorem gX8_answer_X8_part : GoodIn wsX8_answer (va_wsS RX8 132 yX8_part wsX8_part) := goodIn_app (goodIn_of _ (by decide +kernel)) ggX8_answer_X8_part
theorem dX8_answer_0 : decode cX8_answer 0 = .ok (.aload_n 0, 1) := by decide +kernel
theorem dX8_answer_1 : decode cX8_answer 1 = .ok (.aload_n 0, 1) := by decide +kernel
theorem dX8_answer_2 : decode cX8_answer 2 = .ok (.iload_n 1, 1) := by decide +kernel
theorem dX8_answer_3 : decode cX8_answer 3 = .ok (.invokevirtual 129, 3) := by decide +kernel
theorem dX8_answer_6 : decode cX8_answer 6 = .ok (.ifCond .eq 11, 3) := by decide +kernel
theorem dX8_answer_9 : decode cX8_answer 9 = .ok (.aload_n 0, 1) := by decide +kernel
theorem dX8_answer_10 : decode cX8_answer 10 = .ok (.iload_n 2, 1) := by decide +kernel
theorem dX8_answer_11 : decode cX8_answer 11 = .ok (.invokevirtual 129, 3) := by decide +kernel
theorem dX8_answer_14 : decode cX8_answer 14 = .ok (.ifCond .ne 7, 3) := by decide +kernel
theorem dX8_answer_17 : decode cX8_answer 17 = .ok (.iconst 1, 1) := by decide +kernel
theorem dX8_answer_18 : decode cX8_answer 18 = .ok (.goto 13, 3) := by decide +kernel
theorem dX8_answer_21 : decode cX8_answer 21 = .ok (.iload_n 1, 1) := by decide +kernel
theorem dX8_answer_22 : decode cX8_answer 22 = .ok (.iload_n 2, 1) := by decide +kernel
theorem dX8_answer_23 : decode cX8_answer 23 = .ok (.if_icmp .ne 7, 3) := by decide +kernel
theorem dX8_answer_26 : decode cX8_answer 26 = .ok (.iconst 2, 1) := by decide +kernel
theorem dX8_answer_27 : decode cX8_answer 27 = .ok (.goto 4, 3) := by decide +kernel
theorem dX8_answer_30 : decode cX8_answer 30 = .ok (.iconst 0, 1) := by decide +kernel
theorem dX8_answer_31 : decode cX8_answer 31 = .ok (.putfield 47, 3) := by decide +kernel
theorem dX8_answer_34 : decode cX8_answer 34 = .ok (.aload_n 0, 1) := by decide +kernel
theorem dX8_answer_35 : decode cX8_answer 35 = .ok (.getfield 47, 3) := by decide +kernel
theorem dX8_answer_38 : decode cX8_answer 38 = .ok (.ifCond .le 5, 3) := by decide +kernel
theorem dX8_answer_41 : decode cX8_answer 41 = .ok (.lconst 0, 1) := by decide +kernel
theorem dX8_answer_42 : decode cX8_answer 42 = .ok (.lreturn, 1) := by decide +kernel
theorem dX8_answer_43 : decode cX8_answer 43 = .ok (.aload_n 0, 1) := by decide +kernel
theorem dX8_answer_44 : decode cX8_answer 44 = .ok (.iconst 2, 1) := by decide +kernel
theorem dX8_answer_45 : decode cX8_answer 45 = .ok (.iload_n 1, 1) := by decide +kernel
theorem dX8_answer_46 : decode cX8_answer 46 = .ok (.iload_n 2, 1) := by decide +kernel
theorem dX8_answer_47 : decode cX8_answer 47 = .ok (.iconst 0, 1) := by decide +kernel
theorem dX8_answer_48 : decode cX8_answer 48 = .ok (.invokevirtual 117, 3) := by decide +kernel
theorem dX8_answer_51 : decode cX8_answer 51 = .ok (.aload_n 0, 1) := by decide +kernel
theorem dX8_answer_52 : decode cX8_answer 52 = .ok (.iconst 1, 1) := by decide +kernel
theorem dX8_answer_53 : decode cX8_answer 53 = .ok (.iconst 0, 1) := by decide +kernel
theorem dX8_answer_54 : decode cX8_answer 54 = .ok (.iconst 0, 1) := by decide +kernel
theorem dX8_answer_55 : decode cX8_answer 55 = .ok (.iconst 0, 1) := by decide +kernel
theorem dX8_answer_56 : decode cX8_answer 56 = .ok (.invokevirtual 117, 3) := by decide +kernel
theorem dX8_answer_59 : decode cX8_answer 59 = .ok (.iload_n 3, 1) := by decide +kernel
theorem dX8_answer_60 : decode cX8_answer 60 = .ok (.invokestatic 132, 3) := by decide +kernel
theorem dX8_answer_63 : decode cX8_answer 63 = .ok (.lreturn, 1) := by decide +kernel
set_option maxRecDepth 20000 in
theorem ggX8_value_X8_isEdge : GoodIn wsX8_value wsX8_isEdge := goodIn_r _ [7, 8, 9, 10, 11, 6, 12, 13, 14, 15, 16, 17, 18, 19, 20, 21, 22, 23, 24, 25, 26, 27, 28, 29, 30, 31, 32, 33, 34, 35, 36, 37, 38, 39, 40] (by decide +kernel) (by decide +kernel)
set_option maxRecDepth 20000 in
theorem gX8_value_X8_isEdge : GoodIn wsX8_value (wsV RX8 129 RX8 yX8_isEdge wsX8_isEdge) := goodIn_app (goodIn_of _ (by decide +kernel)) ggX8_value_X8_isEdge
set_option maxRecDepth 20000 in
theorem ggX8_value_X8_in : GoodIn wsX8_value wsX8_in := goodIn_r _ [16] (by decide +kernel) (by decide +kernel)
set_option maxRecDepth 20000 in
theorem gX8_value_X8_in : GoodIn wsX8_value (va_wsS RX8 51 yX8_in wsX8_in) := goodIn_app (goodIn_of _ (by decide +kernel)) ggX8_value_X8_in
theorem dX8_value_0 : decode cX8_value 0 = .ok (.aload_n 0, 1) := by decide +kernel
theorem dX8_value_1 : decode cX8_value 1 = .ok (.aload_n 0, 1) := by decide +kernel
theorem dX8_value_2 : decode cX8_value 2 = .ok (.iload_n 1, 1) := by decide +kernel
theorem dX8_value_3 : decode cX8_value 3 = .ok (.invokevirtual 129, 3) := by decide +kernel
theorem dX8_value_6 : decode cX8_value 6 = .ok (.ifCond .ne 7, 3) := by decide +kernel
theorem dX8_value_9 : decode cX8_value 9 = .ok (.iconst 1, 1) := by decide +kernel
theorem dX8_value_10 : decode cX8_value 10 = .ok (.goto 19, 3) := by decide +kernel
theorem dX8_value_13 : decode cX8_value 13 = .ok (.iload_n 2, 1) := by decide +kernel
theorem dX8_value_14 : decode cX8_value 14 = .ok (.bipush (-99), 2) := by decide +kernel
theorem dX8_value_16 : decode cX8_value 16 = .ok (.bipush 99, 2) := by decide +kernel
theorem dX8_value_18 : decode cX8_value 18 = .ok (.invokestatic 51, 3) := by decide +kernel
theorem dX8_value_21 : decode cX8_value 21 = .ok (.ifCond .eq 7, 3) := by decide +kernel
theorem dX8_value_24 : decode cX8_value 24 = .ok (.iconst 0, 1) := by decide +kernel
theorem dX8_value_25 : decode cX8_value 25 = .ok (.goto 4, 3) := by decide +kernel
theorem dX8_value_28 : decode cX8_value 28 = .ok (.iconst 2, 1) := by decide +kernel
theorem dX8_value_29 : decode cX8_value 29 = .ok (.putfield 47, 3) := by decide +kernel
theorem dX8_value_32 : decode cX8_value 32 = .ok (.aload_n 0, 1) := by decide +kernel
theorem dX8_value_33 : decode cX8_value 33 = .ok (.getfield 47, 3) := by decide +kernel
theorem dX8_value_36 : decode cX8_value 36 = .ok (.ifCond .ne 10, 3) := by decide +kernel
theorem dX8_value_39 : decode cX8_value 39 = .ok (.aload_n 0, 1) := by decide +kernel
theorem dX8_value_40 : decode cX8_value 40 = .ok (.getfield 19, 3) := by decide +kernel
theorem dX8_value_43 : decode cX8_value 43 = .ok (.iload_n 1, 1) := by decide +kernel
theorem dX8_value_44 : decode cX8_value 44 = .ok (.iload_n 2, 1) := by decide +kernel
theorem dX8_value_45 : decode cX8_value 45 = .ok (.iastore, 1) := by decide +kernel
theorem dX8_value_46 : decode cX8_value 46 = .ok (.return_, 1) := by decide +kernel
set_option maxRecDepth 20000 in
theorem ggX8_potential_X8_isNode : GoodIn wsX8_potential wsX8_isNode := goodIn_r _ [7, 8, 9, 10, 6, 11, 12, 13, 14, 64, 65, 66, 67, 68, 69, 70, 71, 72, 73, 74, 75, 76, 77, 78, 79, 80, 81, 82, 83, 84] (by decide +kernel) (by decide +kernel)
set_option maxRecDepth 20000 in
theorem gX8_potential_X8_isNode : GoodIn wsX8_potential (wsV RX8 62 RX8 yX8_isNode wsX8_isNode) := goodIn_app (goodIn_of _ (by decide +kernel)) ggX8_potential_X8_isNode
set_option maxRecDepth 20000 in
theorem ggX8_potential_X8_isEdge : GoodIn wsX8_potential wsX8_isEdge := goodIn_r _ [18, 19, 3, 4, 5, 6, 7, 8, 9, 10, 11, 12, 13, 14, 64, 65, 66, 67, 68, 69, 70, 71, 72, 73, 74, 75, 76, 77, 78, 79, 80, 81, 82, 83, 84] (by decide +kernel) (by decide +kernel)
set_option maxRecDepth 20000 in
theorem gX8_potential_X8_isEdge : GoodIn wsX8_potential (wsV RX8 129 RX8 yX8_isEdge wsX8_isEdge) := goodIn_app (goodIn_of _ (by decide +kernel)) ggX8_potential_X8_isEdge
set_option maxRecDepth 20000 in
theorem ggX8_potential_X8_counts : GoodIn wsX8_potential wsX8_counts := goodIn_r _ [23, 8, 24, 25, 26, 6, 27, 28, 29, 30, 31, 32, 12, 13, 14, 33, 34, 35, 36, 37, 38, 39, 40, 41, 42, 43, 44, 45, 46, 47, 48, 49, 50, 51, 52, 19, 53, 54, 55, 56, 57, 64, 65, 66, 67, 68, 69, 70, 71, 72, 73, 74, 75, 76, 77, 78, 79, 80, 81, 82, 83, 84] (by decide +kernel) (by decide +kernel)
set_option maxRecDepth 20000 in
theorem gX8_potential_X8_counts : GoodIn wsX8_potential (wsV RX8 117 RX8 yX8_counts wsX8_counts) := goodIn_app (goodIn_of _ (by decide +kernel)) ggX8_potential_X8_counts
set_option maxRecDepth 20000 in
theorem ggX8_potential_X8_part : GoodIn wsX8_potential wsX8_part := goodIn_r _ [60, 61, 62, 6, 63] (by decide +kernel) (by decide +kernel)
set_option maxRecDepth 20000 in
theorem gX8_potential_X8_part : GoodIn wsX8_potential (va_wsS RX8 132 yX8_part wsX8_part) := goodIn_app (goodIn_of _ (by decide +kernel)) ggX8_potential_X8_part
theorem dX8_potential_0 : decode cX8_potential 0 = .ok (.aload_n 0, 1) := by decide +kernel
theorem dX8_potential_1 : decode cX8_potential 1 = .ok (.aload_n 0, 1) := by decide +kernel
theorem dX8_potential_2 : decode cX8_potential 2 = .ok (.iload_n 1, 1) := by decide +kernel
theorem dX8_potential_3 : decode cX8_potential 3 = .ok (.invokevirtual 62, 3) := by decide +kernel
theorem dX8_potential_6 : decode cX8_potential 6 = .ok (.ifCond .eq 7, 3) := by decide +kernel
theorem dX8_potential_9 : decode cX8_potential 9 = .ok (.iconst 0, 1) := by decide +kernel
theorem dX8_potential_10 : decode cX8_potential 10 = .ok (.goto 4, 3) := by decide +kernel
theorem dX8_potential_13 : decode cX8_potential 13 = .ok (.iconst 1, 1) := by decide +kernel
theorem dX8_potential_14 : decode cX8_potential 14 = .ok (.putfield 47, 3) := by decide +kernel
theorem dX8_potential_17 : decode cX8_potential 17 = .ok (.aload_n 0, 1) := by decide +kernel
theorem dX8_potential_18 : decode cX8_potential 18 = .ok (.getfield 47, 3) := by decide +kernel
theorem dX8_potential_21 : decode cX8_potential 21 = .ok (.ifCond .le 5, 3) := by decide +kernel
theorem dX8_potential_24 : decode cX8_potential 24 = .ok (.lconst 0, 1) := by decide +kernel
theorem dX8_potential_25 : decode cX8_potential 25 = .ok (.lreturn, 1) := by decide +kernel
theorem dX8_potential_26 : decode cX8_potential 26 = .ok (.aload_n 0, 1) := by decide +kernel
theorem dX8_potential_27 : decode cX8_potential 27 = .ok (.iload_n 1, 1) := by decide +kernel
theorem dX8_potential_28 : decode cX8_potential 28 = .ok (.invokevirtual 129, 3) := by decide +kernel
theorem dX8_potential_31 : decode cX8_potential 31 = .ok (.ifCond .eq 19, 3) := by decide +kernel
theorem dX8_potential_34 : decode cX8_potential 34 = .ok (.iload_n 2, 1) := by decide +kernel
theorem dX8_potential_35 : decode cX8_potential 35 = .ok (.ifCond .eq 7, 3) := by decide +kernel
theorem dX8_potential_38 : decode cX8_potential 38 = .ok (.lconst 1, 1) := by decide +kernel
theorem dX8_potential_39 : decode cX8_potential 39 = .ok (.goto 10, 3) := by decide +kernel
theorem dX8_potential_42 : decode cX8_potential 42 = .ok (.aload_n 0, 1) := by decide +kernel
theorem dX8_potential_43 : decode cX8_potential 43 = .ok (.getfield 19, 3) := by decide +kernel
theorem dX8_potential_46 : decode cX8_potential 46 = .ok (.iload_n 1, 1) := by decide +kernel
theorem dX8_potential_47 : decode cX8_potential 47 = .ok (.iaload, 1) := by decide +kernel
theorem dX8_potential_48 : decode cX8_potential 48 = .ok (.i2l, 1) := by decide +kernel
theorem dX8_potential_49 : decode cX8_potential 49 = .ok (.lreturn, 1) := by decide +kernel
theorem dX8_potential_50 : decode cX8_potential 50 = .ok (.lconst 0, 1) := by decide +kernel
theorem dX8_potential_51 : decode cX8_potential 51 = .ok (.lstore_n 3, 1) := by decide +kernel
theorem dX8_potential_52 : decode cX8_potential 52 = .ok (.iconst 0, 1) := by decide +kernel
theorem dX8_potential_53 : decode cX8_potential 53 = .ok (.istore 5, 2) := by decide +kernel
theorem dX8_potential_55 : decode cX8_potential 55 = .ok (.iload 5, 2) := by decide +kernel
theorem dX8_potential_57 : decode cX8_potential 57 = .ok (.bipush 7, 2) := by decide +kernel
theorem dX8_potential_59 : decode cX8_potential 59 = .ok (.if_icmp .ge 43, 3) := by decide +kernel
theorem dX8_potential_62 : decode cX8_potential 62 = .ok (.lload_n 3, 1) := by decide +kernel
theorem dX8_potential_63 : decode cX8_potential 63 = .ok (.aload_n 0, 1) := by decide +kernel
theorem dX8_potential_64 : decode cX8_potential 64 = .ok (.iload 5, 2) := by decide +kernel
theorem dX8_potential_66 : decode cX8_potential 66 = .ok (.invokevirtual 129, 3) := by decide +kernel
theorem dX8_potential_69 : decode cX8_potential 69 = .ok (.ifCond .eq 24, 3) := by decide +kernel
theorem dX8_potential_72 : decode cX8_potential 72 = .ok (.aload_n 0, 1) := by decide +kernel
theorem dX8_potential_73 : decode cX8_potential 73 = .ok (.getfield 19, 3) := by decide +kernel
theorem dX8_potential_76 : decode cX8_potential 76 = .ok (.iload 5, 2) := by decide +kernel
theorem dX8_potential_78 : decode cX8_potential 78 = .ok (.iaload, 1) := by decide +kernel
theorem dX8_potential_79 : decode cX8_potential 79 = .ok (.i2l, 1) := by decide +kernel
theorem dX8_potential_80 : decode cX8_potential 80 = .ok (.aload_n 0, 1) := by decide +kernel
theorem dX8_potential_81 : decode cX8_potential 81 = .ok (.iconst 3, 1) := by decide +kernel
theorem dX8_potential_82 : decode cX8_potential 82 = .ok (.iload_n 1, 1) := by decide +kernel
theorem dX8_potential_83 : decode cX8_potential 83 = .ok (.iload 5, 2) := by decide +kernel
theorem dX8_potential_85 : decode cX8_potential 85 = .ok (.iconst 0, 1) := by decide +kernel
theorem dX8_potential_86 : decode cX8_potential 86 = .ok (.invokevirtual 117, 3) := by decide +kernel
theorem dX8_potential_89 : decode cX8_potential 89 = .ok (.lmul, 1) := by decide +kernel
theorem dX8_potential_90 : decode cX8_potential 90 = .ok (.goto 4, 3) := by decide +kernel
theorem dX8_potential_93 : decode cX8_potential 93 = .ok (.lconst 0, 1) := by decide +kernel
theorem dX8_potential_94 : decode cX8_potential 94 = .ok (.ladd, 1) := by decide +kernel
theorem dX8_potential_95 : decode cX8_potential 95 = .ok (.lstore_n 3, 1) := by decide +kernel
theorem dX8_potential_96 : decode cX8_potential 96 = .ok (.iinc 5 1, 3) := by decide +kernel
theorem dX8_potential_99 : decode cX8_potential 99 = .ok (.goto (-44), 3) := by decide +kernel
theorem dX8_potential_102 : decode cX8_potential 102 = .ok (.lload_n 3, 1) := by decide +kernel
theorem dX8_potential_103 : decode cX8_potential 103 = .ok (.aload_n 0, 1) := by decide +kernel
theorem dX8_potential_104 : decode cX8_potential 104 = .ok (.iconst 1, 1) := by decide +kernel
theorem dX8_potential_105 : decode cX8_potential 105 = .ok (.iconst 0, 1) := by decide +kernel
theorem dX8_potential_106 : decode cX8_potential 106 = .ok (.iconst 0, 1) := by decide +kernel
theorem dX8_potential_107 : decode cX8_potential 107 = .ok (.iconst 0, 1) := by decide +kernel
theorem dX8_potential_108 : decode cX8_potential 108 = .ok (.invokevirtual 117, 3) := by decide +kernel
theorem dX8_potential_111 : decode cX8_potential 111 = .ok (.iload_n 2, 1) := by decide +kernel
theorem dX8_potential_112 : decode cX8_potential 112 = .ok (.invokestatic 132, 3) := by decide +kernel
theorem dX8_potential_115 : decode cX8_potential 115 = .ok (.lreturn, 1) := by decide +kernel
set_option maxRecDepth 20000 in
theorem ggX8_currentTimes_X8_isEdge : GoodIn wsX8_currentTimes wsX8_isEdge := goodIn_r _ [6, 7, 8, 9, 10, 5, 11, 12, 13, 14, 15, 16, 17, 18, 57, 58, 59, 60, 61, 62, 63, 64, 65, 66, 67, 68, 69, 70, 71, 72, 73, 74, 75, 76, 77] (by decide +kernel) (by decide +kernel)
set_option maxRecDepth 20000 in
theorem gX8_currentTimes_X8_isEdge : GoodIn wsX8_currentTimes (wsV RX8 129 RX8 yX8_isEdge wsX8_isEdge) := goodIn_app (goodIn_of _ (by decide +kernel)) ggX8_currentTimes_X8_isEdge
set_option maxRecDepth 20000 in
theorem ggX8_currentTimes_X8_counts : GoodIn wsX8_currentTimes wsX8_counts := goodIn_r _ [22, 12, 23, 24, 25, 5, 26, 27, 28, 29, 30, 31, 16, 17, 18, 32, 33, 34, 35, 36, 37, 38, 39, 40, 41, 42, 43, 44, 45, 46, 47, 48, 49, 50, 51, 7, 52, 53, 54, 55, 56, 57, 58, 59, 60, 61, 62, 63, 64, 65, 66, 67, 68, 69, 70, 71, 72, 73, 74, 75, 76, 77] (by decide +kernel) (by decide +kernel)
set_option maxRecDepth 20000 in
theorem gX8_currentTimes_X8_counts : GoodIn wsX8_currentTimes (wsV RX8 117 RX8 yX8_counts wsX8_counts) := goodIn_app (goodIn_of _ (by decide +kernel)) ggX8_currentTimes_X8_counts
theorem dX8_currentTimes_0 : decode cX8_currentTimes 0 = .ok (.lconst 0, 1) := by decide +kernel
theorem dX8_currentTimes_1 : decode cX8_currentTimes 1 = .ok (.lstore_n 2, 1) := by decide +kernel
theorem dX8_currentTimes_2 : decode cX8_currentTimes 2 = .ok (.iconst 0, 1) := by decide +kernel
theorem dX8_currentTimes_3 : decode cX8_currentTimes 3 = .ok (.istore 4, 2) := by decide +kernel
theorem dX8_currentTimes_5 : decode cX8_currentTimes 5 = .ok (.iload 4, 2) := by decide +kernel
theorem dX8_currentTimes_7 : decode cX8_currentTimes 7 = .ok (.bipush 7, 2) := by decide +kernel
theorem dX8_currentTimes_9 : decode cX8_currentTimes 9 = .ok (.if_icmp .ge 56, 3) := by decide +kernel
theorem dX8_currentTimes_12 : decode cX8_currentTimes 12 = .ok (.lload_n 2, 1) := by decide +kernel
theorem dX8_currentTimes_13 : decode cX8_currentTimes 13 = .ok (.aload_n 0, 1) := by decide +kernel
theorem dX8_currentTimes_14 : decode cX8_currentTimes 14 = .ok (.iload 4, 2) := by decide +kernel
theorem dX8_currentTimes_16 : decode cX8_currentTimes 16 = .ok (.invokevirtual 129, 3) := by decide +kernel
theorem dX8_currentTimes_19 : decode cX8_currentTimes 19 = .ok (.ifCond .eq 37, 3) := by decide +kernel
theorem dX8_currentTimes_22 : decode cX8_currentTimes 22 = .ok (.iload 4, 2) := by decide +kernel
theorem dX8_currentTimes_24 : decode cX8_currentTimes 24 = .ok (.iload_n 1, 1) := by decide +kernel
theorem dX8_currentTimes_25 : decode cX8_currentTimes 25 = .ok (.if_icmp .eq 31, 3) := by decide +kernel
theorem dX8_currentTimes_28 : decode cX8_currentTimes 28 = .ok (.aload_n 0, 1) := by decide +kernel
theorem dX8_currentTimes_29 : decode cX8_currentTimes 29 = .ok (.getfield 19, 3) := by decide +kernel
theorem dX8_currentTimes_32 : decode cX8_currentTimes 32 = .ok (.iload_n 1, 1) := by decide +kernel
theorem dX8_currentTimes_33 : decode cX8_currentTimes 33 = .ok (.iaload, 1) := by decide +kernel
theorem dX8_currentTimes_34 : decode cX8_currentTimes 34 = .ok (.aload_n 0, 1) := by decide +kernel
theorem dX8_currentTimes_35 : decode cX8_currentTimes 35 = .ok (.getfield 19, 3) := by decide +kernel
theorem dX8_currentTimes_38 : decode cX8_currentTimes 38 = .ok (.iload 4, 2) := by decide +kernel
theorem dX8_currentTimes_40 : decode cX8_currentTimes 40 = .ok (.iaload, 1) := by decide +kernel
theorem dX8_currentTimes_41 : decode cX8_currentTimes 41 = .ok (.isub, 1) := by decide +kernel
theorem dX8_currentTimes_42 : decode cX8_currentTimes 42 = .ok (.i2l, 1) := by decide +kernel
theorem dX8_currentTimes_43 : decode cX8_currentTimes 43 = .ok (.aload_n 0, 1) := by decide +kernel
theorem dX8_currentTimes_44 : decode cX8_currentTimes 44 = .ok (.iconst 2, 1) := by decide +kernel
theorem dX8_currentTimes_45 : decode cX8_currentTimes 45 = .ok (.iload_n 1, 1) := by decide +kernel
theorem dX8_currentTimes_46 : decode cX8_currentTimes 46 = .ok (.iload 4, 2) := by decide +kernel
theorem dX8_currentTimes_48 : decode cX8_currentTimes 48 = .ok (.iconst 0, 1) := by decide +kernel
theorem dX8_currentTimes_49 : decode cX8_currentTimes 49 = .ok (.invokevirtual 117, 3) := by decide +kernel
theorem dX8_currentTimes_52 : decode cX8_currentTimes 52 = .ok (.lmul, 1) := by decide +kernel
theorem dX8_currentTimes_53 : decode cX8_currentTimes 53 = .ok (.goto 4, 3) := by decide +kernel
theorem dX8_currentTimes_56 : decode cX8_currentTimes 56 = .ok (.lconst 0, 1) := by decide +kernel
theorem dX8_currentTimes_57 : decode cX8_currentTimes 57 = .ok (.ladd, 1) := by decide +kernel
theorem dX8_currentTimes_58 : decode cX8_currentTimes 58 = .ok (.lstore_n 2, 1) := by decide +kernel
theorem dX8_currentTimes_59 : decode cX8_currentTimes 59 = .ok (.iinc 4 1, 3) := by decide +kernel
theorem dX8_currentTimes_62 : decode cX8_currentTimes 62 = .ok (.goto (-57), 3) := by decide +kernel
theorem dX8_currentTimes_65 : decode cX8_currentTimes 65 = .ok (.lload_n 2, 1) := by decide +kernel
theorem dX8_currentTimes_66 : decode cX8_currentTimes 66 = .ok (.lreturn, 1) := by decide +kernel
set_option maxRecDepth 20000 in
theorem ggX8_current_X8_isEdge : GoodIn wsX8_current wsX8_isEdge := goodIn_r _ [6, 7, 8, 9, 10, 5, 11, 12, 13, 14, 15, 16, 17, 18, 68, 69, 70, 71, 72, 73, 74, 75, 76, 77, 78, 79, 80, 81, 82, 83, 84, 85, 86, 87, 88] (by decide +kernel) (by decide +kernel)
set_option maxRecDepth 20000 in
theorem gX8_current_X8_isEdge : GoodIn wsX8_current (wsV RX8 129 RX8 yX8_isEdge wsX8_isEdge) := goodIn_app (goodIn_of _ (by decide +kernel)) ggX8_current_X8_isEdge
set_option maxRecDepth 20000 in
theorem ggX8_current_X8_currentTimes : GoodIn wsX8_current wsX8_currentTimes := goodIn_r _ [22, 23, 2, 3, 4, 5, 6, 7, 8, 9, 10, 11, 12, 13, 14, 15, 16, 17, 18, 24, 25, 26, 27, 28, 29, 30, 31, 32, 33, 34, 35, 36, 37, 38, 39, 40, 41, 42, 43, 44, 45, 46, 47, 48, 49, 50, 51, 52, 53, 54, 55, 56, 57, 58, 59, 60, 61, 68, 69, 70, 71, 72, 73, 74, 75, 76, 77, 78, 79, 80, 81, 82, 83, 84, 85, 86, 87, 88] (by decide +kernel) (by decide +kernel)
set_option maxRecDepth 20000 in
theorem gX8_current_X8_currentTimes : GoodIn wsX8_current (wsV RX8 136 RX8 yX8_currentTimes wsX8_currentTimes) := goodIn_app (goodIn_of _ (by decide +kernel)) ggX8_current_X8_currentTimes
set_option maxRecDepth 20000 in
theorem ggX8_current_X8_counts : GoodIn wsX8_current wsX8_counts := goodIn_r _ [27, 12, 28, 29, 30, 5, 31, 32, 33, 34, 35, 36, 16, 17, 18, 37, 38, 39, 40, 41, 42, 43, 44, 45, 46, 47, 48, 49, 50, 51, 52, 53, 54, 55, 56, 7, 57, 58, 59, 60, 61, 68, 69, 70, 71, 72, 73, 74, 75, 76, 77, 78, 79, 80, 81, 82, 83, 84, 85, 86, 87, 88] (by decide +kernel) (by decide +kernel)
set_option maxRecDepth 20000 in
theorem gX8_current_X8_counts : GoodIn wsX8_current (wsV RX8 117 RX8 yX8_counts wsX8_counts) := goodIn_app (goodIn_of _ (by decide +kernel)) ggX8_current_X8_counts
set_option maxRecDepth 20000 in
theorem ggX8_current_X8_part : GoodIn wsX8_current wsX8_part := goodIn_r _ [64, 65, 66, 5, 67] (by decide +kernel) (by decide +kernel)
set_option maxRecDepth 20000 in
theorem gX8_current_X8_part : GoodIn wsX8_current (va_wsS RX8 132 yX8_part wsX8_part) := goodIn_app (goodIn_of _ (by decide +kernel)) ggX8_current_X8_part
theorem dX8_current_0 : decode cX8_current 0 = .ok (.aload_n 0, 1) := by decide +kernel
theorem dX8_current_1 : decode cX8_current 1 = .ok (.aload_n 0, 1) := by decide +kernel
theorem dX8_current_2 : decode cX8_current 2 = .ok (.iload_n 1, 1) := by decide +kernel
theorem dX8_current_3 : decode cX8_current 3 = .ok (.invokevirtual 129, 3) := by decide +kernel
theorem dX8_current_6 : decode cX8_current 6 = .ok (.ifCond .eq 7, 3) := by decide +kernel
theorem dX8_current_9 : decode cX8_current 9 = .ok (.iconst 0, 1) := by decide +kernel
theorem dX8_current_10 : decode cX8_current 10 = .ok (.goto 4, 3) := by decide +kernel
theorem dX8_current_13 : decode cX8_current 13 = .ok (.iconst 1, 1) := by decide +kernel
theorem dX8_current_14 : decode cX8_current 14 = .ok (.putfield 47, 3) := by decide +kernel
theorem dX8_current_17 : decode cX8_current 17 = .ok (.aload_n 0, 1) := by decide +kernel
theorem dX8_current_18 : decode cX8_current 18 = .ok (.getfield 47, 3) := by decide +kernel
theorem dX8_current_21 : decode cX8_current 21 = .ok (.ifCond .le 7, 3) := by decide +kernel
theorem dX8_current_24 : decode cX8_current 24 = .ok (.lconst 0, 1) := by decide +kernel
theorem dX8_current_25 : decode cX8_current 25 = .ok (.goto 20, 3) := by decide +kernel
theorem dX8_current_28 : decode cX8_current 28 = .ok (.aload_n 0, 1) := by decide +kernel
theorem dX8_current_29 : decode cX8_current 29 = .ok (.iload_n 1, 1) := by decide +kernel
theorem dX8_current_30 : decode cX8_current 30 = .ok (.invokevirtual 136, 3) := by decide +kernel
theorem dX8_current_33 : decode cX8_current 33 = .ok (.aload_n 0, 1) := by decide +kernel
theorem dX8_current_34 : decode cX8_current 34 = .ok (.iconst 1, 1) := by decide +kernel
theorem dX8_current_35 : decode cX8_current 35 = .ok (.iconst 0, 1) := by decide +kernel
theorem dX8_current_36 : decode cX8_current 36 = .ok (.iconst 0, 1) := by decide +kernel
theorem dX8_current_37 : decode cX8_current 37 = .ok (.iconst 0, 1) := by decide +kernel
theorem dX8_current_38 : decode cX8_current 38 = .ok (.invokevirtual 117, 3) := by decide +kernel
theorem dX8_current_41 : decode cX8_current 41 = .ok (.iload_n 2, 1) := by decide +kernel
theorem dX8_current_42 : decode cX8_current 42 = .ok (.invokestatic 132, 3) := by decide +kernel
theorem dX8_current_45 : decode cX8_current 45 = .ok (.lreturn, 1) := by decide +kernel
set_option maxRecDepth 20000 in
theorem ggX8_power_X8_isEdge : GoodIn wsX8_power wsX8_isEdge := goodIn_r _ [7, 8, 9, 10, 11, 6, 12, 13, 14, 15, 16, 17, 18, 19, 68, 69, 70, 71, 72, 73, 74, 75, 76, 77, 78, 79, 80, 81, 82, 83, 84, 85, 86, 87, 88] (by decide +kernel) (by decide +kernel)
set_option maxRecDepth 20000 in
theorem gX8_power_X8_isEdge : GoodIn wsX8_power (wsV RX8 129 RX8 yX8_isEdge wsX8_isEdge) := goodIn_app (goodIn_of _ (by decide +kernel)) ggX8_power_X8_isEdge
set_option maxRecDepth 20000 in
theorem ggX8_power_X8_currentTimes : GoodIn wsX8_power wsX8_currentTimes := goodIn_r _ [23, 2, 3, 4, 5, 6, 7, 8, 9, 10, 11, 12, 13, 14, 15, 16, 17, 18, 19, 24, 25, 26, 27, 28, 29, 30, 31, 32, 33, 34, 35, 36, 37, 38, 39, 40, 41, 42, 43, 44, 45, 46, 47, 48, 49, 50, 51, 52, 53, 54, 55, 56, 57, 58, 59, 60, 61, 68, 69, 70, 71, 72, 73, 74, 75, 76, 77, 78, 79, 80, 81, 82, 83, 84, 85, 86, 87, 88] (by decide +kernel) (by decide +kernel)
set_option maxRecDepth 20000 in
theorem gX8_power_X8_currentTimes : GoodIn wsX8_power (wsV RX8 136 RX8 yX8_currentTimes wsX8_currentTimes) := goodIn_app (goodIn_of _ (by decide +kernel)) ggX8_power_X8_currentTimes
set_option maxRecDepth 20000 in
theorem ggX8_power_X8_counts : GoodIn wsX8_power wsX8_counts := goodIn_r _ [27, 13, 28, 29, 30, 6, 31, 32, 33, 34, 35, 36, 17, 18, 19, 37, 38, 39, 40, 41, 42, 43, 44, 45, 46, 47, 48, 49, 50, 51, 52, 53, 54, 55, 56, 8, 57, 58, 59, 60, 61, 68, 69, 70, 71, 72, 73, 74, 75, 76, 77, 78, 79, 80, 81, 82, 83, 84, 85, 86, 87, 88] (by decide +kernel) (by decide +kernel)
set_option maxRecDepth 20000 in
theorem gX8_power_X8_counts : GoodIn wsX8_power (wsV RX8 117 RX8 yX8_counts wsX8_counts) := goodIn_app (goodIn_of _ (by decide +kernel)) ggX8_power_X8_counts
set_option maxRecDepth 20000 in
theorem ggX8_power_X8_part : GoodIn wsX8_power wsX8_part := goodIn_r _ [64, 65, 66, 6, 67] (by decide +kernel) (by decide +kernel)
set_option maxRecDepth 20000 in
theorem gX8_power_X8_part : GoodIn wsX8_power (va_wsS RX8 132 yX8_part wsX8_part) := goodIn_app (goodIn_of _ (by decide +kernel)) ggX8_power_X8_part
theorem dX8_power_0 : decode cX8_power 0 = .ok (.aload_n 0, 1) := by decide +kernel
theorem dX8_power_1 : decode cX8_power 1 = .ok (.iconst 0, 1) := by decide +kernel
theorem dX8_power_2 : decode cX8_power 2 = .ok (.putfield 47, 3) := by decide +kernel
theorem dX8_power_5 : decode cX8_power 5 = .ok (.lconst 0, 1) := by decide +kernel
theorem dX8_power_6 : decode cX8_power 6 = .ok (.lstore_n 2, 1) := by decide +kernel
theorem dX8_power_7 : decode cX8_power 7 = .ok (.iconst 0, 1) := by decide +kernel
theorem dX8_power_8 : decode cX8_power 8 = .ok (.istore 4, 2) := by decide +kernel
theorem dX8_power_10 : decode cX8_power 10 = .ok (.iload 4, 2) := by decide +kernel
theorem dX8_power_12 : decode cX8_power 12 = .ok (.bipush 7, 2) := by decide +kernel
theorem dX8_power_14 : decode cX8_power 14 = .ok (.if_icmp .ge 40, 3) := by decide +kernel
theorem dX8_power_17 : decode cX8_power 17 = .ok (.lload_n 2, 1) := by decide +kernel
theorem dX8_power_18 : decode cX8_power 18 = .ok (.aload_n 0, 1) := by decide +kernel
theorem dX8_power_19 : decode cX8_power 19 = .ok (.iload 4, 2) := by decide +kernel
theorem dX8_power_21 : decode cX8_power 21 = .ok (.invokevirtual 129, 3) := by decide +kernel
theorem dX8_power_24 : decode cX8_power 24 = .ok (.ifCond .eq 21, 3) := by decide +kernel
theorem dX8_power_27 : decode cX8_power 27 = .ok (.aload_n 0, 1) := by decide +kernel
theorem dX8_power_28 : decode cX8_power 28 = .ok (.getfield 19, 3) := by decide +kernel
theorem dX8_power_31 : decode cX8_power 31 = .ok (.iload 4, 2) := by decide +kernel
theorem dX8_power_33 : decode cX8_power 33 = .ok (.iaload, 1) := by decide +kernel
theorem dX8_power_34 : decode cX8_power 34 = .ok (.i2l, 1) := by decide +kernel
theorem dX8_power_35 : decode cX8_power 35 = .ok (.aload_n 0, 1) := by decide +kernel
theorem dX8_power_36 : decode cX8_power 36 = .ok (.iload 4, 2) := by decide +kernel
theorem dX8_power_38 : decode cX8_power 38 = .ok (.invokevirtual 136, 3) := by decide +kernel
theorem dX8_power_41 : decode cX8_power 41 = .ok (.lmul, 1) := by decide +kernel
theorem dX8_power_42 : decode cX8_power 42 = .ok (.goto 4, 3) := by decide +kernel
theorem dX8_power_45 : decode cX8_power 45 = .ok (.lconst 0, 1) := by decide +kernel
theorem dX8_power_46 : decode cX8_power 46 = .ok (.ladd, 1) := by decide +kernel
theorem dX8_power_47 : decode cX8_power 47 = .ok (.lstore_n 2, 1) := by decide +kernel
theorem dX8_power_48 : decode cX8_power 48 = .ok (.iinc 4 1, 3) := by decide +kernel
theorem dX8_power_51 : decode cX8_power 51 = .ok (.goto (-41), 3) := by decide +kernel
theorem dX8_power_54 : decode cX8_power 54 = .ok (.lload_n 2, 1) := by decide +kernel
theorem dX8_power_55 : decode cX8_power 55 = .ok (.aload_n 0, 1) := by decide +kernel
theorem dX8_power_56 : decode cX8_power 56 = .ok (.iconst 1, 1) := by decide +kernel
theorem dX8_power_57 : decode cX8_power 57 = .ok (.iconst 0, 1) := by decide +kernel
theorem dX8_power_58 : decode cX8_power 58 = .ok (.iconst 0, 1) := by decide +kernel
theorem dX8_power_59 : decode cX8_power 59 = .ok (.iconst 0, 1) := by decide +kernel
theorem dX8_power_60 : decode cX8_power 60 = .ok (.invokevirtual 117, 3) := by decide +kernel
theorem dX8_power_63 : decode cX8_power 63 = .ok (.iload_n 1, 1) := by decide +kernel
theorem dX8_power_64 : decode cX8_power 64 = .ok (.invokestatic 132, 3) := by decide +kernel
theorem dX8_power_67 : decode cX8_power 67 = .ok (.lreturn, 1) := by decide +kernel
set_option maxRecDepth 20000 in
theorem ggX8_distance_X8_isNode : GoodIn wsX8_distance wsX8_isNode := goodIn_r _ [6, 7, 8, 9, 5, 10, 11, 12, 13, 59, 60, 61, 62, 63, 64, 65, 66, 67, 68, 69, 70, 71, 72, 73, 74, 75, 76, 77, 78, 79] (by decide +kernel) (by decide +kernel)
set_option maxRecDepth 20000 in
theorem gX8_distance_X8_isNode : GoodIn wsX8_distance (wsV RX8 62 RX8 yX8_isNode wsX8_isNode) := goodIn_app (goodIn_of _ (by decide +kernel)) ggX8_distance_X8_isNode
set_option maxRecDepth 20000 in
theorem ggX8_distance_X8_counts : GoodIn wsX8_distance wsX8_counts := goodIn_r _ [17, 7, 18, 19, 20, 5, 21, 22, 23, 24, 25, 26, 11, 12, 13, 27, 28, 29, 30, 31, 32, 33, 34, 35, 36, 37, 38, 39, 40, 41, 42, 43, 44, 45, 46, 47, 48, 49, 50, 51, 52, 59, 60, 61, 62, 63, 64, 65, 66, 67, 68, 69, 70, 71, 72, 73, 74, 75, 76, 77, 78, 79] (by decide +kernel) (by decide +kernel)
set_option maxRecDepth 20000 in
theorem gX8_distance_X8_counts : GoodIn wsX8_distance (wsV RX8 117 RX8 yX8_counts wsX8_counts) := goodIn_app (goodIn_of _ (by decide +kernel)) ggX8_distance_X8_counts
set_option maxRecDepth 20000 in
theorem ggX8_distance_X8_part : GoodIn wsX8_distance wsX8_part := goodIn_r _ [55, 56, 57, 5, 58] (by decide +kernel) (by decide +kernel)
set_option maxRecDepth 20000 in
theorem gX8_distance_X8_part : GoodIn wsX8_distance (va_wsS RX8 132 yX8_part wsX8_part) := goodIn_app (goodIn_of _ (by decide +kernel)) ggX8_distance_X8_part
theorem dX8_distance_0 : decode cX8_distance 0 = .ok (.aload_n 0, 1) := by decide +kernel
theorem dX8_distance_1 : decode cX8_distance 1 = .ok (.aload_n 0, 1) := by decide +kernel
theorem dX8_distance_2 : decode cX8_distance 2 = .ok (.iload_n 1, 1) := by decide +kernel
theorem dX8_distance_3 : decode cX8_distance 3 = .ok (.invokevirtual 62, 3) := by decide +kernel
theorem dX8_distance_6 : decode cX8_distance 6 = .ok (.ifCond .eq 15, 3) := by decide +kernel
theorem dX8_distance_9 : decode cX8_distance 9 = .ok (.aload_n 0, 1) := by decide +kernel
theorem dX8_distance_10 : decode cX8_distance 10 = .ok (.iload_n 2, 1) := by decide +kernel
theorem dX8_distance_11 : decode cX8_distance 11 = .ok (.invokevirtual 62, 3) := by decide +kernel
theorem dX8_distance_14 : decode cX8_distance 14 = .ok (.ifCond .eq 7, 3) := by decide +kernel
theorem dX8_distance_17 : decode cX8_distance 17 = .ok (.iconst 0, 1) := by decide +kernel
theorem dX8_distance_18 : decode cX8_distance 18 = .ok (.goto 4, 3) := by decide +kernel
theorem dX8_distance_21 : decode cX8_distance 21 = .ok (.iconst 1, 1) := by decide +kernel
theorem dX8_distance_22 : decode cX8_distance 22 = .ok (.putfield 47, 3) := by decide +kernel
theorem dX8_distance_25 : decode cX8_distance 25 = .ok (.aload_n 0, 1) := by decide +kernel
theorem dX8_distance_26 : decode cX8_distance 26 = .ok (.getfield 47, 3) := by decide +kernel
theorem dX8_distance_29 : decode cX8_distance 29 = .ok (.ifCond .le 5, 3) := by decide +kernel
theorem dX8_distance_32 : decode cX8_distance 32 = .ok (.lconst 0, 1) := by decide +kernel
theorem dX8_distance_33 : decode cX8_distance 33 = .ok (.lreturn, 1) := by decide +kernel
theorem dX8_distance_34 : decode cX8_distance 34 = .ok (.iload_n 1, 1) := by decide +kernel
theorem dX8_distance_35 : decode cX8_distance 35 = .ok (.iload_n 2, 1) := by decide +kernel
theorem dX8_distance_36 : decode cX8_distance 36 = .ok (.if_icmp .ne 15, 3) := by decide +kernel
theorem dX8_distance_39 : decode cX8_distance 39 = .ok (.iload_n 3, 1) := by decide +kernel
theorem dX8_distance_40 : decode cX8_distance 40 = .ok (.ifCond .eq 7, 3) := by decide +kernel
theorem dX8_distance_43 : decode cX8_distance 43 = .ok (.lconst 1, 1) := by decide +kernel
theorem dX8_distance_44 : decode cX8_distance 44 = .ok (.goto 27, 3) := by decide +kernel
theorem dX8_distance_47 : decode cX8_distance 47 = .ok (.lconst 0, 1) := by decide +kernel
theorem dX8_distance_48 : decode cX8_distance 48 = .ok (.goto 23, 3) := by decide +kernel
theorem dX8_distance_51 : decode cX8_distance 51 = .ok (.aload_n 0, 1) := by decide +kernel
theorem dX8_distance_52 : decode cX8_distance 52 = .ok (.iconst 4, 1) := by decide +kernel
theorem dX8_distance_53 : decode cX8_distance 53 = .ok (.iload_n 1, 1) := by decide +kernel
theorem dX8_distance_54 : decode cX8_distance 54 = .ok (.iload_n 2, 1) := by decide +kernel
theorem dX8_distance_55 : decode cX8_distance 55 = .ok (.iconst 0, 1) := by decide +kernel
theorem dX8_distance_56 : decode cX8_distance 56 = .ok (.invokevirtual 117, 3) := by decide +kernel
theorem dX8_distance_59 : decode cX8_distance 59 = .ok (.aload_n 0, 1) := by decide +kernel
theorem dX8_distance_60 : decode cX8_distance 60 = .ok (.iconst 0, 1) := by decide +kernel
theorem dX8_distance_61 : decode cX8_distance 61 = .ok (.iconst 0, 1) := by decide +kernel
theorem dX8_distance_62 : decode cX8_distance 62 = .ok (.iconst 0, 1) := by decide +kernel
theorem dX8_distance_63 : decode cX8_distance 63 = .ok (.iconst 0, 1) := by decide +kernel
theorem dX8_distance_64 : decode cX8_distance 64 = .ok (.invokevirtual 117, 3) := by decide +kernel
theorem dX8_distance_67 : decode cX8_distance 67 = .ok (.iload_n 3, 1) := by decide +kernel
theorem dX8_distance_68 : decode cX8_distance 68 = .ok (.invokestatic 132, 3) := by decide +kernel
theorem dX8_distance_71 : decode cX8_distance 71 = .ok (.lreturn, 1) := by decide +kernel
set_option maxRecDepth 20000 in
theorem ggX8_chance_X8_isNode : GoodIn wsX8_chance wsX8_isNode := goodIn_r _ [6, 7, 8, 9, 5, 10, 11, 12, 13, 59, 60, 61, 62, 63, 64, 65, 66, 67, 68, 69, 70, 71, 72, 73, 74, 75, 76, 77, 78, 79] (by decide +kernel) (by decide +kernel)
set_option maxRecDepth 20000 in
theorem gX8_chance_X8_isNode : GoodIn wsX8_chance (wsV RX8 62 RX8 yX8_isNode wsX8_isNode) := goodIn_app (goodIn_of _ (by decide +kernel)) ggX8_chance_X8_isNode
set_option maxRecDepth 20000 in
theorem ggX8_chance_X8_counts : GoodIn wsX8_chance wsX8_counts := goodIn_r _ [17, 7, 18, 19, 20, 5, 21, 22, 23, 24, 25, 26, 11, 12, 13, 27, 28, 29, 30, 31, 32, 33, 34, 35, 36, 37, 38, 39, 40, 41, 42, 43, 44, 45, 46, 47, 48, 49, 50, 51, 52, 59, 60, 61, 62, 63, 64, 65, 66, 67, 68, 69, 70, 71, 72, 73, 74, 75, 76, 77, 78, 79] (by decide +kernel) (by decide +kernel)
set_option maxRecDepth 20000 in
theorem gX8_chance_X8_counts : GoodIn wsX8_chance (wsV RX8 117 RX8 yX8_counts wsX8_counts) := goodIn_app (goodIn_of _ (by decide +kernel)) ggX8_chance_X8_counts
set_option maxRecDepth 20000 in
theorem ggX8_chance_X8_part : GoodIn wsX8_chance wsX8_part := goodIn_r _ [55, 56, 57, 5, 58] (by decide +kernel) (by decide +kernel)
set_option maxRecDepth 20000 in
theorem gX8_chance_X8_part : GoodIn wsX8_chance (va_wsS RX8 132 yX8_part wsX8_part) := goodIn_app (goodIn_of _ (by decide +kernel)) ggX8_chance_X8_part
theorem dX8_chance_0 : decode cX8_chance 0 = .ok (.aload_n 0, 1) := by decide +kernel
theorem dX8_chance_1 : decode cX8_chance 1 = .ok (.aload_n 0, 1) := by decide +kernel
theorem dX8_chance_2 : decode cX8_chance 2 = .ok (.iload_n 1, 1) := by decide +kernel
theorem dX8_chance_3 : decode cX8_chance 3 = .ok (.invokevirtual 62, 3) := by decide +kernel
theorem dX8_chance_6 : decode cX8_chance 6 = .ok (.ifCond .eq 19, 3) := by decide +kernel
theorem dX8_chance_9 : decode cX8_chance 9 = .ok (.aload_n 0, 1) := by decide +kernel
theorem dX8_chance_10 : decode cX8_chance 10 = .ok (.iload_n 2, 1) := by decide +kernel
theorem dX8_chance_11 : decode cX8_chance 11 = .ok (.invokevirtual 62, 3) := by decide +kernel
theorem dX8_chance_14 : decode cX8_chance 14 = .ok (.ifCond .eq 11, 3) := by decide +kernel
theorem dX8_chance_17 : decode cX8_chance 17 = .ok (.aload_n 0, 1) := by decide +kernel
theorem dX8_chance_18 : decode cX8_chance 18 = .ok (.iload_n 3, 1) := by decide +kernel
theorem dX8_chance_19 : decode cX8_chance 19 = .ok (.invokevirtual 62, 3) := by decide +kernel
theorem dX8_chance_22 : decode cX8_chance 22 = .ok (.ifCond .ne 7, 3) := by decide +kernel
theorem dX8_chance_25 : decode cX8_chance 25 = .ok (.iconst 1, 1) := by decide +kernel
theorem dX8_chance_26 : decode cX8_chance 26 = .ok (.goto 13, 3) := by decide +kernel
theorem dX8_chance_29 : decode cX8_chance 29 = .ok (.iload_n 2, 1) := by decide +kernel
theorem dX8_chance_30 : decode cX8_chance 30 = .ok (.iload_n 3, 1) := by decide +kernel
theorem dX8_chance_31 : decode cX8_chance 31 = .ok (.if_icmp .ne 7, 3) := by decide +kernel
theorem dX8_chance_34 : decode cX8_chance 34 = .ok (.iconst 2, 1) := by decide +kernel
theorem dX8_chance_35 : decode cX8_chance 35 = .ok (.goto 4, 3) := by decide +kernel
theorem dX8_chance_38 : decode cX8_chance 38 = .ok (.iconst 0, 1) := by decide +kernel
theorem dX8_chance_39 : decode cX8_chance 39 = .ok (.putfield 47, 3) := by decide +kernel
theorem dX8_chance_42 : decode cX8_chance 42 = .ok (.aload_n 0, 1) := by decide +kernel
theorem dX8_chance_43 : decode cX8_chance 43 = .ok (.getfield 47, 3) := by decide +kernel
theorem dX8_chance_46 : decode cX8_chance 46 = .ok (.ifCond .le 5, 3) := by decide +kernel
theorem dX8_chance_49 : decode cX8_chance 49 = .ok (.lconst 0, 1) := by decide +kernel
theorem dX8_chance_50 : decode cX8_chance 50 = .ok (.lreturn, 1) := by decide +kernel
theorem dX8_chance_51 : decode cX8_chance 51 = .ok (.aload_n 0, 1) := by decide +kernel
theorem dX8_chance_52 : decode cX8_chance 52 = .ok (.iconst 5, 1) := by decide +kernel
theorem dX8_chance_53 : decode cX8_chance 53 = .ok (.iload_n 2, 1) := by decide +kernel
theorem dX8_chance_54 : decode cX8_chance 54 = .ok (.iload_n 3, 1) := by decide +kernel
theorem dX8_chance_55 : decode cX8_chance 55 = .ok (.iload_n 1, 1) := by decide +kernel
theorem dX8_chance_56 : decode cX8_chance 56 = .ok (.invokevirtual 117, 3) := by decide +kernel
theorem dX8_chance_59 : decode cX8_chance 59 = .ok (.aload_n 0, 1) := by decide +kernel
theorem dX8_chance_60 : decode cX8_chance 60 = .ok (.iconst 4, 1) := by decide +kernel
theorem dX8_chance_61 : decode cX8_chance 61 = .ok (.iload_n 2, 1) := by decide +kernel
theorem dX8_chance_62 : decode cX8_chance 62 = .ok (.iload_n 3, 1) := by decide +kernel
theorem dX8_chance_63 : decode cX8_chance 63 = .ok (.iconst 0, 1) := by decide +kernel
theorem dX8_chance_64 : decode cX8_chance 64 = .ok (.invokevirtual 117, 3) := by decide +kernel
theorem dX8_chance_67 : decode cX8_chance 67 = .ok (.iload 4, 2) := by decide +kernel
theorem dX8_chance_69 : decode cX8_chance 69 = .ok (.invokestatic 132, 3) := by decide +kernel
theorem dX8_chance_72 : decode cX8_chance 72 = .ok (.lreturn, 1) := by decide +kernel
set_option maxRecDepth 20000 in
theorem ggX8_areJoined_X8_isIn : GoodIn wsX8_areJoined wsX8_isIn := goodIn_r _ [8] (by decide +kernel) (by decide +kernel)
set_option maxRecDepth 20000 in
theorem gX8_areJoined_X8_isIn : GoodIn wsX8_areJoined (va_wsS RX8 58 yX8_isIn wsX8_isIn) := goodIn_app (goodIn_of _ (by decide +kernel)) ggX8_areJoined_X8_isIn
theorem dX8_areJoined_0 : decode cX8_areJoined 0 = .ok (.iconst 0, 1) := by decide +kernel
theorem dX8_areJoined_1 : decode cX8_areJoined 1 = .ok (.istore_n 3, 1) := by decide +kernel
theorem dX8_areJoined_2 : decode cX8_areJoined 2 = .ok (.iconst 0, 1) := by decide +kernel
theorem dX8_areJoined_3 : decode cX8_areJoined 3 = .ok (.istore 4, 2) := by decide +kernel
theorem dX8_areJoined_5 : decode cX8_areJoined 5 = .ok (.iload 4, 2) := by decide +kernel
theorem dX8_areJoined_7 : decode cX8_areJoined 7 = .ok (.aload_n 0, 1) := by decide +kernel
theorem dX8_areJoined_8 : decode cX8_areJoined 8 = .ok (.getfield 82, 3) := by decide +kernel
theorem dX8_areJoined_11 : decode cX8_areJoined 11 = .ok (.if_icmp .ge 75, 3) := by decide +kernel
theorem dX8_areJoined_14 : decode cX8_areJoined 14 = .ok (.iload_n 3, 1) := by decide +kernel
theorem dX8_areJoined_15 : decode cX8_areJoined 15 = .ok (.ifCond .ne 59, 3) := by decide +kernel
theorem dX8_areJoined_18 : decode cX8_areJoined 18 = .ok (.aload_n 0, 1) := by decide +kernel
theorem dX8_areJoined_19 : decode cX8_areJoined 19 = .ok (.getfield 69, 3) := by decide +kernel
theorem dX8_areJoined_22 : decode cX8_areJoined 22 = .ok (.iload 4, 2) := by decide +kernel
theorem dX8_areJoined_24 : decode cX8_areJoined 24 = .ok (.invokestatic 58, 3) := by decide +kernel
theorem dX8_areJoined_27 : decode cX8_areJoined 27 = .ok (.ifCond .eq 51, 3) := by decide +kernel
theorem dX8_areJoined_30 : decode cX8_areJoined 30 = .ok (.aload_n 0, 1) := by decide +kernel
theorem dX8_areJoined_31 : decode cX8_areJoined 31 = .ok (.getfield 7, 3) := by decide +kernel
theorem dX8_areJoined_34 : decode cX8_areJoined 34 = .ok (.iload 4, 2) := by decide +kernel
theorem dX8_areJoined_36 : decode cX8_areJoined 36 = .ok (.iaload, 1) := by decide +kernel
theorem dX8_areJoined_37 : decode cX8_areJoined 37 = .ok (.iload_n 1, 1) := by decide +kernel
theorem dX8_areJoined_38 : decode cX8_areJoined 38 = .ok (.if_icmp .ne 14, 3) := by decide +kernel
theorem dX8_areJoined_41 : decode cX8_areJoined 41 = .ok (.aload_n 0, 1) := by decide +kernel
theorem dX8_areJoined_42 : decode cX8_areJoined 42 = .ok (.getfield 13, 3) := by decide +kernel
theorem dX8_areJoined_45 : decode cX8_areJoined 45 = .ok (.iload 4, 2) := by decide +kernel
theorem dX8_areJoined_47 : decode cX8_areJoined 47 = .ok (.iaload, 1) := by decide +kernel
theorem dX8_areJoined_48 : decode cX8_areJoined 48 = .ok (.iload_n 2, 1) := by decide +kernel
theorem dX8_areJoined_49 : decode cX8_areJoined 49 = .ok (.if_icmp .eq 25, 3) := by decide +kernel
theorem dX8_areJoined_52 : decode cX8_areJoined 52 = .ok (.aload_n 0, 1) := by decide +kernel
theorem dX8_areJoined_53 : decode cX8_areJoined 53 = .ok (.getfield 7, 3) := by decide +kernel
theorem dX8_areJoined_56 : decode cX8_areJoined 56 = .ok (.iload 4, 2) := by decide +kernel
theorem dX8_areJoined_58 : decode cX8_areJoined 58 = .ok (.iaload, 1) := by decide +kernel
theorem dX8_areJoined_59 : decode cX8_areJoined 59 = .ok (.iload_n 2, 1) := by decide +kernel
theorem dX8_areJoined_60 : decode cX8_areJoined 60 = .ok (.if_icmp .ne 18, 3) := by decide +kernel
theorem dX8_areJoined_63 : decode cX8_areJoined 63 = .ok (.aload_n 0, 1) := by decide +kernel
theorem dX8_areJoined_64 : decode cX8_areJoined 64 = .ok (.getfield 13, 3) := by decide +kernel
theorem dX8_areJoined_67 : decode cX8_areJoined 67 = .ok (.iload 4, 2) := by decide +kernel
theorem dX8_areJoined_69 : decode cX8_areJoined 69 = .ok (.iaload, 1) := by decide +kernel
theorem dX8_areJoined_70 : decode cX8_areJoined 70 = .ok (.iload_n 1, 1) := by decide +kernel
theorem dX8_areJoined_71 : decode cX8_areJoined 71 = .ok (.if_icmp .ne 7, 3) := by decide +kernel
theorem dX8_areJoined_74 : decode cX8_areJoined 74 = .ok (.iconst 1, 1) := by decide +kernel
theorem dX8_areJoined_75 : decode cX8_areJoined 75 = .ok (.goto 4, 3) := by decide +kernel
theorem dX8_areJoined_78 : decode cX8_areJoined 78 = .ok (.iconst 0, 1) := by decide +kernel
theorem dX8_areJoined_79 : decode cX8_areJoined 79 = .ok (.istore_n 3, 1) := by decide +kernel
theorem dX8_areJoined_80 : decode cX8_areJoined 80 = .ok (.iinc 4 1, 3) := by decide +kernel
theorem dX8_areJoined_83 : decode cX8_areJoined 83 = .ok (.goto (-78), 3) := by decide +kernel
theorem dX8_areJoined_86 : decode cX8_areJoined 86 = .ok (.iload_n 3, 1) := by decide +kernel
theorem dX8_areJoined_87 : decode cX8_areJoined 87 = .ok (.ireturn, 1) := by decide +kernel
set_option maxRecDepth 20000 in
theorem ggX8_erases_X8_areJoined : GoodIn wsX8_erases wsX8_areJoined := goodIn_r _ [6, 7, 8, 9, 10, 11, 12, 5, 13, 14, 15, 16, 17, 18, 19, 20, 21, 22, 23, 24, 25, 26, 27, 28, 29, 30, 31, 32, 33, 34] (by decide +kernel) (by decide +kernel)
set_option maxRecDepth 20000 in
theorem gX8_erases_X8_areJoined : GoodIn wsX8_erases (wsV RX8 139 RX8 yX8_areJoined wsX8_areJoined) := goodIn_app (goodIn_of _ (by decide +kernel)) ggX8_erases_X8_areJoined
theorem dX8_erases_0 : decode cX8_erases 0 = .ok (.iconst 0, 1) := by decide +kernel
theorem dX8_erases_1 : decode cX8_erases 1 = .ok (.istore_n 2, 1) := by decide +kernel
theorem dX8_erases_2 : decode cX8_erases 2 = .ok (.iconst 0, 1) := by decide +kernel
theorem dX8_erases_3 : decode cX8_erases 3 = .ok (.istore_n 3, 1) := by decide +kernel
theorem dX8_erases_4 : decode cX8_erases 4 = .ok (.iload_n 3, 1) := by decide +kernel
theorem dX8_erases_5 : decode cX8_erases 5 = .ok (.iload_n 1, 1) := by decide +kernel
theorem dX8_erases_6 : decode cX8_erases 6 = .ok (.if_icmp .ge 36, 3) := by decide +kernel
theorem dX8_erases_9 : decode cX8_erases 9 = .ok (.iload_n 3, 1) := by decide +kernel
theorem dX8_erases_10 : decode cX8_erases 10 = .ok (.ifCond .le 26, 3) := by decide +kernel
theorem dX8_erases_13 : decode cX8_erases 13 = .ok (.aload_n 0, 1) := by decide +kernel
theorem dX8_erases_14 : decode cX8_erases 14 = .ok (.aload_n 0, 1) := by decide +kernel
theorem dX8_erases_15 : decode cX8_erases 15 = .ok (.getfield 38, 3) := by decide +kernel
theorem dX8_erases_18 : decode cX8_erases 18 = .ok (.iload_n 3, 1) := by decide +kernel
theorem dX8_erases_19 : decode cX8_erases 19 = .ok (.iconst 1, 1) := by decide +kernel
theorem dX8_erases_20 : decode cX8_erases 20 = .ok (.isub, 1) := by decide +kernel
theorem dX8_erases_21 : decode cX8_erases 21 = .ok (.iaload, 1) := by decide +kernel
theorem dX8_erases_22 : decode cX8_erases 22 = .ok (.aload_n 0, 1) := by decide +kernel
theorem dX8_erases_23 : decode cX8_erases 23 = .ok (.getfield 38, 3) := by decide +kernel
theorem dX8_erases_26 : decode cX8_erases 26 = .ok (.iload_n 3, 1) := by decide +kernel
theorem dX8_erases_27 : decode cX8_erases 27 = .ok (.iaload, 1) := by decide +kernel
theorem dX8_erases_28 : decode cX8_erases 28 = .ok (.invokevirtual 139, 3) := by decide +kernel
theorem dX8_erases_31 : decode cX8_erases 31 = .ok (.ifCond .ne 5, 3) := by decide +kernel
theorem dX8_erases_34 : decode cX8_erases 34 = .ok (.iconst (-1), 1) := by decide +kernel
theorem dX8_erases_35 : decode cX8_erases 35 = .ok (.ireturn, 1) := by decide +kernel
theorem dX8_erases_36 : decode cX8_erases 36 = .ok (.iinc 3 1, 3) := by decide +kernel
theorem dX8_erases_39 : decode cX8_erases 39 = .ok (.goto (-35), 3) := by decide +kernel
theorem dX8_erases_42 : decode cX8_erases 42 = .ok (.iconst 0, 1) := by decide +kernel
theorem dX8_erases_43 : decode cX8_erases 43 = .ok (.istore_n 3, 1) := by decide +kernel
theorem dX8_erases_44 : decode cX8_erases 44 = .ok (.iload_n 3, 1) := by decide +kernel
theorem dX8_erases_45 : decode cX8_erases 45 = .ok (.iload_n 1, 1) := by decide +kernel
theorem dX8_erases_46 : decode cX8_erases 46 = .ok (.if_icmp .ge 58, 3) := by decide +kernel
theorem dX8_erases_49 : decode cX8_erases 49 = .ok (.aload_n 0, 1) := by decide +kernel
theorem dX8_erases_50 : decode cX8_erases 50 = .ok (.getfield 38, 3) := by decide +kernel
theorem dX8_erases_53 : decode cX8_erases 53 = .ok (.iload_n 3, 1) := by decide +kernel
theorem dX8_erases_54 : decode cX8_erases 54 = .ok (.iaload, 1) := by decide +kernel
theorem dX8_erases_55 : decode cX8_erases 55 = .ok (.istore 4, 2) := by decide +kernel
theorem dX8_erases_57 : decode cX8_erases 57 = .ok (.iconst 0, 1) := by decide +kernel
theorem dX8_erases_58 : decode cX8_erases 58 = .ok (.istore 5, 2) := by decide +kernel
theorem dX8_erases_60 : decode cX8_erases 60 = .ok (.iload 5, 2) := by decide +kernel
theorem dX8_erases_62 : decode cX8_erases 62 = .ok (.iload_n 2, 1) := by decide +kernel
theorem dX8_erases_63 : decode cX8_erases 63 = .ok (.if_icmp .ge 21, 3) := by decide +kernel
theorem dX8_erases_66 : decode cX8_erases 66 = .ok (.aload_n 0, 1) := by decide +kernel
theorem dX8_erases_67 : decode cX8_erases 67 = .ok (.getfield 38, 3) := by decide +kernel
theorem dX8_erases_70 : decode cX8_erases 70 = .ok (.iload 5, 2) := by decide +kernel
theorem dX8_erases_72 : decode cX8_erases 72 = .ok (.iaload, 1) := by decide +kernel
theorem dX8_erases_73 : decode cX8_erases 73 = .ok (.iload 4, 2) := by decide +kernel
theorem dX8_erases_75 : decode cX8_erases 75 = .ok (.if_icmp .eq 9, 3) := by decide +kernel
theorem dX8_erases_78 : decode cX8_erases 78 = .ok (.iinc 5 1, 3) := by decide +kernel
theorem dX8_erases_81 : decode cX8_erases 81 = .ok (.goto (-21), 3) := by decide +kernel
theorem dX8_erases_84 : decode cX8_erases 84 = .ok (.aload_n 0, 1) := by decide +kernel
theorem dX8_erases_85 : decode cX8_erases 85 = .ok (.getfield 38, 3) := by decide +kernel
theorem dX8_erases_88 : decode cX8_erases 88 = .ok (.iload 5, 2) := by decide +kernel
theorem dX8_erases_90 : decode cX8_erases 90 = .ok (.iload 4, 2) := by decide +kernel
theorem dX8_erases_92 : decode cX8_erases 92 = .ok (.iastore, 1) := by decide +kernel
theorem dX8_erases_93 : decode cX8_erases 93 = .ok (.iload 5, 2) := by decide +kernel
theorem dX8_erases_95 : decode cX8_erases 95 = .ok (.iconst 1, 1) := by decide +kernel
theorem dX8_erases_96 : decode cX8_erases 96 = .ok (.iadd, 1) := by decide +kernel
theorem dX8_erases_97 : decode cX8_erases 97 = .ok (.istore_n 2, 1) := by decide +kernel
theorem dX8_erases_98 : decode cX8_erases 98 = .ok (.iinc 3 1, 3) := by decide +kernel
theorem dX8_erases_101 : decode cX8_erases 101 = .ok (.goto (-57), 3) := by decide +kernel
theorem dX8_erases_104 : decode cX8_erases 104 = .ok (.iload_n 2, 1) := by decide +kernel
theorem dX8_erases_105 : decode cX8_erases 105 = .ok (.ireturn, 1) := by decide +kernel
set_option maxRecDepth 20000 in
theorem ggX8_erased_X8_isNode : GoodIn wsX8_erased wsX8_isNode := goodIn_r _ [8, 9, 10, 11, 7, 12, 13, 14, 15, 28, 29, 30, 31, 32, 33, 34, 35, 36, 37, 38, 39, 40, 41, 42, 43, 44, 45, 46, 47, 48] (by decide +kernel) (by decide +kernel)
set_option maxRecDepth 20000 in
theorem gX8_erased_X8_isNode : GoodIn wsX8_erased (wsV RX8 62 RX8 yX8_isNode wsX8_isNode) := goodIn_app (goodIn_of _ (by decide +kernel)) ggX8_erased_X8_isNode
set_option maxRecDepth 20000 in
theorem ggX8_erased_X8_erases : GoodIn wsX8_erased wsX8_erases := goodIn_r _ [19, 3, 20, 21, 22, 7, 23, 24, 25, 26, 27, 13, 14, 15, 28, 29, 30, 31, 32, 33, 34, 35, 36, 37, 38, 39, 40, 41, 42, 43, 44, 45, 46, 47, 48] (by decide +kernel) (by decide +kernel)
set_option maxRecDepth 20000 in
theorem gX8_erased_X8_erases : GoodIn wsX8_erased (wsV RX8 143 RX8 yX8_erases wsX8_erases) := goodIn_app (goodIn_of _ (by decide +kernel)) ggX8_erased_X8_erases
theorem dX8_erased_0 : decode cX8_erased 0 = .ok (.iconst 0, 1) := by decide +kernel
theorem dX8_erased_1 : decode cX8_erased 1 = .ok (.istore_n 2, 1) := by decide +kernel
theorem dX8_erased_2 : decode cX8_erased 2 = .ok (.iload_n 1, 1) := by decide +kernel
theorem dX8_erased_3 : decode cX8_erased 3 = .ok (.iconst 1, 1) := by decide +kernel
theorem dX8_erased_4 : decode cX8_erased 4 = .ok (.if_icmp .lt 9, 3) := by decide +kernel
theorem dX8_erased_7 : decode cX8_erased 7 = .ok (.iload_n 1, 1) := by decide +kernel
theorem dX8_erased_8 : decode cX8_erased 8 = .ok (.ldc 142, 2) := by decide +kernel
theorem dX8_erased_10 : decode cX8_erased 10 = .ok (.if_icmp .le 7, 3) := by decide +kernel
theorem dX8_erased_13 : decode cX8_erased 13 = .ok (.iconst 1, 1) := by decide +kernel
theorem dX8_erased_14 : decode cX8_erased 14 = .ok (.goto 4, 3) := by decide +kernel
theorem dX8_erased_17 : decode cX8_erased 17 = .ok (.iconst 0, 1) := by decide +kernel
theorem dX8_erased_18 : decode cX8_erased 18 = .ok (.istore_n 3, 1) := by decide +kernel
theorem dX8_erased_19 : decode cX8_erased 19 = .ok (.aload_n 0, 1) := by decide +kernel
theorem dX8_erased_20 : decode cX8_erased 20 = .ok (.iconst 0, 1) := by decide +kernel
theorem dX8_erased_21 : decode cX8_erased 21 = .ok (.putfield 47, 3) := by decide +kernel
theorem dX8_erased_24 : decode cX8_erased 24 = .ok (.iload_n 1, 1) := by decide +kernel
theorem dX8_erased_25 : decode cX8_erased 25 = .ok (.istore 4, 2) := by decide +kernel
theorem dX8_erased_27 : decode cX8_erased 27 = .ok (.iload 4, 2) := by decide +kernel
theorem dX8_erased_29 : decode cX8_erased 29 = .ok (.ifCond .le 76, 3) := by decide +kernel
theorem dX8_erased_32 : decode cX8_erased 32 = .ok (.iload 4, 2) := by decide +kernel
theorem dX8_erased_34 : decode cX8_erased 34 = .ok (.bipush 10, 2) := by decide +kernel
theorem dX8_erased_36 : decode cX8_erased 36 = .ok (.irem, 1) := by decide +kernel
theorem dX8_erased_37 : decode cX8_erased 37 = .ok (.iconst 1, 1) := by decide +kernel
theorem dX8_erased_38 : decode cX8_erased 38 = .ok (.isub, 1) := by decide +kernel
theorem dX8_erased_39 : decode cX8_erased 39 = .ok (.istore 5, 2) := by decide +kernel
theorem dX8_erased_41 : decode cX8_erased 41 = .ok (.iload_n 3, 1) := by decide +kernel
theorem dX8_erased_42 : decode cX8_erased 42 = .ok (.ifCond .ne 9, 3) := by decide +kernel
theorem dX8_erased_45 : decode cX8_erased 45 = .ok (.iload 5, 2) := by decide +kernel
theorem dX8_erased_47 : decode cX8_erased 47 = .ok (.iconst (-1), 1) := by decide +kernel
theorem dX8_erased_48 : decode cX8_erased 48 = .ok (.if_icmp .ne 7, 3) := by decide +kernel
theorem dX8_erased_51 : decode cX8_erased 51 = .ok (.iconst 1, 1) := by decide +kernel
theorem dX8_erased_52 : decode cX8_erased 52 = .ok (.goto 4, 3) := by decide +kernel
theorem dX8_erased_55 : decode cX8_erased 55 = .ok (.iconst 0, 1) := by decide +kernel
theorem dX8_erased_56 : decode cX8_erased 56 = .ok (.istore_n 3, 1) := by decide +kernel
theorem dX8_erased_57 : decode cX8_erased 57 = .ok (.aload_n 0, 1) := by decide +kernel
theorem dX8_erased_58 : decode cX8_erased 58 = .ok (.iload 5, 2) := by decide +kernel
theorem dX8_erased_60 : decode cX8_erased 60 = .ok (.iconst (-1), 1) := by decide +kernel
theorem dX8_erased_61 : decode cX8_erased 61 = .ok (.if_icmp .eq 16, 3) := by decide +kernel
theorem dX8_erased_64 : decode cX8_erased 64 = .ok (.aload_n 0, 1) := by decide +kernel
theorem dX8_erased_65 : decode cX8_erased 65 = .ok (.iload 5, 2) := by decide +kernel
theorem dX8_erased_67 : decode cX8_erased 67 = .ok (.invokevirtual 62, 3) := by decide +kernel
theorem dX8_erased_70 : decode cX8_erased 70 = .ok (.ifCond .ne 7, 3) := by decide +kernel
theorem dX8_erased_73 : decode cX8_erased 73 = .ok (.iconst 1, 1) := by decide +kernel
theorem dX8_erased_74 : decode cX8_erased 74 = .ok (.goto 7, 3) := by decide +kernel
theorem dX8_erased_77 : decode cX8_erased 77 = .ok (.aload_n 0, 1) := by decide +kernel
theorem dX8_erased_78 : decode cX8_erased 78 = .ok (.getfield 47, 3) := by decide +kernel
theorem dX8_erased_81 : decode cX8_erased 81 = .ok (.putfield 47, 3) := by decide +kernel
theorem dX8_erased_84 : decode cX8_erased 84 = .ok (.aload_n 0, 1) := by decide +kernel
theorem dX8_erased_85 : decode cX8_erased 85 = .ok (.getfield 38, 3) := by decide +kernel
theorem dX8_erased_88 : decode cX8_erased 88 = .ok (.iload_n 2, 1) := by decide +kernel
theorem dX8_erased_89 : decode cX8_erased 89 = .ok (.iload 5, 2) := by decide +kernel
theorem dX8_erased_91 : decode cX8_erased 91 = .ok (.iastore, 1) := by decide +kernel
theorem dX8_erased_92 : decode cX8_erased 92 = .ok (.iinc 2 1, 3) := by decide +kernel
theorem dX8_erased_95 : decode cX8_erased 95 = .ok (.iload 4, 2) := by decide +kernel
theorem dX8_erased_97 : decode cX8_erased 97 = .ok (.bipush 10, 2) := by decide +kernel
theorem dX8_erased_99 : decode cX8_erased 99 = .ok (.idiv, 1) := by decide +kernel
theorem dX8_erased_100 : decode cX8_erased 100 = .ok (.istore 4, 2) := by decide +kernel
theorem dX8_erased_102 : decode cX8_erased 102 = .ok (.goto (-75), 3) := by decide +kernel
theorem dX8_erased_105 : decode cX8_erased 105 = .ok (.aload_n 0, 1) := by decide +kernel
theorem dX8_erased_106 : decode cX8_erased 106 = .ok (.aload_n 0, 1) := by decide +kernel
theorem dX8_erased_107 : decode cX8_erased 107 = .ok (.getfield 47, 3) := by decide +kernel
theorem dX8_erased_110 : decode cX8_erased 110 = .ok (.ifCond .ne 11, 3) := by decide +kernel
theorem dX8_erased_113 : decode cX8_erased 113 = .ok (.iload_n 3, 1) := by decide +kernel
theorem dX8_erased_114 : decode cX8_erased 114 = .ok (.ifCond .eq 7, 3) := by decide +kernel
theorem dX8_erased_117 : decode cX8_erased 117 = .ok (.iconst 2, 1) := by decide +kernel
theorem dX8_erased_118 : decode cX8_erased 118 = .ok (.goto 7, 3) := by decide +kernel
theorem dX8_erased_121 : decode cX8_erased 121 = .ok (.aload_n 0, 1) := by decide +kernel
theorem dX8_erased_122 : decode cX8_erased 122 = .ok (.getfield 47, 3) := by decide +kernel
theorem dX8_erased_125 : decode cX8_erased 125 = .ok (.putfield 47, 3) := by decide +kernel
theorem dX8_erased_128 : decode cX8_erased 128 = .ok (.aload_n 0, 1) := by decide +kernel
theorem dX8_erased_129 : decode cX8_erased 129 = .ok (.getfield 47, 3) := by decide +kernel
theorem dX8_erased_132 : decode cX8_erased 132 = .ok (.ifCond .le 5, 3) := by decide +kernel
theorem dX8_erased_135 : decode cX8_erased 135 = .ok (.iconst 0, 1) := by decide +kernel
theorem dX8_erased_136 : decode cX8_erased 136 = .ok (.ireturn, 1) := by decide +kernel
theorem dX8_erased_137 : decode cX8_erased 137 = .ok (.iconst 0, 1) := by decide +kernel
theorem dX8_erased_138 : decode cX8_erased 138 = .ok (.istore 4, 2) := by decide +kernel
theorem dX8_erased_140 : decode cX8_erased 140 = .ok (.iload 4, 2) := by decide +kernel
theorem dX8_erased_142 : decode cX8_erased 142 = .ok (.iload_n 2, 1) := by decide +kernel
theorem dX8_erased_143 : decode cX8_erased 143 = .ok (.iconst 2, 1) := by decide +kernel
theorem dX8_erased_144 : decode cX8_erased 144 = .ok (.idiv, 1) := by decide +kernel
theorem dX8_erased_145 : decode cX8_erased 145 = .ok (.if_icmp .ge 49, 3) := by decide +kernel
theorem dX8_erased_148 : decode cX8_erased 148 = .ok (.aload_n 0, 1) := by decide +kernel
theorem dX8_erased_149 : decode cX8_erased 149 = .ok (.getfield 38, 3) := by decide +kernel
theorem dX8_erased_152 : decode cX8_erased 152 = .ok (.iload 4, 2) := by decide +kernel
theorem dX8_erased_154 : decode cX8_erased 154 = .ok (.iaload, 1) := by decide +kernel
theorem dX8_erased_155 : decode cX8_erased 155 = .ok (.istore 5, 2) := by decide +kernel
theorem dX8_erased_157 : decode cX8_erased 157 = .ok (.aload_n 0, 1) := by decide +kernel
theorem dX8_erased_158 : decode cX8_erased 158 = .ok (.getfield 38, 3) := by decide +kernel
theorem dX8_erased_161 : decode cX8_erased 161 = .ok (.iload 4, 2) := by decide +kernel
theorem dX8_erased_163 : decode cX8_erased 163 = .ok (.aload_n 0, 1) := by decide +kernel
theorem dX8_erased_164 : decode cX8_erased 164 = .ok (.getfield 38, 3) := by decide +kernel
theorem dX8_erased_167 : decode cX8_erased 167 = .ok (.iload_n 2, 1) := by decide +kernel
theorem dX8_erased_168 : decode cX8_erased 168 = .ok (.iconst 1, 1) := by decide +kernel
theorem dX8_erased_169 : decode cX8_erased 169 = .ok (.isub, 1) := by decide +kernel
theorem dX8_erased_170 : decode cX8_erased 170 = .ok (.iload 4, 2) := by decide +kernel
theorem dX8_erased_172 : decode cX8_erased 172 = .ok (.isub, 1) := by decide +kernel
theorem dX8_erased_173 : decode cX8_erased 173 = .ok (.iaload, 1) := by decide +kernel
theorem dX8_erased_174 : decode cX8_erased 174 = .ok (.iastore, 1) := by decide +kernel
theorem dX8_erased_175 : decode cX8_erased 175 = .ok (.aload_n 0, 1) := by decide +kernel
theorem dX8_erased_176 : decode cX8_erased 176 = .ok (.getfield 38, 3) := by decide +kernel
theorem dX8_erased_179 : decode cX8_erased 179 = .ok (.iload_n 2, 1) := by decide +kernel
theorem dX8_erased_180 : decode cX8_erased 180 = .ok (.iconst 1, 1) := by decide +kernel
theorem dX8_erased_181 : decode cX8_erased 181 = .ok (.isub, 1) := by decide +kernel
theorem dX8_erased_182 : decode cX8_erased 182 = .ok (.iload 4, 2) := by decide +kernel
theorem dX8_erased_184 : decode cX8_erased 184 = .ok (.isub, 1) := by decide +kernel
theorem dX8_erased_185 : decode cX8_erased 185 = .ok (.iload 5, 2) := by decide +kernel
theorem dX8_erased_187 : decode cX8_erased 187 = .ok (.iastore, 1) := by decide +kernel
theorem dX8_erased_188 : decode cX8_erased 188 = .ok (.iinc 4 1, 3) := by decide +kernel
theorem dX8_erased_191 : decode cX8_erased 191 = .ok (.goto (-51), 3) := by decide +kernel
theorem dX8_erased_194 : decode cX8_erased 194 = .ok (.aload_n 0, 1) := by decide +kernel
theorem dX8_erased_195 : decode cX8_erased 195 = .ok (.iload_n 2, 1) := by decide +kernel
theorem dX8_erased_196 : decode cX8_erased 196 = .ok (.invokevirtual 143, 3) := by decide +kernel
theorem dX8_erased_199 : decode cX8_erased 199 = .ok (.istore 4, 2) := by decide +kernel
theorem dX8_erased_201 : decode cX8_erased 201 = .ok (.iconst 0, 1) := by decide +kernel
theorem dX8_erased_202 : decode cX8_erased 202 = .ok (.istore 5, 2) := by decide +kernel
theorem dX8_erased_204 : decode cX8_erased 204 = .ok (.iconst 0, 1) := by decide +kernel
theorem dX8_erased_205 : decode cX8_erased 205 = .ok (.istore 6, 2) := by decide +kernel
theorem dX8_erased_207 : decode cX8_erased 207 = .ok (.iload 6, 2) := by decide +kernel
theorem dX8_erased_209 : decode cX8_erased 209 = .ok (.iload 4, 2) := by decide +kernel
theorem dX8_erased_211 : decode cX8_erased 211 = .ok (.if_icmp .ge 26, 3) := by decide +kernel
theorem dX8_erased_214 : decode cX8_erased 214 = .ok (.bipush 10, 2) := by decide +kernel
theorem dX8_erased_216 : decode cX8_erased 216 = .ok (.iload 5, 2) := by decide +kernel
theorem dX8_erased_218 : decode cX8_erased 218 = .ok (.imul, 1) := by decide +kernel
theorem dX8_erased_219 : decode cX8_erased 219 = .ok (.aload_n 0, 1) := by decide +kernel
theorem dX8_erased_220 : decode cX8_erased 220 = .ok (.getfield 38, 3) := by decide +kernel
theorem dX8_erased_223 : decode cX8_erased 223 = .ok (.iload 6, 2) := by decide +kernel
theorem dX8_erased_225 : decode cX8_erased 225 = .ok (.iaload, 1) := by decide +kernel
theorem dX8_erased_226 : decode cX8_erased 226 = .ok (.iadd, 1) := by decide +kernel
theorem dX8_erased_227 : decode cX8_erased 227 = .ok (.iconst 1, 1) := by decide +kernel
theorem dX8_erased_228 : decode cX8_erased 228 = .ok (.iadd, 1) := by decide +kernel
theorem dX8_erased_229 : decode cX8_erased 229 = .ok (.istore 5, 2) := by decide +kernel
theorem dX8_erased_231 : decode cX8_erased 231 = .ok (.iinc 6 1, 3) := by decide +kernel
theorem dX8_erased_234 : decode cX8_erased 234 = .ok (.goto (-27), 3) := by decide +kernel
theorem dX8_erased_237 : decode cX8_erased 237 = .ok (.iload 4, 2) := by decide +kernel
theorem dX8_erased_239 : decode cX8_erased 239 = .ok (.iconst (-1), 1) := by decide +kernel
theorem dX8_erased_240 : decode cX8_erased 240 = .ok (.if_icmp .ne 7, 3) := by decide +kernel
theorem dX8_erased_243 : decode cX8_erased 243 = .ok (.iconst (-1), 1) := by decide +kernel
theorem dX8_erased_244 : decode cX8_erased 244 = .ok (.goto 5, 3) := by decide +kernel
theorem dX8_erased_247 : decode cX8_erased 247 = .ok (.iload 5, 2) := by decide +kernel
theorem dX8_erased_249 : decode cX8_erased 249 = .ok (.ireturn, 1) := by decide +kernel
set_option maxRecDepth 20000 in
theorem ggX8_others_X8_isEdge : GoodIn wsX8_others wsX8_isEdge := goodIn_r _ [5, 6, 7, 8, 9, 4, 10, 11, 12, 13, 14, 15, 16, 17, 18, 19, 20, 21, 22, 23, 24, 25, 26, 27, 28, 29, 30, 31, 32, 33, 34, 35, 36, 37, 38] (by decide +kernel) (by decide +kernel)
set_option maxRecDepth 20000 in
theorem gX8_others_X8_isEdge : GoodIn wsX8_others (wsV RX8 129 RX8 yX8_isEdge wsX8_isEdge) := goodIn_app (goodIn_of _ (by decide +kernel)) ggX8_others_X8_isEdge
theorem dX8_others_0 : decode cX8_others 0 = .ok (.iconst 0, 1) := by decide +kernel
theorem dX8_others_1 : decode cX8_others 1 = .ok (.istore_n 2, 1) := by decide +kernel
theorem dX8_others_2 : decode cX8_others 2 = .ok (.iconst 0, 1) := by decide +kernel
theorem dX8_others_3 : decode cX8_others 3 = .ok (.istore_n 3, 1) := by decide +kernel
theorem dX8_others_4 : decode cX8_others 4 = .ok (.iload_n 3, 1) := by decide +kernel
theorem dX8_others_5 : decode cX8_others 5 = .ok (.bipush 7, 2) := by decide +kernel
theorem dX8_others_7 : decode cX8_others 7 = .ok (.if_icmp .ge 33, 3) := by decide +kernel
theorem dX8_others_10 : decode cX8_others 10 = .ok (.aload_n 0, 1) := by decide +kernel
theorem dX8_others_11 : decode cX8_others 11 = .ok (.iload_n 3, 1) := by decide +kernel
theorem dX8_others_12 : decode cX8_others 12 = .ok (.invokevirtual 129, 3) := by decide +kernel
theorem dX8_others_15 : decode cX8_others 15 = .ok (.ifCond .eq 17, 3) := by decide +kernel
theorem dX8_others_18 : decode cX8_others 18 = .ok (.iload_n 3, 1) := by decide +kernel
theorem dX8_others_19 : decode cX8_others 19 = .ok (.iload_n 1, 1) := by decide +kernel
theorem dX8_others_20 : decode cX8_others 20 = .ok (.if_icmp .eq 12, 3) := by decide +kernel
theorem dX8_others_23 : decode cX8_others 23 = .ok (.bipush 10, 2) := by decide +kernel
theorem dX8_others_25 : decode cX8_others 25 = .ok (.iload_n 2, 1) := by decide +kernel
theorem dX8_others_26 : decode cX8_others 26 = .ok (.imul, 1) := by decide +kernel
theorem dX8_others_27 : decode cX8_others 27 = .ok (.iload_n 3, 1) := by decide +kernel
theorem dX8_others_28 : decode cX8_others 28 = .ok (.iadd, 1) := by decide +kernel
theorem dX8_others_29 : decode cX8_others 29 = .ok (.goto 4, 3) := by decide +kernel
theorem dX8_others_32 : decode cX8_others 32 = .ok (.iload_n 2, 1) := by decide +kernel
theorem dX8_others_33 : decode cX8_others 33 = .ok (.istore_n 2, 1) := by decide +kernel
theorem dX8_others_34 : decode cX8_others 34 = .ok (.iinc 3 1, 3) := by decide +kernel
theorem dX8_others_37 : decode cX8_others 37 = .ok (.goto (-33), 3) := by decide +kernel
theorem dX8_others_40 : decode cX8_others 40 = .ok (.iload_n 2, 1) := by decide +kernel
theorem dX8_others_41 : decode cX8_others 41 = .ok (.ireturn, 1) := by decide +kernel
set_option maxRecDepth 20000 in
theorem ggX8_starred_X8_isEdge : GoodIn wsX8_starred wsX8_isEdge := goodIn_r _ [8, 2, 9, 10, 11, 7, 12, 3, 13, 14, 15, 16, 17, 18, 67, 68, 69, 70, 71, 72, 73, 74, 75, 76, 77, 78, 79, 80, 81, 82, 83, 84, 85, 86, 87] (by decide +kernel) (by decide +kernel)
set_option maxRecDepth 20000 in
theorem gX8_starred_X8_isEdge : GoodIn wsX8_starred (wsV RX8 129 RX8 yX8_isEdge wsX8_isEdge) := goodIn_app (goodIn_of _ (by decide +kernel)) ggX8_starred_X8_isEdge
set_option maxRecDepth 20000 in
theorem ggX8_starred_X8_many : GoodIn wsX8_starred wsX8_many := goodIn_r _ [21] (by decide +kernel) (by decide +kernel)
set_option maxRecDepth 20000 in
theorem gX8_starred_X8_many : GoodIn wsX8_starred (va_wsS RX8 85 yX8_many wsX8_many) := goodIn_app (goodIn_of _ (by decide +kernel)) ggX8_starred_X8_many
set_option maxRecDepth 20000 in
theorem ggX8_starred_X8_others : GoodIn wsX8_starred wsX8_others := goodIn_r _ [25, 4, 5, 6, 7, 8, 2, 9, 10, 11, 12, 3, 13, 14, 15, 16, 17, 18, 67, 68, 69, 70, 71, 72, 73, 74, 75, 76, 77, 78, 79, 80, 81, 82, 83, 84, 85, 86, 87] (by decide +kernel) (by decide +kernel)
set_option maxRecDepth 20000 in
theorem gX8_starred_X8_others : GoodIn wsX8_starred (wsV RX8 146 RX8 yX8_others wsX8_others) := goodIn_app (goodIn_of _ (by decide +kernel)) ggX8_starred_X8_others
set_option maxRecDepth 20000 in
theorem ggX8_starred_X8_counts : GoodIn wsX8_starred wsX8_counts := goodIn_r _ [29, 3, 30, 31, 32, 7, 33, 34, 35, 36, 37, 38, 16, 17, 18, 39, 40, 41, 42, 19, 20, 21, 43, 44, 45, 46, 47, 48, 49, 50, 51, 52, 53, 54, 55, 2, 56, 57, 58, 59, 60, 67, 68, 69, 70, 71, 72, 73, 74, 75, 76, 77, 78, 79, 80, 81, 82, 83, 84, 85, 86, 87] (by decide +kernel) (by decide +kernel)
set_option maxRecDepth 20000 in
theorem gX8_starred_X8_counts : GoodIn wsX8_starred (wsV RX8 117 RX8 yX8_counts wsX8_counts) := goodIn_app (goodIn_of _ (by decide +kernel)) ggX8_starred_X8_counts
set_option maxRecDepth 20000 in
theorem ggX8_starred_X8_part : GoodIn wsX8_starred wsX8_part := goodIn_r _ [63, 64, 65, 7, 66] (by decide +kernel) (by decide +kernel)
set_option maxRecDepth 20000 in
theorem gX8_starred_X8_part : GoodIn wsX8_starred (va_wsS RX8 132 yX8_part wsX8_part) := goodIn_app (goodIn_of _ (by decide +kernel)) ggX8_starred_X8_part
theorem dX8_starred_0 : decode cX8_starred 0 = .ok (.aload_n 0, 1) := by decide +kernel
theorem dX8_starred_1 : decode cX8_starred 1 = .ok (.aload_n 0, 1) := by decide +kernel
theorem dX8_starred_2 : decode cX8_starred 2 = .ok (.iload_n 1, 1) := by decide +kernel
theorem dX8_starred_3 : decode cX8_starred 3 = .ok (.invokevirtual 129, 3) := by decide +kernel
theorem dX8_starred_6 : decode cX8_starred 6 = .ok (.ifCond .eq 7, 3) := by decide +kernel
theorem dX8_starred_9 : decode cX8_starred 9 = .ok (.iconst 0, 1) := by decide +kernel
theorem dX8_starred_10 : decode cX8_starred 10 = .ok (.goto 4, 3) := by decide +kernel
theorem dX8_starred_13 : decode cX8_starred 13 = .ok (.iconst 1, 1) := by decide +kernel
theorem dX8_starred_14 : decode cX8_starred 14 = .ok (.putfield 47, 3) := by decide +kernel
theorem dX8_starred_17 : decode cX8_starred 17 = .ok (.aload_n 0, 1) := by decide +kernel
theorem dX8_starred_18 : decode cX8_starred 18 = .ok (.getfield 47, 3) := by decide +kernel
theorem dX8_starred_21 : decode cX8_starred 21 = .ok (.ifCond .gt 19, 3) := by decide +kernel
theorem dX8_starred_24 : decode cX8_starred 24 = .ok (.aload_n 0, 1) := by decide +kernel
theorem dX8_starred_25 : decode cX8_starred 25 = .ok (.getfield 66, 3) := by decide +kernel
theorem dX8_starred_28 : decode cX8_starred 28 = .ok (.aload_n 0, 1) := by decide +kernel
theorem dX8_starred_29 : decode cX8_starred 29 = .ok (.getfield 55, 3) := by decide +kernel
theorem dX8_starred_32 : decode cX8_starred 32 = .ok (.iand, 1) := by decide +kernel
theorem dX8_starred_33 : decode cX8_starred 33 = .ok (.invokestatic 85, 3) := by decide +kernel
theorem dX8_starred_36 : decode cX8_starred 36 = .ok (.iconst 3, 1) := by decide +kernel
theorem dX8_starred_37 : decode cX8_starred 37 = .ok (.if_icmp .eq 5, 3) := by decide +kernel
theorem dX8_starred_40 : decode cX8_starred 40 = .ok (.lconst 0, 1) := by decide +kernel
theorem dX8_starred_41 : decode cX8_starred 41 = .ok (.lreturn, 1) := by decide +kernel
theorem dX8_starred_42 : decode cX8_starred 42 = .ok (.aload_n 0, 1) := by decide +kernel
theorem dX8_starred_43 : decode cX8_starred 43 = .ok (.iload_n 1, 1) := by decide +kernel
theorem dX8_starred_44 : decode cX8_starred 44 = .ok (.invokevirtual 146, 3) := by decide +kernel
theorem dX8_starred_47 : decode cX8_starred 47 = .ok (.bipush 10, 2) := by decide +kernel
theorem dX8_starred_49 : decode cX8_starred 49 = .ok (.idiv, 1) := by decide +kernel
theorem dX8_starred_50 : decode cX8_starred 50 = .ok (.istore_n 3, 1) := by decide +kernel
theorem dX8_starred_51 : decode cX8_starred 51 = .ok (.aload_n 0, 1) := by decide +kernel
theorem dX8_starred_52 : decode cX8_starred 52 = .ok (.iload_n 1, 1) := by decide +kernel
theorem dX8_starred_53 : decode cX8_starred 53 = .ok (.invokevirtual 146, 3) := by decide +kernel
theorem dX8_starred_56 : decode cX8_starred 56 = .ok (.bipush 10, 2) := by decide +kernel
theorem dX8_starred_58 : decode cX8_starred 58 = .ok (.irem, 1) := by decide +kernel
theorem dX8_starred_59 : decode cX8_starred 59 = .ok (.istore 4, 2) := by decide +kernel
theorem dX8_starred_61 : decode cX8_starred 61 = .ok (.aload_n 0, 1) := by decide +kernel
theorem dX8_starred_62 : decode cX8_starred 62 = .ok (.iconst 2, 1) := by decide +kernel
theorem dX8_starred_63 : decode cX8_starred 63 = .ok (.iload_n 3, 1) := by decide +kernel
theorem dX8_starred_64 : decode cX8_starred 64 = .ok (.iload 4, 2) := by decide +kernel
theorem dX8_starred_66 : decode cX8_starred 66 = .ok (.iconst 0, 1) := by decide +kernel
theorem dX8_starred_67 : decode cX8_starred 67 = .ok (.invokevirtual 117, 3) := by decide +kernel
theorem dX8_starred_70 : decode cX8_starred 70 = .ok (.lstore 5, 2) := by decide +kernel
theorem dX8_starred_72 : decode cX8_starred 72 = .ok (.aload_n 0, 1) := by decide +kernel
theorem dX8_starred_73 : decode cX8_starred 73 = .ok (.iconst 2, 1) := by decide +kernel
theorem dX8_starred_74 : decode cX8_starred 74 = .ok (.iload_n 1, 1) := by decide +kernel
theorem dX8_starred_75 : decode cX8_starred 75 = .ok (.iload_n 3, 1) := by decide +kernel
theorem dX8_starred_76 : decode cX8_starred 76 = .ok (.iconst 0, 1) := by decide +kernel
theorem dX8_starred_77 : decode cX8_starred 77 = .ok (.invokevirtual 117, 3) := by decide +kernel
theorem dX8_starred_80 : decode cX8_starred 80 = .ok (.lconst 0, 1) := by decide +kernel
theorem dX8_starred_81 : decode cX8_starred 81 = .ok (.lcmp, 1) := by decide +kernel
theorem dX8_starred_82 : decode cX8_starred 82 = .ok (.ifCond .le 41, 3) := by decide +kernel
theorem dX8_starred_85 : decode cX8_starred 85 = .ok (.aload_n 0, 1) := by decide +kernel
theorem dX8_starred_86 : decode cX8_starred 86 = .ok (.iconst 2, 1) := by decide +kernel
theorem dX8_starred_87 : decode cX8_starred 87 = .ok (.iload_n 1, 1) := by decide +kernel
theorem dX8_starred_88 : decode cX8_starred 88 = .ok (.iload 4, 2) := by decide +kernel
theorem dX8_starred_90 : decode cX8_starred 90 = .ok (.iconst 0, 1) := by decide +kernel
theorem dX8_starred_91 : decode cX8_starred 91 = .ok (.invokevirtual 117, 3) := by decide +kernel
theorem dX8_starred_94 : decode cX8_starred 94 = .ok (.lconst 0, 1) := by decide +kernel
theorem dX8_starred_95 : decode cX8_starred 95 = .ok (.lcmp, 1) := by decide +kernel
theorem dX8_starred_96 : decode cX8_starred 96 = .ok (.ifCond .le 27, 3) := by decide +kernel
theorem dX8_starred_99 : decode cX8_starred 99 = .ok (.lload 5, 2) := by decide +kernel
theorem dX8_starred_101 : decode cX8_starred 101 = .ok (.lconst 0, 1) := by decide +kernel
theorem dX8_starred_102 : decode cX8_starred 102 = .ok (.lcmp, 1) := by decide +kernel
theorem dX8_starred_103 : decode cX8_starred 103 = .ok (.ifCond .le 20, 3) := by decide +kernel
theorem dX8_starred_106 : decode cX8_starred 106 = .ok (.aload_n 0, 1) := by decide +kernel
theorem dX8_starred_107 : decode cX8_starred 107 = .ok (.iconst 1, 1) := by decide +kernel
theorem dX8_starred_108 : decode cX8_starred 108 = .ok (.iconst 0, 1) := by decide +kernel
theorem dX8_starred_109 : decode cX8_starred 109 = .ok (.iconst 0, 1) := by decide +kernel
theorem dX8_starred_110 : decode cX8_starred 110 = .ok (.iconst 0, 1) := by decide +kernel
theorem dX8_starred_111 : decode cX8_starred 111 = .ok (.invokevirtual 117, 3) := by decide +kernel
theorem dX8_starred_114 : decode cX8_starred 114 = .ok (.lconst 0, 1) := by decide +kernel
theorem dX8_starred_115 : decode cX8_starred 115 = .ok (.lcmp, 1) := by decide +kernel
theorem dX8_starred_116 : decode cX8_starred 116 = .ok (.ifCond .le 7, 3) := by decide +kernel
theorem dX8_starred_119 : decode cX8_starred 119 = .ok (.iconst 1, 1) := by decide +kernel
theorem dX8_starred_120 : decode cX8_starred 120 = .ok (.goto 4, 3) := by decide +kernel
theorem dX8_starred_123 : decode cX8_starred 123 = .ok (.iconst 0, 1) := by decide +kernel
theorem dX8_starred_124 : decode cX8_starred 124 = .ok (.istore 7, 2) := by decide +kernel
theorem dX8_starred_126 : decode cX8_starred 126 = .ok (.iload 7, 2) := by decide +kernel
theorem dX8_starred_128 : decode cX8_starred 128 = .ok (.ifCond .eq 20, 3) := by decide +kernel
theorem dX8_starred_131 : decode cX8_starred 131 = .ok (.aload_n 0, 1) := by decide +kernel
theorem dX8_starred_132 : decode cX8_starred 132 = .ok (.iconst 0, 1) := by decide +kernel
theorem dX8_starred_133 : decode cX8_starred 133 = .ok (.iconst 0, 1) := by decide +kernel
theorem dX8_starred_134 : decode cX8_starred 134 = .ok (.iconst 0, 1) := by decide +kernel
theorem dX8_starred_135 : decode cX8_starred 135 = .ok (.iconst 0, 1) := by decide +kernel
theorem dX8_starred_136 : decode cX8_starred 136 = .ok (.invokevirtual 117, 3) := by decide +kernel
theorem dX8_starred_139 : decode cX8_starred 139 = .ok (.lload 5, 2) := by decide +kernel
theorem dX8_starred_141 : decode cX8_starred 141 = .ok (.iload_n 2, 1) := by decide +kernel
theorem dX8_starred_142 : decode cX8_starred 142 = .ok (.invokestatic 132, 3) := by decide +kernel
theorem dX8_starred_145 : decode cX8_starred 145 = .ok (.goto 4, 3) := by decide +kernel
theorem dX8_starred_148 : decode cX8_starred 148 = .ok (.lconst 0, 1) := by decide +kernel
theorem dX8_starred_149 : decode cX8_starred 149 = .ok (.lreturn, 1) := by decide +kernel
theorem dX8_otherEnd_0 : decode cX8_otherEnd 0 = .ok (.aload_n 2, 1) := by decide +kernel
theorem dX8_otherEnd_1 : decode cX8_otherEnd 1 = .ok (.iload_n 0, 1) := by decide +kernel
theorem dX8_otherEnd_2 : decode cX8_otherEnd 2 = .ok (.iaload, 1) := by decide +kernel
theorem dX8_otherEnd_3 : decode cX8_otherEnd 3 = .ok (.iload_n 1, 1) := by decide +kernel
theorem dX8_otherEnd_4 : decode cX8_otherEnd 4 = .ok (.if_icmp .ne 9, 3) := by decide +kernel
theorem dX8_otherEnd_7 : decode cX8_otherEnd 7 = .ok (.aload_n 3, 1) := by decide +kernel
theorem dX8_otherEnd_8 : decode cX8_otherEnd 8 = .ok (.iload_n 0, 1) := by decide +kernel
theorem dX8_otherEnd_9 : decode cX8_otherEnd 9 = .ok (.iaload, 1) := by decide +kernel
theorem dX8_otherEnd_10 : decode cX8_otherEnd 10 = .ok (.goto 6, 3) := by decide +kernel
theorem dX8_otherEnd_13 : decode cX8_otherEnd 13 = .ok (.aload_n 2, 1) := by decide +kernel
theorem dX8_otherEnd_14 : decode cX8_otherEnd 14 = .ok (.iload_n 0, 1) := by decide +kernel
theorem dX8_otherEnd_15 : decode cX8_otherEnd 15 = .ok (.iaload, 1) := by decide +kernel
theorem dX8_otherEnd_16 : decode cX8_otherEnd 16 = .ok (.ireturn, 1) := by decide +kernel
set_option maxRecDepth 20000 in
theorem ggX8_wiresOf_X8_isIn : GoodIn wsX8_wiresOf wsX8_isIn := goodIn_r _ [7] (by decide +kernel) (by decide +kernel)
set_option maxRecDepth 20000 in
theorem gX8_wiresOf_X8_isIn : GoodIn wsX8_wiresOf (va_wsS RX8 58 yX8_isIn wsX8_isIn) := goodIn_app (goodIn_of _ (by decide +kernel)) ggX8_wiresOf_X8_isIn
theorem dX8_wiresOf_0 : decode cX8_wiresOf 0 = .ok (.iconst 0, 1) := by decide +kernel
theorem dX8_wiresOf_1 : decode cX8_wiresOf 1 = .ok (.istore_n 2, 1) := by decide +kernel
theorem dX8_wiresOf_2 : decode cX8_wiresOf 2 = .ok (.iconst 0, 1) := by decide +kernel
theorem dX8_wiresOf_3 : decode cX8_wiresOf 3 = .ok (.istore_n 3, 1) := by decide +kernel
theorem dX8_wiresOf_4 : decode cX8_wiresOf 4 = .ok (.iload_n 3, 1) := by decide +kernel
theorem dX8_wiresOf_5 : decode cX8_wiresOf 5 = .ok (.bipush 20, 2) := by decide +kernel
theorem dX8_wiresOf_7 : decode cX8_wiresOf 7 = .ok (.if_icmp .ge 48, 3) := by decide +kernel
theorem dX8_wiresOf_10 : decode cX8_wiresOf 10 = .ok (.iload_n 2, 1) := by decide +kernel
theorem dX8_wiresOf_11 : decode cX8_wiresOf 11 = .ok (.aload_n 0, 1) := by decide +kernel
theorem dX8_wiresOf_12 : decode cX8_wiresOf 12 = .ok (.getfield 69, 3) := by decide +kernel
theorem dX8_wiresOf_15 : decode cX8_wiresOf 15 = .ok (.iload_n 3, 1) := by decide +kernel
theorem dX8_wiresOf_16 : decode cX8_wiresOf 16 = .ok (.invokestatic 58, 3) := by decide +kernel
theorem dX8_wiresOf_19 : decode cX8_wiresOf 19 = .ok (.ifCond .eq 27, 3) := by decide +kernel
theorem dX8_wiresOf_22 : decode cX8_wiresOf 22 = .ok (.aload_n 0, 1) := by decide +kernel
theorem dX8_wiresOf_23 : decode cX8_wiresOf 23 = .ok (.getfield 7, 3) := by decide +kernel
theorem dX8_wiresOf_26 : decode cX8_wiresOf 26 = .ok (.iload_n 3, 1) := by decide +kernel
theorem dX8_wiresOf_27 : decode cX8_wiresOf 27 = .ok (.iaload, 1) := by decide +kernel
theorem dX8_wiresOf_28 : decode cX8_wiresOf 28 = .ok (.iload_n 1, 1) := by decide +kernel
theorem dX8_wiresOf_29 : decode cX8_wiresOf 29 = .ok (.if_icmp .eq 13, 3) := by decide +kernel
theorem dX8_wiresOf_32 : decode cX8_wiresOf 32 = .ok (.aload_n 0, 1) := by decide +kernel
theorem dX8_wiresOf_33 : decode cX8_wiresOf 33 = .ok (.getfield 13, 3) := by decide +kernel
theorem dX8_wiresOf_36 : decode cX8_wiresOf 36 = .ok (.iload_n 3, 1) := by decide +kernel
theorem dX8_wiresOf_37 : decode cX8_wiresOf 37 = .ok (.iaload, 1) := by decide +kernel
theorem dX8_wiresOf_38 : decode cX8_wiresOf 38 = .ok (.iload_n 1, 1) := by decide +kernel
theorem dX8_wiresOf_39 : decode cX8_wiresOf 39 = .ok (.if_icmp .ne 7, 3) := by decide +kernel
theorem dX8_wiresOf_42 : decode cX8_wiresOf 42 = .ok (.iconst 1, 1) := by decide +kernel
theorem dX8_wiresOf_43 : decode cX8_wiresOf 43 = .ok (.goto 4, 3) := by decide +kernel
theorem dX8_wiresOf_46 : decode cX8_wiresOf 46 = .ok (.iconst 0, 1) := by decide +kernel
theorem dX8_wiresOf_47 : decode cX8_wiresOf 47 = .ok (.iadd, 1) := by decide +kernel
theorem dX8_wiresOf_48 : decode cX8_wiresOf 48 = .ok (.istore_n 2, 1) := by decide +kernel
theorem dX8_wiresOf_49 : decode cX8_wiresOf 49 = .ok (.iinc 3 1, 3) := by decide +kernel
theorem dX8_wiresOf_52 : decode cX8_wiresOf 52 = .ok (.goto (-48), 3) := by decide +kernel
theorem dX8_wiresOf_55 : decode cX8_wiresOf 55 = .ok (.iload_n 2, 1) := by decide +kernel
theorem dX8_wiresOf_56 : decode cX8_wiresOf 56 = .ok (.ireturn, 1) := by decide +kernel
set_option maxRecDepth 20000 in
theorem ggX8_finds_X8_isIn : GoodIn wsX8_finds wsX8_isIn := goodIn_r _ [9] (by decide +kernel) (by decide +kernel)
set_option maxRecDepth 20000 in
theorem gX8_finds_X8_isIn : GoodIn wsX8_finds (va_wsS RX8 58 yX8_isIn wsX8_isIn) := goodIn_app (goodIn_of _ (by decide +kernel)) ggX8_finds_X8_isIn
set_option maxRecDepth 20000 in
theorem ggX8_finds_X8_otherEnd : GoodIn wsX8_finds wsX8_otherEnd := goodIn_r _ [12] (by decide +kernel) (by decide +kernel)
set_option maxRecDepth 20000 in
theorem gX8_finds_X8_otherEnd : GoodIn wsX8_finds (va_wsS RX8 149 yX8_otherEnd wsX8_otherEnd) := goodIn_app (goodIn_of _ (by decide +kernel)) ggX8_finds_X8_otherEnd
theorem dX8_finds_0 : decode cX8_finds 0 = .ok (.iconst 0, 1) := by decide +kernel
theorem dX8_finds_1 : decode cX8_finds 1 = .ok (.istore_n 2, 1) := by decide +kernel
theorem dX8_finds_2 : decode cX8_finds 2 = .ok (.iconst 0, 1) := by decide +kernel
theorem dX8_finds_3 : decode cX8_finds 3 = .ok (.istore_n 3, 1) := by decide +kernel
theorem dX8_finds_4 : decode cX8_finds 4 = .ok (.iload_n 3, 1) := by decide +kernel
theorem dX8_finds_5 : decode cX8_finds 5 = .ok (.bipush 20, 2) := by decide +kernel
theorem dX8_finds_7 : decode cX8_finds 7 = .ok (.if_icmp .ge 69, 3) := by decide +kernel
theorem dX8_finds_10 : decode cX8_finds 10 = .ok (.aload_n 0, 1) := by decide +kernel
theorem dX8_finds_11 : decode cX8_finds 11 = .ok (.getfield 69, 3) := by decide +kernel
theorem dX8_finds_14 : decode cX8_finds 14 = .ok (.iload_n 3, 1) := by decide +kernel
theorem dX8_finds_15 : decode cX8_finds 15 = .ok (.invokestatic 58, 3) := by decide +kernel
theorem dX8_finds_18 : decode cX8_finds 18 = .ok (.ifCond .eq 52, 3) := by decide +kernel
theorem dX8_finds_21 : decode cX8_finds 21 = .ok (.aload_n 0, 1) := by decide +kernel
theorem dX8_finds_22 : decode cX8_finds 22 = .ok (.getfield 7, 3) := by decide +kernel
theorem dX8_finds_25 : decode cX8_finds 25 = .ok (.iload_n 3, 1) := by decide +kernel
theorem dX8_finds_26 : decode cX8_finds 26 = .ok (.iaload, 1) := by decide +kernel
theorem dX8_finds_27 : decode cX8_finds 27 = .ok (.iload_n 1, 1) := by decide +kernel
theorem dX8_finds_28 : decode cX8_finds 28 = .ok (.if_icmp .eq 13, 3) := by decide +kernel
theorem dX8_finds_31 : decode cX8_finds 31 = .ok (.aload_n 0, 1) := by decide +kernel
theorem dX8_finds_32 : decode cX8_finds 32 = .ok (.getfield 13, 3) := by decide +kernel
theorem dX8_finds_35 : decode cX8_finds 35 = .ok (.iload_n 3, 1) := by decide +kernel
theorem dX8_finds_36 : decode cX8_finds 36 = .ok (.iaload, 1) := by decide +kernel
theorem dX8_finds_37 : decode cX8_finds 37 = .ok (.iload_n 1, 1) := by decide +kernel
theorem dX8_finds_38 : decode cX8_finds 38 = .ok (.if_icmp .ne 32, 3) := by decide +kernel
theorem dX8_finds_41 : decode cX8_finds 41 = .ok (.aload_n 0, 1) := by decide +kernel
theorem dX8_finds_42 : decode cX8_finds 42 = .ok (.getfield 44, 3) := by decide +kernel
theorem dX8_finds_45 : decode cX8_finds 45 = .ok (.iload_n 2, 1) := by decide +kernel
theorem dX8_finds_46 : decode cX8_finds 46 = .ok (.iload_n 3, 1) := by decide +kernel
theorem dX8_finds_47 : decode cX8_finds 47 = .ok (.iastore, 1) := by decide +kernel
theorem dX8_finds_48 : decode cX8_finds 48 = .ok (.aload_n 0, 1) := by decide +kernel
theorem dX8_finds_49 : decode cX8_finds 49 = .ok (.getfield 41, 3) := by decide +kernel
theorem dX8_finds_52 : decode cX8_finds 52 = .ok (.iload_n 2, 1) := by decide +kernel
theorem dX8_finds_53 : decode cX8_finds 53 = .ok (.iload_n 3, 1) := by decide +kernel
theorem dX8_finds_54 : decode cX8_finds 54 = .ok (.iload_n 1, 1) := by decide +kernel
theorem dX8_finds_55 : decode cX8_finds 55 = .ok (.aload_n 0, 1) := by decide +kernel
theorem dX8_finds_56 : decode cX8_finds 56 = .ok (.getfield 7, 3) := by decide +kernel
theorem dX8_finds_59 : decode cX8_finds 59 = .ok (.aload_n 0, 1) := by decide +kernel
theorem dX8_finds_60 : decode cX8_finds 60 = .ok (.getfield 13, 3) := by decide +kernel
theorem dX8_finds_63 : decode cX8_finds 63 = .ok (.invokestatic 149, 3) := by decide +kernel
theorem dX8_finds_66 : decode cX8_finds 66 = .ok (.iastore, 1) := by decide +kernel
theorem dX8_finds_67 : decode cX8_finds 67 = .ok (.iinc 2 1, 3) := by decide +kernel
theorem dX8_finds_70 : decode cX8_finds 70 = .ok (.iinc 3 1, 3) := by decide +kernel
theorem dX8_finds_73 : decode cX8_finds 73 = .ok (.goto (-69), 3) := by decide +kernel
theorem dX8_finds_76 : decode cX8_finds 76 = .ok (.iconst 1, 1) := by decide +kernel
theorem dX8_finds_77 : decode cX8_finds 77 = .ok (.istore_n 3, 1) := by decide +kernel
theorem dX8_finds_78 : decode cX8_finds 78 = .ok (.iconst 0, 1) := by decide +kernel
theorem dX8_finds_79 : decode cX8_finds 79 = .ok (.istore 4, 2) := by decide +kernel
theorem dX8_finds_81 : decode cX8_finds 81 = .ok (.iload 4, 2) := by decide +kernel
theorem dX8_finds_83 : decode cX8_finds 83 = .ok (.iload_n 2, 1) := by decide +kernel
theorem dX8_finds_84 : decode cX8_finds 84 = .ok (.if_icmp .ge 73, 3) := by decide +kernel
theorem dX8_finds_87 : decode cX8_finds 87 = .ok (.iload_n 3, 1) := by decide +kernel
theorem dX8_finds_88 : decode cX8_finds 88 = .ok (.ifCond .eq 18, 3) := by decide +kernel
theorem dX8_finds_91 : decode cX8_finds 91 = .ok (.aload_n 0, 1) := by decide +kernel
theorem dX8_finds_92 : decode cX8_finds 92 = .ok (.getfield 41, 3) := by decide +kernel
theorem dX8_finds_95 : decode cX8_finds 95 = .ok (.iload 4, 2) := by decide +kernel
theorem dX8_finds_97 : decode cX8_finds 97 = .ok (.iaload, 1) := by decide +kernel
theorem dX8_finds_98 : decode cX8_finds 98 = .ok (.iload_n 1, 1) := by decide +kernel
theorem dX8_finds_99 : decode cX8_finds 99 = .ok (.if_icmp .eq 7, 3) := by decide +kernel
theorem dX8_finds_102 : decode cX8_finds 102 = .ok (.iconst 1, 1) := by decide +kernel
theorem dX8_finds_103 : decode cX8_finds 103 = .ok (.goto 4, 3) := by decide +kernel
theorem dX8_finds_106 : decode cX8_finds 106 = .ok (.iconst 0, 1) := by decide +kernel
theorem dX8_finds_107 : decode cX8_finds 107 = .ok (.istore_n 3, 1) := by decide +kernel
theorem dX8_finds_108 : decode cX8_finds 108 = .ok (.iconst 0, 1) := by decide +kernel
theorem dX8_finds_109 : decode cX8_finds 109 = .ok (.istore 5, 2) := by decide +kernel
theorem dX8_finds_111 : decode cX8_finds 111 = .ok (.iload 5, 2) := by decide +kernel
theorem dX8_finds_113 : decode cX8_finds 113 = .ok (.iload 4, 2) := by decide +kernel
theorem dX8_finds_115 : decode cX8_finds 115 = .ok (.if_icmp .ge 36, 3) := by decide +kernel
theorem dX8_finds_118 : decode cX8_finds 118 = .ok (.iload_n 3, 1) := by decide +kernel
theorem dX8_finds_119 : decode cX8_finds 119 = .ok (.ifCond .eq 24, 3) := by decide +kernel
theorem dX8_finds_122 : decode cX8_finds 122 = .ok (.aload_n 0, 1) := by decide +kernel
theorem dX8_finds_123 : decode cX8_finds 123 = .ok (.getfield 41, 3) := by decide +kernel
theorem dX8_finds_126 : decode cX8_finds 126 = .ok (.iload 5, 2) := by decide +kernel
theorem dX8_finds_128 : decode cX8_finds 128 = .ok (.iaload, 1) := by decide +kernel
theorem dX8_finds_129 : decode cX8_finds 129 = .ok (.aload_n 0, 1) := by decide +kernel
theorem dX8_finds_130 : decode cX8_finds 130 = .ok (.getfield 41, 3) := by decide +kernel
theorem dX8_finds_133 : decode cX8_finds 133 = .ok (.iload 4, 2) := by decide +kernel
theorem dX8_finds_135 : decode cX8_finds 135 = .ok (.iaload, 1) := by decide +kernel
theorem dX8_finds_136 : decode cX8_finds 136 = .ok (.if_icmp .eq 7, 3) := by decide +kernel
theorem dX8_finds_139 : decode cX8_finds 139 = .ok (.iconst 1, 1) := by decide +kernel
theorem dX8_finds_140 : decode cX8_finds 140 = .ok (.goto 4, 3) := by decide +kernel
theorem dX8_finds_143 : decode cX8_finds 143 = .ok (.iconst 0, 1) := by decide +kernel
theorem dX8_finds_144 : decode cX8_finds 144 = .ok (.istore_n 3, 1) := by decide +kernel
theorem dX8_finds_145 : decode cX8_finds 145 = .ok (.iinc 5 1, 3) := by decide +kernel
theorem dX8_finds_148 : decode cX8_finds 148 = .ok (.goto (-37), 3) := by decide +kernel
theorem dX8_finds_151 : decode cX8_finds 151 = .ok (.iinc 4 1, 3) := by decide +kernel
theorem dX8_finds_154 : decode cX8_finds 154 = .ok (.goto (-73), 3) := by decide +kernel
theorem dX8_finds_157 : decode cX8_finds 157 = .ok (.iload_n 3, 1) := by decide +kernel
theorem dX8_finds_158 : decode cX8_finds 158 = .ok (.ireturn, 1) := by decide +kernel
set_option maxRecDepth 20000 in
theorem ggX8_isInner_X8_isIn : GoodIn wsX8_isInner wsX8_isIn := goodIn_r _ [5] (by decide +kernel) (by decide +kernel)
set_option maxRecDepth 20000 in
theorem gX8_isInner_X8_isIn : GoodIn wsX8_isInner (va_wsS RX8 58 yX8_isIn wsX8_isIn) := goodIn_app (goodIn_of _ (by decide +kernel)) ggX8_isInner_X8_isIn
set_option maxRecDepth 20000 in
theorem ggX8_isInner_X8_wiresOf : GoodIn wsX8_isInner wsX8_wiresOf := goodIn_r _ [9, 10, 11, 12, 2, 3, 4, 5, 22, 23, 24, 25, 26, 27, 28, 29, 30, 31, 32, 33, 34, 35, 36, 37, 38, 39, 40, 41, 42] (by decide +kernel) (by decide +kernel)
set_option maxRecDepth 20000 in
theorem gX8_isInner_X8_wiresOf : GoodIn wsX8_isInner (wsV RX8 153 RX8 yX8_wiresOf wsX8_wiresOf) := goodIn_app (goodIn_of _ (by decide +kernel)) ggX8_isInner_X8_wiresOf
set_option maxRecDepth 20000 in
theorem ggX8_isInner_X8_finds : GoodIn wsX8_isInner wsX8_finds := goodIn_r _ [16, 10, 11, 12, 17, 18, 2, 3, 4, 5, 19, 20, 21, 22, 23, 24, 25, 26, 27, 28, 29, 30, 31, 32, 33, 34, 35, 36, 37, 38, 39, 40, 41, 42] (by decide +kernel) (by decide +kernel)
set_option maxRecDepth 20000 in
theorem gX8_isInner_X8_finds : GoodIn wsX8_isInner (wsV RX8 156 RX8 yX8_finds wsX8_finds) := goodIn_app (goodIn_of _ (by decide +kernel)) ggX8_isInner_X8_finds
theorem dX8_isInner_0 : decode cX8_isInner 0 = .ok (.aload_n 0, 1) := by decide +kernel
theorem dX8_isInner_1 : decode cX8_isInner 1 = .ok (.getfield 66, 3) := by decide +kernel
theorem dX8_isInner_4 : decode cX8_isInner 4 = .ok (.iload_n 1, 1) := by decide +kernel
theorem dX8_isInner_5 : decode cX8_isInner 5 = .ok (.invokestatic 58, 3) := by decide +kernel
theorem dX8_isInner_8 : decode cX8_isInner 8 = .ok (.ifCond .ne 24, 3) := by decide +kernel
theorem dX8_isInner_11 : decode cX8_isInner 11 = .ok (.aload_n 0, 1) := by decide +kernel
theorem dX8_isInner_12 : decode cX8_isInner 12 = .ok (.iload_n 1, 1) := by decide +kernel
theorem dX8_isInner_13 : decode cX8_isInner 13 = .ok (.invokevirtual 153, 3) := by decide +kernel
theorem dX8_isInner_16 : decode cX8_isInner 16 = .ok (.iload_n 2, 1) := by decide +kernel
theorem dX8_isInner_17 : decode cX8_isInner 17 = .ok (.if_icmp .ne 15, 3) := by decide +kernel
theorem dX8_isInner_20 : decode cX8_isInner 20 = .ok (.aload_n 0, 1) := by decide +kernel
theorem dX8_isInner_21 : decode cX8_isInner 21 = .ok (.iload_n 1, 1) := by decide +kernel
theorem dX8_isInner_22 : decode cX8_isInner 22 = .ok (.invokevirtual 156, 3) := by decide +kernel
theorem dX8_isInner_25 : decode cX8_isInner 25 = .ok (.ifCond .eq 7, 3) := by decide +kernel
theorem dX8_isInner_28 : decode cX8_isInner 28 = .ok (.iconst 1, 1) := by decide +kernel
theorem dX8_isInner_29 : decode cX8_isInner 29 = .ok (.goto 4, 3) := by decide +kernel
theorem dX8_isInner_32 : decode cX8_isInner 32 = .ok (.iconst 0, 1) := by decide +kernel
theorem dX8_isInner_33 : decode cX8_isInner 33 = .ok (.ireturn, 1) := by decide +kernel
set_option maxRecDepth 20000 in
theorem ggX8_isWhole_X8_in : GoodIn wsX8_isWhole wsX8_in := goodIn_r _ [4] (by decide +kernel) (by decide +kernel)
set_option maxRecDepth 20000 in
theorem gX8_isWhole_X8_in : GoodIn wsX8_isWhole (va_wsS RX8 51 yX8_in wsX8_in) := goodIn_app (goodIn_of _ (by decide +kernel)) ggX8_isWhole_X8_in
theorem dX8_isWhole_0 : decode cX8_isWhole 0 = .ok (.iload_n 0, 1) := by decide +kernel
theorem dX8_isWhole_1 : decode cX8_isWhole 1 = .ok (.iload_n 1, 1) := by decide +kernel
theorem dX8_isWhole_2 : decode cX8_isWhole 2 = .ok (.irem, 1) := by decide +kernel
theorem dX8_isWhole_3 : decode cX8_isWhole 3 = .ok (.ifCond .ne 19, 3) := by decide +kernel
theorem dX8_isWhole_6 : decode cX8_isWhole 6 = .ok (.iload_n 0, 1) := by decide +kernel
theorem dX8_isWhole_7 : decode cX8_isWhole 7 = .ok (.iload_n 1, 1) := by decide +kernel
theorem dX8_isWhole_8 : decode cX8_isWhole 8 = .ok (.idiv, 1) := by decide +kernel
theorem dX8_isWhole_9 : decode cX8_isWhole 9 = .ok (.iconst 1, 1) := by decide +kernel
theorem dX8_isWhole_10 : decode cX8_isWhole 10 = .ok (.bipush 60, 2) := by decide +kernel
theorem dX8_isWhole_12 : decode cX8_isWhole 12 = .ok (.invokestatic 51, 3) := by decide +kernel
theorem dX8_isWhole_15 : decode cX8_isWhole 15 = .ok (.ifCond .eq 7, 3) := by decide +kernel
theorem dX8_isWhole_18 : decode cX8_isWhole 18 = .ok (.iconst 1, 1) := by decide +kernel
theorem dX8_isWhole_19 : decode cX8_isWhole 19 = .ok (.goto 4, 3) := by decide +kernel
theorem dX8_isWhole_22 : decode cX8_isWhole 22 = .ok (.iconst 0, 1) := by decide +kernel
theorem dX8_isWhole_23 : decode cX8_isWhole 23 = .ok (.ireturn, 1) := by decide +kernel
set_option maxRecDepth 20000 in
theorem ggX8_alike_X8_isIn : GoodIn wsX8_alike wsX8_isIn := goodIn_r _ [7] (by decide +kernel) (by decide +kernel)
set_option maxRecDepth 20000 in
theorem gX8_alike_X8_isIn : GoodIn wsX8_alike (va_wsS RX8 58 yX8_isIn wsX8_isIn) := goodIn_app (goodIn_of _ (by decide +kernel)) ggX8_alike_X8_isIn
theorem dX8_alike_0 : decode cX8_alike 0 = .ok (.iconst (-1), 1) := by decide +kernel
theorem dX8_alike_1 : decode cX8_alike 1 = .ok (.istore_n 2, 1) := by decide +kernel
theorem dX8_alike_2 : decode cX8_alike 2 = .ok (.bipush 19, 2) := by decide +kernel
theorem dX8_alike_4 : decode cX8_alike 4 = .ok (.istore_n 3, 1) := by decide +kernel
theorem dX8_alike_5 : decode cX8_alike 5 = .ok (.iload_n 3, 1) := by decide +kernel
theorem dX8_alike_6 : decode cX8_alike 6 = .ok (.ifCond .lt 130, 3) := by decide +kernel
theorem dX8_alike_9 : decode cX8_alike 9 = .ok (.aload_n 0, 1) := by decide +kernel
theorem dX8_alike_10 : decode cX8_alike 10 = .ok (.getfield 69, 3) := by decide +kernel
theorem dX8_alike_13 : decode cX8_alike 13 = .ok (.iload_n 3, 1) := by decide +kernel
theorem dX8_alike_14 : decode cX8_alike 14 = .ok (.invokestatic 58, 3) := by decide +kernel
theorem dX8_alike_17 : decode cX8_alike 17 = .ok (.ifCond .eq 27, 3) := by decide +kernel
theorem dX8_alike_20 : decode cX8_alike 20 = .ok (.iload_n 3, 1) := by decide +kernel
theorem dX8_alike_21 : decode cX8_alike 21 = .ok (.iload_n 1, 1) := by decide +kernel
theorem dX8_alike_22 : decode cX8_alike 22 = .ok (.if_icmp .eq 22, 3) := by decide +kernel
theorem dX8_alike_25 : decode cX8_alike 25 = .ok (.aload_n 0, 1) := by decide +kernel
theorem dX8_alike_26 : decode cX8_alike 26 = .ok (.getfield 7, 3) := by decide +kernel
theorem dX8_alike_29 : decode cX8_alike 29 = .ok (.iload_n 1, 1) := by decide +kernel
theorem dX8_alike_30 : decode cX8_alike 30 = .ok (.iaload, 1) := by decide +kernel
theorem dX8_alike_31 : decode cX8_alike 31 = .ok (.aload_n 0, 1) := by decide +kernel
theorem dX8_alike_32 : decode cX8_alike 32 = .ok (.getfield 13, 3) := by decide +kernel
theorem dX8_alike_35 : decode cX8_alike 35 = .ok (.iload_n 1, 1) := by decide +kernel
theorem dX8_alike_36 : decode cX8_alike 36 = .ok (.iaload, 1) := by decide +kernel
theorem dX8_alike_37 : decode cX8_alike 37 = .ok (.if_icmp .eq 7, 3) := by decide +kernel
theorem dX8_alike_40 : decode cX8_alike 40 = .ok (.iconst 1, 1) := by decide +kernel
theorem dX8_alike_41 : decode cX8_alike 41 = .ok (.goto 4, 3) := by decide +kernel
theorem dX8_alike_44 : decode cX8_alike 44 = .ok (.iconst 0, 1) := by decide +kernel
theorem dX8_alike_45 : decode cX8_alike 45 = .ok (.istore 4, 2) := by decide +kernel
theorem dX8_alike_47 : decode cX8_alike 47 = .ok (.aload_n 0, 1) := by decide +kernel
theorem dX8_alike_48 : decode cX8_alike 48 = .ok (.getfield 7, 3) := by decide +kernel
theorem dX8_alike_51 : decode cX8_alike 51 = .ok (.iload_n 3, 1) := by decide +kernel
theorem dX8_alike_52 : decode cX8_alike 52 = .ok (.iaload, 1) := by decide +kernel
theorem dX8_alike_53 : decode cX8_alike 53 = .ok (.aload_n 0, 1) := by decide +kernel
theorem dX8_alike_54 : decode cX8_alike 54 = .ok (.getfield 7, 3) := by decide +kernel
theorem dX8_alike_57 : decode cX8_alike 57 = .ok (.iload_n 1, 1) := by decide +kernel
theorem dX8_alike_58 : decode cX8_alike 58 = .ok (.iaload, 1) := by decide +kernel
theorem dX8_alike_59 : decode cX8_alike 59 = .ok (.if_icmp .ne 18, 3) := by decide +kernel
theorem dX8_alike_62 : decode cX8_alike 62 = .ok (.aload_n 0, 1) := by decide +kernel
theorem dX8_alike_63 : decode cX8_alike 63 = .ok (.getfield 13, 3) := by decide +kernel
theorem dX8_alike_66 : decode cX8_alike 66 = .ok (.iload_n 3, 1) := by decide +kernel
theorem dX8_alike_67 : decode cX8_alike 67 = .ok (.iaload, 1) := by decide +kernel
theorem dX8_alike_68 : decode cX8_alike 68 = .ok (.aload_n 0, 1) := by decide +kernel
theorem dX8_alike_69 : decode cX8_alike 69 = .ok (.getfield 13, 3) := by decide +kernel
theorem dX8_alike_72 : decode cX8_alike 72 = .ok (.iload_n 1, 1) := by decide +kernel
theorem dX8_alike_73 : decode cX8_alike 73 = .ok (.iaload, 1) := by decide +kernel
theorem dX8_alike_74 : decode cX8_alike 74 = .ok (.if_icmp .eq 33, 3) := by decide +kernel
theorem dX8_alike_77 : decode cX8_alike 77 = .ok (.aload_n 0, 1) := by decide +kernel
theorem dX8_alike_78 : decode cX8_alike 78 = .ok (.getfield 7, 3) := by decide +kernel
theorem dX8_alike_81 : decode cX8_alike 81 = .ok (.iload_n 3, 1) := by decide +kernel
theorem dX8_alike_82 : decode cX8_alike 82 = .ok (.iaload, 1) := by decide +kernel
theorem dX8_alike_83 : decode cX8_alike 83 = .ok (.aload_n 0, 1) := by decide +kernel
theorem dX8_alike_84 : decode cX8_alike 84 = .ok (.getfield 13, 3) := by decide +kernel
theorem dX8_alike_87 : decode cX8_alike 87 = .ok (.iload_n 1, 1) := by decide +kernel
theorem dX8_alike_88 : decode cX8_alike 88 = .ok (.iaload, 1) := by decide +kernel
theorem dX8_alike_89 : decode cX8_alike 89 = .ok (.if_icmp .ne 22, 3) := by decide +kernel
theorem dX8_alike_92 : decode cX8_alike 92 = .ok (.aload_n 0, 1) := by decide +kernel
theorem dX8_alike_93 : decode cX8_alike 93 = .ok (.getfield 13, 3) := by decide +kernel
theorem dX8_alike_96 : decode cX8_alike 96 = .ok (.iload_n 3, 1) := by decide +kernel
theorem dX8_alike_97 : decode cX8_alike 97 = .ok (.iaload, 1) := by decide +kernel
theorem dX8_alike_98 : decode cX8_alike 98 = .ok (.aload_n 0, 1) := by decide +kernel
theorem dX8_alike_99 : decode cX8_alike 99 = .ok (.getfield 7, 3) := by decide +kernel
theorem dX8_alike_102 : decode cX8_alike 102 = .ok (.iload_n 1, 1) := by decide +kernel
theorem dX8_alike_103 : decode cX8_alike 103 = .ok (.iaload, 1) := by decide +kernel
theorem dX8_alike_104 : decode cX8_alike 104 = .ok (.if_icmp .ne 7, 3) := by decide +kernel
theorem dX8_alike_107 : decode cX8_alike 107 = .ok (.iconst 1, 1) := by decide +kernel
theorem dX8_alike_108 : decode cX8_alike 108 = .ok (.goto 4, 3) := by decide +kernel
theorem dX8_alike_111 : decode cX8_alike 111 = .ok (.iconst 0, 1) := by decide +kernel
theorem dX8_alike_112 : decode cX8_alike 112 = .ok (.istore 5, 2) := by decide +kernel
theorem dX8_alike_114 : decode cX8_alike 114 = .ok (.iload 4, 2) := by decide +kernel
theorem dX8_alike_116 : decode cX8_alike 116 = .ok (.ifCond .eq 12, 3) := by decide +kernel
theorem dX8_alike_119 : decode cX8_alike 119 = .ok (.iload 5, 2) := by decide +kernel
theorem dX8_alike_121 : decode cX8_alike 121 = .ok (.ifCond .eq 7, 3) := by decide +kernel
theorem dX8_alike_124 : decode cX8_alike 124 = .ok (.iload_n 3, 1) := by decide +kernel
theorem dX8_alike_125 : decode cX8_alike 125 = .ok (.goto 4, 3) := by decide +kernel
theorem dX8_alike_128 : decode cX8_alike 128 = .ok (.iload_n 2, 1) := by decide +kernel
theorem dX8_alike_129 : decode cX8_alike 129 = .ok (.istore_n 2, 1) := by decide +kernel
theorem dX8_alike_130 : decode cX8_alike 130 = .ok (.iinc 3 (-1), 3) := by decide +kernel
theorem dX8_alike_133 : decode cX8_alike 133 = .ok (.goto (-128), 3) := by decide +kernel
theorem dX8_alike_136 : decode cX8_alike 136 = .ok (.iload_n 2, 1) := by decide +kernel
theorem dX8_alike_137 : decode cX8_alike 137 = .ok (.ireturn, 1) := by decide +kernel
set_option maxRecDepth 20000 in
theorem ggX8_joins_X8_isIn : GoodIn wsX8_joins wsX8_isIn := goodIn_r _ [7] (by decide +kernel) (by decide +kernel)
set_option maxRecDepth 20000 in
theorem gX8_joins_X8_isIn : GoodIn wsX8_joins (va_wsS RX8 58 yX8_isIn wsX8_isIn) := goodIn_app (goodIn_of _ (by decide +kernel)) ggX8_joins_X8_isIn
theorem dX8_joins_0 : decode cX8_joins 0 = .ok (.aload_n 0, 1) := by decide +kernel
theorem dX8_joins_1 : decode cX8_joins 1 = .ok (.getfield 69, 3) := by decide +kernel
theorem dX8_joins_4 : decode cX8_joins 4 = .ok (.iload_n 1, 1) := by decide +kernel
theorem dX8_joins_5 : decode cX8_joins 5 = .ok (.invokestatic 58, 3) := by decide +kernel
theorem dX8_joins_8 : decode cX8_joins 8 = .ok (.ifCond .eq 47, 3) := by decide +kernel
theorem dX8_joins_11 : decode cX8_joins 11 = .ok (.aload_n 0, 1) := by decide +kernel
theorem dX8_joins_12 : decode cX8_joins 12 = .ok (.getfield 7, 3) := by decide +kernel
theorem dX8_joins_15 : decode cX8_joins 15 = .ok (.iload_n 1, 1) := by decide +kernel
theorem dX8_joins_16 : decode cX8_joins 16 = .ok (.iaload, 1) := by decide +kernel
theorem dX8_joins_17 : decode cX8_joins 17 = .ok (.iload_n 2, 1) := by decide +kernel
theorem dX8_joins_18 : decode cX8_joins 18 = .ok (.if_icmp .ne 13, 3) := by decide +kernel
theorem dX8_joins_21 : decode cX8_joins 21 = .ok (.aload_n 0, 1) := by decide +kernel
theorem dX8_joins_22 : decode cX8_joins 22 = .ok (.getfield 13, 3) := by decide +kernel
theorem dX8_joins_25 : decode cX8_joins 25 = .ok (.iload_n 1, 1) := by decide +kernel
theorem dX8_joins_26 : decode cX8_joins 26 = .ok (.iaload, 1) := by decide +kernel
theorem dX8_joins_27 : decode cX8_joins 27 = .ok (.iload_n 3, 1) := by decide +kernel
theorem dX8_joins_28 : decode cX8_joins 28 = .ok (.if_icmp .eq 23, 3) := by decide +kernel
theorem dX8_joins_31 : decode cX8_joins 31 = .ok (.aload_n 0, 1) := by decide +kernel
theorem dX8_joins_32 : decode cX8_joins 32 = .ok (.getfield 7, 3) := by decide +kernel
theorem dX8_joins_35 : decode cX8_joins 35 = .ok (.iload_n 1, 1) := by decide +kernel
theorem dX8_joins_36 : decode cX8_joins 36 = .ok (.iaload, 1) := by decide +kernel
theorem dX8_joins_37 : decode cX8_joins 37 = .ok (.iload_n 3, 1) := by decide +kernel
theorem dX8_joins_38 : decode cX8_joins 38 = .ok (.if_icmp .ne 17, 3) := by decide +kernel
theorem dX8_joins_41 : decode cX8_joins 41 = .ok (.aload_n 0, 1) := by decide +kernel
theorem dX8_joins_42 : decode cX8_joins 42 = .ok (.getfield 13, 3) := by decide +kernel
theorem dX8_joins_45 : decode cX8_joins 45 = .ok (.iload_n 1, 1) := by decide +kernel
theorem dX8_joins_46 : decode cX8_joins 46 = .ok (.iaload, 1) := by decide +kernel
theorem dX8_joins_47 : decode cX8_joins 47 = .ok (.iload_n 2, 1) := by decide +kernel
theorem dX8_joins_48 : decode cX8_joins 48 = .ok (.if_icmp .ne 7, 3) := by decide +kernel
theorem dX8_joins_51 : decode cX8_joins 51 = .ok (.iconst 1, 1) := by decide +kernel
theorem dX8_joins_52 : decode cX8_joins 52 = .ok (.goto 4, 3) := by decide +kernel
theorem dX8_joins_55 : decode cX8_joins 55 = .ok (.iconst 0, 1) := by decide +kernel
theorem dX8_joins_56 : decode cX8_joins 56 = .ok (.ireturn, 1) := by decide +kernel
set_option maxRecDepth 20000 in
theorem ggX8_findsTriangle_X8_isIn : GoodIn wsX8_findsTriangle wsX8_isIn := goodIn_r _ [9] (by decide +kernel) (by decide +kernel)
set_option maxRecDepth 20000 in
theorem gX8_findsTriangle_X8_isIn : GoodIn wsX8_findsTriangle (va_wsS RX8 58 yX8_isIn wsX8_isIn) := goodIn_app (goodIn_of _ (by decide +kernel)) ggX8_findsTriangle_X8_isIn
set_option maxRecDepth 20000 in
theorem ggX8_findsTriangle_X8_otherEnd : GoodIn wsX8_findsTriangle wsX8_otherEnd := goodIn_r _ [12] (by decide +kernel) (by decide +kernel)
set_option maxRecDepth 20000 in
theorem gX8_findsTriangle_X8_otherEnd : GoodIn wsX8_findsTriangle (va_wsS RX8 149 yX8_otherEnd wsX8_otherEnd) := goodIn_app (goodIn_of _ (by decide +kernel)) ggX8_findsTriangle_X8_otherEnd
set_option maxRecDepth 20000 in
theorem ggX8_findsTriangle_X8_joins : GoodIn wsX8_findsTriangle wsX8_joins := goodIn_r _ [16, 4, 1, 2, 6, 7, 8, 9, 17, 18, 19, 20, 21, 22, 23, 24, 25, 26, 27, 28, 29, 30, 31, 32, 33, 34, 35, 36, 37] (by decide +kernel) (by decide +kernel)
set_option maxRecDepth 20000 in
theorem gX8_findsTriangle_X8_joins : GoodIn wsX8_findsTriangle (wsV RX8 159 RX8 yX8_joins wsX8_joins) := goodIn_app (goodIn_of _ (by decide +kernel)) ggX8_findsTriangle_X8_joins
theorem dX8_findsTriangle_0 : decode cX8_findsTriangle 0 = .ok (.aload_n 0, 1) := by decide +kernel
theorem dX8_findsTriangle_1 : decode cX8_findsTriangle 1 = .ok (.getfield 7, 3) := by decide +kernel
theorem dX8_findsTriangle_4 : decode cX8_findsTriangle 4 = .ok (.iload_n 1, 1) := by decide +kernel
theorem dX8_findsTriangle_5 : decode cX8_findsTriangle 5 = .ok (.iaload, 1) := by decide +kernel
theorem dX8_findsTriangle_6 : decode cX8_findsTriangle 6 = .ok (.istore_n 2, 1) := by decide +kernel
theorem dX8_findsTriangle_7 : decode cX8_findsTriangle 7 = .ok (.aload_n 0, 1) := by decide +kernel
theorem dX8_findsTriangle_8 : decode cX8_findsTriangle 8 = .ok (.getfield 13, 3) := by decide +kernel
theorem dX8_findsTriangle_11 : decode cX8_findsTriangle 11 = .ok (.iload_n 1, 1) := by decide +kernel
theorem dX8_findsTriangle_12 : decode cX8_findsTriangle 12 = .ok (.iaload, 1) := by decide +kernel
theorem dX8_findsTriangle_13 : decode cX8_findsTriangle 13 = .ok (.istore_n 3, 1) := by decide +kernel
theorem dX8_findsTriangle_14 : decode cX8_findsTriangle 14 = .ok (.aload_n 0, 1) := by decide +kernel
theorem dX8_findsTriangle_15 : decode cX8_findsTriangle 15 = .ok (.getfield 44, 3) := by decide +kernel
theorem dX8_findsTriangle_18 : decode cX8_findsTriangle 18 = .ok (.iconst 1, 1) := by decide +kernel
theorem dX8_findsTriangle_19 : decode cX8_findsTriangle 19 = .ok (.iconst (-1), 1) := by decide +kernel
theorem dX8_findsTriangle_20 : decode cX8_findsTriangle 20 = .ok (.iastore, 1) := by decide +kernel
theorem dX8_findsTriangle_21 : decode cX8_findsTriangle 21 = .ok (.iconst 0, 1) := by decide +kernel
theorem dX8_findsTriangle_22 : decode cX8_findsTriangle 22 = .ok (.istore 4, 2) := by decide +kernel
theorem dX8_findsTriangle_24 : decode cX8_findsTriangle 24 = .ok (.iload 4, 2) := by decide +kernel
theorem dX8_findsTriangle_26 : decode cX8_findsTriangle 26 = .ok (.bipush 20, 2) := by decide +kernel
theorem dX8_findsTriangle_28 : decode cX8_findsTriangle 28 = .ok (.if_icmp .ge 173, 3) := by decide +kernel
theorem dX8_findsTriangle_31 : decode cX8_findsTriangle 31 = .ok (.iload_n 2, 1) := by decide +kernel
theorem dX8_findsTriangle_32 : decode cX8_findsTriangle 32 = .ok (.iload_n 3, 1) := by decide +kernel
theorem dX8_findsTriangle_33 : decode cX8_findsTriangle 33 = .ok (.if_icmp .eq 168, 3) := by decide +kernel
theorem dX8_findsTriangle_36 : decode cX8_findsTriangle 36 = .ok (.aload_n 0, 1) := by decide +kernel
theorem dX8_findsTriangle_37 : decode cX8_findsTriangle 37 = .ok (.getfield 44, 3) := by decide +kernel
theorem dX8_findsTriangle_40 : decode cX8_findsTriangle 40 = .ok (.iconst 1, 1) := by decide +kernel
theorem dX8_findsTriangle_41 : decode cX8_findsTriangle 41 = .ok (.iaload, 1) := by decide +kernel
theorem dX8_findsTriangle_42 : decode cX8_findsTriangle 42 = .ok (.iconst (-1), 1) := by decide +kernel
theorem dX8_findsTriangle_43 : decode cX8_findsTriangle 43 = .ok (.if_icmp .ne 158, 3) := by decide +kernel
theorem dX8_findsTriangle_46 : decode cX8_findsTriangle 46 = .ok (.aload_n 0, 1) := by decide +kernel
theorem dX8_findsTriangle_47 : decode cX8_findsTriangle 47 = .ok (.getfield 69, 3) := by decide +kernel
theorem dX8_findsTriangle_50 : decode cX8_findsTriangle 50 = .ok (.iload 4, 2) := by decide +kernel
theorem dX8_findsTriangle_52 : decode cX8_findsTriangle 52 = .ok (.invokestatic 58, 3) := by decide +kernel
theorem dX8_findsTriangle_55 : decode cX8_findsTriangle 55 = .ok (.ifCond .eq 48, 3) := by decide +kernel
theorem dX8_findsTriangle_58 : decode cX8_findsTriangle 58 = .ok (.iload 4, 2) := by decide +kernel
theorem dX8_findsTriangle_60 : decode cX8_findsTriangle 60 = .ok (.iload_n 1, 1) := by decide +kernel
theorem dX8_findsTriangle_61 : decode cX8_findsTriangle 61 = .ok (.if_icmp .eq 42, 3) := by decide +kernel
theorem dX8_findsTriangle_64 : decode cX8_findsTriangle 64 = .ok (.aload_n 0, 1) := by decide +kernel
theorem dX8_findsTriangle_65 : decode cX8_findsTriangle 65 = .ok (.getfield 7, 3) := by decide +kernel
theorem dX8_findsTriangle_68 : decode cX8_findsTriangle 68 = .ok (.iload 4, 2) := by decide +kernel
theorem dX8_findsTriangle_70 : decode cX8_findsTriangle 70 = .ok (.iaload, 1) := by decide +kernel
theorem dX8_findsTriangle_71 : decode cX8_findsTriangle 71 = .ok (.iload_n 2, 1) := by decide +kernel
theorem dX8_findsTriangle_72 : decode cX8_findsTriangle 72 = .ok (.if_icmp .eq 14, 3) := by decide +kernel
theorem dX8_findsTriangle_75 : decode cX8_findsTriangle 75 = .ok (.aload_n 0, 1) := by decide +kernel
theorem dX8_findsTriangle_76 : decode cX8_findsTriangle 76 = .ok (.getfield 13, 3) := by decide +kernel
theorem dX8_findsTriangle_79 : decode cX8_findsTriangle 79 = .ok (.iload 4, 2) := by decide +kernel
theorem dX8_findsTriangle_81 : decode cX8_findsTriangle 81 = .ok (.iaload, 1) := by decide +kernel
theorem dX8_findsTriangle_82 : decode cX8_findsTriangle 82 = .ok (.iload_n 2, 1) := by decide +kernel
theorem dX8_findsTriangle_83 : decode cX8_findsTriangle 83 = .ok (.if_icmp .ne 20, 3) := by decide +kernel
theorem dX8_findsTriangle_86 : decode cX8_findsTriangle 86 = .ok (.iload 4, 2) := by decide +kernel
theorem dX8_findsTriangle_88 : decode cX8_findsTriangle 88 = .ok (.iload_n 2, 1) := by decide +kernel
theorem dX8_findsTriangle_89 : decode cX8_findsTriangle 89 = .ok (.aload_n 0, 1) := by decide +kernel
theorem dX8_findsTriangle_90 : decode cX8_findsTriangle 90 = .ok (.getfield 7, 3) := by decide +kernel
theorem dX8_findsTriangle_93 : decode cX8_findsTriangle 93 = .ok (.aload_n 0, 1) := by decide +kernel
theorem dX8_findsTriangle_94 : decode cX8_findsTriangle 94 = .ok (.getfield 13, 3) := by decide +kernel
theorem dX8_findsTriangle_97 : decode cX8_findsTriangle 97 = .ok (.invokestatic 149, 3) := by decide +kernel
theorem dX8_findsTriangle_100 : decode cX8_findsTriangle 100 = .ok (.goto 4, 3) := by decide +kernel
theorem dX8_findsTriangle_103 : decode cX8_findsTriangle 103 = .ok (.iload_n 2, 1) := by decide +kernel
theorem dX8_findsTriangle_104 : decode cX8_findsTriangle 104 = .ok (.istore 5, 2) := by decide +kernel
theorem dX8_findsTriangle_106 : decode cX8_findsTriangle 106 = .ok (.aload_n 0, 1) := by decide +kernel
theorem dX8_findsTriangle_107 : decode cX8_findsTriangle 107 = .ok (.getfield 44, 3) := by decide +kernel
theorem dX8_findsTriangle_110 : decode cX8_findsTriangle 110 = .ok (.iconst 2, 1) := by decide +kernel
theorem dX8_findsTriangle_111 : decode cX8_findsTriangle 111 = .ok (.iconst (-1), 1) := by decide +kernel
theorem dX8_findsTriangle_112 : decode cX8_findsTriangle 112 = .ok (.iastore, 1) := by decide +kernel
theorem dX8_findsTriangle_113 : decode cX8_findsTriangle 113 = .ok (.bipush 19, 2) := by decide +kernel
theorem dX8_findsTriangle_115 : decode cX8_findsTriangle 115 = .ok (.istore 6, 2) := by decide +kernel
theorem dX8_findsTriangle_117 : decode cX8_findsTriangle 117 = .ok (.iload 6, 2) := by decide +kernel
theorem dX8_findsTriangle_119 : decode cX8_findsTriangle 119 = .ok (.ifCond .lt 50, 3) := by decide +kernel
theorem dX8_findsTriangle_122 : decode cX8_findsTriangle 122 = .ok (.iload 5, 2) := by decide +kernel
theorem dX8_findsTriangle_124 : decode cX8_findsTriangle 124 = .ok (.iload_n 2, 1) := by decide +kernel
theorem dX8_findsTriangle_125 : decode cX8_findsTriangle 125 = .ok (.if_icmp .eq 44, 3) := by decide +kernel
theorem dX8_findsTriangle_128 : decode cX8_findsTriangle 128 = .ok (.iload 5, 2) := by decide +kernel
theorem dX8_findsTriangle_130 : decode cX8_findsTriangle 130 = .ok (.iload_n 3, 1) := by decide +kernel
theorem dX8_findsTriangle_131 : decode cX8_findsTriangle 131 = .ok (.if_icmp .eq 38, 3) := by decide +kernel
theorem dX8_findsTriangle_134 : decode cX8_findsTriangle 134 = .ok (.aload_n 0, 1) := by decide +kernel
theorem dX8_findsTriangle_135 : decode cX8_findsTriangle 135 = .ok (.getfield 44, 3) := by decide +kernel
theorem dX8_findsTriangle_138 : decode cX8_findsTriangle 138 = .ok (.iconst 2, 1) := by decide +kernel
theorem dX8_findsTriangle_139 : decode cX8_findsTriangle 139 = .ok (.aload_n 0, 1) := by decide +kernel
theorem dX8_findsTriangle_140 : decode cX8_findsTriangle 140 = .ok (.iload 6, 2) := by decide +kernel
theorem dX8_findsTriangle_142 : decode cX8_findsTriangle 142 = .ok (.iload_n 3, 1) := by decide +kernel
theorem dX8_findsTriangle_143 : decode cX8_findsTriangle 143 = .ok (.iload 5, 2) := by decide +kernel
theorem dX8_findsTriangle_145 : decode cX8_findsTriangle 145 = .ok (.invokevirtual 159, 3) := by decide +kernel
theorem dX8_findsTriangle_148 : decode cX8_findsTriangle 148 = .ok (.ifCond .eq 8, 3) := by decide +kernel
theorem dX8_findsTriangle_151 : decode cX8_findsTriangle 151 = .ok (.iload 6, 2) := by decide +kernel
theorem dX8_findsTriangle_153 : decode cX8_findsTriangle 153 = .ok (.goto 9, 3) := by decide +kernel
theorem dX8_findsTriangle_156 : decode cX8_findsTriangle 156 = .ok (.aload_n 0, 1) := by decide +kernel
theorem dX8_findsTriangle_157 : decode cX8_findsTriangle 157 = .ok (.getfield 44, 3) := by decide +kernel
theorem dX8_findsTriangle_160 : decode cX8_findsTriangle 160 = .ok (.iconst 2, 1) := by decide +kernel
theorem dX8_findsTriangle_161 : decode cX8_findsTriangle 161 = .ok (.iaload, 1) := by decide +kernel
theorem dX8_findsTriangle_162 : decode cX8_findsTriangle 162 = .ok (.iastore, 1) := by decide +kernel
theorem dX8_findsTriangle_163 : decode cX8_findsTriangle 163 = .ok (.iinc 6 (-1), 3) := by decide +kernel
theorem dX8_findsTriangle_166 : decode cX8_findsTriangle 166 = .ok (.goto (-49), 3) := by decide +kernel
theorem dX8_findsTriangle_169 : decode cX8_findsTriangle 169 = .ok (.aload_n 0, 1) := by decide +kernel
theorem dX8_findsTriangle_170 : decode cX8_findsTriangle 170 = .ok (.getfield 44, 3) := by decide +kernel
theorem dX8_findsTriangle_173 : decode cX8_findsTriangle 173 = .ok (.iconst 2, 1) := by decide +kernel
theorem dX8_findsTriangle_174 : decode cX8_findsTriangle 174 = .ok (.iaload, 1) := by decide +kernel
theorem dX8_findsTriangle_175 : decode cX8_findsTriangle 175 = .ok (.iconst (-1), 1) := by decide +kernel
theorem dX8_findsTriangle_176 : decode cX8_findsTriangle 176 = .ok (.if_icmp .eq 19, 3) := by decide +kernel
theorem dX8_findsTriangle_179 : decode cX8_findsTriangle 179 = .ok (.aload_n 0, 1) := by decide +kernel
theorem dX8_findsTriangle_180 : decode cX8_findsTriangle 180 = .ok (.getfield 44, 3) := by decide +kernel
theorem dX8_findsTriangle_183 : decode cX8_findsTriangle 183 = .ok (.iconst 1, 1) := by decide +kernel
theorem dX8_findsTriangle_184 : decode cX8_findsTriangle 184 = .ok (.iload 4, 2) := by decide +kernel
theorem dX8_findsTriangle_186 : decode cX8_findsTriangle 186 = .ok (.iastore, 1) := by decide +kernel
theorem dX8_findsTriangle_187 : decode cX8_findsTriangle 187 = .ok (.aload_n 0, 1) := by decide +kernel
theorem dX8_findsTriangle_188 : decode cX8_findsTriangle 188 = .ok (.getfield 41, 3) := by decide +kernel
theorem dX8_findsTriangle_191 : decode cX8_findsTriangle 191 = .ok (.iconst 2, 1) := by decide +kernel
theorem dX8_findsTriangle_192 : decode cX8_findsTriangle 192 = .ok (.iload 5, 2) := by decide +kernel
theorem dX8_findsTriangle_194 : decode cX8_findsTriangle 194 = .ok (.iastore, 1) := by decide +kernel
theorem dX8_findsTriangle_195 : decode cX8_findsTriangle 195 = .ok (.iinc 4 1, 3) := by decide +kernel
theorem dX8_findsTriangle_198 : decode cX8_findsTriangle 198 = .ok (.goto (-174), 3) := by decide +kernel
theorem dX8_findsTriangle_201 : decode cX8_findsTriangle 201 = .ok (.aload_n 0, 1) := by decide +kernel
theorem dX8_findsTriangle_202 : decode cX8_findsTriangle 202 = .ok (.getfield 44, 3) := by decide +kernel
theorem dX8_findsTriangle_205 : decode cX8_findsTriangle 205 = .ok (.iconst 0, 1) := by decide +kernel
theorem dX8_findsTriangle_206 : decode cX8_findsTriangle 206 = .ok (.iload_n 1, 1) := by decide +kernel
theorem dX8_findsTriangle_207 : decode cX8_findsTriangle 207 = .ok (.iastore, 1) := by decide +kernel
theorem dX8_findsTriangle_208 : decode cX8_findsTriangle 208 = .ok (.aload_n 0, 1) := by decide +kernel
theorem dX8_findsTriangle_209 : decode cX8_findsTriangle 209 = .ok (.getfield 41, 3) := by decide +kernel
theorem dX8_findsTriangle_212 : decode cX8_findsTriangle 212 = .ok (.iconst 0, 1) := by decide +kernel
theorem dX8_findsTriangle_213 : decode cX8_findsTriangle 213 = .ok (.iload_n 2, 1) := by decide +kernel
theorem dX8_findsTriangle_214 : decode cX8_findsTriangle 214 = .ok (.iastore, 1) := by decide +kernel
theorem dX8_findsTriangle_215 : decode cX8_findsTriangle 215 = .ok (.aload_n 0, 1) := by decide +kernel
theorem dX8_findsTriangle_216 : decode cX8_findsTriangle 216 = .ok (.getfield 41, 3) := by decide +kernel
theorem dX8_findsTriangle_219 : decode cX8_findsTriangle 219 = .ok (.iconst 1, 1) := by decide +kernel
theorem dX8_findsTriangle_220 : decode cX8_findsTriangle 220 = .ok (.iload_n 3, 1) := by decide +kernel
theorem dX8_findsTriangle_221 : decode cX8_findsTriangle 221 = .ok (.iastore, 1) := by decide +kernel
theorem dX8_findsTriangle_222 : decode cX8_findsTriangle 222 = .ok (.aload_n 0, 1) := by decide +kernel
theorem dX8_findsTriangle_223 : decode cX8_findsTriangle 223 = .ok (.getfield 44, 3) := by decide +kernel
theorem dX8_findsTriangle_226 : decode cX8_findsTriangle 226 = .ok (.iconst 1, 1) := by decide +kernel
theorem dX8_findsTriangle_227 : decode cX8_findsTriangle 227 = .ok (.iaload, 1) := by decide +kernel
theorem dX8_findsTriangle_228 : decode cX8_findsTriangle 228 = .ok (.iconst (-1), 1) := by decide +kernel
theorem dX8_findsTriangle_229 : decode cX8_findsTriangle 229 = .ok (.if_icmp .eq 7, 3) := by decide +kernel
theorem dX8_findsTriangle_232 : decode cX8_findsTriangle 232 = .ok (.iconst 1, 1) := by decide +kernel
theorem dX8_findsTriangle_233 : decode cX8_findsTriangle 233 = .ok (.goto 4, 3) := by decide +kernel
theorem dX8_findsTriangle_236 : decode cX8_findsTriangle 236 = .ok (.iconst 0, 1) := by decide +kernel
theorem dX8_findsTriangle_237 : decode cX8_findsTriangle 237 = .ok (.ireturn, 1) := by decide +kernel
theorem dX8_products_0 : decode cX8_products 0 = .ok (.aload_n 0, 1) := by decide +kernel
theorem dX8_products_1 : decode cX8_products 1 = .ok (.getfield 16, 3) := by decide +kernel
theorem dX8_products_4 : decode cX8_products 4 = .ok (.aload_n 0, 1) := by decide +kernel
theorem dX8_products_5 : decode cX8_products 5 = .ok (.getfield 44, 3) := by decide +kernel
theorem dX8_products_8 : decode cX8_products 8 = .ok (.iconst 0, 1) := by decide +kernel
theorem dX8_products_9 : decode cX8_products 9 = .ok (.iaload, 1) := by decide +kernel
theorem dX8_products_10 : decode cX8_products 10 = .ok (.iaload, 1) := by decide +kernel
theorem dX8_products_11 : decode cX8_products 11 = .ok (.istore_n 1, 1) := by decide +kernel
theorem dX8_products_12 : decode cX8_products 12 = .ok (.aload_n 0, 1) := by decide +kernel
theorem dX8_products_13 : decode cX8_products 13 = .ok (.getfield 16, 3) := by decide +kernel
theorem dX8_products_16 : decode cX8_products 16 = .ok (.aload_n 0, 1) := by decide +kernel
theorem dX8_products_17 : decode cX8_products 17 = .ok (.getfield 44, 3) := by decide +kernel
theorem dX8_products_20 : decode cX8_products 20 = .ok (.iconst 1, 1) := by decide +kernel
theorem dX8_products_21 : decode cX8_products 21 = .ok (.iaload, 1) := by decide +kernel
theorem dX8_products_22 : decode cX8_products 22 = .ok (.iaload, 1) := by decide +kernel
theorem dX8_products_23 : decode cX8_products 23 = .ok (.istore_n 2, 1) := by decide +kernel
theorem dX8_products_24 : decode cX8_products 24 = .ok (.aload_n 0, 1) := by decide +kernel
theorem dX8_products_25 : decode cX8_products 25 = .ok (.getfield 16, 3) := by decide +kernel
theorem dX8_products_28 : decode cX8_products 28 = .ok (.aload_n 0, 1) := by decide +kernel
theorem dX8_products_29 : decode cX8_products 29 = .ok (.getfield 44, 3) := by decide +kernel
theorem dX8_products_32 : decode cX8_products 32 = .ok (.iconst 2, 1) := by decide +kernel
theorem dX8_products_33 : decode cX8_products 33 = .ok (.iaload, 1) := by decide +kernel
theorem dX8_products_34 : decode cX8_products 34 = .ok (.iaload, 1) := by decide +kernel
theorem dX8_products_35 : decode cX8_products 35 = .ok (.istore_n 3, 1) := by decide +kernel
theorem dX8_products_36 : decode cX8_products 36 = .ok (.iload_n 1, 1) := by decide +kernel
theorem dX8_products_37 : decode cX8_products 37 = .ok (.iload_n 2, 1) := by decide +kernel
theorem dX8_products_38 : decode cX8_products 38 = .ok (.imul, 1) := by decide +kernel
theorem dX8_products_39 : decode cX8_products 39 = .ok (.iload_n 1, 1) := by decide +kernel
theorem dX8_products_40 : decode cX8_products 40 = .ok (.iload_n 3, 1) := by decide +kernel
theorem dX8_products_41 : decode cX8_products 41 = .ok (.imul, 1) := by decide +kernel
theorem dX8_products_42 : decode cX8_products 42 = .ok (.iadd, 1) := by decide +kernel
theorem dX8_products_43 : decode cX8_products 43 = .ok (.iload_n 2, 1) := by decide +kernel
theorem dX8_products_44 : decode cX8_products 44 = .ok (.iload_n 3, 1) := by decide +kernel
theorem dX8_products_45 : decode cX8_products 45 = .ok (.imul, 1) := by decide +kernel
theorem dX8_products_46 : decode cX8_products 46 = .ok (.iadd, 1) := by decide +kernel
theorem dX8_products_47 : decode cX8_products 47 = .ok (.ireturn, 1) := by decide +kernel
set_option maxRecDepth 20000 in
theorem ggX8_canStar_X8_findsTriangle : GoodIn wsX8_canStar wsX8_findsTriangle := goodIn_r _ [9, 10, 11, 4, 12, 13, 14, 15, 8, 16, 17, 18, 19, 20, 21, 22, 23, 34, 35, 36, 37, 38, 39, 40, 41, 42, 43, 44, 45, 46, 47, 48, 49, 50, 51, 52, 53, 54] (by decide +kernel) (by decide +kernel)
set_option maxRecDepth 20000 in
theorem gX8_canStar_X8_findsTriangle : GoodIn wsX8_canStar (wsV RX8 162 RX8 yX8_findsTriangle wsX8_findsTriangle) := goodIn_app (goodIn_of _ (by decide +kernel)) ggX8_canStar_X8_findsTriangle
set_option maxRecDepth 20000 in
theorem ggX8_canStar_X8_products : GoodIn wsX8_canStar wsX8_products := goodIn_r _ [27, 3, 4, 34, 35, 36, 37, 38, 39, 40, 41, 42, 43, 44, 45, 46, 47, 48, 49, 50, 51, 52, 53, 54] (by decide +kernel) (by decide +kernel)
set_option maxRecDepth 20000 in
theorem gX8_canStar_X8_products : GoodIn wsX8_canStar (wsV RX8 165 RX8 yX8_products wsX8_products) := goodIn_app (goodIn_of _ (by decide +kernel)) ggX8_canStar_X8_products
set_option maxRecDepth 20000 in
theorem ggX8_canStar_X8_isWhole : GoodIn wsX8_canStar wsX8_isWhole := goodIn_r _ [30, 31, 32, 8, 33] (by decide +kernel) (by decide +kernel)
set_option maxRecDepth 20000 in
theorem gX8_canStar_X8_isWhole : GoodIn wsX8_canStar (va_wsS RX8 169 yX8_isWhole wsX8_isWhole) := goodIn_app (goodIn_of _ (by decide +kernel)) ggX8_canStar_X8_isWhole
theorem dX8_canStar_0 : decode cX8_canStar 0 = .ok (.aload_n 0, 1) := by decide +kernel
theorem dX8_canStar_1 : decode cX8_canStar 1 = .ok (.getfield 82, 3) := by decide +kernel
theorem dX8_canStar_4 : decode cX8_canStar 4 = .ok (.iconst 3, 1) := by decide +kernel
theorem dX8_canStar_5 : decode cX8_canStar 5 = .ok (.iadd, 1) := by decide +kernel
theorem dX8_canStar_6 : decode cX8_canStar 6 = .ok (.bipush 20, 2) := by decide +kernel
theorem dX8_canStar_8 : decode cX8_canStar 8 = .ok (.if_icmp .gt 20, 3) := by decide +kernel
theorem dX8_canStar_11 : decode cX8_canStar 11 = .ok (.aload_n 0, 1) := by decide +kernel
theorem dX8_canStar_12 : decode cX8_canStar 12 = .ok (.getfield 72, 3) := by decide +kernel
theorem dX8_canStar_15 : decode cX8_canStar 15 = .ok (.bipush 7, 2) := by decide +kernel
theorem dX8_canStar_17 : decode cX8_canStar 17 = .ok (.if_icmp .eq 11, 3) := by decide +kernel
theorem dX8_canStar_20 : decode cX8_canStar 20 = .ok (.aload_n 0, 1) := by decide +kernel
theorem dX8_canStar_21 : decode cX8_canStar 21 = .ok (.iload_n 1, 1) := by decide +kernel
theorem dX8_canStar_22 : decode cX8_canStar 22 = .ok (.invokevirtual 162, 3) := by decide +kernel
theorem dX8_canStar_25 : decode cX8_canStar 25 = .ok (.ifCond .ne 5, 3) := by decide +kernel
theorem dX8_canStar_28 : decode cX8_canStar 28 = .ok (.iconst 0, 1) := by decide +kernel
theorem dX8_canStar_29 : decode cX8_canStar 29 = .ok (.ireturn, 1) := by decide +kernel
theorem dX8_canStar_30 : decode cX8_canStar 30 = .ok (.aload_n 0, 1) := by decide +kernel
theorem dX8_canStar_31 : decode cX8_canStar 31 = .ok (.invokevirtual 165, 3) := by decide +kernel
theorem dX8_canStar_34 : decode cX8_canStar 34 = .ok (.istore_n 2, 1) := by decide +kernel
theorem dX8_canStar_35 : decode cX8_canStar 35 = .ok (.iload_n 2, 1) := by decide +kernel
theorem dX8_canStar_36 : decode cX8_canStar 36 = .ok (.aload_n 0, 1) := by decide +kernel
theorem dX8_canStar_37 : decode cX8_canStar 37 = .ok (.getfield 16, 3) := by decide +kernel
theorem dX8_canStar_40 : decode cX8_canStar 40 = .ok (.aload_n 0, 1) := by decide +kernel
theorem dX8_canStar_41 : decode cX8_canStar 41 = .ok (.getfield 44, 3) := by decide +kernel
theorem dX8_canStar_44 : decode cX8_canStar 44 = .ok (.iconst 0, 1) := by decide +kernel
theorem dX8_canStar_45 : decode cX8_canStar 45 = .ok (.iaload, 1) := by decide +kernel
theorem dX8_canStar_46 : decode cX8_canStar 46 = .ok (.iaload, 1) := by decide +kernel
theorem dX8_canStar_47 : decode cX8_canStar 47 = .ok (.invokestatic 169, 3) := by decide +kernel
theorem dX8_canStar_50 : decode cX8_canStar 50 = .ok (.ifCond .eq 43, 3) := by decide +kernel
theorem dX8_canStar_53 : decode cX8_canStar 53 = .ok (.iload_n 2, 1) := by decide +kernel
theorem dX8_canStar_54 : decode cX8_canStar 54 = .ok (.aload_n 0, 1) := by decide +kernel
theorem dX8_canStar_55 : decode cX8_canStar 55 = .ok (.getfield 16, 3) := by decide +kernel
theorem dX8_canStar_58 : decode cX8_canStar 58 = .ok (.aload_n 0, 1) := by decide +kernel
theorem dX8_canStar_59 : decode cX8_canStar 59 = .ok (.getfield 44, 3) := by decide +kernel
theorem dX8_canStar_62 : decode cX8_canStar 62 = .ok (.iconst 1, 1) := by decide +kernel
theorem dX8_canStar_63 : decode cX8_canStar 63 = .ok (.iaload, 1) := by decide +kernel
theorem dX8_canStar_64 : decode cX8_canStar 64 = .ok (.iaload, 1) := by decide +kernel
theorem dX8_canStar_65 : decode cX8_canStar 65 = .ok (.invokestatic 169, 3) := by decide +kernel
theorem dX8_canStar_68 : decode cX8_canStar 68 = .ok (.ifCond .eq 25, 3) := by decide +kernel
theorem dX8_canStar_71 : decode cX8_canStar 71 = .ok (.iload_n 2, 1) := by decide +kernel
theorem dX8_canStar_72 : decode cX8_canStar 72 = .ok (.aload_n 0, 1) := by decide +kernel
theorem dX8_canStar_73 : decode cX8_canStar 73 = .ok (.getfield 16, 3) := by decide +kernel
theorem dX8_canStar_76 : decode cX8_canStar 76 = .ok (.aload_n 0, 1) := by decide +kernel
theorem dX8_canStar_77 : decode cX8_canStar 77 = .ok (.getfield 44, 3) := by decide +kernel
theorem dX8_canStar_80 : decode cX8_canStar 80 = .ok (.iconst 2, 1) := by decide +kernel
theorem dX8_canStar_81 : decode cX8_canStar 81 = .ok (.iaload, 1) := by decide +kernel
theorem dX8_canStar_82 : decode cX8_canStar 82 = .ok (.iaload, 1) := by decide +kernel
theorem dX8_canStar_83 : decode cX8_canStar 83 = .ok (.invokestatic 169, 3) := by decide +kernel
theorem dX8_canStar_86 : decode cX8_canStar 86 = .ok (.ifCond .eq 7, 3) := by decide +kernel
theorem dX8_canStar_89 : decode cX8_canStar 89 = .ok (.iconst 1, 1) := by decide +kernel
theorem dX8_canStar_90 : decode cX8_canStar 90 = .ok (.goto 4, 3) := by decide +kernel
theorem dX8_canStar_93 : decode cX8_canStar 93 = .ok (.iconst 0, 1) := by decide +kernel
theorem dX8_canStar_94 : decode cX8_canStar 94 = .ok (.ireturn, 1) := by decide +kernel
set_option maxRecDepth 20000 in
theorem ggX8_canTriangle_X8_isInner : GoodIn wsX8_canTriangle wsX8_isInner := goodIn_r _ [8, 9, 10, 11, 7, 12, 13, 14, 15, 16, 17, 18, 19, 20, 21, 22, 23, 3, 24, 25, 26, 27, 34, 35, 36, 37, 38, 39, 40, 41, 42, 43, 44, 45, 46, 47, 48, 49, 50, 51, 52, 53, 54] (by decide +kernel) (by decide +kernel)
set_option maxRecDepth 20000 in
theorem gX8_canTriangle_X8_isInner : GoodIn wsX8_canTriangle (wsV RX8 172 RX8 yX8_isInner wsX8_isInner) := goodIn_app (goodIn_of _ (by decide +kernel)) ggX8_canTriangle_X8_isInner
set_option maxRecDepth 20000 in
theorem ggX8_canTriangle_X8_isWhole : GoodIn wsX8_canTriangle wsX8_isWhole := goodIn_r _ [30, 31, 32, 7, 33] (by decide +kernel) (by decide +kernel)
set_option maxRecDepth 20000 in
theorem gX8_canTriangle_X8_isWhole : GoodIn wsX8_canTriangle (va_wsS RX8 169 yX8_isWhole wsX8_isWhole) := goodIn_app (goodIn_of _ (by decide +kernel)) ggX8_canTriangle_X8_isWhole
theorem dX8_canTriangle_0 : decode cX8_canTriangle 0 = .ok (.aload_n 0, 1) := by decide +kernel
theorem dX8_canTriangle_1 : decode cX8_canTriangle 1 = .ok (.getfield 82, 3) := by decide +kernel
theorem dX8_canTriangle_4 : decode cX8_canTriangle 4 = .ok (.iconst 3, 1) := by decide +kernel
theorem dX8_canTriangle_5 : decode cX8_canTriangle 5 = .ok (.iadd, 1) := by decide +kernel
theorem dX8_canTriangle_6 : decode cX8_canTriangle 6 = .ok (.bipush 20, 2) := by decide +kernel
theorem dX8_canTriangle_8 : decode cX8_canTriangle 8 = .ok (.if_icmp .gt 12, 3) := by decide +kernel
theorem dX8_canTriangle_11 : decode cX8_canTriangle 11 = .ok (.aload_n 0, 1) := by decide +kernel
theorem dX8_canTriangle_12 : decode cX8_canTriangle 12 = .ok (.iload_n 1, 1) := by decide +kernel
theorem dX8_canTriangle_13 : decode cX8_canTriangle 13 = .ok (.iconst 3, 1) := by decide +kernel
theorem dX8_canTriangle_14 : decode cX8_canTriangle 14 = .ok (.invokevirtual 172, 3) := by decide +kernel
theorem dX8_canTriangle_17 : decode cX8_canTriangle 17 = .ok (.ifCond .ne 5, 3) := by decide +kernel
theorem dX8_canTriangle_20 : decode cX8_canTriangle 20 = .ok (.iconst 0, 1) := by decide +kernel
theorem dX8_canTriangle_21 : decode cX8_canTriangle 21 = .ok (.ireturn, 1) := by decide +kernel
theorem dX8_canTriangle_22 : decode cX8_canTriangle 22 = .ok (.aload_n 0, 1) := by decide +kernel
theorem dX8_canTriangle_23 : decode cX8_canTriangle 23 = .ok (.getfield 16, 3) := by decide +kernel
theorem dX8_canTriangle_26 : decode cX8_canTriangle 26 = .ok (.aload_n 0, 1) := by decide +kernel
theorem dX8_canTriangle_27 : decode cX8_canTriangle 27 = .ok (.getfield 44, 3) := by decide +kernel
theorem dX8_canTriangle_30 : decode cX8_canTriangle 30 = .ok (.iconst 0, 1) := by decide +kernel
theorem dX8_canTriangle_31 : decode cX8_canTriangle 31 = .ok (.iaload, 1) := by decide +kernel
theorem dX8_canTriangle_32 : decode cX8_canTriangle 32 = .ok (.iaload, 1) := by decide +kernel
theorem dX8_canTriangle_33 : decode cX8_canTriangle 33 = .ok (.istore_n 2, 1) := by decide +kernel
theorem dX8_canTriangle_34 : decode cX8_canTriangle 34 = .ok (.aload_n 0, 1) := by decide +kernel
theorem dX8_canTriangle_35 : decode cX8_canTriangle 35 = .ok (.getfield 16, 3) := by decide +kernel
theorem dX8_canTriangle_38 : decode cX8_canTriangle 38 = .ok (.aload_n 0, 1) := by decide +kernel
theorem dX8_canTriangle_39 : decode cX8_canTriangle 39 = .ok (.getfield 44, 3) := by decide +kernel
theorem dX8_canTriangle_42 : decode cX8_canTriangle 42 = .ok (.iconst 1, 1) := by decide +kernel
theorem dX8_canTriangle_43 : decode cX8_canTriangle 43 = .ok (.iaload, 1) := by decide +kernel
theorem dX8_canTriangle_44 : decode cX8_canTriangle 44 = .ok (.iaload, 1) := by decide +kernel
theorem dX8_canTriangle_45 : decode cX8_canTriangle 45 = .ok (.istore_n 3, 1) := by decide +kernel
theorem dX8_canTriangle_46 : decode cX8_canTriangle 46 = .ok (.aload_n 0, 1) := by decide +kernel
theorem dX8_canTriangle_47 : decode cX8_canTriangle 47 = .ok (.getfield 16, 3) := by decide +kernel
theorem dX8_canTriangle_50 : decode cX8_canTriangle 50 = .ok (.aload_n 0, 1) := by decide +kernel
theorem dX8_canTriangle_51 : decode cX8_canTriangle 51 = .ok (.getfield 44, 3) := by decide +kernel
theorem dX8_canTriangle_54 : decode cX8_canTriangle 54 = .ok (.iconst 2, 1) := by decide +kernel
theorem dX8_canTriangle_55 : decode cX8_canTriangle 55 = .ok (.iaload, 1) := by decide +kernel
theorem dX8_canTriangle_56 : decode cX8_canTriangle 56 = .ok (.iaload, 1) := by decide +kernel
theorem dX8_canTriangle_57 : decode cX8_canTriangle 57 = .ok (.istore 4, 2) := by decide +kernel
theorem dX8_canTriangle_59 : decode cX8_canTriangle 59 = .ok (.iload_n 2, 1) := by decide +kernel
theorem dX8_canTriangle_60 : decode cX8_canTriangle 60 = .ok (.iload_n 3, 1) := by decide +kernel
theorem dX8_canTriangle_61 : decode cX8_canTriangle 61 = .ok (.iadd, 1) := by decide +kernel
theorem dX8_canTriangle_62 : decode cX8_canTriangle 62 = .ok (.iload 4, 2) := by decide +kernel
theorem dX8_canTriangle_64 : decode cX8_canTriangle 64 = .ok (.iadd, 1) := by decide +kernel
theorem dX8_canTriangle_65 : decode cX8_canTriangle 65 = .ok (.istore 5, 2) := by decide +kernel
theorem dX8_canTriangle_67 : decode cX8_canTriangle 67 = .ok (.iload_n 2, 1) := by decide +kernel
theorem dX8_canTriangle_68 : decode cX8_canTriangle 68 = .ok (.iload_n 3, 1) := by decide +kernel
theorem dX8_canTriangle_69 : decode cX8_canTriangle 69 = .ok (.imul, 1) := by decide +kernel
theorem dX8_canTriangle_70 : decode cX8_canTriangle 70 = .ok (.iload 5, 2) := by decide +kernel
theorem dX8_canTriangle_72 : decode cX8_canTriangle 72 = .ok (.invokestatic 169, 3) := by decide +kernel
theorem dX8_canTriangle_75 : decode cX8_canTriangle 75 = .ok (.ifCond .eq 31, 3) := by decide +kernel
theorem dX8_canTriangle_78 : decode cX8_canTriangle 78 = .ok (.iload_n 2, 1) := by decide +kernel
theorem dX8_canTriangle_79 : decode cX8_canTriangle 79 = .ok (.iload 4, 2) := by decide +kernel
theorem dX8_canTriangle_81 : decode cX8_canTriangle 81 = .ok (.imul, 1) := by decide +kernel
theorem dX8_canTriangle_82 : decode cX8_canTriangle 82 = .ok (.iload 5, 2) := by decide +kernel
theorem dX8_canTriangle_84 : decode cX8_canTriangle 84 = .ok (.invokestatic 169, 3) := by decide +kernel
theorem dX8_canTriangle_87 : decode cX8_canTriangle 87 = .ok (.ifCond .eq 19, 3) := by decide +kernel
theorem dX8_canTriangle_90 : decode cX8_canTriangle 90 = .ok (.iload_n 3, 1) := by decide +kernel
theorem dX8_canTriangle_91 : decode cX8_canTriangle 91 = .ok (.iload 4, 2) := by decide +kernel
theorem dX8_canTriangle_93 : decode cX8_canTriangle 93 = .ok (.imul, 1) := by decide +kernel
theorem dX8_canTriangle_94 : decode cX8_canTriangle 94 = .ok (.iload 5, 2) := by decide +kernel
theorem dX8_canTriangle_96 : decode cX8_canTriangle 96 = .ok (.invokestatic 169, 3) := by decide +kernel
theorem dX8_canTriangle_99 : decode cX8_canTriangle 99 = .ok (.ifCond .eq 7, 3) := by decide +kernel
theorem dX8_canTriangle_102 : decode cX8_canTriangle 102 = .ok (.iconst 1, 1) := by decide +kernel
theorem dX8_canTriangle_103 : decode cX8_canTriangle 103 = .ok (.goto 4, 3) := by decide +kernel
theorem dX8_canTriangle_106 : decode cX8_canTriangle 106 = .ok (.iconst 0, 1) := by decide +kernel
theorem dX8_canTriangle_107 : decode cX8_canTriangle 107 = .ok (.ireturn, 1) := by decide +kernel
set_option maxRecDepth 20000 in
theorem ggX8_canSeries_X8_isInner : GoodIn wsX8_canSeries wsX8_isInner := goodIn_r _ [8, 9, 10, 11, 7, 12, 13, 14, 15, 16, 17, 18, 19, 20, 21, 22, 23, 3, 24, 25, 26, 27, 34, 35, 36, 37, 38, 39, 40, 41, 42, 43, 44, 45, 46, 47, 48, 49, 50, 51, 52, 53, 54] (by decide +kernel) (by decide +kernel)
set_option maxRecDepth 20000 in
theorem gX8_canSeries_X8_isInner : GoodIn wsX8_canSeries (wsV RX8 172 RX8 yX8_isInner wsX8_isInner) := goodIn_app (goodIn_of _ (by decide +kernel)) ggX8_canSeries_X8_isInner
set_option maxRecDepth 20000 in
theorem ggX8_canSeries_X8_isWhole : GoodIn wsX8_canSeries wsX8_isWhole := goodIn_r _ [30, 31, 32, 7, 33] (by decide +kernel) (by decide +kernel)
set_option maxRecDepth 20000 in
theorem gX8_canSeries_X8_isWhole : GoodIn wsX8_canSeries (va_wsS RX8 169 yX8_isWhole wsX8_isWhole) := goodIn_app (goodIn_of _ (by decide +kernel)) ggX8_canSeries_X8_isWhole
theorem dX8_canSeries_0 : decode cX8_canSeries 0 = .ok (.aload_n 0, 1) := by decide +kernel
theorem dX8_canSeries_1 : decode cX8_canSeries 1 = .ok (.getfield 82, 3) := by decide +kernel
theorem dX8_canSeries_4 : decode cX8_canSeries 4 = .ok (.bipush 20, 2) := by decide +kernel
theorem dX8_canSeries_6 : decode cX8_canSeries 6 = .ok (.if_icmp .eq 12, 3) := by decide +kernel
theorem dX8_canSeries_9 : decode cX8_canSeries 9 = .ok (.aload_n 0, 1) := by decide +kernel
theorem dX8_canSeries_10 : decode cX8_canSeries 10 = .ok (.iload_n 1, 1) := by decide +kernel
theorem dX8_canSeries_11 : decode cX8_canSeries 11 = .ok (.iconst 2, 1) := by decide +kernel
theorem dX8_canSeries_12 : decode cX8_canSeries 12 = .ok (.invokevirtual 172, 3) := by decide +kernel
theorem dX8_canSeries_15 : decode cX8_canSeries 15 = .ok (.ifCond .ne 5, 3) := by decide +kernel
theorem dX8_canSeries_18 : decode cX8_canSeries 18 = .ok (.iconst 0, 1) := by decide +kernel
theorem dX8_canSeries_19 : decode cX8_canSeries 19 = .ok (.ireturn, 1) := by decide +kernel
theorem dX8_canSeries_20 : decode cX8_canSeries 20 = .ok (.aload_n 0, 1) := by decide +kernel
theorem dX8_canSeries_21 : decode cX8_canSeries 21 = .ok (.getfield 16, 3) := by decide +kernel
theorem dX8_canSeries_24 : decode cX8_canSeries 24 = .ok (.aload_n 0, 1) := by decide +kernel
theorem dX8_canSeries_25 : decode cX8_canSeries 25 = .ok (.getfield 44, 3) := by decide +kernel
theorem dX8_canSeries_28 : decode cX8_canSeries 28 = .ok (.iconst 0, 1) := by decide +kernel
theorem dX8_canSeries_29 : decode cX8_canSeries 29 = .ok (.iaload, 1) := by decide +kernel
theorem dX8_canSeries_30 : decode cX8_canSeries 30 = .ok (.iaload, 1) := by decide +kernel
theorem dX8_canSeries_31 : decode cX8_canSeries 31 = .ok (.istore_n 2, 1) := by decide +kernel
theorem dX8_canSeries_32 : decode cX8_canSeries 32 = .ok (.aload_n 0, 1) := by decide +kernel
theorem dX8_canSeries_33 : decode cX8_canSeries 33 = .ok (.getfield 16, 3) := by decide +kernel
theorem dX8_canSeries_36 : decode cX8_canSeries 36 = .ok (.aload_n 0, 1) := by decide +kernel
theorem dX8_canSeries_37 : decode cX8_canSeries 37 = .ok (.getfield 44, 3) := by decide +kernel
theorem dX8_canSeries_40 : decode cX8_canSeries 40 = .ok (.iconst 1, 1) := by decide +kernel
theorem dX8_canSeries_41 : decode cX8_canSeries 41 = .ok (.iaload, 1) := by decide +kernel
theorem dX8_canSeries_42 : decode cX8_canSeries 42 = .ok (.iaload, 1) := by decide +kernel
theorem dX8_canSeries_43 : decode cX8_canSeries 43 = .ok (.istore_n 3, 1) := by decide +kernel
theorem dX8_canSeries_44 : decode cX8_canSeries 44 = .ok (.iload_n 2, 1) := by decide +kernel
theorem dX8_canSeries_45 : decode cX8_canSeries 45 = .ok (.iload_n 3, 1) := by decide +kernel
theorem dX8_canSeries_46 : decode cX8_canSeries 46 = .ok (.imul, 1) := by decide +kernel
theorem dX8_canSeries_47 : decode cX8_canSeries 47 = .ok (.iload_n 2, 1) := by decide +kernel
theorem dX8_canSeries_48 : decode cX8_canSeries 48 = .ok (.iload_n 3, 1) := by decide +kernel
theorem dX8_canSeries_49 : decode cX8_canSeries 49 = .ok (.iadd, 1) := by decide +kernel
theorem dX8_canSeries_50 : decode cX8_canSeries 50 = .ok (.invokestatic 169, 3) := by decide +kernel
theorem dX8_canSeries_53 : decode cX8_canSeries 53 = .ok (.ireturn, 1) := by decide +kernel
set_option maxRecDepth 20000 in
theorem ggX8_isPossible_X8_alike : GoodIn wsX8_isPossible wsX8_alike := goodIn_r _ [8, 9, 1, 2, 10, 11, 7, 12, 63, 64, 65, 66, 67, 68, 69, 70, 71, 72, 73, 74, 75, 76, 77, 78, 79, 80, 81, 82, 83] (by decide +kernel) (by decide +kernel)
set_option maxRecDepth 20000 in
theorem gX8_isPossible_X8_alike : GoodIn wsX8_isPossible (wsV RX8 175 RX8 yX8_alike wsX8_alike) := goodIn_app (goodIn_of _ (by decide +kernel)) ggX8_isPossible_X8_alike
set_option maxRecDepth 20000 in
theorem ggX8_isPossible_X8_isInner : GoodIn wsX8_isPossible wsX8_isInner := goodIn_r _ [16, 17, 10, 11, 7, 12, 18, 19, 20, 21, 9, 1, 2, 22, 23, 24, 25, 26, 27, 28, 29, 30, 63, 64, 65, 66, 67, 68, 69, 70, 71, 72, 73, 74, 75, 76, 77, 78, 79, 80, 81, 82, 83] (by decide +kernel) (by decide +kernel)
set_option maxRecDepth 20000 in
theorem gX8_isPossible_X8_isInner : GoodIn wsX8_isPossible (wsV RX8 172 RX8 yX8_isInner wsX8_isInner) := goodIn_app (goodIn_of _ (by decide +kernel)) ggX8_isPossible_X8_isInner
set_option maxRecDepth 20000 in
theorem ggX8_isPossible_X8_canSeries : GoodIn wsX8_isPossible wsX8_canSeries := goodIn_r _ [34, 35, 3, 26, 13, 14, 15, 7, 16, 17, 10, 11, 12, 18, 19, 20, 21, 9, 1, 2, 22, 23, 24, 25, 27, 28, 29, 30, 36, 37, 38, 39, 40, 41, 63, 64, 65, 66, 67, 68, 69, 70, 71, 72, 73, 74, 75, 76, 77, 78, 79, 80, 81, 82, 83] (by decide +kernel) (by decide +kernel)
set_option maxRecDepth 20000 in
theorem gX8_isPossible_X8_canSeries : GoodIn wsX8_isPossible (wsV RX8 178 RX8 yX8_canSeries wsX8_canSeries) := goodIn_app (goodIn_of _ (by decide +kernel)) ggX8_isPossible_X8_canSeries
set_option maxRecDepth 20000 in
theorem ggX8_isPossible_X8_canTriangle : GoodIn wsX8_isPossible wsX8_canTriangle := goodIn_r _ [45, 35, 3, 26, 13, 14, 15, 7, 16, 17, 10, 11, 12, 18, 19, 20, 21, 9, 1, 2, 22, 23, 24, 25, 27, 28, 29, 30, 36, 37, 38, 39, 40, 41, 63, 64, 65, 66, 67, 68, 69, 70, 71, 72, 73, 74, 75, 76, 77, 78, 79, 80, 81, 82, 83] (by decide +kernel) (by decide +kernel)
set_option maxRecDepth 20000 in
theorem gX8_isPossible_X8_canTriangle : GoodIn wsX8_isPossible (wsV RX8 181 RX8 yX8_canTriangle wsX8_canTriangle) := goodIn_app (goodIn_of _ (by decide +kernel)) ggX8_isPossible_X8_canTriangle
set_option maxRecDepth 20000 in
theorem ggX8_isPossible_X8_canStar : GoodIn wsX8_isPossible wsX8_canStar := goodIn_r _ [49, 35, 50, 3, 26, 51, 52, 53, 7, 54, 1, 2, 9, 27, 10, 11, 12, 28, 29, 30, 55, 56, 57, 58, 59, 60, 61, 62, 36, 37, 38, 39, 40, 41, 63, 64, 65, 66, 67, 68, 69, 70, 71, 72, 73, 74, 75, 76, 77, 78, 79, 80, 81, 82, 83] (by decide +kernel) (by decide +kernel)
set_option maxRecDepth 20000 in
theorem gX8_isPossible_X8_canStar : GoodIn wsX8_isPossible (wsV RX8 184 RX8 yX8_canStar wsX8_canStar) := goodIn_app (goodIn_of _ (by decide +kernel)) ggX8_isPossible_X8_canStar
theorem dX8_isPossible_0 : decode cX8_isPossible 0 = .ok (.iload_n 1, 1) := by decide +kernel
theorem dX8_isPossible_1 : decode cX8_isPossible 1 = .ok (.tableswitch 112 0 4 #[35, 56, 93, 100, 106], 35) := by decide +kernel
theorem dX8_isPossible_36 : decode cX8_isPossible 36 = .ok (.aload_n 0, 1) := by decide +kernel
theorem dX8_isPossible_37 : decode cX8_isPossible 37 = .ok (.getfield 7, 3) := by decide +kernel
theorem dX8_isPossible_40 : decode cX8_isPossible 40 = .ok (.iload_n 2, 1) := by decide +kernel
theorem dX8_isPossible_41 : decode cX8_isPossible 41 = .ok (.iaload, 1) := by decide +kernel
theorem dX8_isPossible_42 : decode cX8_isPossible 42 = .ok (.aload_n 0, 1) := by decide +kernel
theorem dX8_isPossible_43 : decode cX8_isPossible 43 = .ok (.getfield 13, 3) := by decide +kernel
theorem dX8_isPossible_46 : decode cX8_isPossible 46 = .ok (.iload_n 2, 1) := by decide +kernel
theorem dX8_isPossible_47 : decode cX8_isPossible 47 = .ok (.iaload, 1) := by decide +kernel
theorem dX8_isPossible_48 : decode cX8_isPossible 48 = .ok (.if_icmp .ne 7, 3) := by decide +kernel
theorem dX8_isPossible_51 : decode cX8_isPossible 51 = .ok (.iconst 1, 1) := by decide +kernel
theorem dX8_isPossible_52 : decode cX8_isPossible 52 = .ok (.goto 4, 3) := by decide +kernel
theorem dX8_isPossible_55 : decode cX8_isPossible 55 = .ok (.iconst 0, 1) := by decide +kernel
theorem dX8_isPossible_56 : decode cX8_isPossible 56 = .ok (.ireturn, 1) := by decide +kernel
theorem dX8_isPossible_57 : decode cX8_isPossible 57 = .ok (.aload_n 0, 1) := by decide +kernel
theorem dX8_isPossible_58 : decode cX8_isPossible 58 = .ok (.iload_n 2, 1) := by decide +kernel
theorem dX8_isPossible_59 : decode cX8_isPossible 59 = .ok (.invokevirtual 175, 3) := by decide +kernel
theorem dX8_isPossible_62 : decode cX8_isPossible 62 = .ok (.iconst (-1), 1) := by decide +kernel
theorem dX8_isPossible_63 : decode cX8_isPossible 63 = .ok (.if_icmp .eq 29, 3) := by decide +kernel
theorem dX8_isPossible_66 : decode cX8_isPossible 66 = .ok (.aload_n 0, 1) := by decide +kernel
theorem dX8_isPossible_67 : decode cX8_isPossible 67 = .ok (.getfield 16, 3) := by decide +kernel
theorem dX8_isPossible_70 : decode cX8_isPossible 70 = .ok (.iload_n 2, 1) := by decide +kernel
theorem dX8_isPossible_71 : decode cX8_isPossible 71 = .ok (.iaload, 1) := by decide +kernel
theorem dX8_isPossible_72 : decode cX8_isPossible 72 = .ok (.aload_n 0, 1) := by decide +kernel
theorem dX8_isPossible_73 : decode cX8_isPossible 73 = .ok (.getfield 16, 3) := by decide +kernel
theorem dX8_isPossible_76 : decode cX8_isPossible 76 = .ok (.aload_n 0, 1) := by decide +kernel
theorem dX8_isPossible_77 : decode cX8_isPossible 77 = .ok (.iload_n 2, 1) := by decide +kernel
theorem dX8_isPossible_78 : decode cX8_isPossible 78 = .ok (.invokevirtual 175, 3) := by decide +kernel
theorem dX8_isPossible_81 : decode cX8_isPossible 81 = .ok (.iaload, 1) := by decide +kernel
theorem dX8_isPossible_82 : decode cX8_isPossible 82 = .ok (.iadd, 1) := by decide +kernel
theorem dX8_isPossible_83 : decode cX8_isPossible 83 = .ok (.bipush 60, 2) := by decide +kernel
theorem dX8_isPossible_85 : decode cX8_isPossible 85 = .ok (.if_icmp .gt 7, 3) := by decide +kernel
theorem dX8_isPossible_88 : decode cX8_isPossible 88 = .ok (.iconst 1, 1) := by decide +kernel
theorem dX8_isPossible_89 : decode cX8_isPossible 89 = .ok (.goto 4, 3) := by decide +kernel
theorem dX8_isPossible_92 : decode cX8_isPossible 92 = .ok (.iconst 0, 1) := by decide +kernel
theorem dX8_isPossible_93 : decode cX8_isPossible 93 = .ok (.ireturn, 1) := by decide +kernel
theorem dX8_isPossible_94 : decode cX8_isPossible 94 = .ok (.aload_n 0, 1) := by decide +kernel
theorem dX8_isPossible_95 : decode cX8_isPossible 95 = .ok (.iload_n 2, 1) := by decide +kernel
theorem dX8_isPossible_96 : decode cX8_isPossible 96 = .ok (.iconst 1, 1) := by decide +kernel
theorem dX8_isPossible_97 : decode cX8_isPossible 97 = .ok (.invokevirtual 172, 3) := by decide +kernel
theorem dX8_isPossible_100 : decode cX8_isPossible 100 = .ok (.ireturn, 1) := by decide +kernel
theorem dX8_isPossible_101 : decode cX8_isPossible 101 = .ok (.aload_n 0, 1) := by decide +kernel
theorem dX8_isPossible_102 : decode cX8_isPossible 102 = .ok (.iload_n 2, 1) := by decide +kernel
theorem dX8_isPossible_103 : decode cX8_isPossible 103 = .ok (.invokevirtual 178, 3) := by decide +kernel
theorem dX8_isPossible_106 : decode cX8_isPossible 106 = .ok (.ireturn, 1) := by decide +kernel
theorem dX8_isPossible_107 : decode cX8_isPossible 107 = .ok (.aload_n 0, 1) := by decide +kernel
theorem dX8_isPossible_108 : decode cX8_isPossible 108 = .ok (.iload_n 2, 1) := by decide +kernel
theorem dX8_isPossible_109 : decode cX8_isPossible 109 = .ok (.invokevirtual 181, 3) := by decide +kernel
theorem dX8_isPossible_112 : decode cX8_isPossible 112 = .ok (.ireturn, 1) := by decide +kernel
theorem dX8_isPossible_113 : decode cX8_isPossible 113 = .ok (.aload_n 0, 1) := by decide +kernel
theorem dX8_isPossible_114 : decode cX8_isPossible 114 = .ok (.iload_n 2, 1) := by decide +kernel
theorem dX8_isPossible_115 : decode cX8_isPossible 115 = .ok (.invokevirtual 184, 3) := by decide +kernel
theorem dX8_isPossible_118 : decode cX8_isPossible 118 = .ok (.ireturn, 1) := by decide +kernel
theorem dX8_keepsNetwork_0 : decode cX8_keepsNetwork 0 = .ok (.bipush 25, 2) := by decide +kernel
theorem dX8_keepsNetwork_2 : decode cX8_keepsNetwork 2 = .ok (.aload_n 0, 1) := by decide +kernel
theorem dX8_keepsNetwork_3 : decode cX8_keepsNetwork 3 = .ok (.getfield 75, 3) := by decide +kernel
theorem dX8_keepsNetwork_6 : decode cX8_keepsNetwork 6 = .ok (.imul, 1) := by decide +kernel
theorem dX8_keepsNetwork_7 : decode cX8_keepsNetwork 7 = .ok (.istore_n 1, 1) := by decide +kernel
theorem dX8_keepsNetwork_8 : decode cX8_keepsNetwork 8 = .ok (.aload_n 0, 1) := by decide +kernel
theorem dX8_keepsNetwork_9 : decode cX8_keepsNetwork 9 = .ok (.getfield 22, 3) := by decide +kernel
theorem dX8_keepsNetwork_12 : decode cX8_keepsNetwork 12 = .ok (.iload_n 1, 1) := by decide +kernel
theorem dX8_keepsNetwork_13 : decode cX8_keepsNetwork 13 = .ok (.aload_n 0, 1) := by decide +kernel
theorem dX8_keepsNetwork_14 : decode cX8_keepsNetwork 14 = .ok (.getfield 55, 3) := by decide +kernel
theorem dX8_keepsNetwork_17 : decode cX8_keepsNetwork 17 = .ok (.iastore, 1) := by decide +kernel
