theorem dX0_init_0 : decode cX0_init 0 = .ok (.aload_n 0, 1) := by decide +kernel
theorem dX0_init_1 : decode cX0_init 1 = .ok (.invokespecial 3, 3) := by decide +kernel
theorem dX0_init_4 : decode cX0_init 4 = .ok (.aload_n 0, 1) := by decide +kernel
theorem dX0_init_5 : decode cX0_init 5 = .ok (.aload_n 1, 1) := by decide +kernel
theorem dX0_init_6 : decode cX0_init 6 = .ok (.putfield 9, 3) := by decide +kernel
theorem dX0_init_9 : decode cX0_init 9 = .ok (.aload_n 0, 1) := by decide +kernel
theorem dX0_init_10 : decode cX0_init 10 = .ok (.bipush 20, 2) := by decide +kernel
theorem dX0_init_12 : decode cX0_init 12 = .ok (.newarray .int, 2) := by decide +kernel
theorem dX0_init_14 : decode cX0_init 14 = .ok (.putfield 15, 3) := by decide +kernel
theorem dX0_init_17 : decode cX0_init 17 = .ok (.aload_n 0, 1) := by decide +kernel
theorem dX0_init_18 : decode cX0_init 18 = .ok (.bipush 8, 2) := by decide +kernel
theorem dX0_init_20 : decode cX0_init 20 = .ok (.bipush 7, 2) := by decide +kernel
theorem dX0_init_22 : decode cX0_init 22 = .ok (.multianewarray 19 2, 4) := by decide +kernel
theorem dX0_init_26 : decode cX0_init 26 = .ok (.putfield 21, 3) := by decide +kernel
theorem dX0_init_29 : decode cX0_init 29 = .ok (.return_, 1) := by decide +kernel
set_option maxRecDepth 20000 in
theorem ggX0_count_X0_countWith : GoodIn wsX0_count wsX0_countWith := goodIn_r _ [5, 6, 7, 8, 9, 10, 11, 4, 12, 13, 14, 15, 16, 17, 18, 19, 20, 21, 22, 23, 24, 25, 26, 27, 28, 29, 30, 31, 32, 33, 34, 35, 36, 37, 38, 39, 40, 41, 42, 43, 44, 45, 46, 47, 48, 49, 50, 51, 52, 53, 54, 55, 56, 57, 58, 59, 60, 61, 62, 63, 64, 65, 66, 67, 68, 69, 70, 71, 72, 73, 74, 75, 76, 77, 78, 79, 80, 81, 82, 83, 84, 85, 86, 87, 88, 89, 90, 91, 92, 93] (by decide +kernel) (by decide +kernel)
set_option maxRecDepth 20000 in
theorem gX0_count_X0_countWith : GoodIn wsX0_count (wsV RX0 24 RX0 yX0_countWith wsX0_countWith) := goodIn_app (goodIn_of _ (by decide +kernel)) ggX0_count_X0_countWith
theorem dX0_count_0 : decode cX0_count 0 = .ok (.aload_n 0, 1) := by decide +kernel
theorem dX0_count_1 : decode cX0_count 1 = .ok (.iload_n 1, 1) := by decide +kernel
theorem dX0_count_2 : decode cX0_count 2 = .ok (.iconst 0, 1) := by decide +kernel
theorem dX0_count_3 : decode cX0_count 3 = .ok (.iconst 0, 1) := by decide +kernel
theorem dX0_count_4 : decode cX0_count 4 = .ok (.invokevirtual 24, 3) := by decide +kernel
theorem dX0_count_7 : decode cX0_count 7 = .ok (.lreturn, 1) := by decide +kernel
set_option maxRecDepth 20000 in
theorem ggX0_countWith_X0_begin : GoodIn wsX0_countWith wsX0_begin := goodIn_r _ [8, 9, 10, 11, 12, 3, 13, 14, 15, 16, 17, 18, 19, 20, 21, 22, 23, 24, 25, 26, 27, 28, 29, 30, 31, 32, 33, 34, 35, 36, 37, 38, 39, 40, 41, 42, 43, 44, 45, 46, 73, 74, 75, 76, 77, 78, 79, 80, 81, 82, 83, 84, 85, 86, 87, 88, 89] (by decide +kernel) (by decide +kernel)
set_option maxRecDepth 20000 in
theorem gX0_countWith_X0_begin : GoodIn wsX0_countWith (wsV RX0 28 RX0 yX0_begin wsX0_begin) := goodIn_app (goodIn_of _ (by decide +kernel)) ggX0_countWith_X0_begin
set_option maxRecDepth 20000 in
theorem ggX0_countWith_X0_weigh : GoodIn wsX0_countWith wsX0_weigh := goodIn_r _ [49, 12, 10, 50, 51, 52, 7, 53, 1, 2, 54, 55, 56, 57, 14, 28, 29, 30, 58, 59, 60, 61, 13, 62, 63, 64, 65, 9, 66, 36, 37, 25, 38, 39, 67, 41, 42, 43, 44, 15, 16, 17, 18, 19, 20, 21, 68, 69, 70, 71, 72, 47, 48, 73, 74, 75, 76, 77, 78, 79, 80, 81, 82, 83, 84, 85, 86, 87, 88, 89] (by decide +kernel) (by decide +kernel)
set_option maxRecDepth 20000 in
theorem gX0_countWith_X0_weigh : GoodIn wsX0_countWith (va_wsS RX0 42 yX0_weigh wsX0_weigh) := goodIn_app (goodIn_of _ (by decide +kernel)) ggX0_countWith_X0_weigh
theorem dX0_countWith_0 : decode cX0_countWith 0 = .ok (.aload_n 0, 1) := by decide +kernel
theorem dX0_countWith_1 : decode cX0_countWith 1 = .ok (.iload_n 1, 1) := by decide +kernel
theorem dX0_countWith_2 : decode cX0_countWith 2 = .ok (.invokevirtual 28, 3) := by decide +kernel
theorem dX0_countWith_5 : decode cX0_countWith 5 = .ok (.aload_n 0, 1) := by decide +kernel
theorem dX0_countWith_6 : decode cX0_countWith 6 = .ok (.iload_n 2, 1) := by decide +kernel
theorem dX0_countWith_7 : decode cX0_countWith 7 = .ok (.putfield 32, 3) := by decide +kernel
theorem dX0_countWith_10 : decode cX0_countWith 10 = .ok (.aload_n 0, 1) := by decide +kernel
theorem dX0_countWith_11 : decode cX0_countWith 11 = .ok (.iload_n 3, 1) := by decide +kernel
theorem dX0_countWith_12 : decode cX0_countWith 12 = .ok (.putfield 36, 3) := by decide +kernel
theorem dX0_countWith_15 : decode cX0_countWith 15 = .ok (.aload_n 0, 1) := by decide +kernel
theorem dX0_countWith_16 : decode cX0_countWith 16 = .ok (.iconst 0, 1) := by decide +kernel
theorem dX0_countWith_17 : decode cX0_countWith 17 = .ok (.aload_n 0, 1) := by decide +kernel
theorem dX0_countWith_18 : decode cX0_countWith 18 = .ok (.getfield 39, 3) := by decide +kernel
theorem dX0_countWith_21 : decode cX0_countWith 21 = .ok (.invokestatic 42, 3) := by decide +kernel
theorem dX0_countWith_24 : decode cX0_countWith 24 = .ok (.lreturn, 1) := by decide +kernel
set_option maxRecDepth 20000 in
theorem ggX0_treeAt_X4_lowestNode : GoodIn wsX0_treeAt wsX4_lowestNode := goodIn_r _ [8, 9, 10, 11, 7, 12, 13, 14, 15, 16, 81, 82, 83, 84, 85, 86, 87, 88] (by decide +kernel) (by decide +kernel)
set_option maxRecDepth 20000 in
theorem gX0_treeAt_X4_lowestNode : GoodIn wsX0_treeAt (wsV RX0 46 RX4 yX4_lowestNode wsX4_lowestNode) := goodIn_app (goodIn_of _ (by decide +kernel)) ggX0_treeAt_X4_lowestNode
set_option maxRecDepth 20000 in
theorem ggX0_treeAt_X7_setOf : GoodIn wsX0_treeAt wsX7_setOf := goodIn_r _ [18] (by decide +kernel) (by decide +kernel)
set_option maxRecDepth 20000 in
theorem gX0_treeAt_X7_setOf_n52 : GoodIn wsX0_treeAt (wsX7_setOf) := ggX0_treeAt_X7_setOf
set_option maxRecDepth 20000 in
theorem ggX0_treeAt_X0_begin : GoodIn wsX0_treeAt wsX0_begin := goodIn_r _ [23, 24, 1, 25, 26, 3, 27, 28, 29, 30, 31, 32, 33, 34, 35, 36, 37, 38, 7, 39, 40, 14, 15, 16, 41, 42, 43, 44, 45, 46, 47, 48, 49, 50, 51, 52, 53, 54, 17, 18, 72, 73, 74, 75, 76, 77, 78, 79, 80, 81, 82, 83, 84, 85, 86, 87, 88] (by decide +kernel) (by decide +kernel)
set_option maxRecDepth 20000 in
theorem gX0_treeAt_X0_begin : GoodIn wsX0_treeAt (wsV RX0 28 RX0 yX0_begin wsX0_begin) := goodIn_app (goodIn_of _ (by decide +kernel)) ggX0_treeAt_X0_begin
set_option maxRecDepth 20000 in
theorem ggX0_treeAt_X0_find : GoodIn wsX0_treeAt wsX0_find := goodIn_r _ [57, 26, 2, 58, 59, 60, 22, 61, 27, 62, 63, 64, 65, 1, 24, 28, 66, 46, 47, 7, 48, 49, 67, 51, 52, 53, 54, 68, 69, 70, 71, 14, 15, 16, 29, 30, 31, 32, 33, 34, 35, 55, 56, 17, 18, 72, 73, 74, 75, 76, 77, 78, 79, 80, 81, 82, 83, 84, 85, 86, 87, 88] (by decide +kernel) (by decide +kernel)
set_option maxRecDepth 20000 in
theorem gX0_treeAt_X0_find : GoodIn wsX0_treeAt (va_wsS RX0 59 yX0_find wsX0_find) := goodIn_app (goodIn_of _ (by decide +kernel)) ggX0_treeAt_X0_find
theorem dX0_treeAt_0 : decode cX0_treeAt 0 = .ok (.aload_n 0, 1) := by decide +kernel
theorem dX0_treeAt_1 : decode cX0_treeAt 1 = .ok (.getfield 9, 3) := by decide +kernel
theorem dX0_treeAt_4 : decode cX0_treeAt 4 = .ok (.invokevirtual 46, 3) := by decide +kernel
theorem dX0_treeAt_7 : decode cX0_treeAt 7 = .ok (.istore_n 2, 1) := by decide +kernel
theorem dX0_treeAt_8 : decode cX0_treeAt 8 = .ok (.iload_n 2, 1) := by decide +kernel
theorem dX0_treeAt_9 : decode cX0_treeAt 9 = .ok (.iconst (-1), 1) := by decide +kernel
theorem dX0_treeAt_10 : decode cX0_treeAt 10 = .ok (.if_icmp .ne 5, 3) := by decide +kernel
theorem dX0_treeAt_13 : decode cX0_treeAt 13 = .ok (.iconst (-1), 1) := by decide +kernel
theorem dX0_treeAt_14 : decode cX0_treeAt 14 = .ok (.ireturn, 1) := by decide +kernel
theorem dX0_treeAt_15 : decode cX0_treeAt 15 = .ok (.aload_n 0, 1) := by decide +kernel
theorem dX0_treeAt_16 : decode cX0_treeAt 16 = .ok (.iload_n 2, 1) := by decide +kernel
theorem dX0_treeAt_17 : decode cX0_treeAt 17 = .ok (.invokestatic 52, 3) := by decide +kernel
theorem dX0_treeAt_20 : decode cX0_treeAt 20 = .ok (.invokevirtual 28, 3) := by decide +kernel
theorem dX0_treeAt_23 : decode cX0_treeAt 23 = .ok (.aload_n 0, 1) := by decide +kernel
theorem dX0_treeAt_24 : decode cX0_treeAt 24 = .ok (.iload_n 1, 1) := by decide +kernel
theorem dX0_treeAt_25 : decode cX0_treeAt 25 = .ok (.putfield 56, 3) := by decide +kernel
theorem dX0_treeAt_28 : decode cX0_treeAt 28 = .ok (.aload_n 0, 1) := by decide +kernel
theorem dX0_treeAt_29 : decode cX0_treeAt 29 = .ok (.iconst 0, 1) := by decide +kernel
theorem dX0_treeAt_30 : decode cX0_treeAt 30 = .ok (.aload_n 0, 1) := by decide +kernel
theorem dX0_treeAt_31 : decode cX0_treeAt 31 = .ok (.getfield 39, 3) := by decide +kernel
theorem dX0_treeAt_34 : decode cX0_treeAt 34 = .ok (.invokestatic 59, 3) := by decide +kernel
theorem dX0_treeAt_37 : decode cX0_treeAt 37 = .ok (.ireturn, 1) := by decide +kernel
set_option maxRecDepth 20000 in
theorem ggX0_begin_J6_bitCount_0f7a4 : GoodIn wsX0_begin wsJ6_bitCount_0f7a4 := goodIn_r _ [11, 12, 13, 14] (by decide +kernel) (by decide +kernel)
set_option maxRecDepth 20000 in
theorem gX0_begin_J6_bitCount_0f7a4 : GoodIn wsX0_begin (va_wsS RX0 69 yJ6_bitCount_0f7a4 wsJ6_bitCount_0f7a4) := goodIn_app (goodIn_of _ (by decide +kernel)) ggX0_begin_J6_bitCount_0f7a4
set_option maxRecDepth 20000 in
theorem ggX0_begin_X4_hasWire : GoodIn wsX0_begin wsX4_hasWire := goodIn_r _ [19, 20, 21, 22, 23, 49, 50, 51, 52, 53, 54, 55, 56] (by decide +kernel) (by decide +kernel)
set_option maxRecDepth 20000 in
theorem gX0_begin_X4_hasWire : GoodIn wsX0_begin (wsV RX0 77 RX4 yX4_hasWire wsX4_hasWire) := goodIn_app (goodIn_of _ (by decide +kernel)) ggX0_begin_X4_hasWire
set_option maxRecDepth 20000 in
theorem ggX0_begin_X4_isRing : GoodIn wsX0_begin wsX4_isRing := goodIn_r _ [27, 28, 29, 30, 18, 31, 32, 33, 34, 35, 36, 37, 49, 50, 51, 52, 53, 54, 55, 56] (by decide +kernel) (by decide +kernel)
set_option maxRecDepth 20000 in
theorem gX0_begin_X4_isRing : GoodIn wsX0_begin (wsV RX0 81 RX4 yX4_isRing wsX4_isRing) := goodIn_app (goodIn_of _ (by decide +kernel)) ggX0_begin_X4_isRing
set_option maxRecDepth 20000 in
theorem ggX0_begin_X7_setOf : GoodIn wsX0_begin wsX7_setOf := goodIn_r _ [39] (by decide +kernel) (by decide +kernel)
set_option maxRecDepth 20000 in
theorem gX0_begin_X7_setOf_n52 : GoodIn wsX0_begin (wsX7_setOf) := ggX0_begin_X7_setOf
theorem dX0_begin_0 : decode cX0_begin 0 = .ok (.aload_n 0, 1) := by decide +kernel
theorem dX0_begin_1 : decode cX0_begin 1 = .ok (.iload_n 1, 1) := by decide +kernel
theorem dX0_begin_2 : decode cX0_begin 2 = .ok (.putfield 63, 3) := by decide +kernel
theorem dX0_begin_5 : decode cX0_begin 5 = .ok (.aload_n 0, 1) := by decide +kernel
theorem dX0_begin_6 : decode cX0_begin 6 = .ok (.aload_n 0, 1) := by decide +kernel
theorem dX0_begin_7 : decode cX0_begin 7 = .ok (.getfield 9, 3) := by decide +kernel
theorem dX0_begin_10 : decode cX0_begin 10 = .ok (.getfield 66, 3) := by decide +kernel
theorem dX0_begin_13 : decode cX0_begin 13 = .ok (.invokestatic 69, 3) := by decide +kernel
theorem dX0_begin_16 : decode cX0_begin 16 = .ok (.iload_n 1, 1) := by decide +kernel
theorem dX0_begin_17 : decode cX0_begin 17 = .ok (.invokestatic 69, 3) := by decide +kernel
theorem dX0_begin_20 : decode cX0_begin 20 = .ok (.isub, 1) := by decide +kernel
theorem dX0_begin_21 : decode cX0_begin 21 = .ok (.putfield 74, 3) := by decide +kernel
theorem dX0_begin_24 : decode cX0_begin 24 = .ok (.aload_n 0, 1) := by decide +kernel
theorem dX0_begin_25 : decode cX0_begin 25 = .ok (.iconst 0, 1) := by decide +kernel
theorem dX0_begin_26 : decode cX0_begin 26 = .ok (.putfield 39, 3) := by decide +kernel
theorem dX0_begin_29 : decode cX0_begin 29 = .ok (.iconst 0, 1) := by decide +kernel
theorem dX0_begin_30 : decode cX0_begin 30 = .ok (.istore_n 2, 1) := by decide +kernel
theorem dX0_begin_31 : decode cX0_begin 31 = .ok (.iload_n 2, 1) := by decide +kernel
theorem dX0_begin_32 : decode cX0_begin 32 = .ok (.bipush 20, 2) := by decide +kernel
theorem dX0_begin_34 : decode cX0_begin 34 = .ok (.if_icmp .ge 63, 3) := by decide +kernel
theorem dX0_begin_37 : decode cX0_begin 37 = .ok (.aload_n 0, 1) := by decide +kernel
theorem dX0_begin_38 : decode cX0_begin 38 = .ok (.getfield 9, 3) := by decide +kernel
theorem dX0_begin_41 : decode cX0_begin 41 = .ok (.iload_n 2, 1) := by decide +kernel
theorem dX0_begin_42 : decode cX0_begin 42 = .ok (.invokevirtual 77, 3) := by decide +kernel
theorem dX0_begin_45 : decode cX0_begin 45 = .ok (.ifCond .eq 46, 3) := by decide +kernel
theorem dX0_begin_48 : decode cX0_begin 48 = .ok (.aload_n 0, 1) := by decide +kernel
theorem dX0_begin_49 : decode cX0_begin 49 = .ok (.getfield 9, 3) := by decide +kernel
theorem dX0_begin_52 : decode cX0_begin 52 = .ok (.iload_n 2, 1) := by decide +kernel
theorem dX0_begin_53 : decode cX0_begin 53 = .ok (.invokevirtual 81, 3) := by decide +kernel
theorem dX0_begin_56 : decode cX0_begin 56 = .ok (.ifCond .ne 35, 3) := by decide +kernel
theorem dX0_begin_59 : decode cX0_begin 59 = .ok (.aload_n 0, 1) := by decide +kernel
theorem dX0_begin_60 : decode cX0_begin 60 = .ok (.getfield 39, 3) := by decide +kernel
theorem dX0_begin_63 : decode cX0_begin 63 = .ok (.aload_n 0, 1) := by decide +kernel
theorem dX0_begin_64 : decode cX0_begin 64 = .ok (.getfield 15, 3) := by decide +kernel
theorem dX0_begin_67 : decode cX0_begin 67 = .ok (.arraylength, 1) := by decide +kernel
theorem dX0_begin_68 : decode cX0_begin 68 = .ok (.if_icmp .ge 23, 3) := by decide +kernel
theorem dX0_begin_71 : decode cX0_begin 71 = .ok (.aload_n 0, 1) := by decide +kernel
theorem dX0_begin_72 : decode cX0_begin 72 = .ok (.getfield 15, 3) := by decide +kernel
theorem dX0_begin_75 : decode cX0_begin 75 = .ok (.aload_n 0, 1) := by decide +kernel
theorem dX0_begin_76 : decode cX0_begin 76 = .ok (.getfield 39, 3) := by decide +kernel
theorem dX0_begin_79 : decode cX0_begin 79 = .ok (.iload_n 2, 1) := by decide +kernel
theorem dX0_begin_80 : decode cX0_begin 80 = .ok (.iastore, 1) := by decide +kernel
theorem dX0_begin_81 : decode cX0_begin 81 = .ok (.aload_n 0, 1) := by decide +kernel
theorem dX0_begin_82 : decode cX0_begin 82 = .ok (.dup, 1) := by decide +kernel
theorem dX0_begin_83 : decode cX0_begin 83 = .ok (.getfield 39, 3) := by decide +kernel
theorem dX0_begin_86 : decode cX0_begin 86 = .ok (.iconst 1, 1) := by decide +kernel
theorem dX0_begin_87 : decode cX0_begin 87 = .ok (.iadd, 1) := by decide +kernel
theorem dX0_begin_88 : decode cX0_begin 88 = .ok (.putfield 39, 3) := by decide +kernel
theorem dX0_begin_91 : decode cX0_begin 91 = .ok (.iinc 2 1, 3) := by decide +kernel
theorem dX0_begin_94 : decode cX0_begin 94 = .ok (.goto (-63), 3) := by decide +kernel
theorem dX0_begin_97 : decode cX0_begin 97 = .ok (.iconst 0, 1) := by decide +kernel
theorem dX0_begin_98 : decode cX0_begin 98 = .ok (.istore_n 2, 1) := by decide +kernel
theorem dX0_begin_99 : decode cX0_begin 99 = .ok (.iload_n 2, 1) := by decide +kernel
theorem dX0_begin_100 : decode cX0_begin 100 = .ok (.bipush 7, 2) := by decide +kernel
theorem dX0_begin_102 : decode cX0_begin 102 = .ok (.if_icmp .ge 21, 3) := by decide +kernel
theorem dX0_begin_105 : decode cX0_begin 105 = .ok (.aload_n 0, 1) := by decide +kernel
theorem dX0_begin_106 : decode cX0_begin 106 = .ok (.getfield 21, 3) := by decide +kernel
theorem dX0_begin_109 : decode cX0_begin 109 = .ok (.iconst 0, 1) := by decide +kernel
theorem dX0_begin_110 : decode cX0_begin 110 = .ok (.aaload, 1) := by decide +kernel
theorem dX0_begin_111 : decode cX0_begin 111 = .ok (.iload_n 2, 1) := by decide +kernel
theorem dX0_begin_112 : decode cX0_begin 112 = .ok (.iload_n 2, 1) := by decide +kernel
theorem dX0_begin_113 : decode cX0_begin 113 = .ok (.invokestatic 52, 3) := by decide +kernel
theorem dX0_begin_116 : decode cX0_begin 116 = .ok (.iastore, 1) := by decide +kernel
theorem dX0_begin_117 : decode cX0_begin 117 = .ok (.iinc 2 1, 3) := by decide +kernel
theorem dX0_begin_120 : decode cX0_begin 120 = .ok (.goto (-21), 3) := by decide +kernel
theorem dX0_begin_123 : decode cX0_begin 123 = .ok (.return_, 1) := by decide +kernel
set_option maxRecDepth 20000 in
theorem ggX0_weigh_X0_areTogether : GoodIn wsX0_weigh wsX0_areTogether := goodIn_r _ [7, 8, 9, 10, 11, 12, 6, 13, 14, 15, 16, 17, 53, 54, 55, 56, 57, 58, 59, 60, 61] (by decide +kernel) (by decide +kernel)
set_option maxRecDepth 20000 in
theorem gX0_weigh_X0_areTogether : GoodIn wsX0_weigh (wsV RX0 84 RX0 yX0_areTogether wsX0_areTogether) := goodIn_app (goodIn_of _ (by decide +kernel)) ggX0_weigh_X0_areTogether
set_option maxRecDepth 20000 in
theorem ggX0_weigh_X0_wireOf : GoodIn wsX0_weigh wsX0_wireOf := goodIn_r _ [21, 22, 53, 54, 55, 56, 57, 58, 59, 60, 61] (by decide +kernel) (by decide +kernel)
set_option maxRecDepth 20000 in
theorem gX0_weigh_X0_wireOf : GoodIn wsX0_weigh (wsV RX0 87 RX0 yX0_wireOf wsX0_wireOf) := goodIn_app (goodIn_of _ (by decide +kernel)) ggX0_weigh_X0_wireOf
set_option maxRecDepth 20000 in
theorem ggX0_weigh_X0_canTake : GoodIn wsX0_weigh wsX0_canTake := goodIn_r _ [26, 2, 27, 14, 28, 29, 30, 31, 32, 33, 34, 35, 36, 37, 38, 10, 11, 12, 6, 13, 15, 16, 17, 39, 40, 41, 42, 43, 44, 45, 53, 54, 55, 56, 57, 58, 59, 60, 61, 62, 63, 64, 65, 66, 67, 68, 69] (by decide +kernel) (by decide +kernel)
set_option maxRecDepth 20000 in
theorem gX0_weigh_X0_canTake : GoodIn wsX0_weigh (wsV RX0 90 RX0 yX0_canTake wsX0_canTake) := goodIn_app (goodIn_of _ (by decide +kernel)) ggX0_weigh_X0_canTake
set_option maxRecDepth 20000 in
theorem ggX0_weigh_X4_conductanceOf : GoodIn wsX0_weigh wsX4_conductanceOf := goodIn_r _ [49, 50, 62, 63, 64, 65, 66, 67, 68, 69] (by decide +kernel) (by decide +kernel)
set_option maxRecDepth 20000 in
theorem gX0_weigh_X4_conductanceOf : GoodIn wsX0_weigh (wsV RX0 94 RX4 yX4_conductanceOf wsX4_conductanceOf) := goodIn_app (goodIn_of _ (by decide +kernel)) ggX0_weigh_X4_conductanceOf
set_option maxRecDepth 20000 in
theorem ggX0_weigh_X0_weigh : GoodIn wsX0_weigh wsX0_weigh := goodIn_r _ [0, 1, 2, 3, 4, 5, 6, 7, 8, 9, 10, 11, 12, 13, 14, 15, 16, 17, 18, 19, 20, 21, 22, 23, 24, 25, 26, 27, 28, 29, 30, 31, 32, 33, 34, 35, 36, 37, 38, 39, 40, 41, 42, 43, 44, 45, 46, 47, 48, 49, 50, 51, 52, 53, 54, 55, 56, 57, 58, 59, 60, 61, 62, 63, 64, 65, 66, 67, 68, 69] (by decide +kernel) (by decide +kernel)
set_option maxRecDepth 20000 in
theorem gX0_weigh_X0_weigh : GoodIn wsX0_weigh (va_wsS RX0 42 yX0_weigh wsX0_weigh) := goodIn_app (goodIn_of _ (by decide +kernel)) ggX0_weigh_X0_weigh
theorem dX0_weigh_0 : decode cX0_weigh 0 = .ok (.iload_n 1, 1) := by decide +kernel
theorem dX0_weigh_1 : decode cX0_weigh 1 = .ok (.aload_n 0, 1) := by decide +kernel
theorem dX0_weigh_2 : decode cX0_weigh 2 = .ok (.getfield 74, 3) := by decide +kernel
theorem dX0_weigh_5 : decode cX0_weigh 5 = .ok (.if_icmp .lt 17, 3) := by decide +kernel
theorem dX0_weigh_8 : decode cX0_weigh 8 = .ok (.aload_n 0, 1) := by decide +kernel
theorem dX0_weigh_9 : decode cX0_weigh 9 = .ok (.iload_n 1, 1) := by decide +kernel
theorem dX0_weigh_10 : decode cX0_weigh 10 = .ok (.invokevirtual 84, 3) := by decide +kernel
theorem dX0_weigh_13 : decode cX0_weigh 13 = .ok (.ifCond .eq 7, 3) := by decide +kernel
theorem dX0_weigh_16 : decode cX0_weigh 16 = .ok (.lconst 1, 1) := by decide +kernel
theorem dX0_weigh_17 : decode cX0_weigh 17 = .ok (.goto 4, 3) := by decide +kernel
theorem dX0_weigh_20 : decode cX0_weigh 20 = .ok (.lconst 0, 1) := by decide +kernel
theorem dX0_weigh_21 : decode cX0_weigh 21 = .ok (.lreturn, 1) := by decide +kernel
theorem dX0_weigh_22 : decode cX0_weigh 22 = .ok (.lconst 0, 1) := by decide +kernel
theorem dX0_weigh_23 : decode cX0_weigh 23 = .ok (.lstore_n 3, 1) := by decide +kernel
theorem dX0_weigh_24 : decode cX0_weigh 24 = .ok (.aload_n 0, 1) := by decide +kernel
theorem dX0_weigh_25 : decode cX0_weigh 25 = .ok (.getfield 74, 3) := by decide +kernel
theorem dX0_weigh_28 : decode cX0_weigh 28 = .ok (.iload_n 1, 1) := by decide +kernel
theorem dX0_weigh_29 : decode cX0_weigh 29 = .ok (.isub, 1) := by decide +kernel
theorem dX0_weigh_30 : decode cX0_weigh 30 = .ok (.iconst 1, 1) := by decide +kernel
theorem dX0_weigh_31 : decode cX0_weigh 31 = .ok (.isub, 1) := by decide +kernel
theorem dX0_weigh_32 : decode cX0_weigh 32 = .ok (.istore 5, 2) := by decide +kernel
theorem dX0_weigh_34 : decode cX0_weigh 34 = .ok (.iload 5, 2) := by decide +kernel
theorem dX0_weigh_36 : decode cX0_weigh 36 = .ok (.iload_n 2, 1) := by decide +kernel
theorem dX0_weigh_37 : decode cX0_weigh 37 = .ok (.if_icmp .ge 50, 3) := by decide +kernel
theorem dX0_weigh_40 : decode cX0_weigh 40 = .ok (.aload_n 0, 1) := by decide +kernel
theorem dX0_weigh_41 : decode cX0_weigh 41 = .ok (.iload 5, 2) := by decide +kernel
theorem dX0_weigh_43 : decode cX0_weigh 43 = .ok (.invokevirtual 87, 3) := by decide +kernel
theorem dX0_weigh_46 : decode cX0_weigh 46 = .ok (.istore 6, 2) := by decide +kernel
theorem dX0_weigh_48 : decode cX0_weigh 48 = .ok (.aload_n 0, 1) := by decide +kernel
theorem dX0_weigh_49 : decode cX0_weigh 49 = .ok (.iload 6, 2) := by decide +kernel
theorem dX0_weigh_51 : decode cX0_weigh 51 = .ok (.iload_n 1, 1) := by decide +kernel
theorem dX0_weigh_52 : decode cX0_weigh 52 = .ok (.invokevirtual 90, 3) := by decide +kernel
theorem dX0_weigh_55 : decode cX0_weigh 55 = .ok (.ifCond .eq 26, 3) := by decide +kernel
theorem dX0_weigh_58 : decode cX0_weigh 58 = .ok (.lload_n 3, 1) := by decide +kernel
theorem dX0_weigh_59 : decode cX0_weigh 59 = .ok (.aload_n 0, 1) := by decide +kernel
theorem dX0_weigh_60 : decode cX0_weigh 60 = .ok (.getfield 9, 3) := by decide +kernel
theorem dX0_weigh_63 : decode cX0_weigh 63 = .ok (.iload 6, 2) := by decide +kernel
theorem dX0_weigh_65 : decode cX0_weigh 65 = .ok (.invokevirtual 94, 3) := by decide +kernel
theorem dX0_weigh_68 : decode cX0_weigh 68 = .ok (.i2l, 1) := by decide +kernel
theorem dX0_weigh_69 : decode cX0_weigh 69 = .ok (.aload_n 0, 1) := by decide +kernel
theorem dX0_weigh_70 : decode cX0_weigh 70 = .ok (.iload_n 1, 1) := by decide +kernel
theorem dX0_weigh_71 : decode cX0_weigh 71 = .ok (.iconst 1, 1) := by decide +kernel
theorem dX0_weigh_72 : decode cX0_weigh 72 = .ok (.iadd, 1) := by decide +kernel
theorem dX0_weigh_73 : decode cX0_weigh 73 = .ok (.iload 5, 2) := by decide +kernel
theorem dX0_weigh_75 : decode cX0_weigh 75 = .ok (.invokestatic 42, 3) := by decide +kernel
theorem dX0_weigh_78 : decode cX0_weigh 78 = .ok (.lmul, 1) := by decide +kernel
theorem dX0_weigh_79 : decode cX0_weigh 79 = .ok (.ladd, 1) := by decide +kernel
theorem dX0_weigh_80 : decode cX0_weigh 80 = .ok (.lstore_n 3, 1) := by decide +kernel
theorem dX0_weigh_81 : decode cX0_weigh 81 = .ok (.iinc 5 1, 3) := by decide +kernel
theorem dX0_weigh_84 : decode cX0_weigh 84 = .ok (.goto (-50), 3) := by decide +kernel
theorem dX0_weigh_87 : decode cX0_weigh 87 = .ok (.lload_n 3, 1) := by decide +kernel
theorem dX0_weigh_88 : decode cX0_weigh 88 = .ok (.lreturn, 1) := by decide +kernel
set_option maxRecDepth 20000 in
theorem ggX0_find_X0_wireOf : GoodIn wsX0_find wsX0_wireOf := goodIn_r _ [7, 8, 45, 46, 47, 48, 49, 50, 51, 52, 53] (by decide +kernel) (by decide +kernel)
set_option maxRecDepth 20000 in
theorem gX0_find_X0_wireOf : GoodIn wsX0_find (wsV RX0 87 RX0 yX0_wireOf wsX0_wireOf) := goodIn_app (goodIn_of _ (by decide +kernel)) ggX0_find_X0_wireOf
set_option maxRecDepth 20000 in
theorem ggX0_find_X0_canTake : GoodIn wsX0_find wsX0_canTake := goodIn_r _ [12, 13, 14, 15, 16, 17, 18, 19, 20, 21, 22, 23, 24, 25, 26, 27, 28, 29, 6, 30, 31, 32, 33, 34, 35, 36, 37, 38, 39, 40, 45, 46, 47, 48, 49, 50, 51, 52, 53, 54, 55, 56, 57, 58, 59, 60, 61] (by decide +kernel) (by decide +kernel)
set_option maxRecDepth 20000 in
theorem gX0_find_X0_canTake : GoodIn wsX0_find (wsV RX0 90 RX0 yX0_canTake wsX0_canTake) := goodIn_app (goodIn_of _ (by decide +kernel)) ggX0_find_X0_canTake
set_option maxRecDepth 20000 in
theorem ggX0_find_X0_find : GoodIn wsX0_find wsX0_find := goodIn_r _ [0, 1, 2, 3, 4, 5, 6, 7, 8, 9, 10, 11, 12, 13, 14, 15, 16, 17, 18, 19, 20, 21, 22, 23, 24, 25, 26, 27, 28, 29, 30, 31, 32, 33, 34, 35, 36, 37, 38, 39, 40, 41, 42, 43, 44, 45, 46, 47, 48, 49, 50, 51, 52, 53, 54, 55, 56, 57, 58, 59, 60, 61] (by decide +kernel) (by decide +kernel)
set_option maxRecDepth 20000 in
theorem gX0_find_X0_find : GoodIn wsX0_find (va_wsS RX0 59 yX0_find wsX0_find) := goodIn_app (goodIn_of _ (by decide +kernel)) ggX0_find_X0_find
set_option maxRecDepth 20000 in
theorem ggX0_find_X7_setOf : GoodIn wsX0_find wsX7_setOf := goodIn_r _ [44] (by decide +kernel) (by decide +kernel)
set_option maxRecDepth 20000 in
theorem gX0_find_X7_setOf_n52 : GoodIn wsX0_find (wsX7_setOf) := ggX0_find_X7_setOf
theorem dX0_find_0 : decode cX0_find 0 = .ok (.iload_n 1, 1) := by decide +kernel
theorem dX0_find_1 : decode cX0_find 1 = .ok (.aload_n 0, 1) := by decide +kernel
theorem dX0_find_2 : decode cX0_find 2 = .ok (.getfield 74, 3) := by decide +kernel
theorem dX0_find_5 : decode cX0_find 5 = .ok (.if_icmp .lt 26, 3) := by decide +kernel
theorem dX0_find_8 : decode cX0_find 8 = .ok (.aload_n 0, 1) := by decide +kernel
theorem dX0_find_9 : decode cX0_find 9 = .ok (.dup, 1) := by decide +kernel
theorem dX0_find_10 : decode cX0_find 10 = .ok (.getfield 56, 3) := by decide +kernel
theorem dX0_find_13 : decode cX0_find 13 = .ok (.iconst 1, 1) := by decide +kernel
theorem dX0_find_14 : decode cX0_find 14 = .ok (.isub, 1) := by decide +kernel
theorem dX0_find_15 : decode cX0_find 15 = .ok (.putfield 56, 3) := by decide +kernel
theorem dX0_find_18 : decode cX0_find 18 = .ok (.aload_n 0, 1) := by decide +kernel
theorem dX0_find_19 : decode cX0_find 19 = .ok (.getfield 56, 3) := by decide +kernel
theorem dX0_find_22 : decode cX0_find 22 = .ok (.ifCond .ge 7, 3) := by decide +kernel
theorem dX0_find_25 : decode cX0_find 25 = .ok (.iconst 0, 1) := by decide +kernel
theorem dX0_find_26 : decode cX0_find 26 = .ok (.goto 4, 3) := by decide +kernel
theorem dX0_find_29 : decode cX0_find 29 = .ok (.iconst (-1), 1) := by decide +kernel
theorem dX0_find_30 : decode cX0_find 30 = .ok (.ireturn, 1) := by decide +kernel
theorem dX0_find_31 : decode cX0_find 31 = .ok (.aload_n 0, 1) := by decide +kernel
theorem dX0_find_32 : decode cX0_find 32 = .ok (.getfield 74, 3) := by decide +kernel
theorem dX0_find_35 : decode cX0_find 35 = .ok (.iload_n 1, 1) := by decide +kernel
theorem dX0_find_36 : decode cX0_find 36 = .ok (.isub, 1) := by decide +kernel
theorem dX0_find_37 : decode cX0_find 37 = .ok (.iconst 1, 1) := by decide +kernel
theorem dX0_find_38 : decode cX0_find 38 = .ok (.isub, 1) := by decide +kernel
theorem dX0_find_39 : decode cX0_find 39 = .ok (.istore_n 3, 1) := by decide +kernel
theorem dX0_find_40 : decode cX0_find 40 = .ok (.iload_n 3, 1) := by decide +kernel
theorem dX0_find_41 : decode cX0_find 41 = .ok (.iload_n 2, 1) := by decide +kernel
theorem dX0_find_42 : decode cX0_find 42 = .ok (.if_icmp .ge 51, 3) := by decide +kernel
theorem dX0_find_45 : decode cX0_find 45 = .ok (.aload_n 0, 1) := by decide +kernel
theorem dX0_find_46 : decode cX0_find 46 = .ok (.iload_n 3, 1) := by decide +kernel
theorem dX0_find_47 : decode cX0_find 47 = .ok (.invokevirtual 87, 3) := by decide +kernel
theorem dX0_find_50 : decode cX0_find 50 = .ok (.istore 4, 2) := by decide +kernel
theorem dX0_find_52 : decode cX0_find 52 = .ok (.aload_n 0, 1) := by decide +kernel
theorem dX0_find_53 : decode cX0_find 53 = .ok (.iload 4, 2) := by decide +kernel
theorem dX0_find_55 : decode cX0_find 55 = .ok (.iload_n 1, 1) := by decide +kernel
theorem dX0_find_56 : decode cX0_find 56 = .ok (.invokevirtual 90, 3) := by decide +kernel
theorem dX0_find_59 : decode cX0_find 59 = .ok (.ifCond .eq 28, 3) := by decide +kernel
theorem dX0_find_62 : decode cX0_find 62 = .ok (.aload_n 0, 1) := by decide +kernel
theorem dX0_find_63 : decode cX0_find 63 = .ok (.iload_n 1, 1) := by decide +kernel
theorem dX0_find_64 : decode cX0_find 64 = .ok (.iconst 1, 1) := by decide +kernel
theorem dX0_find_65 : decode cX0_find 65 = .ok (.iadd, 1) := by decide +kernel
theorem dX0_find_66 : decode cX0_find 66 = .ok (.iload_n 3, 1) := by decide +kernel
theorem dX0_find_67 : decode cX0_find 67 = .ok (.invokestatic 59, 3) := by decide +kernel
theorem dX0_find_70 : decode cX0_find 70 = .ok (.istore 5, 2) := by decide +kernel
theorem dX0_find_72 : decode cX0_find 72 = .ok (.iload 5, 2) := by decide +kernel
theorem dX0_find_74 : decode cX0_find 74 = .ok (.iconst (-1), 1) := by decide +kernel
theorem dX0_find_75 : decode cX0_find 75 = .ok (.if_icmp .eq 12, 3) := by decide +kernel
theorem dX0_find_78 : decode cX0_find 78 = .ok (.iload 5, 2) := by decide +kernel
theorem dX0_find_80 : decode cX0_find 80 = .ok (.iload 4, 2) := by decide +kernel
theorem dX0_find_82 : decode cX0_find 82 = .ok (.invokestatic 52, 3) := by decide +kernel
theorem dX0_find_85 : decode cX0_find 85 = .ok (.ior, 1) := by decide +kernel
theorem dX0_find_86 : decode cX0_find 86 = .ok (.ireturn, 1) := by decide +kernel
theorem dX0_find_87 : decode cX0_find 87 = .ok (.iinc 3 1, 3) := by decide +kernel
theorem dX0_find_90 : decode cX0_find 90 = .ok (.goto (-50), 3) := by decide +kernel
theorem dX0_find_93 : decode cX0_find 93 = .ok (.iconst (-1), 1) := by decide +kernel
theorem dX0_find_94 : decode cX0_find 94 = .ok (.ireturn, 1) := by decide +kernel
theorem dX0_wireOf_0 : decode cX0_wireOf 0 = .ok (.iload_n 1, 1) := by decide +kernel
theorem dX0_wireOf_1 : decode cX0_wireOf 1 = .ok (.ifCond .lt 21, 3) := by decide +kernel
theorem dX0_wireOf_4 : decode cX0_wireOf 4 = .ok (.iload_n 1, 1) := by decide +kernel
theorem dX0_wireOf_5 : decode cX0_wireOf 5 = .ok (.aload_n 0, 1) := by decide +kernel
theorem dX0_wireOf_6 : decode cX0_wireOf 6 = .ok (.getfield 15, 3) := by decide +kernel
theorem dX0_wireOf_9 : decode cX0_wireOf 9 = .ok (.arraylength, 1) := by decide +kernel
theorem dX0_wireOf_10 : decode cX0_wireOf 10 = .ok (.if_icmp .ge 12, 3) := by decide +kernel
theorem dX0_wireOf_13 : decode cX0_wireOf 13 = .ok (.aload_n 0, 1) := by decide +kernel
theorem dX0_wireOf_14 : decode cX0_wireOf 14 = .ok (.getfield 15, 3) := by decide +kernel
theorem dX0_wireOf_17 : decode cX0_wireOf 17 = .ok (.iload_n 1, 1) := by decide +kernel
theorem dX0_wireOf_18 : decode cX0_wireOf 18 = .ok (.iaload, 1) := by decide +kernel
theorem dX0_wireOf_19 : decode cX0_wireOf 19 = .ok (.goto 4, 3) := by decide +kernel
theorem dX0_wireOf_22 : decode cX0_wireOf 22 = .ok (.iconst (-1), 1) := by decide +kernel
theorem dX0_wireOf_23 : decode cX0_wireOf 23 = .ok (.ireturn, 1) := by decide +kernel
theorem dX0_treeAround_0 : decode cX0_treeAround 0 = .ok (.iload_n 2, 1) := by decide +kernel
theorem dX0_treeAround_1 : decode cX0_treeAround 1 = .ok (.ifCond .lt 22, 3) := by decide +kernel
theorem dX0_treeAround_4 : decode cX0_treeAround 4 = .ok (.iload_n 2, 1) := by decide +kernel
theorem dX0_treeAround_5 : decode cX0_treeAround 5 = .ok (.aload_n 0, 1) := by decide +kernel
theorem dX0_treeAround_6 : decode cX0_treeAround 6 = .ok (.getfield 21, 3) := by decide +kernel
theorem dX0_treeAround_9 : decode cX0_treeAround 9 = .ok (.arraylength, 1) := by decide +kernel
theorem dX0_treeAround_10 : decode cX0_treeAround 10 = .ok (.if_icmp .ge 13, 3) := by decide +kernel
theorem dX0_treeAround_13 : decode cX0_treeAround 13 = .ok (.iload_n 1, 1) := by decide +kernel
theorem dX0_treeAround_14 : decode cX0_treeAround 14 = .ok (.ifCond .lt 9, 3) := by decide +kernel
theorem dX0_treeAround_17 : decode cX0_treeAround 17 = .ok (.iload_n 1, 1) := by decide +kernel
theorem dX0_treeAround_18 : decode cX0_treeAround 18 = .ok (.bipush 7, 2) := by decide +kernel
theorem dX0_treeAround_20 : decode cX0_treeAround 20 = .ok (.if_icmp .lt 5, 3) := by decide +kernel
theorem dX0_treeAround_23 : decode cX0_treeAround 23 = .ok (.iconst 0, 1) := by decide +kernel
theorem dX0_treeAround_24 : decode cX0_treeAround 24 = .ok (.ireturn, 1) := by decide +kernel
theorem dX0_treeAround_25 : decode cX0_treeAround 25 = .ok (.aload_n 0, 1) := by decide +kernel
theorem dX0_treeAround_26 : decode cX0_treeAround 26 = .ok (.getfield 21, 3) := by decide +kernel
theorem dX0_treeAround_29 : decode cX0_treeAround 29 = .ok (.iload_n 2, 1) := by decide +kernel
theorem dX0_treeAround_30 : decode cX0_treeAround 30 = .ok (.aaload, 1) := by decide +kernel
theorem dX0_treeAround_31 : decode cX0_treeAround 31 = .ok (.iload_n 1, 1) := by decide +kernel
theorem dX0_treeAround_32 : decode cX0_treeAround 32 = .ok (.iaload, 1) := by decide +kernel
theorem dX0_treeAround_33 : decode cX0_treeAround 33 = .ok (.ireturn, 1) := by decide +kernel
set_option maxRecDepth 20000 in
theorem ggX0_areTogether_X0_treeAround : GoodIn wsX0_areTogether wsX0_treeAround := goodIn_r _ [7, 8, 12, 13, 14, 15, 16, 17, 18, 19, 20] (by decide +kernel) (by decide +kernel)
set_option maxRecDepth 20000 in
theorem gX0_areTogether_X0_treeAround : GoodIn wsX0_areTogether (wsV RX0 97 RX0 yX0_treeAround wsX0_treeAround) := goodIn_app (goodIn_of _ (by decide +kernel)) ggX0_areTogether_X0_treeAround
set_option maxRecDepth 20000 in
theorem ggX0_areTogether_X7_isIn : GoodIn wsX0_areTogether wsX7_isIn := goodIn_r _ [11] (by decide +kernel) (by decide +kernel)
set_option maxRecDepth 20000 in
theorem gX0_areTogether_X7_isIn_n101 : GoodIn wsX0_areTogether (wsX7_isIn) := ggX0_areTogether_X7_isIn
theorem dX0_areTogether_0 : decode cX0_areTogether 0 = .ok (.aload_n 0, 1) := by decide +kernel
theorem dX0_areTogether_1 : decode cX0_areTogether 1 = .ok (.aload_n 0, 1) := by decide +kernel
theorem dX0_areTogether_2 : decode cX0_areTogether 2 = .ok (.getfield 32, 3) := by decide +kernel
theorem dX0_areTogether_5 : decode cX0_areTogether 5 = .ok (.iload_n 1, 1) := by decide +kernel
theorem dX0_areTogether_6 : decode cX0_areTogether 6 = .ok (.invokevirtual 97, 3) := by decide +kernel
theorem dX0_areTogether_9 : decode cX0_areTogether 9 = .ok (.aload_n 0, 1) := by decide +kernel
theorem dX0_areTogether_10 : decode cX0_areTogether 10 = .ok (.getfield 36, 3) := by decide +kernel
theorem dX0_areTogether_13 : decode cX0_areTogether 13 = .ok (.invokestatic 101, 3) := by decide +kernel
theorem dX0_areTogether_16 : decode cX0_areTogether 16 = .ok (.ireturn, 1) := by decide +kernel
set_option maxRecDepth 20000 in
theorem ggX0_canTake_X4_firstOf : GoodIn wsX0_canTake wsX4_firstOf := goodIn_r _ [8, 9, 39, 40, 41, 42, 43, 44, 45, 46] (by decide +kernel) (by decide +kernel)
set_option maxRecDepth 20000 in
theorem gX0_canTake_X4_firstOf : GoodIn wsX0_canTake (wsV RX0 104 RX4 yX4_firstOf wsX4_firstOf) := goodIn_app (goodIn_of _ (by decide +kernel)) ggX0_canTake_X4_firstOf
set_option maxRecDepth 20000 in
theorem ggX0_canTake_X4_secondOf : GoodIn wsX0_canTake wsX4_secondOf := goodIn_r _ [13, 14, 39, 40, 41, 42, 43, 44, 45, 46] (by decide +kernel) (by decide +kernel)
set_option maxRecDepth 20000 in
theorem gX0_canTake_X4_secondOf : GoodIn wsX0_canTake (wsV RX0 107 RX4 yX4_secondOf wsX4_secondOf) := goodIn_app (goodIn_of _ (by decide +kernel)) ggX0_canTake_X4_secondOf
set_option maxRecDepth 20000 in
theorem ggX0_canTake_X0_treeAround : GoodIn wsX0_canTake wsX0_treeAround := goodIn_r _ [19, 3, 30, 31, 32, 33, 34, 35, 36, 37, 38] (by decide +kernel) (by decide +kernel)
set_option maxRecDepth 20000 in
theorem gX0_canTake_X0_treeAround : GoodIn wsX0_canTake (wsV RX0 97 RX0 yX0_treeAround wsX0_treeAround) := goodIn_app (goodIn_of _ (by decide +kernel)) ggX0_canTake_X0_treeAround
set_option maxRecDepth 20000 in
theorem ggX0_canTake_X7_isIn : GoodIn wsX0_canTake wsX7_isIn := goodIn_r _ [22] (by decide +kernel) (by decide +kernel)
set_option maxRecDepth 20000 in
theorem gX0_canTake_X7_isIn_n101 : GoodIn wsX0_canTake (wsX7_isIn) := ggX0_canTake_X7_isIn
set_option maxRecDepth 20000 in
theorem ggX0_canTake_J6_bitCount_0f7a4 : GoodIn wsX0_canTake wsJ6_bitCount_0f7a4 := goodIn_r _ [26, 27, 28, 29] (by decide +kernel) (by decide +kernel)
set_option maxRecDepth 20000 in
theorem gX0_canTake_J6_bitCount_0f7a4 : GoodIn wsX0_canTake (va_wsS RX0 69 yJ6_bitCount_0f7a4 wsJ6_bitCount_0f7a4) := goodIn_app (goodIn_of _ (by decide +kernel)) ggX0_canTake_J6_bitCount_0f7a4
theorem dX0_canTake_0 : decode cX0_canTake 0 = .ok (.aload_n 0, 1) := by decide +kernel
theorem dX0_canTake_1 : decode cX0_canTake 1 = .ok (.getfield 9, 3) := by decide +kernel
theorem dX0_canTake_4 : decode cX0_canTake 4 = .ok (.iload_n 1, 1) := by decide +kernel
theorem dX0_canTake_5 : decode cX0_canTake 5 = .ok (.invokevirtual 104, 3) := by decide +kernel
theorem dX0_canTake_8 : decode cX0_canTake 8 = .ok (.istore_n 3, 1) := by decide +kernel
theorem dX0_canTake_9 : decode cX0_canTake 9 = .ok (.aload_n 0, 1) := by decide +kernel
theorem dX0_canTake_10 : decode cX0_canTake 10 = .ok (.getfield 9, 3) := by decide +kernel
theorem dX0_canTake_13 : decode cX0_canTake 13 = .ok (.iload_n 1, 1) := by decide +kernel
theorem dX0_canTake_14 : decode cX0_canTake 14 = .ok (.invokevirtual 107, 3) := by decide +kernel
theorem dX0_canTake_17 : decode cX0_canTake 17 = .ok (.istore 4, 2) := by decide +kernel
theorem dX0_canTake_19 : decode cX0_canTake 19 = .ok (.aload_n 0, 1) := by decide +kernel
theorem dX0_canTake_20 : decode cX0_canTake 20 = .ok (.iload_n 3, 1) := by decide +kernel
theorem dX0_canTake_21 : decode cX0_canTake 21 = .ok (.iload_n 2, 1) := by decide +kernel
theorem dX0_canTake_22 : decode cX0_canTake 22 = .ok (.invokevirtual 97, 3) := by decide +kernel
theorem dX0_canTake_25 : decode cX0_canTake 25 = .ok (.istore 5, 2) := by decide +kernel
theorem dX0_canTake_27 : decode cX0_canTake 27 = .ok (.iload 5, 2) := by decide +kernel
theorem dX0_canTake_29 : decode cX0_canTake 29 = .ok (.aload_n 0, 1) := by decide +kernel
theorem dX0_canTake_30 : decode cX0_canTake 30 = .ok (.iload 4, 2) := by decide +kernel
theorem dX0_canTake_32 : decode cX0_canTake 32 = .ok (.iload_n 2, 1) := by decide +kernel
theorem dX0_canTake_33 : decode cX0_canTake 33 = .ok (.invokevirtual 97, 3) := by decide +kernel
theorem dX0_canTake_36 : decode cX0_canTake 36 = .ok (.ior, 1) := by decide +kernel
theorem dX0_canTake_37 : decode cX0_canTake 37 = .ok (.istore 6, 2) := by decide +kernel
theorem dX0_canTake_39 : decode cX0_canTake 39 = .ok (.iload 5, 2) := by decide +kernel
theorem dX0_canTake_41 : decode cX0_canTake 41 = .ok (.iload 4, 2) := by decide +kernel
theorem dX0_canTake_43 : decode cX0_canTake 43 = .ok (.invokestatic 101, 3) := by decide +kernel
theorem dX0_canTake_46 : decode cX0_canTake 46 = .ok (.ifCond .ne 17, 3) := by decide +kernel
theorem dX0_canTake_49 : decode cX0_canTake 49 = .ok (.iload 6, 2) := by decide +kernel
theorem dX0_canTake_51 : decode cX0_canTake 51 = .ok (.aload_n 0, 1) := by decide +kernel
theorem dX0_canTake_52 : decode cX0_canTake 52 = .ok (.getfield 63, 3) := by decide +kernel
theorem dX0_canTake_55 : decode cX0_canTake 55 = .ok (.iand, 1) := by decide +kernel
theorem dX0_canTake_56 : decode cX0_canTake 56 = .ok (.invokestatic 69, 3) := by decide +kernel
theorem dX0_canTake_59 : decode cX0_canTake 59 = .ok (.iconst 1, 1) := by decide +kernel
theorem dX0_canTake_60 : decode cX0_canTake 60 = .ok (.if_icmp .le 5, 3) := by decide +kernel
theorem dX0_canTake_63 : decode cX0_canTake 63 = .ok (.iconst 0, 1) := by decide +kernel
theorem dX0_canTake_64 : decode cX0_canTake 64 = .ok (.ireturn, 1) := by decide +kernel
theorem dX0_canTake_65 : decode cX0_canTake 65 = .ok (.iload_n 2, 1) := by decide +kernel
theorem dX0_canTake_66 : decode cX0_canTake 66 = .ok (.ifCond .lt 14, 3) := by decide +kernel
theorem dX0_canTake_69 : decode cX0_canTake 69 = .ok (.iload_n 2, 1) := by decide +kernel
theorem dX0_canTake_70 : decode cX0_canTake 70 = .ok (.iconst 1, 1) := by decide +kernel
theorem dX0_canTake_71 : decode cX0_canTake 71 = .ok (.iadd, 1) := by decide +kernel
theorem dX0_canTake_72 : decode cX0_canTake 72 = .ok (.aload_n 0, 1) := by decide +kernel
theorem dX0_canTake_73 : decode cX0_canTake 73 = .ok (.getfield 21, 3) := by decide +kernel
theorem dX0_canTake_76 : decode cX0_canTake 76 = .ok (.arraylength, 1) := by decide +kernel
theorem dX0_canTake_77 : decode cX0_canTake 77 = .ok (.if_icmp .lt 5, 3) := by decide +kernel
theorem dX0_canTake_80 : decode cX0_canTake 80 = .ok (.iconst 0, 1) := by decide +kernel
theorem dX0_canTake_81 : decode cX0_canTake 81 = .ok (.ireturn, 1) := by decide +kernel
theorem dX0_canTake_82 : decode cX0_canTake 82 = .ok (.iconst 0, 1) := by decide +kernel
theorem dX0_canTake_83 : decode cX0_canTake 83 = .ok (.istore 7, 2) := by decide +kernel
theorem dX0_canTake_85 : decode cX0_canTake 85 = .ok (.iload 7, 2) := by decide +kernel
theorem dX0_canTake_87 : decode cX0_canTake 87 = .ok (.bipush 7, 2) := by decide +kernel
theorem dX0_canTake_89 : decode cX0_canTake 89 = .ok (.if_icmp .ge 44, 3) := by decide +kernel
theorem dX0_canTake_92 : decode cX0_canTake 92 = .ok (.aload_n 0, 1) := by decide +kernel
theorem dX0_canTake_93 : decode cX0_canTake 93 = .ok (.getfield 21, 3) := by decide +kernel
theorem dX0_canTake_96 : decode cX0_canTake 96 = .ok (.iload_n 2, 1) := by decide +kernel
theorem dX0_canTake_97 : decode cX0_canTake 97 = .ok (.iconst 1, 1) := by decide +kernel
theorem dX0_canTake_98 : decode cX0_canTake 98 = .ok (.iadd, 1) := by decide +kernel
theorem dX0_canTake_99 : decode cX0_canTake 99 = .ok (.aaload, 1) := by decide +kernel
theorem dX0_canTake_100 : decode cX0_canTake 100 = .ok (.iload 7, 2) := by decide +kernel
theorem dX0_canTake_102 : decode cX0_canTake 102 = .ok (.iload 6, 2) := by decide +kernel
theorem dX0_canTake_104 : decode cX0_canTake 104 = .ok (.iload 7, 2) := by decide +kernel
theorem dX0_canTake_106 : decode cX0_canTake 106 = .ok (.invokestatic 101, 3) := by decide +kernel
theorem dX0_canTake_109 : decode cX0_canTake 109 = .ok (.ifCond .eq 8, 3) := by decide +kernel
theorem dX0_canTake_112 : decode cX0_canTake 112 = .ok (.iload 6, 2) := by decide +kernel
theorem dX0_canTake_114 : decode cX0_canTake 114 = .ok (.goto 12, 3) := by decide +kernel
theorem dX0_canTake_117 : decode cX0_canTake 117 = .ok (.aload_n 0, 1) := by decide +kernel
theorem dX0_canTake_118 : decode cX0_canTake 118 = .ok (.getfield 21, 3) := by decide +kernel
theorem dX0_canTake_121 : decode cX0_canTake 121 = .ok (.iload_n 2, 1) := by decide +kernel
theorem dX0_canTake_122 : decode cX0_canTake 122 = .ok (.aaload, 1) := by decide +kernel
theorem dX0_canTake_123 : decode cX0_canTake 123 = .ok (.iload 7, 2) := by decide +kernel
theorem dX0_canTake_125 : decode cX0_canTake 125 = .ok (.iaload, 1) := by decide +kernel
theorem dX0_canTake_126 : decode cX0_canTake 126 = .ok (.iastore, 1) := by decide +kernel
theorem dX0_canTake_127 : decode cX0_canTake 127 = .ok (.iinc 7 1, 3) := by decide +kernel
theorem dX0_canTake_130 : decode cX0_canTake 130 = .ok (.goto (-45), 3) := by decide +kernel
theorem dX0_canTake_133 : decode cX0_canTake 133 = .ok (.iconst 1, 1) := by decide +kernel
theorem dX0_canTake_134 : decode cX0_canTake 134 = .ok (.ireturn, 1) := by decide +kernel
theorem dX1_init_0 : decode cX1_init 0 = .ok (.aload_n 0, 1) := by decide +kernel
theorem dX1_init_1 : decode cX1_init 1 = .ok (.invokespecial 3, 3) := by decide +kernel
theorem dX1_init_4 : decode cX1_init 4 = .ok (.aload_n 0, 1) := by decide +kernel
theorem dX1_init_5 : decode cX1_init 5 = .ok (.bipush 7, 2) := by decide +kernel
theorem dX1_init_7 : decode cX1_init 7 = .ok (.bipush 7, 2) := by decide +kernel
theorem dX1_init_9 : decode cX1_init 9 = .ok (.multianewarray 9 2, 4) := by decide +kernel
theorem dX1_init_13 : decode cX1_init 13 = .ok (.putfield 11, 3) := by decide +kernel
theorem dX1_init_16 : decode cX1_init 16 = .ok (.aload_n 0, 1) := by decide +kernel
theorem dX1_init_17 : decode cX1_init 17 = .ok (.bipush 7, 2) := by decide +kernel
theorem dX1_init_19 : decode cX1_init 19 = .ok (.bipush 7, 2) := by decide +kernel
theorem dX1_init_21 : decode cX1_init 21 = .ok (.multianewarray 9 2, 4) := by decide +kernel
theorem dX1_init_25 : decode cX1_init 25 = .ok (.putfield 16, 3) := by decide +kernel
theorem dX1_init_28 : decode cX1_init 28 = .ok (.return_, 1) := by decide +kernel
theorem dX1_begin_0 : decode cX1_begin 0 = .ok (.aload_n 0, 1) := by decide +kernel
theorem dX1_begin_1 : decode cX1_begin 1 = .ok (.iload_n 1, 1) := by decide +kernel
theorem dX1_begin_2 : decode cX1_begin 2 = .ok (.putfield 19, 3) := by decide +kernel
theorem dX1_begin_5 : decode cX1_begin 5 = .ok (.return_, 1) := by decide +kernel
set_option maxRecDepth 20000 in
theorem ggX1_hasPair_X1_isPair : GoodIn wsX1_hasPair wsX1_isPair := goodIn_r _ [5] (by decide +kernel) (by decide +kernel)
set_option maxRecDepth 20000 in
theorem gX1_hasPair_X1_isPair : GoodIn wsX1_hasPair (va_wsS RX1 23 yX1_isPair wsX1_isPair) := goodIn_app (goodIn_of _ (by decide +kernel)) ggX1_hasPair_X1_isPair
set_option maxRecDepth 20000 in
theorem ggX1_hasPair_X7_isIn : GoodIn wsX1_hasPair wsX7_isIn := goodIn_r _ [8] (by decide +kernel) (by decide +kernel)
set_option maxRecDepth 20000 in
theorem gX1_hasPair_X7_isIn_n27 : GoodIn wsX1_hasPair (wsX7_isIn) := ggX1_hasPair_X7_isIn
theorem dX1_hasPair_0 : decode cX1_hasPair 0 = .ok (.iload_n 1, 1) := by decide +kernel
theorem dX1_hasPair_1 : decode cX1_hasPair 1 = .ok (.iload_n 2, 1) := by decide +kernel
theorem dX1_hasPair_2 : decode cX1_hasPair 2 = .ok (.invokestatic 23, 3) := by decide +kernel
theorem dX1_hasPair_5 : decode cX1_hasPair 5 = .ok (.ifCond .eq 29, 3) := by decide +kernel
theorem dX1_hasPair_8 : decode cX1_hasPair 8 = .ok (.aload_n 0, 1) := by decide +kernel
theorem dX1_hasPair_9 : decode cX1_hasPair 9 = .ok (.getfield 19, 3) := by decide +kernel
theorem dX1_hasPair_12 : decode cX1_hasPair 12 = .ok (.iload_n 1, 1) := by decide +kernel
theorem dX1_hasPair_13 : decode cX1_hasPair 13 = .ok (.invokestatic 27, 3) := by decide +kernel
theorem dX1_hasPair_16 : decode cX1_hasPair 16 = .ok (.ifCond .eq 18, 3) := by decide +kernel
theorem dX1_hasPair_19 : decode cX1_hasPair 19 = .ok (.aload_n 0, 1) := by decide +kernel
theorem dX1_hasPair_20 : decode cX1_hasPair 20 = .ok (.getfield 19, 3) := by decide +kernel
theorem dX1_hasPair_23 : decode cX1_hasPair 23 = .ok (.iload_n 2, 1) := by decide +kernel
theorem dX1_hasPair_24 : decode cX1_hasPair 24 = .ok (.invokestatic 27, 3) := by decide +kernel
theorem dX1_hasPair_27 : decode cX1_hasPair 27 = .ok (.ifCond .eq 7, 3) := by decide +kernel
theorem dX1_hasPair_30 : decode cX1_hasPair 30 = .ok (.iconst 1, 1) := by decide +kernel
theorem dX1_hasPair_31 : decode cX1_hasPair 31 = .ok (.goto 4, 3) := by decide +kernel
theorem dX1_hasPair_34 : decode cX1_hasPair 34 = .ok (.iconst 0, 1) := by decide +kernel
theorem dX1_hasPair_35 : decode cX1_hasPair 35 = .ok (.ireturn, 1) := by decide +kernel
set_option maxRecDepth 20000 in
theorem ggX1_keep_X1_isPair : GoodIn wsX1_keep wsX1_isPair := goodIn_r _ [6] (by decide +kernel) (by decide +kernel)
set_option maxRecDepth 20000 in
theorem gX1_keep_X1_isPair : GoodIn wsX1_keep (va_wsS RX1 23 yX1_isPair wsX1_isPair) := goodIn_app (goodIn_of _ (by decide +kernel)) ggX1_keep_X1_isPair
theorem dX1_keep_0 : decode cX1_keep 0 = .ok (.iload_n 1, 1) := by decide +kernel
theorem dX1_keep_1 : decode cX1_keep 1 = .ok (.iload_n 2, 1) := by decide +kernel
theorem dX1_keep_2 : decode cX1_keep 2 = .ok (.invokestatic 23, 3) := by decide +kernel
theorem dX1_keep_5 : decode cX1_keep 5 = .ok (.ifCond .eq 22, 3) := by decide +kernel
theorem dX1_keep_8 : decode cX1_keep 8 = .ok (.aload_n 0, 1) := by decide +kernel
theorem dX1_keep_9 : decode cX1_keep 9 = .ok (.getfield 11, 3) := by decide +kernel
theorem dX1_keep_12 : decode cX1_keep 12 = .ok (.iload_n 1, 1) := by decide +kernel
theorem dX1_keep_13 : decode cX1_keep 13 = .ok (.aaload, 1) := by decide +kernel
theorem dX1_keep_14 : decode cX1_keep 14 = .ok (.iload_n 2, 1) := by decide +kernel
theorem dX1_keep_15 : decode cX1_keep 15 = .ok (.lload_n 3, 1) := by decide +kernel
theorem dX1_keep_16 : decode cX1_keep 16 = .ok (.lastore, 1) := by decide +kernel
theorem dX1_keep_17 : decode cX1_keep 17 = .ok (.aload_n 0, 1) := by decide +kernel
theorem dX1_keep_18 : decode cX1_keep 18 = .ok (.getfield 16, 3) := by decide +kernel
theorem dX1_keep_21 : decode cX1_keep 21 = .ok (.iload_n 1, 1) := by decide +kernel
theorem dX1_keep_22 : decode cX1_keep 22 = .ok (.aaload, 1) := by decide +kernel
theorem dX1_keep_23 : decode cX1_keep 23 = .ok (.iload_n 2, 1) := by decide +kernel
theorem dX1_keep_24 : decode cX1_keep 24 = .ok (.lload 5, 2) := by decide +kernel
theorem dX1_keep_26 : decode cX1_keep 26 = .ok (.lastore, 1) := by decide +kernel
theorem dX1_keep_27 : decode cX1_keep 27 = .ok (.return_, 1) := by decide +kernel
set_option maxRecDepth 20000 in
theorem ggX1_isKept_X1_isPair : GoodIn wsX1_isKept wsX1_isPair := goodIn_r _ [6] (by decide +kernel) (by decide +kernel)
set_option maxRecDepth 20000 in
theorem gX1_isKept_X1_isPair : GoodIn wsX1_isKept (va_wsS RX1 23 yX1_isPair wsX1_isPair) := goodIn_app (goodIn_of _ (by decide +kernel)) ggX1_isKept_X1_isPair
theorem dX1_isKept_0 : decode cX1_isKept 0 = .ok (.iload_n 1, 1) := by decide +kernel
theorem dX1_isKept_1 : decode cX1_isKept 1 = .ok (.iload_n 2, 1) := by decide +kernel
theorem dX1_isKept_2 : decode cX1_isKept 2 = .ok (.invokestatic 23, 3) := by decide +kernel
theorem dX1_isKept_5 : decode cX1_isKept 5 = .ok (.ifCond .eq 34, 3) := by decide +kernel
theorem dX1_isKept_8 : decode cX1_isKept 8 = .ok (.aload_n 0, 1) := by decide +kernel
theorem dX1_isKept_9 : decode cX1_isKept 9 = .ok (.getfield 11, 3) := by decide +kernel
theorem dX1_isKept_12 : decode cX1_isKept 12 = .ok (.iload_n 1, 1) := by decide +kernel
theorem dX1_isKept_13 : decode cX1_isKept 13 = .ok (.aaload, 1) := by decide +kernel
theorem dX1_isKept_14 : decode cX1_isKept 14 = .ok (.iload_n 2, 1) := by decide +kernel
theorem dX1_isKept_15 : decode cX1_isKept 15 = .ok (.laload, 1) := by decide +kernel
theorem dX1_isKept_16 : decode cX1_isKept 16 = .ok (.lload_n 3, 1) := by decide +kernel
theorem dX1_isKept_17 : decode cX1_isKept 17 = .ok (.lcmp, 1) := by decide +kernel
theorem dX1_isKept_18 : decode cX1_isKept 18 = .ok (.ifCond .ne 21, 3) := by decide +kernel
theorem dX1_isKept_21 : decode cX1_isKept 21 = .ok (.aload_n 0, 1) := by decide +kernel
theorem dX1_isKept_22 : decode cX1_isKept 22 = .ok (.getfield 16, 3) := by decide +kernel
theorem dX1_isKept_25 : decode cX1_isKept 25 = .ok (.iload_n 1, 1) := by decide +kernel
theorem dX1_isKept_26 : decode cX1_isKept 26 = .ok (.aaload, 1) := by decide +kernel
theorem dX1_isKept_27 : decode cX1_isKept 27 = .ok (.iload_n 2, 1) := by decide +kernel
theorem dX1_isKept_28 : decode cX1_isKept 28 = .ok (.laload, 1) := by decide +kernel
theorem dX1_isKept_29 : decode cX1_isKept 29 = .ok (.lload 5, 2) := by decide +kernel
theorem dX1_isKept_31 : decode cX1_isKept 31 = .ok (.lcmp, 1) := by decide +kernel
theorem dX1_isKept_32 : decode cX1_isKept 32 = .ok (.ifCond .ne 7, 3) := by decide +kernel
theorem dX1_isKept_35 : decode cX1_isKept 35 = .ok (.iconst 1, 1) := by decide +kernel
theorem dX1_isKept_36 : decode cX1_isKept 36 = .ok (.goto 4, 3) := by decide +kernel
theorem dX1_isKept_39 : decode cX1_isKept 39 = .ok (.iconst 0, 1) := by decide +kernel
theorem dX1_isKept_40 : decode cX1_isKept 40 = .ok (.ireturn, 1) := by decide +kernel
theorem dX1_isPair_0 : decode cX1_isPair 0 = .ok (.iload_n 0, 1) := by decide +kernel
theorem dX1_isPair_1 : decode cX1_isPair 1 = .ok (.ifCond .lt 23, 3) := by decide +kernel
theorem dX1_isPair_4 : decode cX1_isPair 4 = .ok (.iload_n 0, 1) := by decide +kernel
theorem dX1_isPair_5 : decode cX1_isPair 5 = .ok (.bipush 7, 2) := by decide +kernel
theorem dX1_isPair_7 : decode cX1_isPair 7 = .ok (.if_icmp .ge 17, 3) := by decide +kernel
theorem dX1_isPair_10 : decode cX1_isPair 10 = .ok (.iload_n 1, 1) := by decide +kernel
theorem dX1_isPair_11 : decode cX1_isPair 11 = .ok (.ifCond .lt 13, 3) := by decide +kernel
theorem dX1_isPair_14 : decode cX1_isPair 14 = .ok (.iload_n 1, 1) := by decide +kernel
theorem dX1_isPair_15 : decode cX1_isPair 15 = .ok (.bipush 7, 2) := by decide +kernel
theorem dX1_isPair_17 : decode cX1_isPair 17 = .ok (.if_icmp .ge 7, 3) := by decide +kernel
theorem dX1_isPair_20 : decode cX1_isPair 20 = .ok (.iconst 1, 1) := by decide +kernel
theorem dX1_isPair_21 : decode cX1_isPair 21 = .ok (.goto 4, 3) := by decide +kernel
theorem dX1_isPair_24 : decode cX1_isPair 24 = .ok (.iconst 0, 1) := by decide +kernel
theorem dX1_isPair_25 : decode cX1_isPair 25 = .ok (.ireturn, 1) := by decide +kernel
theorem dX2_init_0 : decode cX2_init 0 = .ok (.aload_n 0, 1) := by decide +kernel
theorem dX2_init_1 : decode cX2_init 1 = .ok (.invokespecial 3, 3) := by decide +kernel
theorem dX2_init_4 : decode cX2_init 4 = .ok (.aload_n 0, 1) := by decide +kernel
theorem dX2_init_5 : decode cX2_init 5 = .ok (.aload_n 1, 1) := by decide +kernel
theorem dX2_init_6 : decode cX2_init 6 = .ok (.putfield 9, 3) := by decide +kernel
theorem dX2_init_9 : decode cX2_init 9 = .ok (.aload_n 0, 1) := by decide +kernel
theorem dX2_init_10 : decode cX2_init 10 = .ok (.bipush 7, 2) := by decide +kernel
theorem dX2_init_12 : decode cX2_init 12 = .ok (.newarray .int, 2) := by decide +kernel
theorem dX2_init_14 : decode cX2_init 14 = .ok (.putfield 15, 3) := by decide +kernel
theorem dX2_init_17 : decode cX2_init 17 = .ok (.aload_n 0, 1) := by decide +kernel
theorem dX2_init_18 : decode cX2_init 18 = .ok (.bipush 7, 2) := by decide +kernel
theorem dX2_init_20 : decode cX2_init 20 = .ok (.bipush 7, 2) := by decide +kernel
theorem dX2_init_22 : decode cX2_init 22 = .ok (.multianewarray 19 2, 4) := by decide +kernel
theorem dX2_init_26 : decode cX2_init 26 = .ok (.putfield 21, 3) := by decide +kernel
theorem dX2_init_29 : decode cX2_init 29 = .ok (.return_, 1) := by decide +kernel
set_option maxRecDepth 20000 in
theorem ggX2_countTreesAgain_X4_lowestNode : GoodIn wsX2_countTreesAgain wsX4_lowestNode := goodIn_r _ [7, 8, 9, 10, 6, 11, 12, 13, 14, 15, 73, 74, 75, 76, 77, 78, 79, 80] (by decide +kernel) (by decide +kernel)
set_option maxRecDepth 20000 in
theorem gX2_countTreesAgain_X4_lowestNode : GoodIn wsX2_countTreesAgain (wsV RX2 24 RX4 yX4_lowestNode wsX4_lowestNode) := goodIn_app (goodIn_of _ (by decide +kernel)) ggX2_countTreesAgain_X4_lowestNode
set_option maxRecDepth 20000 in
theorem ggX2_countTreesAgain_X2_numberRows : GoodIn wsX2_countTreesAgain wsX2_numberRows := goodIn_r _ [20, 21, 1, 22, 9, 10, 6, 11, 12, 13, 14, 15, 70, 71, 72, 73, 74, 75, 76, 77, 78, 79, 80] (by decide +kernel) (by decide +kernel)
set_option maxRecDepth 20000 in
theorem gX2_countTreesAgain_X2_numberRows : GoodIn wsX2_countTreesAgain (wsV RX2 30 RX2 yX2_numberRows wsX2_numberRows) := goodIn_app (goodIn_of _ (by decide +kernel)) ggX2_countTreesAgain_X2_numberRows
set_option maxRecDepth 20000 in
theorem ggX2_countTreesAgain_X2_clearRows : GoodIn wsX2_countTreesAgain wsX2_clearRows := goodIn_r _ [26, 2, 70, 71, 72] (by decide +kernel) (by decide +kernel)
set_option maxRecDepth 20000 in
theorem gX2_countTreesAgain_X2_clearRows : GoodIn wsX2_countTreesAgain (wsV RX2 34 RX2 yX2_clearRows wsX2_clearRows) := goodIn_app (goodIn_of _ (by decide +kernel)) ggX2_countTreesAgain_X2_clearRows
set_option maxRecDepth 20000 in
theorem ggX2_countTreesAgain_X4_hasWire : GoodIn wsX2_countTreesAgain wsX4_hasWire := goodIn_r _ [30, 31, 13, 14, 15, 73, 74, 75, 76, 77, 78, 79, 80] (by decide +kernel) (by decide +kernel)
set_option maxRecDepth 20000 in
theorem gX2_countTreesAgain_X4_hasWire : GoodIn wsX2_countTreesAgain (wsV RX2 37 RX4 yX4_hasWire wsX4_hasWire) := goodIn_app (goodIn_of _ (by decide +kernel)) ggX2_countTreesAgain_X4_hasWire
set_option maxRecDepth 20000 in
theorem ggX2_countTreesAgain_X4_isRing : GoodIn wsX2_countTreesAgain wsX4_isRing := goodIn_r _ [35, 36, 37, 38, 6, 39, 40, 41, 42, 43, 44, 45, 73, 74, 75, 76, 77, 78, 79, 80] (by decide +kernel) (by decide +kernel)
set_option maxRecDepth 20000 in
theorem gX2_countTreesAgain_X4_isRing : GoodIn wsX2_countTreesAgain (wsV RX2 41 RX4 yX4_isRing wsX4_isRing) := goodIn_app (goodIn_of _ (by decide +kernel)) ggX2_countTreesAgain_X4_isRing
set_option maxRecDepth 20000 in
theorem ggX2_countTreesAgain_X2_enter : GoodIn wsX2_countTreesAgain wsX2_enter := goodIn_r _ [49, 1, 50, 37, 38, 6, 39, 40, 51, 52, 53, 19, 54, 21, 55, 42, 43, 44, 45, 56, 57, 58, 59, 60, 61, 62, 63, 64, 2, 70, 71, 72, 73, 74, 75, 76, 77, 78, 79, 80] (by decide +kernel) (by decide +kernel)
set_option maxRecDepth 20000 in
theorem gX2_countTreesAgain_X2_enter : GoodIn wsX2_countTreesAgain (wsV RX2 44 RX2 yX2_enter wsX2_enter) := goodIn_app (goodIn_of _ (by decide +kernel)) ggX2_countTreesAgain_X2_enter
set_option maxRecDepth 20000 in
theorem ggX2_countTreesAgain_X7_setOf : GoodIn wsX2_countTreesAgain wsX7_setOf := goodIn_r _ [66] (by decide +kernel) (by decide +kernel)
set_option maxRecDepth 20000 in
theorem gX2_countTreesAgain_X7_setOf_n48 : GoodIn wsX2_countTreesAgain (wsX7_setOf) := ggX2_countTreesAgain_X7_setOf
set_option maxRecDepth 20000 in
theorem ggX2_countTreesAgain_X2_expand : GoodIn wsX2_countTreesAgain wsX2_expand := goodIn_r _ [69, 13, 14, 15, 65, 66, 67, 68, 19] (by decide +kernel) (by decide +kernel)
set_option maxRecDepth 20000 in
theorem gX2_countTreesAgain_X2_expand : GoodIn wsX2_countTreesAgain (va_wsS RX2 51 yX2_expand wsX2_expand) := goodIn_app (goodIn_of _ (by decide +kernel)) ggX2_countTreesAgain_X2_expand
theorem dX2_countTreesAgain_0 : decode cX2_countTreesAgain 0 = .ok (.aload_n 0, 1) := by decide +kernel
theorem dX2_countTreesAgain_1 : decode cX2_countTreesAgain 1 = .ok (.getfield 9, 3) := by decide +kernel
theorem dX2_countTreesAgain_4 : decode cX2_countTreesAgain 4 = .ok (.invokevirtual 24, 3) := by decide +kernel
theorem dX2_countTreesAgain_7 : decode cX2_countTreesAgain 7 = .ok (.istore_n 1, 1) := by decide +kernel
theorem dX2_countTreesAgain_8 : decode cX2_countTreesAgain 8 = .ok (.iload_n 1, 1) := by decide +kernel
theorem dX2_countTreesAgain_9 : decode cX2_countTreesAgain 9 = .ok (.iconst (-1), 1) := by decide +kernel
theorem dX2_countTreesAgain_10 : decode cX2_countTreesAgain 10 = .ok (.if_icmp .ne 5, 3) := by decide +kernel
theorem dX2_countTreesAgain_13 : decode cX2_countTreesAgain 13 = .ok (.lconst 0, 1) := by decide +kernel
theorem dX2_countTreesAgain_14 : decode cX2_countTreesAgain 14 = .ok (.lreturn, 1) := by decide +kernel
theorem dX2_countTreesAgain_15 : decode cX2_countTreesAgain 15 = .ok (.aload_n 0, 1) := by decide +kernel
theorem dX2_countTreesAgain_16 : decode cX2_countTreesAgain 16 = .ok (.iload_n 1, 1) := by decide +kernel
theorem dX2_countTreesAgain_17 : decode cX2_countTreesAgain 17 = .ok (.invokevirtual 30, 3) := by decide +kernel
theorem dX2_countTreesAgain_20 : decode cX2_countTreesAgain 20 = .ok (.istore_n 2, 1) := by decide +kernel
theorem dX2_countTreesAgain_21 : decode cX2_countTreesAgain 21 = .ok (.aload_n 0, 1) := by decide +kernel
theorem dX2_countTreesAgain_22 : decode cX2_countTreesAgain 22 = .ok (.invokevirtual 34, 3) := by decide +kernel
theorem dX2_countTreesAgain_25 : decode cX2_countTreesAgain 25 = .ok (.iconst 0, 1) := by decide +kernel
theorem dX2_countTreesAgain_26 : decode cX2_countTreesAgain 26 = .ok (.istore_n 3, 1) := by decide +kernel
theorem dX2_countTreesAgain_27 : decode cX2_countTreesAgain 27 = .ok (.iload_n 3, 1) := by decide +kernel
theorem dX2_countTreesAgain_28 : decode cX2_countTreesAgain 28 = .ok (.bipush 20, 2) := by decide +kernel
theorem dX2_countTreesAgain_30 : decode cX2_countTreesAgain 30 = .ok (.if_icmp .ge 36, 3) := by decide +kernel
theorem dX2_countTreesAgain_33 : decode cX2_countTreesAgain 33 = .ok (.aload_n 0, 1) := by decide +kernel
theorem dX2_countTreesAgain_34 : decode cX2_countTreesAgain 34 = .ok (.getfield 9, 3) := by decide +kernel
theorem dX2_countTreesAgain_37 : decode cX2_countTreesAgain 37 = .ok (.iload_n 3, 1) := by decide +kernel
theorem dX2_countTreesAgain_38 : decode cX2_countTreesAgain 38 = .ok (.invokevirtual 37, 3) := by decide +kernel
theorem dX2_countTreesAgain_41 : decode cX2_countTreesAgain 41 = .ok (.ifCond .eq 19, 3) := by decide +kernel
theorem dX2_countTreesAgain_44 : decode cX2_countTreesAgain 44 = .ok (.aload_n 0, 1) := by decide +kernel
theorem dX2_countTreesAgain_45 : decode cX2_countTreesAgain 45 = .ok (.getfield 9, 3) := by decide +kernel
theorem dX2_countTreesAgain_48 : decode cX2_countTreesAgain 48 = .ok (.iload_n 3, 1) := by decide +kernel
theorem dX2_countTreesAgain_49 : decode cX2_countTreesAgain 49 = .ok (.invokevirtual 41, 3) := by decide +kernel
theorem dX2_countTreesAgain_52 : decode cX2_countTreesAgain 52 = .ok (.ifCond .ne 8, 3) := by decide +kernel
theorem dX2_countTreesAgain_55 : decode cX2_countTreesAgain 55 = .ok (.aload_n 0, 1) := by decide +kernel
theorem dX2_countTreesAgain_56 : decode cX2_countTreesAgain 56 = .ok (.iload_n 3, 1) := by decide +kernel
theorem dX2_countTreesAgain_57 : decode cX2_countTreesAgain 57 = .ok (.invokevirtual 44, 3) := by decide +kernel
theorem dX2_countTreesAgain_60 : decode cX2_countTreesAgain 60 = .ok (.iinc 3 1, 3) := by decide +kernel
theorem dX2_countTreesAgain_63 : decode cX2_countTreesAgain 63 = .ok (.goto (-36), 3) := by decide +kernel
theorem dX2_countTreesAgain_66 : decode cX2_countTreesAgain 66 = .ok (.aload_n 0, 1) := by decide +kernel
theorem dX2_countTreesAgain_67 : decode cX2_countTreesAgain 67 = .ok (.getfield 21, 3) := by decide +kernel
theorem dX2_countTreesAgain_70 : decode cX2_countTreesAgain 70 = .ok (.iload_n 2, 1) := by decide +kernel
theorem dX2_countTreesAgain_71 : decode cX2_countTreesAgain 71 = .ok (.iconst 0, 1) := by decide +kernel
theorem dX2_countTreesAgain_72 : decode cX2_countTreesAgain 72 = .ok (.iload_n 2, 1) := by decide +kernel
theorem dX2_countTreesAgain_73 : decode cX2_countTreesAgain 73 = .ok (.invokestatic 48, 3) := by decide +kernel
theorem dX2_countTreesAgain_76 : decode cX2_countTreesAgain 76 = .ok (.iconst 1, 1) := by decide +kernel
theorem dX2_countTreesAgain_77 : decode cX2_countTreesAgain 77 = .ok (.isub, 1) := by decide +kernel
theorem dX2_countTreesAgain_78 : decode cX2_countTreesAgain 78 = .ok (.invokestatic 51, 3) := by decide +kernel
theorem dX2_countTreesAgain_81 : decode cX2_countTreesAgain 81 = .ok (.lreturn, 1) := by decide +kernel
set_option maxRecDepth 20000 in
theorem ggX2_numberRows_X4_hasNode : GoodIn wsX2_numberRows wsX4_hasNode := goodIn_r _ [7, 8, 9, 10, 11, 15, 16, 17, 18, 19, 20, 21, 22] (by decide +kernel) (by decide +kernel)
set_option maxRecDepth 20000 in
theorem gX2_numberRows_X4_hasNode : GoodIn wsX2_numberRows (wsV RX2 55 RX4 yX4_hasNode wsX4_hasNode) := goodIn_app (goodIn_of _ (by decide +kernel)) ggX2_numberRows_X4_hasNode
theorem dX2_numberRows_0 : decode cX2_numberRows 0 = .ok (.iconst 0, 1) := by decide +kernel
theorem dX2_numberRows_1 : decode cX2_numberRows 1 = .ok (.istore_n 2, 1) := by decide +kernel
theorem dX2_numberRows_2 : decode cX2_numberRows 2 = .ok (.iconst 0, 1) := by decide +kernel
theorem dX2_numberRows_3 : decode cX2_numberRows 3 = .ok (.istore_n 3, 1) := by decide +kernel
theorem dX2_numberRows_4 : decode cX2_numberRows 4 = .ok (.iload_n 3, 1) := by decide +kernel
theorem dX2_numberRows_5 : decode cX2_numberRows 5 = .ok (.bipush 7, 2) := by decide +kernel
theorem dX2_numberRows_7 : decode cX2_numberRows 7 = .ok (.if_icmp .ge 42, 3) := by decide +kernel
theorem dX2_numberRows_10 : decode cX2_numberRows 10 = .ok (.aload_n 0, 1) := by decide +kernel
theorem dX2_numberRows_11 : decode cX2_numberRows 11 = .ok (.getfield 15, 3) := by decide +kernel
theorem dX2_numberRows_14 : decode cX2_numberRows 14 = .ok (.iload_n 3, 1) := by decide +kernel
theorem dX2_numberRows_15 : decode cX2_numberRows 15 = .ok (.iconst (-1), 1) := by decide +kernel
theorem dX2_numberRows_16 : decode cX2_numberRows 16 = .ok (.iastore, 1) := by decide +kernel
theorem dX2_numberRows_17 : decode cX2_numberRows 17 = .ok (.iload_n 3, 1) := by decide +kernel
theorem dX2_numberRows_18 : decode cX2_numberRows 18 = .ok (.iload_n 1, 1) := by decide +kernel
theorem dX2_numberRows_19 : decode cX2_numberRows 19 = .ok (.if_icmp .eq 24, 3) := by decide +kernel
theorem dX2_numberRows_22 : decode cX2_numberRows 22 = .ok (.aload_n 0, 1) := by decide +kernel
theorem dX2_numberRows_23 : decode cX2_numberRows 23 = .ok (.getfield 9, 3) := by decide +kernel
theorem dX2_numberRows_26 : decode cX2_numberRows 26 = .ok (.iload_n 3, 1) := by decide +kernel
theorem dX2_numberRows_27 : decode cX2_numberRows 27 = .ok (.invokevirtual 55, 3) := by decide +kernel
theorem dX2_numberRows_30 : decode cX2_numberRows 30 = .ok (.ifCond .eq 13, 3) := by decide +kernel
theorem dX2_numberRows_33 : decode cX2_numberRows 33 = .ok (.aload_n 0, 1) := by decide +kernel
theorem dX2_numberRows_34 : decode cX2_numberRows 34 = .ok (.getfield 15, 3) := by decide +kernel
theorem dX2_numberRows_37 : decode cX2_numberRows 37 = .ok (.iload_n 3, 1) := by decide +kernel
theorem dX2_numberRows_38 : decode cX2_numberRows 38 = .ok (.iload_n 2, 1) := by decide +kernel
theorem dX2_numberRows_39 : decode cX2_numberRows 39 = .ok (.iastore, 1) := by decide +kernel
theorem dX2_numberRows_40 : decode cX2_numberRows 40 = .ok (.iinc 2 1, 3) := by decide +kernel
theorem dX2_numberRows_43 : decode cX2_numberRows 43 = .ok (.iinc 3 1, 3) := by decide +kernel
theorem dX2_numberRows_46 : decode cX2_numberRows 46 = .ok (.goto (-42), 3) := by decide +kernel
theorem dX2_numberRows_49 : decode cX2_numberRows 49 = .ok (.iload_n 2, 1) := by decide +kernel
theorem dX2_numberRows_50 : decode cX2_numberRows 50 = .ok (.ireturn, 1) := by decide +kernel
theorem dX2_clearRows_0 : decode cX2_clearRows 0 = .ok (.iconst 0, 1) := by decide +kernel
theorem dX2_clearRows_1 : decode cX2_clearRows 1 = .ok (.istore_n 1, 1) := by decide +kernel
theorem dX2_clearRows_2 : decode cX2_clearRows 2 = .ok (.iload_n 1, 1) := by decide +kernel
theorem dX2_clearRows_3 : decode cX2_clearRows 3 = .ok (.bipush 7, 2) := by decide +kernel
theorem dX2_clearRows_5 : decode cX2_clearRows 5 = .ok (.if_icmp .ge 32, 3) := by decide +kernel
theorem dX2_clearRows_8 : decode cX2_clearRows 8 = .ok (.iconst 0, 1) := by decide +kernel
theorem dX2_clearRows_9 : decode cX2_clearRows 9 = .ok (.istore_n 2, 1) := by decide +kernel
theorem dX2_clearRows_10 : decode cX2_clearRows 10 = .ok (.iload_n 2, 1) := by decide +kernel
theorem dX2_clearRows_11 : decode cX2_clearRows 11 = .ok (.bipush 7, 2) := by decide +kernel
theorem dX2_clearRows_13 : decode cX2_clearRows 13 = .ok (.if_icmp .ge 18, 3) := by decide +kernel
theorem dX2_clearRows_16 : decode cX2_clearRows 16 = .ok (.aload_n 0, 1) := by decide +kernel
theorem dX2_clearRows_17 : decode cX2_clearRows 17 = .ok (.getfield 21, 3) := by decide +kernel
theorem dX2_clearRows_20 : decode cX2_clearRows 20 = .ok (.iload_n 1, 1) := by decide +kernel
theorem dX2_clearRows_21 : decode cX2_clearRows 21 = .ok (.aaload, 1) := by decide +kernel
theorem dX2_clearRows_22 : decode cX2_clearRows 22 = .ok (.iload_n 2, 1) := by decide +kernel
theorem dX2_clearRows_23 : decode cX2_clearRows 23 = .ok (.lconst 0, 1) := by decide +kernel
theorem dX2_clearRows_24 : decode cX2_clearRows 24 = .ok (.lastore, 1) := by decide +kernel
theorem dX2_clearRows_25 : decode cX2_clearRows 25 = .ok (.iinc 2 1, 3) := by decide +kernel
theorem dX2_clearRows_28 : decode cX2_clearRows 28 = .ok (.goto (-18), 3) := by decide +kernel
theorem dX2_clearRows_31 : decode cX2_clearRows 31 = .ok (.iinc 1 1, 3) := by decide +kernel
theorem dX2_clearRows_34 : decode cX2_clearRows 34 = .ok (.goto (-32), 3) := by decide +kernel
theorem dX2_clearRows_37 : decode cX2_clearRows 37 = .ok (.return_, 1) := by decide +kernel
set_option maxRecDepth 20000 in
theorem ggX2_enter_X4_firstOf : GoodIn wsX2_enter wsX4_firstOf := goodIn_r _ [6, 7, 32, 33, 34, 35, 36, 37, 38, 39] (by decide +kernel) (by decide +kernel)
set_option maxRecDepth 20000 in
theorem gX2_enter_X4_firstOf : GoodIn wsX2_enter (wsV RX2 58 RX4 yX4_firstOf wsX4_firstOf) := goodIn_app (goodIn_of _ (by decide +kernel)) ggX2_enter_X4_firstOf
set_option maxRecDepth 20000 in
theorem ggX2_enter_X2_rowOfNode : GoodIn wsX2_enter wsX2_rowOfNode := goodIn_r _ [12, 13, 29, 30, 31] (by decide +kernel) (by decide +kernel)
set_option maxRecDepth 20000 in
theorem gX2_enter_X2_rowOfNode : GoodIn wsX2_enter (wsV RX2 61 RX2 yX2_rowOfNode wsX2_rowOfNode) := goodIn_app (goodIn_of _ (by decide +kernel)) ggX2_enter_X2_rowOfNode
set_option maxRecDepth 20000 in
theorem ggX2_enter_X4_secondOf : GoodIn wsX2_enter wsX4_secondOf := goodIn_r _ [17, 18, 32, 33, 34, 35, 36, 37, 38, 39] (by decide +kernel) (by decide +kernel)
set_option maxRecDepth 20000 in
theorem gX2_enter_X4_secondOf : GoodIn wsX2_enter (wsV RX2 64 RX4 yX4_secondOf wsX4_secondOf) := goodIn_app (goodIn_of _ (by decide +kernel)) ggX2_enter_X4_secondOf
set_option maxRecDepth 20000 in
theorem ggX2_enter_X4_conductanceOf : GoodIn wsX2_enter wsX4_conductanceOf := goodIn_r _ [22, 23, 32, 33, 34, 35, 36, 37, 38, 39] (by decide +kernel) (by decide +kernel)
set_option maxRecDepth 20000 in
theorem gX2_enter_X4_conductanceOf : GoodIn wsX2_enter (wsV RX2 67 RX4 yX4_conductanceOf wsX4_conductanceOf) := goodIn_app (goodIn_of _ (by decide +kernel)) ggX2_enter_X4_conductanceOf
set_option maxRecDepth 20000 in
theorem ggX2_enter_X2_add : GoodIn wsX2_enter wsX2_add := goodIn_r _ [27, 28, 29, 30, 31] (by decide +kernel) (by decide +kernel)
set_option maxRecDepth 20000 in
theorem gX2_enter_X2_add : GoodIn wsX2_enter (wsV RX2 70 RX2 yX2_add wsX2_add) := goodIn_app (goodIn_of _ (by decide +kernel)) ggX2_enter_X2_add
theorem dX2_enter_0 : decode cX2_enter 0 = .ok (.aload_n 0, 1) := by decide +kernel
theorem dX2_enter_1 : decode cX2_enter 1 = .ok (.aload_n 0, 1) := by decide +kernel
theorem dX2_enter_2 : decode cX2_enter 2 = .ok (.getfield 9, 3) := by decide +kernel
theorem dX2_enter_5 : decode cX2_enter 5 = .ok (.iload_n 1, 1) := by decide +kernel
theorem dX2_enter_6 : decode cX2_enter 6 = .ok (.invokevirtual 58, 3) := by decide +kernel
theorem dX2_enter_9 : decode cX2_enter 9 = .ok (.invokevirtual 61, 3) := by decide +kernel
theorem dX2_enter_12 : decode cX2_enter 12 = .ok (.istore_n 2, 1) := by decide +kernel
theorem dX2_enter_13 : decode cX2_enter 13 = .ok (.aload_n 0, 1) := by decide +kernel
theorem dX2_enter_14 : decode cX2_enter 14 = .ok (.aload_n 0, 1) := by decide +kernel
theorem dX2_enter_15 : decode cX2_enter 15 = .ok (.getfield 9, 3) := by decide +kernel
theorem dX2_enter_18 : decode cX2_enter 18 = .ok (.iload_n 1, 1) := by decide +kernel
theorem dX2_enter_19 : decode cX2_enter 19 = .ok (.invokevirtual 64, 3) := by decide +kernel
theorem dX2_enter_22 : decode cX2_enter 22 = .ok (.invokevirtual 61, 3) := by decide +kernel
theorem dX2_enter_25 : decode cX2_enter 25 = .ok (.istore_n 3, 1) := by decide +kernel
theorem dX2_enter_26 : decode cX2_enter 26 = .ok (.aload_n 0, 1) := by decide +kernel
theorem dX2_enter_27 : decode cX2_enter 27 = .ok (.getfield 9, 3) := by decide +kernel
theorem dX2_enter_30 : decode cX2_enter 30 = .ok (.iload_n 1, 1) := by decide +kernel
theorem dX2_enter_31 : decode cX2_enter 31 = .ok (.invokevirtual 67, 3) := by decide +kernel
theorem dX2_enter_34 : decode cX2_enter 34 = .ok (.istore 4, 2) := by decide +kernel
theorem dX2_enter_36 : decode cX2_enter 36 = .ok (.aload_n 0, 1) := by decide +kernel
theorem dX2_enter_37 : decode cX2_enter 37 = .ok (.iload_n 2, 1) := by decide +kernel
theorem dX2_enter_38 : decode cX2_enter 38 = .ok (.iload_n 2, 1) := by decide +kernel
theorem dX2_enter_39 : decode cX2_enter 39 = .ok (.iload 4, 2) := by decide +kernel
theorem dX2_enter_41 : decode cX2_enter 41 = .ok (.invokevirtual 70, 3) := by decide +kernel
theorem dX2_enter_44 : decode cX2_enter 44 = .ok (.aload_n 0, 1) := by decide +kernel
theorem dX2_enter_45 : decode cX2_enter 45 = .ok (.iload_n 3, 1) := by decide +kernel
theorem dX2_enter_46 : decode cX2_enter 46 = .ok (.iload_n 3, 1) := by decide +kernel
theorem dX2_enter_47 : decode cX2_enter 47 = .ok (.iload 4, 2) := by decide +kernel
theorem dX2_enter_49 : decode cX2_enter 49 = .ok (.invokevirtual 70, 3) := by decide +kernel
theorem dX2_enter_52 : decode cX2_enter 52 = .ok (.aload_n 0, 1) := by decide +kernel
theorem dX2_enter_53 : decode cX2_enter 53 = .ok (.iload_n 2, 1) := by decide +kernel
theorem dX2_enter_54 : decode cX2_enter 54 = .ok (.iload_n 3, 1) := by decide +kernel
theorem dX2_enter_55 : decode cX2_enter 55 = .ok (.iload 4, 2) := by decide +kernel
theorem dX2_enter_57 : decode cX2_enter 57 = .ok (.ineg, 1) := by decide +kernel
theorem dX2_enter_58 : decode cX2_enter 58 = .ok (.invokevirtual 70, 3) := by decide +kernel
theorem dX2_enter_61 : decode cX2_enter 61 = .ok (.aload_n 0, 1) := by decide +kernel
theorem dX2_enter_62 : decode cX2_enter 62 = .ok (.iload_n 3, 1) := by decide +kernel
theorem dX2_enter_63 : decode cX2_enter 63 = .ok (.iload_n 2, 1) := by decide +kernel
theorem dX2_enter_64 : decode cX2_enter 64 = .ok (.iload 4, 2) := by decide +kernel
theorem dX2_enter_66 : decode cX2_enter 66 = .ok (.ineg, 1) := by decide +kernel
theorem dX2_enter_67 : decode cX2_enter 67 = .ok (.invokevirtual 70, 3) := by decide +kernel
theorem dX2_enter_70 : decode cX2_enter 70 = .ok (.return_, 1) := by decide +kernel
theorem dX2_rowOfNode_0 : decode cX2_rowOfNode 0 = .ok (.iload_n 1, 1) := by decide +kernel
theorem dX2_rowOfNode_1 : decode cX2_rowOfNode 1 = .ok (.ifCond .lt 18, 3) := by decide +kernel
theorem dX2_rowOfNode_4 : decode cX2_rowOfNode 4 = .ok (.iload_n 1, 1) := by decide +kernel
theorem dX2_rowOfNode_5 : decode cX2_rowOfNode 5 = .ok (.bipush 7, 2) := by decide +kernel
theorem dX2_rowOfNode_7 : decode cX2_rowOfNode 7 = .ok (.if_icmp .ge 12, 3) := by decide +kernel
theorem dX2_rowOfNode_10 : decode cX2_rowOfNode 10 = .ok (.aload_n 0, 1) := by decide +kernel
theorem dX2_rowOfNode_11 : decode cX2_rowOfNode 11 = .ok (.getfield 15, 3) := by decide +kernel
theorem dX2_rowOfNode_14 : decode cX2_rowOfNode 14 = .ok (.iload_n 1, 1) := by decide +kernel
theorem dX2_rowOfNode_15 : decode cX2_rowOfNode 15 = .ok (.iaload, 1) := by decide +kernel
theorem dX2_rowOfNode_16 : decode cX2_rowOfNode 16 = .ok (.goto 4, 3) := by decide +kernel
theorem dX2_rowOfNode_19 : decode cX2_rowOfNode 19 = .ok (.iconst (-1), 1) := by decide +kernel
theorem dX2_rowOfNode_20 : decode cX2_rowOfNode 20 = .ok (.ireturn, 1) := by decide +kernel
theorem dX2_add_0 : decode cX2_add 0 = .ok (.iload_n 1, 1) := by decide +kernel
theorem dX2_add_1 : decode cX2_add 1 = .ok (.ifCond .lt 32, 3) := by decide +kernel
theorem dX2_add_4 : decode cX2_add 4 = .ok (.iload_n 1, 1) := by decide +kernel
theorem dX2_add_5 : decode cX2_add 5 = .ok (.bipush 7, 2) := by decide +kernel
theorem dX2_add_7 : decode cX2_add 7 = .ok (.if_icmp .ge 26, 3) := by decide +kernel
theorem dX2_add_10 : decode cX2_add 10 = .ok (.iload_n 2, 1) := by decide +kernel
theorem dX2_add_11 : decode cX2_add 11 = .ok (.ifCond .lt 22, 3) := by decide +kernel
theorem dX2_add_14 : decode cX2_add 14 = .ok (.iload_n 2, 1) := by decide +kernel
theorem dX2_add_15 : decode cX2_add 15 = .ok (.bipush 7, 2) := by decide +kernel
theorem dX2_add_17 : decode cX2_add 17 = .ok (.if_icmp .ge 16, 3) := by decide +kernel
theorem dX2_add_20 : decode cX2_add 20 = .ok (.aload_n 0, 1) := by decide +kernel
theorem dX2_add_21 : decode cX2_add 21 = .ok (.getfield 21, 3) := by decide +kernel
theorem dX2_add_24 : decode cX2_add 24 = .ok (.iload_n 1, 1) := by decide +kernel
theorem dX2_add_25 : decode cX2_add 25 = .ok (.aaload, 1) := by decide +kernel
theorem dX2_add_26 : decode cX2_add 26 = .ok (.iload_n 2, 1) := by decide +kernel
theorem dX2_add_27 : decode cX2_add 27 = .ok (.dup2, 1) := by decide +kernel
theorem dX2_add_28 : decode cX2_add 28 = .ok (.laload, 1) := by decide +kernel
theorem dX2_add_29 : decode cX2_add 29 = .ok (.iload_n 3, 1) := by decide +kernel
theorem dX2_add_30 : decode cX2_add 30 = .ok (.i2l, 1) := by decide +kernel
theorem dX2_add_31 : decode cX2_add 31 = .ok (.ladd, 1) := by decide +kernel
theorem dX2_add_32 : decode cX2_add 32 = .ok (.lastore, 1) := by decide +kernel
theorem dX2_add_33 : decode cX2_add 33 = .ok (.return_, 1) := by decide +kernel
set_option maxRecDepth 20000 in
theorem ggX2_expand_X7_isIn : GoodIn wsX2_expand wsX7_isIn := goodIn_r _ [3] (by decide +kernel) (by decide +kernel)
set_option maxRecDepth 20000 in
theorem gX2_expand_X7_isIn_n74 : GoodIn wsX2_expand (wsX7_isIn) := ggX2_expand_X7_isIn
set_option maxRecDepth 20000 in
theorem ggX2_expand_X7_setOf : GoodIn wsX2_expand wsX7_setOf := goodIn_r _ [5] (by decide +kernel) (by decide +kernel)
set_option maxRecDepth 20000 in
theorem gX2_expand_X7_setOf_n48 : GoodIn wsX2_expand (wsX7_setOf) := ggX2_expand_X7_setOf
set_option maxRecDepth 20000 in
theorem ggX2_expand_X2_expand : GoodIn wsX2_expand wsX2_expand := goodIn_r _ [0, 1, 2, 3, 4, 5, 6, 7, 8] (by decide +kernel) (by decide +kernel)
set_option maxRecDepth 20000 in
theorem gX2_expand_X2_expand : GoodIn wsX2_expand (va_wsS RX2 51 yX2_expand wsX2_expand) := goodIn_app (goodIn_of _ (by decide +kernel)) ggX2_expand_X2_expand
theorem dX2_expand_0 : decode cX2_expand 0 = .ok (.iload_n 2, 1) := by decide +kernel
theorem dX2_expand_1 : decode cX2_expand 1 = .ok (.ifCond .lt 14, 3) := by decide +kernel
theorem dX2_expand_4 : decode cX2_expand 4 = .ok (.iload_n 2, 1) := by decide +kernel
theorem dX2_expand_5 : decode cX2_expand 5 = .ok (.iload_n 1, 1) := by decide +kernel
theorem dX2_expand_6 : decode cX2_expand 6 = .ok (.if_icmp .ge 9, 3) := by decide +kernel
theorem dX2_expand_9 : decode cX2_expand 9 = .ok (.iload_n 2, 1) := by decide +kernel
theorem dX2_expand_10 : decode cX2_expand 10 = .ok (.bipush 7, 2) := by decide +kernel
theorem dX2_expand_12 : decode cX2_expand 12 = .ok (.if_icmp .lt 5, 3) := by decide +kernel
theorem dX2_expand_15 : decode cX2_expand 15 = .ok (.lconst 1, 1) := by decide +kernel
theorem dX2_expand_16 : decode cX2_expand 16 = .ok (.lreturn, 1) := by decide +kernel
theorem dX2_expand_17 : decode cX2_expand 17 = .ok (.lconst 0, 1) := by decide +kernel
theorem dX2_expand_18 : decode cX2_expand 18 = .ok (.lstore 4, 2) := by decide +kernel
theorem dX2_expand_20 : decode cX2_expand 20 = .ok (.lconst 1, 1) := by decide +kernel
theorem dX2_expand_21 : decode cX2_expand 21 = .ok (.lstore 6, 2) := by decide +kernel
theorem dX2_expand_23 : decode cX2_expand 23 = .ok (.iconst 0, 1) := by decide +kernel
theorem dX2_expand_24 : decode cX2_expand 24 = .ok (.istore 8, 2) := by decide +kernel
theorem dX2_expand_26 : decode cX2_expand 26 = .ok (.iload 8, 2) := by decide +kernel
theorem dX2_expand_28 : decode cX2_expand 28 = .ok (.bipush 7, 2) := by decide +kernel
theorem dX2_expand_30 : decode cX2_expand 30 = .ok (.if_icmp .ge 66, 3) := by decide +kernel
theorem dX2_expand_33 : decode cX2_expand 33 = .ok (.iload_n 3, 1) := by decide +kernel
theorem dX2_expand_34 : decode cX2_expand 34 = .ok (.iload 8, 2) := by decide +kernel
theorem dX2_expand_36 : decode cX2_expand 36 = .ok (.invokestatic 74, 3) := by decide +kernel
theorem dX2_expand_39 : decode cX2_expand 39 = .ok (.ifCond .eq 51, 3) := by decide +kernel
theorem dX2_expand_42 : decode cX2_expand 42 = .ok (.aload_n 0, 1) := by decide +kernel
theorem dX2_expand_43 : decode cX2_expand 43 = .ok (.iload_n 2, 1) := by decide +kernel
theorem dX2_expand_44 : decode cX2_expand 44 = .ok (.aaload, 1) := by decide +kernel
theorem dX2_expand_45 : decode cX2_expand 45 = .ok (.iload 8, 2) := by decide +kernel
theorem dX2_expand_47 : decode cX2_expand 47 = .ok (.laload, 1) := by decide +kernel
theorem dX2_expand_48 : decode cX2_expand 48 = .ok (.lconst 0, 1) := by decide +kernel
theorem dX2_expand_49 : decode cX2_expand 49 = .ok (.lcmp, 1) := by decide +kernel
theorem dX2_expand_50 : decode cX2_expand 50 = .ok (.ifCond .eq 35, 3) := by decide +kernel
theorem dX2_expand_53 : decode cX2_expand 53 = .ok (.lload 4, 2) := by decide +kernel
theorem dX2_expand_55 : decode cX2_expand 55 = .ok (.lload 6, 2) := by decide +kernel
theorem dX2_expand_57 : decode cX2_expand 57 = .ok (.aload_n 0, 1) := by decide +kernel
theorem dX2_expand_58 : decode cX2_expand 58 = .ok (.iload_n 2, 1) := by decide +kernel
theorem dX2_expand_59 : decode cX2_expand 59 = .ok (.aaload, 1) := by decide +kernel
theorem dX2_expand_60 : decode cX2_expand 60 = .ok (.iload 8, 2) := by decide +kernel
theorem dX2_expand_62 : decode cX2_expand 62 = .ok (.laload, 1) := by decide +kernel
theorem dX2_expand_63 : decode cX2_expand 63 = .ok (.lmul, 1) := by decide +kernel
theorem dX2_expand_64 : decode cX2_expand 64 = .ok (.aload_n 0, 1) := by decide +kernel
theorem dX2_expand_65 : decode cX2_expand 65 = .ok (.iload_n 1, 1) := by decide +kernel
theorem dX2_expand_66 : decode cX2_expand 66 = .ok (.iload_n 2, 1) := by decide +kernel
theorem dX2_expand_67 : decode cX2_expand 67 = .ok (.iconst 1, 1) := by decide +kernel
theorem dX2_expand_68 : decode cX2_expand 68 = .ok (.iadd, 1) := by decide +kernel
theorem dX2_expand_69 : decode cX2_expand 69 = .ok (.iload_n 3, 1) := by decide +kernel
theorem dX2_expand_70 : decode cX2_expand 70 = .ok (.iload 8, 2) := by decide +kernel
theorem dX2_expand_72 : decode cX2_expand 72 = .ok (.invokestatic 48, 3) := by decide +kernel
theorem dX2_expand_75 : decode cX2_expand 75 = .ok (.iconst (-1), 1) := by decide +kernel
theorem dX2_expand_76 : decode cX2_expand 76 = .ok (.ixor, 1) := by decide +kernel
theorem dX2_expand_77 : decode cX2_expand 77 = .ok (.iand, 1) := by decide +kernel
theorem dX2_expand_78 : decode cX2_expand 78 = .ok (.invokestatic 51, 3) := by decide +kernel
theorem dX2_expand_81 : decode cX2_expand 81 = .ok (.lmul, 1) := by decide +kernel
theorem dX2_expand_82 : decode cX2_expand 82 = .ok (.ladd, 1) := by decide +kernel
theorem dX2_expand_83 : decode cX2_expand 83 = .ok (.lstore 4, 2) := by decide +kernel
theorem dX2_expand_85 : decode cX2_expand 85 = .ok (.lload 6, 2) := by decide +kernel
theorem dX2_expand_87 : decode cX2_expand 87 = .ok (.lneg, 1) := by decide +kernel
theorem dX2_expand_88 : decode cX2_expand 88 = .ok (.lstore 6, 2) := by decide +kernel
theorem dX2_expand_90 : decode cX2_expand 90 = .ok (.iinc 8 1, 3) := by decide +kernel
theorem dX2_expand_93 : decode cX2_expand 93 = .ok (.goto (-67), 3) := by decide +kernel
theorem dX2_expand_96 : decode cX2_expand 96 = .ok (.lload 4, 2) := by decide +kernel
theorem dX2_expand_98 : decode cX2_expand 98 = .ok (.lreturn, 1) := by decide +kernel
set_option maxRecDepth 20000 in
theorem ggX3_init_X5_init : GoodIn wsX3_init wsX5_init := goodIn_r _ [19, 20, 2, 3, 9, 21, 22, 23, 34, 35, 36, 37, 38, 39, 40, 41, 42, 43] (by decide +kernel) (by decide +kernel)
set_option maxRecDepth 20000 in
theorem gX3_init_X5_init : GoodIn wsX3_init (wsX5_init) := ggX3_init_X5_init
theorem dX3_init_0 : decode cX3_init 0 = .ok (.aload_n 0, 1) := by decide +kernel
theorem dX3_init_1 : decode cX3_init 1 = .ok (.invokespecial 3, 3) := by decide +kernel
theorem dX3_init_4 : decode cX3_init 4 = .ok (.aload_n 0, 1) := by decide +kernel
theorem dX3_init_5 : decode cX3_init 5 = .ok (.aload_n 1, 1) := by decide +kernel
theorem dX3_init_6 : decode cX3_init 6 = .ok (.putfield 9, 3) := by decide +kernel
theorem dX3_init_9 : decode cX3_init 9 = .ok (.aload_n 0, 1) := by decide +kernel
theorem dX3_init_10 : decode cX3_init 10 = .ok (.new 15, 3) := by decide +kernel
theorem dX3_init_13 : decode cX3_init 13 = .ok (.dup, 1) := by decide +kernel
theorem dX3_init_14 : decode cX3_init 14 = .ok (.invokespecial 17, 3) := by decide +kernel
theorem dX3_init_17 : decode cX3_init 17 = .ok (.putfield 18, 3) := by decide +kernel
theorem dX3_init_20 : decode cX3_init 20 = .ok (.aload_n 0, 1) := by decide +kernel
theorem dX3_init_21 : decode cX3_init 21 = .ok (.iconst 3, 1) := by decide +kernel
theorem dX3_init_22 : decode cX3_init 22 = .ok (.newarray .int, 2) := by decide +kernel
theorem dX3_init_24 : decode cX3_init 24 = .ok (.putfield 22, 3) := by decide +kernel
theorem dX3_init_27 : decode cX3_init 27 = .ok (.aload_n 0, 1) := by decide +kernel
theorem dX3_init_28 : decode cX3_init 28 = .ok (.bipush 20, 2) := by decide +kernel
theorem dX3_init_30 : decode cX3_init 30 = .ok (.newarray .int, 2) := by decide +kernel
theorem dX3_init_32 : decode cX3_init 32 = .ok (.putfield 26, 3) := by decide +kernel
theorem dX3_init_35 : decode cX3_init 35 = .ok (.aload_n 0, 1) := by decide +kernel
theorem dX3_init_36 : decode cX3_init 36 = .ok (.bipush 20, 2) := by decide +kernel
theorem dX3_init_38 : decode cX3_init 38 = .ok (.newarray .int, 2) := by decide +kernel
theorem dX3_init_40 : decode cX3_init 40 = .ok (.putfield 29, 3) := by decide +kernel
theorem dX3_init_43 : decode cX3_init 43 = .ok (.aload_n 0, 1) := by decide +kernel
theorem dX3_init_44 : decode cX3_init 44 = .ok (.bipush 20, 2) := by decide +kernel
theorem dX3_init_46 : decode cX3_init 46 = .ok (.newarray .int, 2) := by decide +kernel
theorem dX3_init_48 : decode cX3_init 48 = .ok (.putfield 32, 3) := by decide +kernel
theorem dX3_init_51 : decode cX3_init 51 = .ok (.aload_n 0, 1) := by decide +kernel
theorem dX3_init_52 : decode cX3_init 52 = .ok (.bipush 20, 2) := by decide +kernel
theorem dX3_init_54 : decode cX3_init 54 = .ok (.newarray .int, 2) := by decide +kernel
theorem dX3_init_56 : decode cX3_init 56 = .ok (.putfield 35, 3) := by decide +kernel
theorem dX3_init_59 : decode cX3_init 59 = .ok (.aload_n 0, 1) := by decide +kernel
theorem dX3_init_60 : decode cX3_init 60 = .ok (.bipush 20, 2) := by decide +kernel
theorem dX3_init_62 : decode cX3_init 62 = .ok (.newarray .int, 2) := by decide +kernel
theorem dX3_init_64 : decode cX3_init 64 = .ok (.putfield 38, 3) := by decide +kernel
theorem dX3_init_67 : decode cX3_init 67 = .ok (.aload_n 0, 1) := by decide +kernel
theorem dX3_init_68 : decode cX3_init 68 = .ok (.bipush 20, 2) := by decide +kernel
theorem dX3_init_70 : decode cX3_init 70 = .ok (.newarray .int, 2) := by decide +kernel
theorem dX3_init_72 : decode cX3_init 72 = .ok (.putfield 41, 3) := by decide +kernel
theorem dX3_init_75 : decode cX3_init 75 = .ok (.return_, 1) := by decide +kernel
theorem dX3_howMany_0 : decode cX3_howMany 0 = .ok (.aload_n 0, 1) := by decide +kernel
theorem dX3_howMany_1 : decode cX3_howMany 1 = .ok (.getfield 44, 3) := by decide +kernel
theorem dX3_howMany_4 : decode cX3_howMany 4 = .ok (.ireturn, 1) := by decide +kernel
theorem dX3_forget_0 : decode cX3_forget 0 = .ok (.aload_n 0, 1) := by decide +kernel
theorem dX3_forget_1 : decode cX3_forget 1 = .ok (.iconst 0, 1) := by decide +kernel
theorem dX3_forget_2 : decode cX3_forget 2 = .ok (.putfield 44, 3) := by decide +kernel
theorem dX3_forget_5 : decode cX3_forget 5 = .ok (.return_, 1) := by decide +kernel
set_option maxRecDepth 20000 in
theorem ggX3_doIfPossible_X5_begin : GoodIn wsX3_doIfPossible wsX5_begin := goodIn_r _ [10, 11, 12, 13, 14, 15, 16, 17, 193, 194, 195, 196, 197, 198, 199, 200, 201, 202] (by decide +kernel) (by decide +kernel)
set_option maxRecDepth 20000 in
theorem gX3_doIfPossible_X5_begin : GoodIn wsX3_doIfPossible (wsV RX3 48 RX5 yX5_begin wsX5_begin) := goodIn_app (goodIn_of _ (by decide +kernel)) ggX3_doIfPossible_X5_begin
set_option maxRecDepth 20000 in
theorem ggX3_doIfPossible_X3_planLoop : GoodIn wsX3_doIfPossible wsX3_planLoop := goodIn_r _ [22, 1, 3, 2, 23, 24, 25, 26, 27, 28, 29, 30, 31, 32, 33, 34, 35, 36, 37, 38, 39, 40, 41, 183, 184, 185, 186, 187, 188, 189, 190, 191, 192, 193, 194, 195, 196, 197, 198, 199, 200, 201, 202, 203, 204, 205, 206, 207, 208, 209, 210] (by decide +kernel) (by decide +kernel)
set_option maxRecDepth 20000 in
theorem gX3_doIfPossible_X3_planLoop : GoodIn wsX3_doIfPossible (wsV RX3 51 RX3 yX3_planLoop wsX3_planLoop) := goodIn_app (goodIn_of _ (by decide +kernel)) ggX3_doIfPossible_X3_planLoop
set_option maxRecDepth 20000 in
theorem ggX3_doIfPossible_X3_planParallel : GoodIn wsX3_doIfPossible wsX3_planParallel := goodIn_r _ [45, 3, 1, 46, 47, 23, 2, 48, 30, 31, 27, 32, 33, 49, 35, 36, 37, 38, 50, 51, 52, 53, 54, 55, 56, 57, 58, 59, 40, 60, 24, 25, 26, 28, 29, 34, 61, 62, 63, 64, 65, 39, 41, 66, 67, 183, 184, 185, 186, 187, 188, 189, 190, 191, 192, 193, 194, 195, 196, 197, 198, 199, 200, 201, 202, 203, 204, 205, 206, 207, 208, 209, 210] (by decide +kernel) (by decide +kernel)
set_option maxRecDepth 20000 in
theorem gX3_doIfPossible_X3_planParallel : GoodIn wsX3_doIfPossible (wsV RX3 55 RX3 yX3_planParallel wsX3_planParallel) := goodIn_app (goodIn_of _ (by decide +kernel)) ggX3_doIfPossible_X3_planParallel
set_option maxRecDepth 20000 in
theorem ggX3_doIfPossible_X3_planSpike : GoodIn wsX3_doIfPossible wsX3_planSpike := goodIn_r _ [71, 72, 73, 74, 21, 75, 3, 76, 1, 77, 23, 2, 78, 79, 80, 27, 81, 33, 38, 54, 55, 56, 57, 58, 59, 40, 60, 39, 41, 82, 83, 84, 85, 86, 87, 88, 89, 90, 91, 92, 93, 94, 95, 96, 97, 98, 99, 100, 101, 102, 29, 30, 31, 32, 34, 35, 36, 37, 183, 184, 185, 186, 187, 188, 189, 190, 191, 192, 193, 194, 195, 196, 197, 198, 199, 200, 201, 202, 203, 204, 205, 206, 207, 208, 209, 210] (by decide +kernel) (by decide +kernel)
set_option maxRecDepth 20000 in
theorem gX3_doIfPossible_X3_planSpike : GoodIn wsX3_doIfPossible (wsV RX3 58 RX3 yX3_planSpike wsX3_planSpike) := goodIn_app (goodIn_of _ (by decide +kernel)) ggX3_doIfPossible_X3_planSpike
set_option maxRecDepth 20000 in
theorem ggX3_doIfPossible_X3_planSeries : GoodIn wsX3_doIfPossible wsX3_planSeries := goodIn_r _ [106, 72, 73, 74, 21, 75, 3, 76, 1, 77, 23, 2, 78, 79, 80, 27, 81, 33, 38, 54, 55, 56, 57, 58, 59, 40, 60, 39, 41, 82, 83, 84, 85, 86, 87, 88, 89, 90, 91, 92, 93, 94, 95, 96, 97, 98, 99, 100, 101, 102, 29, 30, 31, 32, 34, 35, 36, 37, 107, 108, 109, 110, 111, 112, 113, 114, 61, 62, 63, 64, 65, 115, 116, 117, 118, 119, 120, 121, 9, 122, 17, 11, 123, 124, 125, 66, 67, 183, 184, 185, 186, 187, 188, 189, 190, 191, 192, 193, 194, 195, 196, 197, 198, 199, 200, 201, 202, 203, 204, 205, 206, 207, 208, 209, 210] (by decide +kernel) (by decide +kernel)
set_option maxRecDepth 20000 in
theorem gX3_doIfPossible_X3_planSeries : GoodIn wsX3_doIfPossible (wsV RX3 61 RX3 yX3_planSeries wsX3_planSeries) := goodIn_app (goodIn_of _ (by decide +kernel)) ggX3_doIfPossible_X3_planSeries
set_option maxRecDepth 20000 in
theorem ggX3_doIfPossible_X3_planTriangle : GoodIn wsX3_doIfPossible wsX3_planTriangle := goodIn_r _ [129, 72, 73, 74, 21, 75, 3, 76, 1, 77, 23, 2, 78, 79, 80, 27, 81, 33, 38, 54, 55, 56, 57, 58, 59, 40, 60, 39, 41, 82, 83, 84, 85, 86, 87, 88, 89, 90, 91, 92, 93, 94, 95, 96, 97, 98, 99, 100, 101, 102, 29, 30, 31, 32, 34, 35, 36, 37, 107, 108, 109, 110, 111, 112, 113, 114, 61, 62, 63, 64, 65, 115, 116, 117, 118, 119, 120, 121, 9, 122, 17, 11, 123, 124, 125, 66, 67, 183, 184, 185, 186, 187, 188, 189, 190, 191, 192, 193, 194, 195, 196, 197, 198, 199, 200, 201, 202, 203, 204, 205, 206, 207, 208, 209, 210] (by decide +kernel) (by decide +kernel)
set_option maxRecDepth 20000 in
theorem gX3_doIfPossible_X3_planTriangle : GoodIn wsX3_doIfPossible (wsV RX3 64 RX3 yX3_planTriangle wsX3_planTriangle) := goodIn_app (goodIn_of _ (by decide +kernel)) ggX3_doIfPossible_X3_planTriangle
set_option maxRecDepth 20000 in
theorem ggX3_doIfPossible_X3_planStar : GoodIn wsX3_doIfPossible wsX3_planStar := goodIn_r _ [133, 3, 1, 2, 23, 4, 134, 48, 30, 31, 27, 32, 33, 49, 35, 36, 37, 38, 135, 136, 137, 21, 138, 139, 55, 56, 57, 58, 59, 40, 60, 140, 141, 142, 143, 29, 34, 99, 100, 101, 102, 50, 51, 52, 53, 54, 61, 62, 63, 64, 65, 39, 41, 119, 120, 121, 9, 122, 17, 11, 123, 124, 125, 66, 67, 183, 184, 185, 186, 187, 188, 189, 190, 191, 192, 193, 194, 195, 196, 197, 198, 199, 200, 201, 202, 203, 204, 205, 206, 207, 208, 209, 210] (by decide +kernel) (by decide +kernel)
set_option maxRecDepth 20000 in
theorem gX3_doIfPossible_X3_planStar : GoodIn wsX3_doIfPossible (wsV RX3 67 RX3 yX3_planStar wsX3_planStar) := goodIn_app (goodIn_of _ (by decide +kernel)) ggX3_doIfPossible_X3_planStar
set_option maxRecDepth 20000 in
theorem ggX3_doIfPossible_X4_hasRoom : GoodIn wsX3_doIfPossible wsX4_hasRoom := goodIn_r _ [147, 148, 149, 203, 204, 205, 206, 207, 208, 209, 210] (by decide +kernel) (by decide +kernel)
set_option maxRecDepth 20000 in
theorem gX3_doIfPossible_X4_hasRoom : GoodIn wsX3_doIfPossible (wsV RX3 80 RX4 yX4_hasRoom wsX4_hasRoom) := goodIn_app (goodIn_of _ (by decide +kernel)) ggX3_doIfPossible_X4_hasRoom
set_option maxRecDepth 20000 in
theorem ggX3_doIfPossible_X3_keepAsItIs : GoodIn wsX3_doIfPossible wsX3_keepAsItIs := goodIn_r _ [153, 154, 155, 3, 156, 157, 158, 159, 134, 160, 161, 162, 1, 46, 163, 61, 62, 63, 27, 64, 65, 183, 184, 185, 186, 187, 188, 189, 190, 191, 192, 203, 204, 205, 206, 207, 208, 209, 210, 193, 194, 195, 196, 197, 198, 199, 200, 201, 202] (by decide +kernel) (by decide +kernel)
set_option maxRecDepth 20000 in
theorem gX3_doIfPossible_X3_keepAsItIs : GoodIn wsX3_doIfPossible (wsV RX3 86 RX3 yX3_keepAsItIs wsX3_keepAsItIs) := goodIn_app (goodIn_of _ (by decide +kernel)) ggX3_doIfPossible_X3_keepAsItIs
set_option maxRecDepth 20000 in
theorem ggX3_doIfPossible_X3_carryOut : GoodIn wsX3_doIfPossible wsX3_carryOut := goodIn_r _ [167, 3, 156, 1, 77, 158, 23, 46, 47, 4, 5, 168, 169, 170, 171, 172, 173, 27, 174, 65, 175, 176, 177, 178, 148, 91, 86, 39, 40, 41, 179, 180, 181, 182, 149, 58, 33, 38, 183, 184, 185, 186, 187, 188, 189, 190, 191, 192, 203, 204, 205, 206, 207, 208, 209, 210, 193, 194, 195, 196, 197, 198, 199, 200, 201, 202] (by decide +kernel) (by decide +kernel)
set_option maxRecDepth 20000 in
theorem gX3_doIfPossible_X3_carryOut : GoodIn wsX3_doIfPossible (wsV RX3 90 RX3 yX3_carryOut wsX3_carryOut) := goodIn_app (goodIn_of _ (by decide +kernel)) ggX3_doIfPossible_X3_carryOut
theorem dX3_doIfPossible_0 : decode cX3_doIfPossible 0 = .ok (.aload_n 0, 1) := by decide +kernel
theorem dX3_doIfPossible_1 : decode cX3_doIfPossible 1 = .ok (.getfield 18, 3) := by decide +kernel
theorem dX3_doIfPossible_4 : decode cX3_doIfPossible 4 = .ok (.invokevirtual 48, 3) := by decide +kernel
theorem dX3_doIfPossible_7 : decode cX3_doIfPossible 7 = .ok (.iload_n 1, 1) := by decide +kernel
theorem dX3_doIfPossible_8 : decode cX3_doIfPossible 8 = .ok (.tableswitch 88 0 5 #[40, 48, 56, 64, 72, 80], 40) := by decide +kernel
theorem dX3_doIfPossible_48 : decode cX3_doIfPossible 48 = .ok (.aload_n 0, 1) := by decide +kernel
theorem dX3_doIfPossible_49 : decode cX3_doIfPossible 49 = .ok (.iload_n 2, 1) := by decide +kernel
theorem dX3_doIfPossible_50 : decode cX3_doIfPossible 50 = .ok (.invokevirtual 51, 3) := by decide +kernel
theorem dX3_doIfPossible_53 : decode cX3_doIfPossible 53 = .ok (.goto 45, 3) := by decide +kernel
theorem dX3_doIfPossible_56 : decode cX3_doIfPossible 56 = .ok (.aload_n 0, 1) := by decide +kernel
theorem dX3_doIfPossible_57 : decode cX3_doIfPossible 57 = .ok (.iload_n 2, 1) := by decide +kernel
theorem dX3_doIfPossible_58 : decode cX3_doIfPossible 58 = .ok (.invokevirtual 55, 3) := by decide +kernel
theorem dX3_doIfPossible_61 : decode cX3_doIfPossible 61 = .ok (.goto 37, 3) := by decide +kernel
theorem dX3_doIfPossible_64 : decode cX3_doIfPossible 64 = .ok (.aload_n 0, 1) := by decide +kernel
theorem dX3_doIfPossible_65 : decode cX3_doIfPossible 65 = .ok (.iload_n 2, 1) := by decide +kernel
theorem dX3_doIfPossible_66 : decode cX3_doIfPossible 66 = .ok (.invokevirtual 58, 3) := by decide +kernel
theorem dX3_doIfPossible_69 : decode cX3_doIfPossible 69 = .ok (.goto 29, 3) := by decide +kernel
theorem dX3_doIfPossible_72 : decode cX3_doIfPossible 72 = .ok (.aload_n 0, 1) := by decide +kernel
theorem dX3_doIfPossible_73 : decode cX3_doIfPossible 73 = .ok (.iload_n 2, 1) := by decide +kernel
theorem dX3_doIfPossible_74 : decode cX3_doIfPossible 74 = .ok (.invokevirtual 61, 3) := by decide +kernel
theorem dX3_doIfPossible_77 : decode cX3_doIfPossible 77 = .ok (.goto 21, 3) := by decide +kernel
theorem dX3_doIfPossible_80 : decode cX3_doIfPossible 80 = .ok (.aload_n 0, 1) := by decide +kernel
theorem dX3_doIfPossible_81 : decode cX3_doIfPossible 81 = .ok (.iload_n 2, 1) := by decide +kernel
theorem dX3_doIfPossible_82 : decode cX3_doIfPossible 82 = .ok (.invokevirtual 64, 3) := by decide +kernel
theorem dX3_doIfPossible_85 : decode cX3_doIfPossible 85 = .ok (.goto 13, 3) := by decide +kernel
theorem dX3_doIfPossible_88 : decode cX3_doIfPossible 88 = .ok (.aload_n 0, 1) := by decide +kernel
theorem dX3_doIfPossible_89 : decode cX3_doIfPossible 89 = .ok (.iload_n 2, 1) := by decide +kernel
theorem dX3_doIfPossible_90 : decode cX3_doIfPossible 90 = .ok (.invokevirtual 67, 3) := by decide +kernel
theorem dX3_doIfPossible_93 : decode cX3_doIfPossible 93 = .ok (.goto 5, 3) := by decide +kernel
theorem dX3_doIfPossible_96 : decode cX3_doIfPossible 96 = .ok (.iconst 0, 1) := by decide +kernel
theorem dX3_doIfPossible_97 : decode cX3_doIfPossible 97 = .ok (.ireturn, 1) := by decide +kernel
theorem dX3_doIfPossible_98 : decode cX3_doIfPossible 98 = .ok (.aload_n 0, 1) := by decide +kernel
theorem dX3_doIfPossible_99 : decode cX3_doIfPossible 99 = .ok (.getfield 18, 3) := by decide +kernel
theorem dX3_doIfPossible_102 : decode cX3_doIfPossible 102 = .ok (.getfield 70, 3) := by decide +kernel
theorem dX3_doIfPossible_105 : decode cX3_doIfPossible 105 = .ok (.ifCond .eq 34, 3) := by decide +kernel
theorem dX3_doIfPossible_108 : decode cX3_doIfPossible 108 = .ok (.aload_n 0, 1) := by decide +kernel
theorem dX3_doIfPossible_109 : decode cX3_doIfPossible 109 = .ok (.getfield 9, 3) := by decide +kernel
theorem dX3_doIfPossible_112 : decode cX3_doIfPossible 112 = .ok (.aload_n 0, 1) := by decide +kernel
theorem dX3_doIfPossible_113 : decode cX3_doIfPossible 113 = .ok (.getfield 18, 3) := by decide +kernel
theorem dX3_doIfPossible_116 : decode cX3_doIfPossible 116 = .ok (.getfield 74, 3) := by decide +kernel
theorem dX3_doIfPossible_119 : decode cX3_doIfPossible 119 = .ok (.aload_n 0, 1) := by decide +kernel
theorem dX3_doIfPossible_120 : decode cX3_doIfPossible 120 = .ok (.getfield 18, 3) := by decide +kernel
theorem dX3_doIfPossible_123 : decode cX3_doIfPossible 123 = .ok (.getfield 77, 3) := by decide +kernel
theorem dX3_doIfPossible_126 : decode cX3_doIfPossible 126 = .ok (.invokevirtual 80, 3) := by decide +kernel
theorem dX3_doIfPossible_129 : decode cX3_doIfPossible 129 = .ok (.ifCond .eq 10, 3) := by decide +kernel
theorem dX3_doIfPossible_132 : decode cX3_doIfPossible 132 = .ok (.aload_n 0, 1) := by decide +kernel
theorem dX3_doIfPossible_133 : decode cX3_doIfPossible 133 = .ok (.invokevirtual 86, 3) := by decide +kernel
theorem dX3_doIfPossible_136 : decode cX3_doIfPossible 136 = .ok (.ifCond .ne 5, 3) := by decide +kernel
theorem dX3_doIfPossible_139 : decode cX3_doIfPossible 139 = .ok (.iconst 0, 1) := by decide +kernel
theorem dX3_doIfPossible_140 : decode cX3_doIfPossible 140 = .ok (.ireturn, 1) := by decide +kernel
theorem dX3_doIfPossible_141 : decode cX3_doIfPossible 141 = .ok (.aload_n 0, 1) := by decide +kernel
theorem dX3_doIfPossible_142 : decode cX3_doIfPossible 142 = .ok (.invokevirtual 90, 3) := by decide +kernel
theorem dX3_doIfPossible_145 : decode cX3_doIfPossible 145 = .ok (.iconst 1, 1) := by decide +kernel
theorem dX3_doIfPossible_146 : decode cX3_doIfPossible 146 = .ok (.ireturn, 1) := by decide +kernel
set_option maxRecDepth 20000 in
theorem ggX3_doFirstSimple_X7_isOfWire : GoodIn wsX3_doFirstSimple wsX7_isOfWire := goodIn_r _ [4] (by decide +kernel) (by decide +kernel)
set_option maxRecDepth 20000 in
theorem gX3_doFirstSimple_X7_isOfWire_n93 : GoodIn wsX3_doFirstSimple (wsX7_isOfWire) := ggX3_doFirstSimple_X7_isOfWire
set_option maxRecDepth 20000 in
theorem ggX3_doFirstSimple_X4_hasWire : GoodIn wsX3_doFirstSimple wsX4_hasWire := goodIn_r _ [9, 10, 11, 3, 12, 200, 201, 202, 203, 204, 205, 206, 207] (by decide +kernel) (by decide +kernel)
set_option maxRecDepth 20000 in
theorem gX3_doFirstSimple_X4_hasWire : GoodIn wsX3_doFirstSimple (wsV RX3 97 RX4 yX4_hasWire wsX4_hasWire) := goodIn_app (goodIn_of _ (by decide +kernel)) ggX3_doFirstSimple_X4_hasWire
set_option maxRecDepth 20000 in
theorem ggX3_doFirstSimple_X4_hasNode : GoodIn wsX3_doFirstSimple wsX4_hasNode := goodIn_r _ [16, 17, 11, 3, 12, 200, 201, 202, 203, 204, 205, 206, 207] (by decide +kernel) (by decide +kernel)
set_option maxRecDepth 20000 in
theorem gX3_doFirstSimple_X4_hasNode : GoodIn wsX3_doFirstSimple (wsV RX3 100 RX4 yX4_hasNode wsX4_hasNode) := goodIn_app (goodIn_of _ (by decide +kernel)) ggX3_doFirstSimple_X4_hasNode
set_option maxRecDepth 20000 in
theorem ggX3_doFirstSimple_X3_doIfPossible : GoodIn wsX3_doFirstSimple wsX3_doIfPossible := goodIn_r _ [22, 23, 24, 1, 25, 26, 27, 28, 29, 30, 31, 32, 33, 34, 35, 36, 37, 38, 39, 40, 41, 21, 42, 43, 44, 45, 46, 8, 47, 48, 49, 50, 51, 52, 53, 54, 55, 56, 57, 58, 3, 59, 60, 61, 62, 63, 64, 65, 66, 67, 68, 69, 70, 71, 72, 6, 7, 9, 10, 11, 12, 73, 74, 75, 76, 77, 78, 79, 80, 81, 82, 83, 84, 85, 86, 87, 88, 89, 90, 91, 92, 93, 94, 95, 96, 97, 98, 99, 14, 15, 16, 17, 100, 101, 102, 103, 104, 105, 106, 107, 108, 109, 110, 111, 112, 113, 114, 115, 116, 117, 118, 119, 120, 121, 122, 123, 124, 125, 126, 127, 128, 129, 130, 131, 132, 133, 134, 135, 136, 137, 138, 139, 140, 141, 142, 143, 144, 145, 146, 5, 147, 148, 149, 150, 151, 152, 153, 154, 155, 156, 157, 158, 159, 160, 161, 162, 163, 164, 165, 166, 167, 168, 169, 170, 171, 172, 173, 174, 175, 176, 177, 178, 179, 180, 181, 182, 183, 184, 185, 186, 187, 188, 189, 190, 191, 192, 193, 194, 195, 196, 197, 198, 199, 208, 209, 210, 211, 212, 213, 214, 215, 216, 217, 200, 201, 202, 203, 204, 205, 206, 207] (by decide +kernel) (by decide +kernel)
set_option maxRecDepth 20000 in
theorem gX3_doFirstSimple_X3_doIfPossible : GoodIn wsX3_doFirstSimple (wsV RX3 103 RX3 yX3_doIfPossible wsX3_doIfPossible) := goodIn_app (goodIn_of _ (by decide +kernel)) ggX3_doFirstSimple_X3_doIfPossible
theorem dX3_doFirstSimple_0 : decode cX3_doFirstSimple 0 = .ok (.iconst 0, 1) := by decide +kernel
theorem dX3_doFirstSimple_1 : decode cX3_doFirstSimple 1 = .ok (.istore_n 1, 1) := by decide +kernel
theorem dX3_doFirstSimple_2 : decode cX3_doFirstSimple 2 = .ok (.iload_n 1, 1) := by decide +kernel
theorem dX3_doFirstSimple_3 : decode cX3_doFirstSimple 3 = .ok (.iconst 3, 1) := by decide +kernel
theorem dX3_doFirstSimple_4 : decode cX3_doFirstSimple 4 = .ok (.if_icmp .gt 65, 3) := by decide +kernel
theorem dX3_doFirstSimple_7 : decode cX3_doFirstSimple 7 = .ok (.iconst 0, 1) := by decide +kernel
theorem dX3_doFirstSimple_8 : decode cX3_doFirstSimple 8 = .ok (.istore_n 2, 1) := by decide +kernel
theorem dX3_doFirstSimple_9 : decode cX3_doFirstSimple 9 = .ok (.iload_n 2, 1) := by decide +kernel
theorem dX3_doFirstSimple_10 : decode cX3_doFirstSimple 10 = .ok (.bipush 20, 2) := by decide +kernel
theorem dX3_doFirstSimple_12 : decode cX3_doFirstSimple 12 = .ok (.if_icmp .ge 51, 3) := by decide +kernel
theorem dX3_doFirstSimple_15 : decode cX3_doFirstSimple 15 = .ok (.iload_n 1, 1) := by decide +kernel
theorem dX3_doFirstSimple_16 : decode cX3_doFirstSimple 16 = .ok (.invokestatic 93, 3) := by decide +kernel
theorem dX3_doFirstSimple_19 : decode cX3_doFirstSimple 19 = .ok (.ifCond .eq 14, 3) := by decide +kernel
theorem dX3_doFirstSimple_22 : decode cX3_doFirstSimple 22 = .ok (.aload_n 0, 1) := by decide +kernel
theorem dX3_doFirstSimple_23 : decode cX3_doFirstSimple 23 = .ok (.getfield 9, 3) := by decide +kernel
theorem dX3_doFirstSimple_26 : decode cX3_doFirstSimple 26 = .ok (.iload_n 2, 1) := by decide +kernel
theorem dX3_doFirstSimple_27 : decode cX3_doFirstSimple 27 = .ok (.invokevirtual 97, 3) := by decide +kernel
theorem dX3_doFirstSimple_30 : decode cX3_doFirstSimple 30 = .ok (.goto 11, 3) := by decide +kernel
theorem dX3_doFirstSimple_33 : decode cX3_doFirstSimple 33 = .ok (.aload_n 0, 1) := by decide +kernel
theorem dX3_doFirstSimple_34 : decode cX3_doFirstSimple 34 = .ok (.getfield 9, 3) := by decide +kernel
theorem dX3_doFirstSimple_37 : decode cX3_doFirstSimple 37 = .ok (.iload_n 2, 1) := by decide +kernel
theorem dX3_doFirstSimple_38 : decode cX3_doFirstSimple 38 = .ok (.invokevirtual 100, 3) := by decide +kernel
theorem dX3_doFirstSimple_41 : decode cX3_doFirstSimple 41 = .ok (.istore_n 3, 1) := by decide +kernel
theorem dX3_doFirstSimple_42 : decode cX3_doFirstSimple 42 = .ok (.iload_n 3, 1) := by decide +kernel
theorem dX3_doFirstSimple_43 : decode cX3_doFirstSimple 43 = .ok (.ifCond .eq 14, 3) := by decide +kernel
theorem dX3_doFirstSimple_46 : decode cX3_doFirstSimple 46 = .ok (.aload_n 0, 1) := by decide +kernel
theorem dX3_doFirstSimple_47 : decode cX3_doFirstSimple 47 = .ok (.iload_n 1, 1) := by decide +kernel
theorem dX3_doFirstSimple_48 : decode cX3_doFirstSimple 48 = .ok (.iload_n 2, 1) := by decide +kernel
theorem dX3_doFirstSimple_49 : decode cX3_doFirstSimple 49 = .ok (.invokevirtual 103, 3) := by decide +kernel
theorem dX3_doFirstSimple_52 : decode cX3_doFirstSimple 52 = .ok (.ifCond .eq 5, 3) := by decide +kernel
theorem dX3_doFirstSimple_55 : decode cX3_doFirstSimple 55 = .ok (.iconst 1, 1) := by decide +kernel
theorem dX3_doFirstSimple_56 : decode cX3_doFirstSimple 56 = .ok (.ireturn, 1) := by decide +kernel
theorem dX3_doFirstSimple_57 : decode cX3_doFirstSimple 57 = .ok (.iinc 2 1, 3) := by decide +kernel
theorem dX3_doFirstSimple_60 : decode cX3_doFirstSimple 60 = .ok (.goto (-51), 3) := by decide +kernel
theorem dX3_doFirstSimple_63 : decode cX3_doFirstSimple 63 = .ok (.iinc 1 1, 3) := by decide +kernel
theorem dX3_doFirstSimple_66 : decode cX3_doFirstSimple 66 = .ok (.goto (-64), 3) := by decide +kernel
theorem dX3_doFirstSimple_69 : decode cX3_doFirstSimple 69 = .ok (.iconst 0, 1) := by decide +kernel
theorem dX3_doFirstSimple_70 : decode cX3_doFirstSimple 70 = .ok (.ireturn, 1) := by decide +kernel
set_option maxRecDepth 20000 in
theorem ggX3_planLoop_X4_isRing : GoodIn wsX3_planLoop wsX4_isRing := goodIn_r _ [9, 10, 11, 12, 8, 13, 14, 15, 16, 17, 18, 19, 43, 44, 45, 46, 47, 48, 49, 50] (by decide +kernel) (by decide +kernel)
set_option maxRecDepth 20000 in
theorem gX3_planLoop_X4_isRing : GoodIn wsX3_planLoop (wsV RX3 106 RX4 yX4_isRing wsX4_isRing) := goodIn_app (goodIn_of _ (by decide +kernel)) ggX3_planLoop_X4_isRing
set_option maxRecDepth 20000 in
theorem ggX3_planLoop_X7_setOf : GoodIn wsX3_planLoop wsX7_setOf := goodIn_r _ [22] (by decide +kernel) (by decide +kernel)
set_option maxRecDepth 20000 in
theorem gX3_planLoop_X7_setOf_n109 : GoodIn wsX3_planLoop (wsX7_setOf) := ggX3_planLoop_X7_setOf
theorem dX3_planLoop_0 : decode cX3_planLoop 0 = .ok (.aload_n 0, 1) := by decide +kernel
theorem dX3_planLoop_1 : decode cX3_planLoop 1 = .ok (.getfield 18, 3) := by decide +kernel
theorem dX3_planLoop_4 : decode cX3_planLoop 4 = .ok (.aload_n 0, 1) := by decide +kernel
theorem dX3_planLoop_5 : decode cX3_planLoop 5 = .ok (.getfield 9, 3) := by decide +kernel
theorem dX3_planLoop_8 : decode cX3_planLoop 8 = .ok (.iload_n 1, 1) := by decide +kernel
theorem dX3_planLoop_9 : decode cX3_planLoop 9 = .ok (.invokevirtual 106, 3) := by decide +kernel
theorem dX3_planLoop_12 : decode cX3_planLoop 12 = .ok (.putfield 70, 3) := by decide +kernel
theorem dX3_planLoop_15 : decode cX3_planLoop 15 = .ok (.aload_n 0, 1) := by decide +kernel
theorem dX3_planLoop_16 : decode cX3_planLoop 16 = .ok (.getfield 18, 3) := by decide +kernel
theorem dX3_planLoop_19 : decode cX3_planLoop 19 = .ok (.iload_n 1, 1) := by decide +kernel
theorem dX3_planLoop_20 : decode cX3_planLoop 20 = .ok (.invokestatic 109, 3) := by decide +kernel
theorem dX3_planLoop_23 : decode cX3_planLoop 23 = .ok (.putfield 113, 3) := by decide +kernel
theorem dX3_planLoop_26 : decode cX3_planLoop 26 = .ok (.return_, 1) := by decide +kernel
set_option maxRecDepth 20000 in
theorem ggX3_planParallel_X4_firstOf : GoodIn wsX3_planParallel wsX4_firstOf := goodIn_r _ [11, 12, 65, 66, 67, 68, 69, 70, 71, 72] (by decide +kernel) (by decide +kernel)
set_option maxRecDepth 20000 in
theorem gX3_planParallel_X4_firstOf : GoodIn wsX3_planParallel (wsV RX3 116 RX4 yX4_firstOf wsX4_firstOf) := goodIn_app (goodIn_of _ (by decide +kernel)) ggX3_planParallel_X4_firstOf
set_option maxRecDepth 20000 in
theorem ggX3_planParallel_X4_secondOf : GoodIn wsX3_planParallel wsX4_secondOf := goodIn_r _ [16, 17, 65, 66, 67, 68, 69, 70, 71, 72] (by decide +kernel) (by decide +kernel)
set_option maxRecDepth 20000 in
theorem gX3_planParallel_X4_secondOf : GoodIn wsX3_planParallel (wsV RX3 119 RX4 yX4_secondOf wsX4_secondOf) := goodIn_app (goodIn_of _ (by decide +kernel)) ggX3_planParallel_X4_secondOf
set_option maxRecDepth 20000 in
theorem ggX3_planParallel_X4_lowestBetween : GoodIn wsX3_planParallel wsX4_lowestBetween := goodIn_r _ [21, 12, 17, 22, 23, 24, 10, 25, 26, 27, 28, 29, 65, 66, 67, 68, 69, 70, 71, 72] (by decide +kernel) (by decide +kernel)
set_option maxRecDepth 20000 in
theorem gX3_planParallel_X4_lowestBetween : GoodIn wsX3_planParallel (wsV RX3 122 RX4 yX4_lowestBetween wsX4_lowestBetween) := goodIn_app (goodIn_of _ (by decide +kernel)) ggX3_planParallel_X4_lowestBetween
set_option maxRecDepth 20000 in
theorem ggX3_planParallel_X4_isRing : GoodIn wsX3_planParallel wsX4_isRing := goodIn_r _ [33, 34, 8, 9, 10, 11, 12, 35, 14, 15, 16, 17, 65, 66, 67, 68, 69, 70, 71, 72] (by decide +kernel) (by decide +kernel)
set_option maxRecDepth 20000 in
theorem gX3_planParallel_X4_isRing : GoodIn wsX3_planParallel (wsV RX3 106 RX4 yX4_isRing wsX4_isRing) := goodIn_app (goodIn_of _ (by decide +kernel)) ggX3_planParallel_X4_isRing
set_option maxRecDepth 20000 in
theorem ggX3_planParallel_X4_conductanceOf : GoodIn wsX3_planParallel wsX4_conductanceOf := goodIn_r _ [39, 40, 65, 66, 67, 68, 69, 70, 71, 72] (by decide +kernel) (by decide +kernel)
set_option maxRecDepth 20000 in
theorem gX3_planParallel_X4_conductanceOf : GoodIn wsX3_planParallel (wsV RX3 128 RX4 yX4_conductanceOf wsX4_conductanceOf) := goodIn_app (goodIn_of _ (by decide +kernel)) ggX3_planParallel_X4_conductanceOf
set_option maxRecDepth 20000 in
theorem ggX3_planParallel_X7_setOf : GoodIn wsX3_planParallel wsX7_setOf := goodIn_r _ [42] (by decide +kernel) (by decide +kernel)
set_option maxRecDepth 20000 in
theorem gX3_planParallel_X7_setOf_n109 : GoodIn wsX3_planParallel (wsX7_setOf) := ggX3_planParallel_X7_setOf
set_option maxRecDepth 20000 in
theorem ggX3_planParallel_X7_isConductance : GoodIn wsX3_planParallel wsX7_isConductance := goodIn_r _ [44] (by decide +kernel) (by decide +kernel)
set_option maxRecDepth 20000 in
theorem gX3_planParallel_X7_isConductance_n134 : GoodIn wsX3_planParallel (wsX7_isConductance) := ggX3_planParallel_X7_isConductance
theorem dX3_planParallel_0 : decode cX3_planParallel 0 = .ok (.aload_n 0, 1) := by decide +kernel
theorem dX3_planParallel_1 : decode cX3_planParallel 1 = .ok (.getfield 9, 3) := by decide +kernel
theorem dX3_planParallel_4 : decode cX3_planParallel 4 = .ok (.aload_n 0, 1) := by decide +kernel
theorem dX3_planParallel_5 : decode cX3_planParallel 5 = .ok (.getfield 9, 3) := by decide +kernel
theorem dX3_planParallel_8 : decode cX3_planParallel 8 = .ok (.iload_n 1, 1) := by decide +kernel
theorem dX3_planParallel_9 : decode cX3_planParallel 9 = .ok (.invokevirtual 116, 3) := by decide +kernel
theorem dX3_planParallel_12 : decode cX3_planParallel 12 = .ok (.aload_n 0, 1) := by decide +kernel
theorem dX3_planParallel_13 : decode cX3_planParallel 13 = .ok (.getfield 9, 3) := by decide +kernel
theorem dX3_planParallel_16 : decode cX3_planParallel 16 = .ok (.iload_n 1, 1) := by decide +kernel
theorem dX3_planParallel_17 : decode cX3_planParallel 17 = .ok (.invokevirtual 119, 3) := by decide +kernel
theorem dX3_planParallel_20 : decode cX3_planParallel 20 = .ok (.iload_n 1, 1) := by decide +kernel
theorem dX3_planParallel_21 : decode cX3_planParallel 21 = .ok (.invokevirtual 122, 3) := by decide +kernel
theorem dX3_planParallel_24 : decode cX3_planParallel 24 = .ok (.istore_n 2, 1) := by decide +kernel
theorem dX3_planParallel_25 : decode cX3_planParallel 25 = .ok (.aload_n 0, 1) := by decide +kernel
theorem dX3_planParallel_26 : decode cX3_planParallel 26 = .ok (.getfield 9, 3) := by decide +kernel
theorem dX3_planParallel_29 : decode cX3_planParallel 29 = .ok (.iload_n 1, 1) := by decide +kernel
theorem dX3_planParallel_30 : decode cX3_planParallel 30 = .ok (.invokevirtual 106, 3) := by decide +kernel
theorem dX3_planParallel_33 : decode cX3_planParallel 33 = .ok (.ifCond .ne 8, 3) := by decide +kernel
theorem dX3_planParallel_36 : decode cX3_planParallel 36 = .ok (.iload_n 2, 1) := by decide +kernel
theorem dX3_planParallel_37 : decode cX3_planParallel 37 = .ok (.iconst (-1), 1) := by decide +kernel
theorem dX3_planParallel_38 : decode cX3_planParallel 38 = .ok (.if_icmp .ne 4, 3) := by decide +kernel
theorem dX3_planParallel_41 : decode cX3_planParallel 41 = .ok (.return_, 1) := by decide +kernel
theorem dX3_planParallel_42 : decode cX3_planParallel 42 = .ok (.aload_n 0, 1) := by decide +kernel
theorem dX3_planParallel_43 : decode cX3_planParallel 43 = .ok (.getfield 18, 3) := by decide +kernel
theorem dX3_planParallel_46 : decode cX3_planParallel 46 = .ok (.iload_n 1, 1) := by decide +kernel
theorem dX3_planParallel_47 : decode cX3_planParallel 47 = .ok (.putfield 126, 3) := by decide +kernel
theorem dX3_planParallel_50 : decode cX3_planParallel 50 = .ok (.aload_n 0, 1) := by decide +kernel
theorem dX3_planParallel_51 : decode cX3_planParallel 51 = .ok (.getfield 18, 3) := by decide +kernel
theorem dX3_planParallel_54 : decode cX3_planParallel 54 = .ok (.aload_n 0, 1) := by decide +kernel
theorem dX3_planParallel_55 : decode cX3_planParallel 55 = .ok (.getfield 9, 3) := by decide +kernel
theorem dX3_planParallel_58 : decode cX3_planParallel 58 = .ok (.iload_n 1, 1) := by decide +kernel
theorem dX3_planParallel_59 : decode cX3_planParallel 59 = .ok (.invokevirtual 128, 3) := by decide +kernel
theorem dX3_planParallel_62 : decode cX3_planParallel 62 = .ok (.aload_n 0, 1) := by decide +kernel
theorem dX3_planParallel_63 : decode cX3_planParallel 63 = .ok (.getfield 9, 3) := by decide +kernel
theorem dX3_planParallel_66 : decode cX3_planParallel 66 = .ok (.iload_n 2, 1) := by decide +kernel
theorem dX3_planParallel_67 : decode cX3_planParallel 67 = .ok (.invokevirtual 128, 3) := by decide +kernel
theorem dX3_planParallel_70 : decode cX3_planParallel 70 = .ok (.iadd, 1) := by decide +kernel
theorem dX3_planParallel_71 : decode cX3_planParallel 71 = .ok (.putfield 131, 3) := by decide +kernel
theorem dX3_planParallel_74 : decode cX3_planParallel 74 = .ok (.aload_n 0, 1) := by decide +kernel
theorem dX3_planParallel_75 : decode cX3_planParallel 75 = .ok (.getfield 18, 3) := by decide +kernel
theorem dX3_planParallel_78 : decode cX3_planParallel 78 = .ok (.iload_n 2, 1) := by decide +kernel
theorem dX3_planParallel_79 : decode cX3_planParallel 79 = .ok (.invokestatic 109, 3) := by decide +kernel
theorem dX3_planParallel_82 : decode cX3_planParallel 82 = .ok (.putfield 113, 3) := by decide +kernel
theorem dX3_planParallel_85 : decode cX3_planParallel 85 = .ok (.aload_n 0, 1) := by decide +kernel
theorem dX3_planParallel_86 : decode cX3_planParallel 86 = .ok (.getfield 18, 3) := by decide +kernel
theorem dX3_planParallel_89 : decode cX3_planParallel 89 = .ok (.aload_n 0, 1) := by decide +kernel
theorem dX3_planParallel_90 : decode cX3_planParallel 90 = .ok (.getfield 18, 3) := by decide +kernel
theorem dX3_planParallel_93 : decode cX3_planParallel 93 = .ok (.getfield 131, 3) := by decide +kernel
theorem dX3_planParallel_96 : decode cX3_planParallel 96 = .ok (.invokestatic 134, 3) := by decide +kernel
theorem dX3_planParallel_99 : decode cX3_planParallel 99 = .ok (.putfield 70, 3) := by decide +kernel
theorem dX3_planParallel_102 : decode cX3_planParallel 102 = .ok (.return_, 1) := by decide +kernel
set_option maxRecDepth 20000 in
theorem ggX3_planSpike_X3_planWithout : GoodIn wsX3_planSpike wsX3_planWithout := goodIn_r _ [5, 6, 7, 8, 9, 10, 11, 12, 13, 14, 15, 16, 17, 18, 19, 20, 21, 22, 23, 24, 25, 26, 27, 28, 29, 30, 31, 32, 33, 34, 35, 36, 37, 38, 39, 40, 41, 42, 43, 44, 45, 46, 47, 48, 49, 50, 51, 52, 53, 54, 55, 56, 57, 58, 59, 60, 61, 62, 63, 64, 65, 66, 67, 68, 69, 70, 71, 72, 73, 74, 75, 76, 77, 78, 79, 80, 81, 82, 83, 84, 85] (by decide +kernel) (by decide +kernel)
set_option maxRecDepth 20000 in
theorem gX3_planSpike_X3_planWithout : GoodIn wsX3_planSpike (wsV RX3 137 RX3 yX3_planWithout wsX3_planWithout) := goodIn_app (goodIn_of _ (by decide +kernel)) ggX3_planSpike_X3_planWithout
theorem dX3_planSpike_0 : decode cX3_planSpike 0 = .ok (.aload_n 0, 1) := by decide +kernel
theorem dX3_planSpike_1 : decode cX3_planSpike 1 = .ok (.iload_n 1, 1) := by decide +kernel
theorem dX3_planSpike_2 : decode cX3_planSpike 2 = .ok (.iconst 1, 1) := by decide +kernel
theorem dX3_planSpike_3 : decode cX3_planSpike 3 = .ok (.invokevirtual 137, 3) := by decide +kernel
theorem dX3_planSpike_6 : decode cX3_planSpike 6 = .ok (.pop, 1) := by decide +kernel
theorem dX3_planSpike_7 : decode cX3_planSpike 7 = .ok (.return_, 1) := by decide +kernel
set_option maxRecDepth 20000 in
theorem ggX3_planSeries_X3_planWithout : GoodIn wsX3_planSeries wsX3_planWithout := goodIn_r _ [5, 6, 7, 8, 9, 10, 11, 12, 13, 14, 15, 16, 17, 18, 19, 20, 21, 22, 23, 24, 25, 26, 27, 28, 29, 30, 31, 32, 33, 34, 35, 36, 37, 38, 39, 40, 41, 42, 43, 44, 45, 46, 47, 48, 49, 50, 51, 52, 53, 54, 55, 56, 57, 87, 88, 89, 90, 91, 92, 93, 94, 95, 96, 97, 98, 99, 100, 101, 102, 103, 104, 105, 106, 107, 108, 109, 110, 111, 112, 113, 114] (by decide +kernel) (by decide +kernel)
set_option maxRecDepth 20000 in
theorem gX3_planSeries_X3_planWithout : GoodIn wsX3_planSeries (wsV RX3 137 RX3 yX3_planWithout wsX3_planWithout) := goodIn_app (goodIn_of _ (by decide +kernel)) ggX3_planSeries_X3_planWithout
set_option maxRecDepth 20000 in
theorem ggX3_planSeries_X3_conductanceOfSpoke : GoodIn wsX3_planSeries wsX3_conductanceOfSpoke := goodIn_r _ [61, 6, 62, 63, 64, 4, 65, 7, 66, 67, 68, 15, 69, 70, 87, 88, 89, 90, 91, 92, 93, 94, 95, 96, 107, 108, 109, 110, 111, 112, 113, 114] (by decide +kernel) (by decide +kernel)
set_option maxRecDepth 20000 in
theorem gX3_planSeries_X3_conductanceOfSpoke : GoodIn wsX3_planSeries (wsV RX3 140 RX3 yX3_conductanceOfSpoke wsX3_conductanceOfSpoke) := goodIn_app (goodIn_of _ (by decide +kernel)) ggX3_planSeries_X3_conductanceOfSpoke
set_option maxRecDepth 20000 in
theorem ggX3_planSeries_X3_bringAcross : GoodIn wsX3_planSeries wsX3_bringAcross := goodIn_r _ [74, 8, 6, 58, 59, 60, 4, 61, 62, 63, 64, 65, 7, 66, 67, 68, 15, 69, 70, 46, 47, 48, 49, 50, 51, 52, 53, 17, 54, 55, 56, 57, 18, 75, 76, 77, 78, 79, 80, 81, 82, 83, 84, 85, 25, 86, 87, 88, 89, 90, 91, 92, 93, 94, 95, 96, 107, 108, 109, 110, 111, 112, 113, 114, 97, 98, 99, 100, 101, 102, 103, 104, 105, 106] (by decide +kernel) (by decide +kernel)
set_option maxRecDepth 20000 in
theorem gX3_planSeries_X3_bringAcross : GoodIn wsX3_planSeries (wsV RX3 143 RX3 yX3_bringAcross wsX3_bringAcross) := goodIn_app (goodIn_of _ (by decide +kernel)) ggX3_planSeries_X3_bringAcross
theorem dX3_planSeries_0 : decode cX3_planSeries 0 = .ok (.aload_n 0, 1) := by decide +kernel
theorem dX3_planSeries_1 : decode cX3_planSeries 1 = .ok (.iload_n 1, 1) := by decide +kernel
theorem dX3_planSeries_2 : decode cX3_planSeries 2 = .ok (.iconst 2, 1) := by decide +kernel
theorem dX3_planSeries_3 : decode cX3_planSeries 3 = .ok (.invokevirtual 137, 3) := by decide +kernel
theorem dX3_planSeries_6 : decode cX3_planSeries 6 = .ok (.ifCond .eq 23, 3) := by decide +kernel
theorem dX3_planSeries_9 : decode cX3_planSeries 9 = .ok (.aload_n 0, 1) := by decide +kernel
theorem dX3_planSeries_10 : decode cX3_planSeries 10 = .ok (.iconst 0, 1) := by decide +kernel
theorem dX3_planSeries_11 : decode cX3_planSeries 11 = .ok (.invokevirtual 140, 3) := by decide +kernel
theorem dX3_planSeries_14 : decode cX3_planSeries 14 = .ok (.aload_n 0, 1) := by decide +kernel
theorem dX3_planSeries_15 : decode cX3_planSeries 15 = .ok (.iconst 1, 1) := by decide +kernel
theorem dX3_planSeries_16 : decode cX3_planSeries 16 = .ok (.invokevirtual 140, 3) := by decide +kernel
theorem dX3_planSeries_19 : decode cX3_planSeries 19 = .ok (.iadd, 1) := by decide +kernel
theorem dX3_planSeries_20 : decode cX3_planSeries 20 = .ok (.istore_n 2, 1) := by decide +kernel
theorem dX3_planSeries_21 : decode cX3_planSeries 21 = .ok (.aload_n 0, 1) := by decide +kernel
theorem dX3_planSeries_22 : decode cX3_planSeries 22 = .ok (.iload_n 1, 1) := by decide +kernel
theorem dX3_planSeries_23 : decode cX3_planSeries 23 = .ok (.iconst 0, 1) := by decide +kernel
theorem dX3_planSeries_24 : decode cX3_planSeries 24 = .ok (.iconst 1, 1) := by decide +kernel
theorem dX3_planSeries_25 : decode cX3_planSeries 25 = .ok (.iload_n 2, 1) := by decide +kernel
theorem dX3_planSeries_26 : decode cX3_planSeries 26 = .ok (.invokevirtual 143, 3) := by decide +kernel
theorem dX3_planSeries_29 : decode cX3_planSeries 29 = .ok (.return_, 1) := by decide +kernel
set_option maxRecDepth 20000 in
theorem ggX3_planTriangle_X3_planWithout : GoodIn wsX3_planTriangle wsX3_planWithout := goodIn_r _ [5, 6, 7, 8, 9, 10, 11, 12, 13, 14, 15, 16, 17, 18, 19, 20, 21, 22, 23, 24, 25, 26, 27, 28, 29, 30, 31, 32, 33, 34, 35, 36, 37, 38, 39, 40, 41, 42, 43, 44, 45, 46, 47, 48, 49, 50, 51, 52, 53, 54, 55, 56, 57, 87, 88, 89, 90, 91, 92, 93, 94, 95, 96, 97, 98, 99, 100, 101, 102, 103, 104, 105, 106, 107, 108, 109, 110, 111, 112, 113, 114] (by decide +kernel) (by decide +kernel)
set_option maxRecDepth 20000 in
theorem gX3_planTriangle_X3_planWithout : GoodIn wsX3_planTriangle (wsV RX3 137 RX3 yX3_planWithout wsX3_planWithout) := goodIn_app (goodIn_of _ (by decide +kernel)) ggX3_planTriangle_X3_planWithout
set_option maxRecDepth 20000 in
theorem ggX3_planTriangle_X3_conductanceOfSpoke : GoodIn wsX3_planTriangle wsX3_conductanceOfSpoke := goodIn_r _ [61, 6, 62, 63, 64, 4, 65, 7, 66, 67, 68, 15, 69, 70, 87, 88, 89, 90, 91, 92, 93, 94, 95, 96, 107, 108, 109, 110, 111, 112, 113, 114] (by decide +kernel) (by decide +kernel)
set_option maxRecDepth 20000 in
theorem gX3_planTriangle_X3_conductanceOfSpoke : GoodIn wsX3_planTriangle (wsV RX3 140 RX3 yX3_conductanceOfSpoke wsX3_conductanceOfSpoke) := goodIn_app (goodIn_of _ (by decide +kernel)) ggX3_planTriangle_X3_conductanceOfSpoke
set_option maxRecDepth 20000 in
theorem ggX3_planTriangle_X3_bringAcross : GoodIn wsX3_planTriangle wsX3_bringAcross := goodIn_r _ [74, 8, 6, 58, 59, 60, 4, 61, 62, 63, 64, 65, 7, 66, 67, 68, 15, 69, 70, 46, 47, 48, 49, 50, 51, 52, 53, 17, 54, 55, 56, 57, 18, 75, 76, 77, 78, 79, 80, 81, 82, 83, 84, 85, 25, 86, 87, 88, 89, 90, 91, 92, 93, 94, 95, 96, 107, 108, 109, 110, 111, 112, 113, 114, 97, 98, 99, 100, 101, 102, 103, 104, 105, 106] (by decide +kernel) (by decide +kernel)
set_option maxRecDepth 20000 in
theorem gX3_planTriangle_X3_bringAcross : GoodIn wsX3_planTriangle (wsV RX3 143 RX3 yX3_bringAcross wsX3_bringAcross) := goodIn_app (goodIn_of _ (by decide +kernel)) ggX3_planTriangle_X3_bringAcross
theorem dX3_planTriangle_0 : decode cX3_planTriangle 0 = .ok (.aload_n 0, 1) := by decide +kernel
theorem dX3_planTriangle_1 : decode cX3_planTriangle 1 = .ok (.iload_n 1, 1) := by decide +kernel
theorem dX3_planTriangle_2 : decode cX3_planTriangle 2 = .ok (.iconst 3, 1) := by decide +kernel
theorem dX3_planTriangle_3 : decode cX3_planTriangle 3 = .ok (.invokevirtual 137, 3) := by decide +kernel
theorem dX3_planTriangle_6 : decode cX3_planTriangle 6 = .ok (.ifCond .eq 45, 3) := by decide +kernel
theorem dX3_planTriangle_9 : decode cX3_planTriangle 9 = .ok (.aload_n 0, 1) := by decide +kernel
theorem dX3_planTriangle_10 : decode cX3_planTriangle 10 = .ok (.iconst 0, 1) := by decide +kernel
theorem dX3_planTriangle_11 : decode cX3_planTriangle 11 = .ok (.invokevirtual 140, 3) := by decide +kernel
theorem dX3_planTriangle_14 : decode cX3_planTriangle 14 = .ok (.aload_n 0, 1) := by decide +kernel
theorem dX3_planTriangle_15 : decode cX3_planTriangle 15 = .ok (.iconst 1, 1) := by decide +kernel
theorem dX3_planTriangle_16 : decode cX3_planTriangle 16 = .ok (.invokevirtual 140, 3) := by decide +kernel
theorem dX3_planTriangle_19 : decode cX3_planTriangle 19 = .ok (.iadd, 1) := by decide +kernel
theorem dX3_planTriangle_20 : decode cX3_planTriangle 20 = .ok (.aload_n 0, 1) := by decide +kernel
theorem dX3_planTriangle_21 : decode cX3_planTriangle 21 = .ok (.iconst 2, 1) := by decide +kernel
theorem dX3_planTriangle_22 : decode cX3_planTriangle 22 = .ok (.invokevirtual 140, 3) := by decide +kernel
theorem dX3_planTriangle_25 : decode cX3_planTriangle 25 = .ok (.iadd, 1) := by decide +kernel
theorem dX3_planTriangle_26 : decode cX3_planTriangle 26 = .ok (.istore_n 2, 1) := by decide +kernel
theorem dX3_planTriangle_27 : decode cX3_planTriangle 27 = .ok (.aload_n 0, 1) := by decide +kernel
theorem dX3_planTriangle_28 : decode cX3_planTriangle 28 = .ok (.iload_n 1, 1) := by decide +kernel
theorem dX3_planTriangle_29 : decode cX3_planTriangle 29 = .ok (.iconst 0, 1) := by decide +kernel
theorem dX3_planTriangle_30 : decode cX3_planTriangle 30 = .ok (.iconst 1, 1) := by decide +kernel
theorem dX3_planTriangle_31 : decode cX3_planTriangle 31 = .ok (.iload_n 2, 1) := by decide +kernel
theorem dX3_planTriangle_32 : decode cX3_planTriangle 32 = .ok (.invokevirtual 143, 3) := by decide +kernel
theorem dX3_planTriangle_35 : decode cX3_planTriangle 35 = .ok (.aload_n 0, 1) := by decide +kernel
theorem dX3_planTriangle_36 : decode cX3_planTriangle 36 = .ok (.iload_n 1, 1) := by decide +kernel
theorem dX3_planTriangle_37 : decode cX3_planTriangle 37 = .ok (.iconst 0, 1) := by decide +kernel
theorem dX3_planTriangle_38 : decode cX3_planTriangle 38 = .ok (.iconst 2, 1) := by decide +kernel
theorem dX3_planTriangle_39 : decode cX3_planTriangle 39 = .ok (.iload_n 2, 1) := by decide +kernel
theorem dX3_planTriangle_40 : decode cX3_planTriangle 40 = .ok (.invokevirtual 143, 3) := by decide +kernel
theorem dX3_planTriangle_43 : decode cX3_planTriangle 43 = .ok (.aload_n 0, 1) := by decide +kernel
theorem dX3_planTriangle_44 : decode cX3_planTriangle 44 = .ok (.iload_n 1, 1) := by decide +kernel
theorem dX3_planTriangle_45 : decode cX3_planTriangle 45 = .ok (.iconst 1, 1) := by decide +kernel
theorem dX3_planTriangle_46 : decode cX3_planTriangle 46 = .ok (.iconst 2, 1) := by decide +kernel
theorem dX3_planTriangle_47 : decode cX3_planTriangle 47 = .ok (.iload_n 2, 1) := by decide +kernel
theorem dX3_planTriangle_48 : decode cX3_planTriangle 48 = .ok (.invokevirtual 143, 3) := by decide +kernel
theorem dX3_planTriangle_51 : decode cX3_planTriangle 51 = .ok (.return_, 1) := by decide +kernel
set_option maxRecDepth 20000 in
theorem ggX3_planWithout_X4_wiresAt : GoodIn wsX3_planWithout wsX4_wiresAt := goodIn_r _ [11, 12, 13, 14, 15, 16, 10, 17, 18, 19, 20, 21, 22, 23, 73, 74, 75, 76, 77, 78, 79, 80] (by decide +kernel) (by decide +kernel)
set_option maxRecDepth 20000 in
theorem gX3_planWithout_X4_wiresAt : GoodIn wsX3_planWithout (wsV RX3 147 RX4 yX4_wiresAt wsX4_wiresAt) := goodIn_app (goodIn_of _ (by decide +kernel)) ggX3_planWithout_X4_wiresAt
set_option maxRecDepth 20000 in
theorem ggX3_planWithout_X4_hasEdge : GoodIn wsX3_planWithout wsX4_hasEdge := goodIn_r _ [27, 28, 29, 30, 31, 10, 32, 33, 19, 20, 21, 73, 74, 75, 76, 77, 78, 79, 80] (by decide +kernel) (by decide +kernel)
set_option maxRecDepth 20000 in
theorem gX3_planWithout_X4_hasEdge : GoodIn wsX3_planWithout (wsV RX3 150 RX4 yX4_hasEdge wsX4_hasEdge) := goodIn_app (goodIn_of _ (by decide +kernel)) ggX3_planWithout_X4_hasEdge
set_option maxRecDepth 20000 in
theorem ggX3_planWithout_J6_bitCount_0f7a4 : GoodIn wsX3_planWithout wsJ6_bitCount_0f7a4 := goodIn_r _ [37, 38, 39, 40] (by decide +kernel) (by decide +kernel)
set_option maxRecDepth 20000 in
theorem gX3_planWithout_J6_bitCount_0f7a4 : GoodIn wsX3_planWithout (va_wsS RX3 153 yJ6_bitCount_0f7a4 wsJ6_bitCount_0f7a4) := goodIn_app (goodIn_of _ (by decide +kernel)) ggX3_planWithout_J6_bitCount_0f7a4
set_option maxRecDepth 20000 in
theorem ggX3_planWithout_X7_setOf : GoodIn wsX3_planWithout wsX7_setOf := goodIn_r _ [23] (by decide +kernel) (by decide +kernel)
set_option maxRecDepth 20000 in
theorem gX3_planWithout_X7_setOf_n109 : GoodIn wsX3_planWithout (wsX7_setOf) := ggX3_planWithout_X7_setOf
set_option maxRecDepth 20000 in
theorem ggX3_planWithout_X7_isIn : GoodIn wsX3_planWithout wsX7_isIn := goodIn_r _ [21] (by decide +kernel) (by decide +kernel)
set_option maxRecDepth 20000 in
theorem gX3_planWithout_X7_isIn_n158 : GoodIn wsX3_planWithout (wsX7_isIn) := ggX3_planWithout_X7_isIn
set_option maxRecDepth 20000 in
theorem ggX3_planWithout_X4_farEndOf : GoodIn wsX3_planWithout wsX4_farEndOf := goodIn_r _ [44, 45, 46, 47, 10, 48, 12, 49, 50, 51, 52, 13, 73, 74, 75, 76, 77, 78, 79, 80] (by decide +kernel) (by decide +kernel)
set_option maxRecDepth 20000 in
theorem gX3_planWithout_X4_farEndOf : GoodIn wsX3_planWithout (wsV RX3 161 RX4 yX4_farEndOf wsX4_farEndOf) := goodIn_app (goodIn_of _ (by decide +kernel)) ggX3_planWithout_X4_farEndOf
theorem dX3_planWithout_0 : decode cX3_planWithout 0 = .ok (.aload_n 0, 1) := by decide +kernel
theorem dX3_planWithout_1 : decode cX3_planWithout 1 = .ok (.getfield 9, 3) := by decide +kernel
theorem dX3_planWithout_4 : decode cX3_planWithout 4 = .ok (.iload_n 1, 1) := by decide +kernel
theorem dX3_planWithout_5 : decode cX3_planWithout 5 = .ok (.invokevirtual 147, 3) := by decide +kernel
theorem dX3_planWithout_8 : decode cX3_planWithout 8 = .ok (.istore_n 3, 1) := by decide +kernel
theorem dX3_planWithout_9 : decode cX3_planWithout 9 = .ok (.aload_n 0, 1) := by decide +kernel
theorem dX3_planWithout_10 : decode cX3_planWithout 10 = .ok (.getfield 9, 3) := by decide +kernel
theorem dX3_planWithout_13 : decode cX3_planWithout 13 = .ok (.iload_n 1, 1) := by decide +kernel
theorem dX3_planWithout_14 : decode cX3_planWithout 14 = .ok (.invokevirtual 150, 3) := by decide +kernel
theorem dX3_planWithout_17 : decode cX3_planWithout 17 = .ok (.ifCond .ne 11, 3) := by decide +kernel
theorem dX3_planWithout_20 : decode cX3_planWithout 20 = .ok (.iload_n 3, 1) := by decide +kernel
theorem dX3_planWithout_21 : decode cX3_planWithout 21 = .ok (.invokestatic 153, 3) := by decide +kernel
theorem dX3_planWithout_24 : decode cX3_planWithout 24 = .ok (.iload_n 2, 1) := by decide +kernel
theorem dX3_planWithout_25 : decode cX3_planWithout 25 = .ok (.if_icmp .eq 5, 3) := by decide +kernel
theorem dX3_planWithout_28 : decode cX3_planWithout 28 = .ok (.iconst 0, 1) := by decide +kernel
theorem dX3_planWithout_29 : decode cX3_planWithout 29 = .ok (.ireturn, 1) := by decide +kernel
theorem dX3_planWithout_30 : decode cX3_planWithout 30 = .ok (.iload_n 1, 1) := by decide +kernel
theorem dX3_planWithout_31 : decode cX3_planWithout 31 = .ok (.invokestatic 109, 3) := by decide +kernel
theorem dX3_planWithout_34 : decode cX3_planWithout 34 = .ok (.istore 4, 2) := by decide +kernel
theorem dX3_planWithout_36 : decode cX3_planWithout 36 = .ok (.iconst 0, 1) := by decide +kernel
theorem dX3_planWithout_37 : decode cX3_planWithout 37 = .ok (.istore 5, 2) := by decide +kernel
theorem dX3_planWithout_39 : decode cX3_planWithout 39 = .ok (.iconst 0, 1) := by decide +kernel
theorem dX3_planWithout_40 : decode cX3_planWithout 40 = .ok (.istore 6, 2) := by decide +kernel
theorem dX3_planWithout_42 : decode cX3_planWithout 42 = .ok (.iload 6, 2) := by decide +kernel
theorem dX3_planWithout_44 : decode cX3_planWithout 44 = .ok (.bipush 20, 2) := by decide +kernel
theorem dX3_planWithout_46 : decode cX3_planWithout 46 = .ok (.if_icmp .ge 58, 3) := by decide +kernel
theorem dX3_planWithout_49 : decode cX3_planWithout 49 = .ok (.iload_n 3, 1) := by decide +kernel
theorem dX3_planWithout_50 : decode cX3_planWithout 50 = .ok (.iload 6, 2) := by decide +kernel
theorem dX3_planWithout_52 : decode cX3_planWithout 52 = .ok (.invokestatic 158, 3) := by decide +kernel
theorem dX3_planWithout_55 : decode cX3_planWithout 55 = .ok (.ifCond .eq 43, 3) := by decide +kernel
theorem dX3_planWithout_58 : decode cX3_planWithout 58 = .ok (.iload 5, 2) := by decide +kernel
theorem dX3_planWithout_60 : decode cX3_planWithout 60 = .ok (.aload_n 0, 1) := by decide +kernel
theorem dX3_planWithout_61 : decode cX3_planWithout 61 = .ok (.getfield 22, 3) := by decide +kernel
theorem dX3_planWithout_64 : decode cX3_planWithout 64 = .ok (.arraylength, 1) := by decide +kernel
theorem dX3_planWithout_65 : decode cX3_planWithout 65 = .ok (.if_icmp .ge 33, 3) := by decide +kernel
theorem dX3_planWithout_68 : decode cX3_planWithout 68 = .ok (.aload_n 0, 1) := by decide +kernel
theorem dX3_planWithout_69 : decode cX3_planWithout 69 = .ok (.getfield 22, 3) := by decide +kernel
theorem dX3_planWithout_72 : decode cX3_planWithout 72 = .ok (.iload 5, 2) := by decide +kernel
theorem dX3_planWithout_74 : decode cX3_planWithout 74 = .ok (.iload 6, 2) := by decide +kernel
theorem dX3_planWithout_76 : decode cX3_planWithout 76 = .ok (.iastore, 1) := by decide +kernel
theorem dX3_planWithout_77 : decode cX3_planWithout 77 = .ok (.iinc 5 1, 3) := by decide +kernel
theorem dX3_planWithout_80 : decode cX3_planWithout 80 = .ok (.iload 4, 2) := by decide +kernel
theorem dX3_planWithout_82 : decode cX3_planWithout 82 = .ok (.aload_n 0, 1) := by decide +kernel
theorem dX3_planWithout_83 : decode cX3_planWithout 83 = .ok (.getfield 9, 3) := by decide +kernel
theorem dX3_planWithout_86 : decode cX3_planWithout 86 = .ok (.iload 6, 2) := by decide +kernel
theorem dX3_planWithout_88 : decode cX3_planWithout 88 = .ok (.iload_n 1, 1) := by decide +kernel
theorem dX3_planWithout_89 : decode cX3_planWithout 89 = .ok (.invokevirtual 161, 3) := by decide +kernel
theorem dX3_planWithout_92 : decode cX3_planWithout 92 = .ok (.invokestatic 109, 3) := by decide +kernel
theorem dX3_planWithout_95 : decode cX3_planWithout 95 = .ok (.ior, 1) := by decide +kernel
theorem dX3_planWithout_96 : decode cX3_planWithout 96 = .ok (.istore 4, 2) := by decide +kernel
theorem dX3_planWithout_98 : decode cX3_planWithout 98 = .ok (.iinc 6 1, 3) := by decide +kernel
theorem dX3_planWithout_101 : decode cX3_planWithout 101 = .ok (.goto (-59), 3) := by decide +kernel
theorem dX3_planWithout_104 : decode cX3_planWithout 104 = .ok (.aload_n 0, 1) := by decide +kernel
theorem dX3_planWithout_105 : decode cX3_planWithout 105 = .ok (.getfield 18, 3) := by decide +kernel
theorem dX3_planWithout_108 : decode cX3_planWithout 108 = .ok (.iload_n 1, 1) := by decide +kernel
theorem dX3_planWithout_109 : decode cX3_planWithout 109 = .ok (.invokestatic 109, 3) := by decide +kernel
theorem dX3_planWithout_112 : decode cX3_planWithout 112 = .ok (.putfield 165, 3) := by decide +kernel
theorem dX3_planWithout_115 : decode cX3_planWithout 115 = .ok (.aload_n 0, 1) := by decide +kernel
theorem dX3_planWithout_116 : decode cX3_planWithout 116 = .ok (.getfield 18, 3) := by decide +kernel
theorem dX3_planWithout_119 : decode cX3_planWithout 119 = .ok (.iload_n 3, 1) := by decide +kernel
theorem dX3_planWithout_120 : decode cX3_planWithout 120 = .ok (.putfield 113, 3) := by decide +kernel
theorem dX3_planWithout_123 : decode cX3_planWithout 123 = .ok (.aload_n 0, 1) := by decide +kernel
theorem dX3_planWithout_124 : decode cX3_planWithout 124 = .ok (.getfield 18, 3) := by decide +kernel
theorem dX3_planWithout_127 : decode cX3_planWithout 127 = .ok (.iload 4, 2) := by decide +kernel
theorem dX3_planWithout_129 : decode cX3_planWithout 129 = .ok (.invokestatic 153, 3) := by decide +kernel
theorem dX3_planWithout_132 : decode cX3_planWithout 132 = .ok (.iload_n 2, 1) := by decide +kernel
theorem dX3_planWithout_133 : decode cX3_planWithout 133 = .ok (.iconst 1, 1) := by decide +kernel
theorem dX3_planWithout_134 : decode cX3_planWithout 134 = .ok (.iadd, 1) := by decide +kernel
theorem dX3_planWithout_135 : decode cX3_planWithout 135 = .ok (.if_icmp .ne 7, 3) := by decide +kernel
theorem dX3_planWithout_138 : decode cX3_planWithout 138 = .ok (.iconst 1, 1) := by decide +kernel
theorem dX3_planWithout_139 : decode cX3_planWithout 139 = .ok (.goto 4, 3) := by decide +kernel
theorem dX3_planWithout_142 : decode cX3_planWithout 142 = .ok (.iconst 0, 1) := by decide +kernel
theorem dX3_planWithout_143 : decode cX3_planWithout 143 = .ok (.putfield 70, 3) := by decide +kernel
theorem dX3_planWithout_146 : decode cX3_planWithout 146 = .ok (.aload_n 0, 1) := by decide +kernel
theorem dX3_planWithout_147 : decode cX3_planWithout 147 = .ok (.getfield 18, 3) := by decide +kernel
theorem dX3_planWithout_150 : decode cX3_planWithout 150 = .ok (.getfield 70, 3) := by decide +kernel
theorem dX3_planWithout_153 : decode cX3_planWithout 153 = .ok (.ireturn, 1) := by decide +kernel
theorem dX3_spokeAt_0 : decode cX3_spokeAt 0 = .ok (.iload_n 1, 1) := by decide +kernel
theorem dX3_spokeAt_1 : decode cX3_spokeAt 1 = .ok (.ifCond .lt 21, 3) := by decide +kernel
theorem dX3_spokeAt_4 : decode cX3_spokeAt 4 = .ok (.iload_n 1, 1) := by decide +kernel
theorem dX3_spokeAt_5 : decode cX3_spokeAt 5 = .ok (.aload_n 0, 1) := by decide +kernel
theorem dX3_spokeAt_6 : decode cX3_spokeAt 6 = .ok (.getfield 22, 3) := by decide +kernel
theorem dX3_spokeAt_9 : decode cX3_spokeAt 9 = .ok (.arraylength, 1) := by decide +kernel
theorem dX3_spokeAt_10 : decode cX3_spokeAt 10 = .ok (.if_icmp .ge 12, 3) := by decide +kernel
theorem dX3_spokeAt_13 : decode cX3_spokeAt 13 = .ok (.aload_n 0, 1) := by decide +kernel
theorem dX3_spokeAt_14 : decode cX3_spokeAt 14 = .ok (.getfield 22, 3) := by decide +kernel
theorem dX3_spokeAt_17 : decode cX3_spokeAt 17 = .ok (.iload_n 1, 1) := by decide +kernel
theorem dX3_spokeAt_18 : decode cX3_spokeAt 18 = .ok (.iaload, 1) := by decide +kernel
theorem dX3_spokeAt_19 : decode cX3_spokeAt 19 = .ok (.goto 4, 3) := by decide +kernel
theorem dX3_spokeAt_22 : decode cX3_spokeAt 22 = .ok (.iconst (-1), 1) := by decide +kernel
theorem dX3_spokeAt_23 : decode cX3_spokeAt 23 = .ok (.ireturn, 1) := by decide +kernel
set_option maxRecDepth 20000 in
theorem ggX3_conductanceOfSpoke_X3_spokeAt : GoodIn wsX3_conductanceOfSpoke wsX3_spokeAt := goodIn_r _ [6, 7, 14, 15, 16, 17, 18, 19, 20, 21, 22, 23] (by decide +kernel) (by decide +kernel)
set_option maxRecDepth 20000 in
theorem gX3_conductanceOfSpoke_X3_spokeAt : GoodIn wsX3_conductanceOfSpoke (wsV RX3 168 RX3 yX3_spokeAt wsX3_spokeAt) := goodIn_app (goodIn_of _ (by decide +kernel)) ggX3_conductanceOfSpoke_X3_spokeAt
set_option maxRecDepth 20000 in
theorem ggX3_conductanceOfSpoke_X4_conductanceOf : GoodIn wsX3_conductanceOfSpoke wsX4_conductanceOf := goodIn_r _ [12, 13, 24, 25, 26, 27, 28, 29, 30, 31] (by decide +kernel) (by decide +kernel)
set_option maxRecDepth 20000 in
theorem gX3_conductanceOfSpoke_X4_conductanceOf : GoodIn wsX3_conductanceOfSpoke (wsV RX3 128 RX4 yX4_conductanceOf wsX4_conductanceOf) := goodIn_app (goodIn_of _ (by decide +kernel)) ggX3_conductanceOfSpoke_X4_conductanceOf
theorem dX3_conductanceOfSpoke_0 : decode cX3_conductanceOfSpoke 0 = .ok (.aload_n 0, 1) := by decide +kernel
theorem dX3_conductanceOfSpoke_1 : decode cX3_conductanceOfSpoke 1 = .ok (.getfield 9, 3) := by decide +kernel
theorem dX3_conductanceOfSpoke_4 : decode cX3_conductanceOfSpoke 4 = .ok (.aload_n 0, 1) := by decide +kernel
theorem dX3_conductanceOfSpoke_5 : decode cX3_conductanceOfSpoke 5 = .ok (.iload_n 1, 1) := by decide +kernel
theorem dX3_conductanceOfSpoke_6 : decode cX3_conductanceOfSpoke 6 = .ok (.invokevirtual 168, 3) := by decide +kernel
theorem dX3_conductanceOfSpoke_9 : decode cX3_conductanceOfSpoke 9 = .ok (.invokevirtual 128, 3) := by decide +kernel
theorem dX3_conductanceOfSpoke_12 : decode cX3_conductanceOfSpoke 12 = .ok (.ireturn, 1) := by decide +kernel
set_option maxRecDepth 20000 in
theorem ggX3_bringAcross_X3_conductanceOfSpoke : GoodIn wsX3_bringAcross wsX3_conductanceOfSpoke := goodIn_r _ [7, 2, 8, 9, 10, 6, 11, 12, 13, 14, 15, 16, 17, 18, 46, 47, 48, 49, 50, 51, 52, 53, 54, 55, 56, 57, 58, 59, 60, 61, 62, 63] (by decide +kernel) (by decide +kernel)
set_option maxRecDepth 20000 in
theorem gX3_bringAcross_X3_conductanceOfSpoke : GoodIn wsX3_bringAcross (wsV RX3 140 RX3 yX3_conductanceOfSpoke wsX3_conductanceOfSpoke) := goodIn_app (goodIn_of _ (by decide +kernel)) ggX3_bringAcross_X3_conductanceOfSpoke
set_option maxRecDepth 20000 in
theorem ggX3_bringAcross_X3_spokeAt : GoodIn wsX3_bringAcross wsX3_spokeAt := goodIn_r _ [11, 12, 46, 47, 48, 49, 50, 51, 52, 53, 54, 55] (by decide +kernel) (by decide +kernel)
set_option maxRecDepth 20000 in
theorem gX3_bringAcross_X3_spokeAt : GoodIn wsX3_bringAcross (wsV RX3 168 RX3 yX3_spokeAt wsX3_spokeAt) := goodIn_app (goodIn_of _ (by decide +kernel)) ggX3_bringAcross_X3_spokeAt
set_option maxRecDepth 20000 in
theorem ggX3_bringAcross_X4_farEndOf : GoodIn wsX3_bringAcross wsX4_farEndOf := goodIn_r _ [22, 23, 24, 25, 16, 26, 27, 28, 29, 30, 31, 32, 56, 57, 58, 59, 60, 61, 62, 63] (by decide +kernel) (by decide +kernel)
set_option maxRecDepth 20000 in
theorem gX3_bringAcross_X4_farEndOf : GoodIn wsX3_bringAcross (wsV RX3 161 RX4 yX4_farEndOf wsX4_farEndOf) := goodIn_app (goodIn_of _ (by decide +kernel)) ggX3_bringAcross_X4_farEndOf
set_option maxRecDepth 20000 in
theorem ggX3_bringAcross_X5_bring : GoodIn wsX3_bringAcross wsX5_bring := goodIn_r _ [37, 38, 39, 40, 41, 42, 43, 44, 45, 64, 65, 66, 67, 68, 69, 70, 71, 72, 73] (by decide +kernel) (by decide +kernel)
set_option maxRecDepth 20000 in
theorem gX3_bringAcross_X5_bring : GoodIn wsX3_bringAcross (wsV RX3 171 RX5 yX5_bring wsX5_bring) := goodIn_app (goodIn_of _ (by decide +kernel)) ggX3_bringAcross_X5_bring
theorem dX3_bringAcross_0 : decode cX3_bringAcross 0 = .ok (.aload_n 0, 1) := by decide +kernel
theorem dX3_bringAcross_1 : decode cX3_bringAcross 1 = .ok (.iload_n 2, 1) := by decide +kernel
theorem dX3_bringAcross_2 : decode cX3_bringAcross 2 = .ok (.invokevirtual 140, 3) := by decide +kernel
theorem dX3_bringAcross_5 : decode cX3_bringAcross 5 = .ok (.aload_n 0, 1) := by decide +kernel
theorem dX3_bringAcross_6 : decode cX3_bringAcross 6 = .ok (.iload_n 3, 1) := by decide +kernel
theorem dX3_bringAcross_7 : decode cX3_bringAcross 7 = .ok (.invokevirtual 140, 3) := by decide +kernel
theorem dX3_bringAcross_10 : decode cX3_bringAcross 10 = .ok (.imul, 1) := by decide +kernel
theorem dX3_bringAcross_11 : decode cX3_bringAcross 11 = .ok (.istore 5, 2) := by decide +kernel
theorem dX3_bringAcross_13 : decode cX3_bringAcross 13 = .ok (.aload_n 0, 1) := by decide +kernel
theorem dX3_bringAcross_14 : decode cX3_bringAcross 14 = .ok (.getfield 18, 3) := by decide +kernel
theorem dX3_bringAcross_17 : decode cX3_bringAcross 17 = .ok (.aload_n 0, 1) := by decide +kernel
theorem dX3_bringAcross_18 : decode cX3_bringAcross 18 = .ok (.getfield 9, 3) := by decide +kernel
theorem dX3_bringAcross_21 : decode cX3_bringAcross 21 = .ok (.aload_n 0, 1) := by decide +kernel
theorem dX3_bringAcross_22 : decode cX3_bringAcross 22 = .ok (.iload_n 2, 1) := by decide +kernel
theorem dX3_bringAcross_23 : decode cX3_bringAcross 23 = .ok (.invokevirtual 168, 3) := by decide +kernel
theorem dX3_bringAcross_26 : decode cX3_bringAcross 26 = .ok (.iload_n 1, 1) := by decide +kernel
theorem dX3_bringAcross_27 : decode cX3_bringAcross 27 = .ok (.invokevirtual 161, 3) := by decide +kernel
theorem dX3_bringAcross_30 : decode cX3_bringAcross 30 = .ok (.aload_n 0, 1) := by decide +kernel
theorem dX3_bringAcross_31 : decode cX3_bringAcross 31 = .ok (.getfield 9, 3) := by decide +kernel
theorem dX3_bringAcross_34 : decode cX3_bringAcross 34 = .ok (.aload_n 0, 1) := by decide +kernel
theorem dX3_bringAcross_35 : decode cX3_bringAcross 35 = .ok (.iload_n 3, 1) := by decide +kernel
theorem dX3_bringAcross_36 : decode cX3_bringAcross 36 = .ok (.invokevirtual 168, 3) := by decide +kernel
theorem dX3_bringAcross_39 : decode cX3_bringAcross 39 = .ok (.iload_n 1, 1) := by decide +kernel
theorem dX3_bringAcross_40 : decode cX3_bringAcross 40 = .ok (.invokevirtual 161, 3) := by decide +kernel
theorem dX3_bringAcross_43 : decode cX3_bringAcross 43 = .ok (.iload 5, 2) := by decide +kernel
theorem dX3_bringAcross_45 : decode cX3_bringAcross 45 = .ok (.iload 4, 2) := by decide +kernel
theorem dX3_bringAcross_47 : decode cX3_bringAcross 47 = .ok (.invokevirtual 171, 3) := by decide +kernel
theorem dX3_bringAcross_50 : decode cX3_bringAcross 50 = .ok (.return_, 1) := by decide +kernel
set_option maxRecDepth 20000 in
theorem ggX3_planStar_X4_firstOf : GoodIn wsX3_planStar wsX4_firstOf := goodIn_r _ [11, 12, 85, 86, 87, 88, 89, 90, 91, 92] (by decide +kernel) (by decide +kernel)
set_option maxRecDepth 20000 in
theorem gX3_planStar_X4_firstOf : GoodIn wsX3_planStar (wsV RX3 116 RX4 yX4_firstOf wsX4_firstOf) := goodIn_app (goodIn_of _ (by decide +kernel)) ggX3_planStar_X4_firstOf
set_option maxRecDepth 20000 in
theorem ggX3_planStar_X4_secondOf : GoodIn wsX3_planStar wsX4_secondOf := goodIn_r _ [16, 17, 85, 86, 87, 88, 89, 90, 91, 92] (by decide +kernel) (by decide +kernel)
set_option maxRecDepth 20000 in
theorem gX3_planStar_X4_secondOf : GoodIn wsX3_planStar (wsV RX3 119 RX4 yX4_secondOf wsX4_secondOf) := goodIn_app (goodIn_of _ (by decide +kernel)) ggX3_planStar_X4_secondOf
set_option maxRecDepth 20000 in
theorem ggX3_planStar_X3_secondOfTriangle : GoodIn wsX3_planStar wsX3_secondOfTriangle := goodIn_r _ [22, 1, 7, 8, 9, 10, 11, 12, 13, 14, 15, 16, 17, 23, 24, 25, 26, 27, 28, 29, 30, 31, 32, 33, 34, 35, 36, 37, 38, 39, 40, 41, 42, 43, 44, 45, 65, 66, 67, 68, 69, 70, 71, 72, 73, 74, 85, 86, 87, 88, 89, 90, 91, 92] (by decide +kernel) (by decide +kernel)
set_option maxRecDepth 20000 in
theorem gX3_planStar_X3_secondOfTriangle : GoodIn wsX3_planStar (wsV RX3 174 RX3 yX3_secondOfTriangle wsX3_secondOfTriangle) := goodIn_app (goodIn_of _ (by decide +kernel)) ggX3_planStar_X3_secondOfTriangle
set_option maxRecDepth 20000 in
theorem ggX3_planStar_X4_farEndOf : GoodIn wsX3_planStar wsX4_farEndOf := goodIn_r _ [40, 35, 8, 9, 10, 11, 12, 36, 14, 15, 16, 17, 85, 86, 87, 88, 89, 90, 91, 92] (by decide +kernel) (by decide +kernel)
set_option maxRecDepth 20000 in
theorem gX3_planStar_X4_farEndOf : GoodIn wsX3_planStar (wsV RX3 161 RX4 yX4_farEndOf wsX4_farEndOf) := goodIn_app (goodIn_of _ (by decide +kernel)) ggX3_planStar_X4_farEndOf
set_option maxRecDepth 20000 in
theorem ggX3_planStar_X4_lowestBetween : GoodIn wsX3_planStar wsX4_lowestBetween := goodIn_r _ [44, 12, 17, 45, 24, 25, 10, 26, 27, 28, 29, 30, 85, 86, 87, 88, 89, 90, 91, 92] (by decide +kernel) (by decide +kernel)
set_option maxRecDepth 20000 in
theorem gX3_planStar_X4_lowestBetween : GoodIn wsX3_planStar (wsV RX3 122 RX4 yX4_lowestBetween wsX4_lowestBetween) := goodIn_app (goodIn_of _ (by decide +kernel)) ggX3_planStar_X4_lowestBetween
set_option maxRecDepth 20000 in
theorem ggX3_planStar_X4_conductanceOf : GoodIn wsX3_planStar wsX4_conductanceOf := goodIn_r _ [49, 50, 85, 86, 87, 88, 89, 90, 91, 92] (by decide +kernel) (by decide +kernel)
set_option maxRecDepth 20000 in
theorem gX3_planStar_X4_conductanceOf : GoodIn wsX3_planStar (wsV RX3 128 RX4 yX4_conductanceOf wsX4_conductanceOf) := goodIn_app (goodIn_of _ (by decide +kernel)) ggX3_planStar_X4_conductanceOf
set_option maxRecDepth 20000 in
theorem ggX3_planStar_X7_setOf : GoodIn wsX3_planStar wsX7_setOf := goodIn_r _ [52] (by decide +kernel) (by decide +kernel)
set_option maxRecDepth 20000 in
theorem gX3_planStar_X7_setOf_n109 : GoodIn wsX3_planStar (wsX7_setOf) := ggX3_planStar_X7_setOf
set_option maxRecDepth 20000 in
theorem ggX3_planStar_X5_bring : GoodIn wsX3_planStar wsX5_bring := goodIn_r _ [57, 58, 59, 60, 61, 62, 63, 29, 64, 75, 76, 77, 78, 79, 80, 81, 82, 83, 84] (by decide +kernel) (by decide +kernel)
set_option maxRecDepth 20000 in
theorem gX3_planStar_X5_bring : GoodIn wsX3_planStar (wsV RX3 171 RX5 yX5_bring wsX5_bring) := goodIn_app (goodIn_of _ (by decide +kernel)) ggX3_planStar_X5_bring
theorem dX3_planStar_0 : decode cX3_planStar 0 = .ok (.aload_n 0, 1) := by decide +kernel
theorem dX3_planStar_1 : decode cX3_planStar 1 = .ok (.getfield 9, 3) := by decide +kernel
theorem dX3_planStar_4 : decode cX3_planStar 4 = .ok (.iload_n 1, 1) := by decide +kernel
theorem dX3_planStar_5 : decode cX3_planStar 5 = .ok (.invokevirtual 116, 3) := by decide +kernel
theorem dX3_planStar_8 : decode cX3_planStar 8 = .ok (.istore_n 2, 1) := by decide +kernel
theorem dX3_planStar_9 : decode cX3_planStar 9 = .ok (.aload_n 0, 1) := by decide +kernel
theorem dX3_planStar_10 : decode cX3_planStar 10 = .ok (.getfield 9, 3) := by decide +kernel
theorem dX3_planStar_13 : decode cX3_planStar 13 = .ok (.iload_n 1, 1) := by decide +kernel
theorem dX3_planStar_14 : decode cX3_planStar 14 = .ok (.invokevirtual 119, 3) := by decide +kernel
theorem dX3_planStar_17 : decode cX3_planStar 17 = .ok (.istore_n 3, 1) := by decide +kernel
theorem dX3_planStar_18 : decode cX3_planStar 18 = .ok (.aload_n 0, 1) := by decide +kernel
theorem dX3_planStar_19 : decode cX3_planStar 19 = .ok (.iload_n 1, 1) := by decide +kernel
theorem dX3_planStar_20 : decode cX3_planStar 20 = .ok (.invokevirtual 174, 3) := by decide +kernel
theorem dX3_planStar_23 : decode cX3_planStar 23 = .ok (.istore 4, 2) := by decide +kernel
theorem dX3_planStar_25 : decode cX3_planStar 25 = .ok (.iload 4, 2) := by decide +kernel
theorem dX3_planStar_27 : decode cX3_planStar 27 = .ok (.iconst (-1), 1) := by decide +kernel
theorem dX3_planStar_28 : decode cX3_planStar 28 = .ok (.if_icmp .ne 4, 3) := by decide +kernel
theorem dX3_planStar_31 : decode cX3_planStar 31 = .ok (.return_, 1) := by decide +kernel
theorem dX3_planStar_32 : decode cX3_planStar 32 = .ok (.aload_n 0, 1) := by decide +kernel
theorem dX3_planStar_33 : decode cX3_planStar 33 = .ok (.getfield 9, 3) := by decide +kernel
theorem dX3_planStar_36 : decode cX3_planStar 36 = .ok (.iload_n 3, 1) := by decide +kernel
theorem dX3_planStar_37 : decode cX3_planStar 37 = .ok (.aload_n 0, 1) := by decide +kernel
theorem dX3_planStar_38 : decode cX3_planStar 38 = .ok (.getfield 9, 3) := by decide +kernel
theorem dX3_planStar_41 : decode cX3_planStar 41 = .ok (.iload 4, 2) := by decide +kernel
theorem dX3_planStar_43 : decode cX3_planStar 43 = .ok (.iload_n 2, 1) := by decide +kernel
theorem dX3_planStar_44 : decode cX3_planStar 44 = .ok (.invokevirtual 161, 3) := by decide +kernel
theorem dX3_planStar_47 : decode cX3_planStar 47 = .ok (.iconst (-1), 1) := by decide +kernel
theorem dX3_planStar_48 : decode cX3_planStar 48 = .ok (.invokevirtual 122, 3) := by decide +kernel
theorem dX3_planStar_51 : decode cX3_planStar 51 = .ok (.istore 5, 2) := by decide +kernel
theorem dX3_planStar_53 : decode cX3_planStar 53 = .ok (.aload_n 0, 1) := by decide +kernel
theorem dX3_planStar_54 : decode cX3_planStar 54 = .ok (.getfield 9, 3) := by decide +kernel
theorem dX3_planStar_57 : decode cX3_planStar 57 = .ok (.iload_n 1, 1) := by decide +kernel
theorem dX3_planStar_58 : decode cX3_planStar 58 = .ok (.invokevirtual 128, 3) := by decide +kernel
theorem dX3_planStar_61 : decode cX3_planStar 61 = .ok (.istore 6, 2) := by decide +kernel
theorem dX3_planStar_63 : decode cX3_planStar 63 = .ok (.aload_n 0, 1) := by decide +kernel
theorem dX3_planStar_64 : decode cX3_planStar 64 = .ok (.getfield 9, 3) := by decide +kernel
theorem dX3_planStar_67 : decode cX3_planStar 67 = .ok (.iload 4, 2) := by decide +kernel
theorem dX3_planStar_69 : decode cX3_planStar 69 = .ok (.invokevirtual 128, 3) := by decide +kernel
theorem dX3_planStar_72 : decode cX3_planStar 72 = .ok (.istore 7, 2) := by decide +kernel
theorem dX3_planStar_74 : decode cX3_planStar 74 = .ok (.aload_n 0, 1) := by decide +kernel
theorem dX3_planStar_75 : decode cX3_planStar 75 = .ok (.getfield 9, 3) := by decide +kernel
theorem dX3_planStar_78 : decode cX3_planStar 78 = .ok (.iload 5, 2) := by decide +kernel
theorem dX3_planStar_80 : decode cX3_planStar 80 = .ok (.invokevirtual 128, 3) := by decide +kernel
theorem dX3_planStar_83 : decode cX3_planStar 83 = .ok (.istore 8, 2) := by decide +kernel
theorem dX3_planStar_85 : decode cX3_planStar 85 = .ok (.iload 6, 2) := by decide +kernel
theorem dX3_planStar_87 : decode cX3_planStar 87 = .ok (.iload 7, 2) := by decide +kernel
theorem dX3_planStar_89 : decode cX3_planStar 89 = .ok (.imul, 1) := by decide +kernel
theorem dX3_planStar_90 : decode cX3_planStar 90 = .ok (.iload 6, 2) := by decide +kernel
theorem dX3_planStar_92 : decode cX3_planStar 92 = .ok (.iload 8, 2) := by decide +kernel
theorem dX3_planStar_94 : decode cX3_planStar 94 = .ok (.imul, 1) := by decide +kernel
theorem dX3_planStar_95 : decode cX3_planStar 95 = .ok (.iadd, 1) := by decide +kernel
theorem dX3_planStar_96 : decode cX3_planStar 96 = .ok (.iload 7, 2) := by decide +kernel
theorem dX3_planStar_98 : decode cX3_planStar 98 = .ok (.iload 8, 2) := by decide +kernel
theorem dX3_planStar_100 : decode cX3_planStar 100 = .ok (.imul, 1) := by decide +kernel
theorem dX3_planStar_101 : decode cX3_planStar 101 = .ok (.iadd, 1) := by decide +kernel
theorem dX3_planStar_102 : decode cX3_planStar 102 = .ok (.istore 9, 2) := by decide +kernel
theorem dX3_planStar_104 : decode cX3_planStar 104 = .ok (.aload_n 0, 1) := by decide +kernel
theorem dX3_planStar_105 : decode cX3_planStar 105 = .ok (.getfield 18, 3) := by decide +kernel
theorem dX3_planStar_108 : decode cX3_planStar 108 = .ok (.iconst 1, 1) := by decide +kernel
theorem dX3_planStar_109 : decode cX3_planStar 109 = .ok (.putfield 70, 3) := by decide +kernel
theorem dX3_planStar_112 : decode cX3_planStar 112 = .ok (.aload_n 0, 1) := by decide +kernel
theorem dX3_planStar_113 : decode cX3_planStar 113 = .ok (.getfield 18, 3) := by decide +kernel
theorem dX3_planStar_116 : decode cX3_planStar 116 = .ok (.iload_n 1, 1) := by decide +kernel
theorem dX3_planStar_117 : decode cX3_planStar 117 = .ok (.invokestatic 109, 3) := by decide +kernel
theorem dX3_planStar_120 : decode cX3_planStar 120 = .ok (.iload 4, 2) := by decide +kernel
theorem dX3_planStar_122 : decode cX3_planStar 122 = .ok (.invokestatic 109, 3) := by decide +kernel
theorem dX3_planStar_125 : decode cX3_planStar 125 = .ok (.ior, 1) := by decide +kernel
theorem dX3_planStar_126 : decode cX3_planStar 126 = .ok (.iload 5, 2) := by decide +kernel
theorem dX3_planStar_128 : decode cX3_planStar 128 = .ok (.invokestatic 109, 3) := by decide +kernel
theorem dX3_planStar_131 : decode cX3_planStar 131 = .ok (.ior, 1) := by decide +kernel
theorem dX3_planStar_132 : decode cX3_planStar 132 = .ok (.putfield 113, 3) := by decide +kernel
theorem dX3_planStar_135 : decode cX3_planStar 135 = .ok (.aload_n 0, 1) := by decide +kernel
theorem dX3_planStar_136 : decode cX3_planStar 136 = .ok (.getfield 18, 3) := by decide +kernel
theorem dX3_planStar_139 : decode cX3_planStar 139 = .ok (.iconst 1, 1) := by decide +kernel
theorem dX3_planStar_140 : decode cX3_planStar 140 = .ok (.putfield 74, 3) := by decide +kernel
theorem dX3_planStar_143 : decode cX3_planStar 143 = .ok (.aload_n 0, 1) := by decide +kernel
theorem dX3_planStar_144 : decode cX3_planStar 144 = .ok (.getfield 18, 3) := by decide +kernel
theorem dX3_planStar_147 : decode cX3_planStar 147 = .ok (.iload_n 2, 1) := by decide +kernel
theorem dX3_planStar_148 : decode cX3_planStar 148 = .ok (.aload_n 0, 1) := by decide +kernel
theorem dX3_planStar_149 : decode cX3_planStar 149 = .ok (.getfield 9, 3) := by decide +kernel
theorem dX3_planStar_152 : decode cX3_planStar 152 = .ok (.getfield 177, 3) := by decide +kernel
theorem dX3_planStar_155 : decode cX3_planStar 155 = .ok (.iload 9, 2) := by decide +kernel
theorem dX3_planStar_157 : decode cX3_planStar 157 = .ok (.iload 8, 2) := by decide +kernel
theorem dX3_planStar_159 : decode cX3_planStar 159 = .ok (.invokevirtual 171, 3) := by decide +kernel
theorem dX3_planStar_162 : decode cX3_planStar 162 = .ok (.aload_n 0, 1) := by decide +kernel
theorem dX3_planStar_163 : decode cX3_planStar 163 = .ok (.getfield 18, 3) := by decide +kernel
theorem dX3_planStar_166 : decode cX3_planStar 166 = .ok (.iload_n 3, 1) := by decide +kernel
theorem dX3_planStar_167 : decode cX3_planStar 167 = .ok (.aload_n 0, 1) := by decide +kernel
theorem dX3_planStar_168 : decode cX3_planStar 168 = .ok (.getfield 9, 3) := by decide +kernel
theorem dX3_planStar_171 : decode cX3_planStar 171 = .ok (.getfield 177, 3) := by decide +kernel
theorem dX3_planStar_174 : decode cX3_planStar 174 = .ok (.iload 9, 2) := by decide +kernel
theorem dX3_planStar_176 : decode cX3_planStar 176 = .ok (.iload 7, 2) := by decide +kernel
theorem dX3_planStar_178 : decode cX3_planStar 178 = .ok (.invokevirtual 171, 3) := by decide +kernel
theorem dX3_planStar_181 : decode cX3_planStar 181 = .ok (.aload_n 0, 1) := by decide +kernel
theorem dX3_planStar_182 : decode cX3_planStar 182 = .ok (.getfield 18, 3) := by decide +kernel
theorem dX3_planStar_185 : decode cX3_planStar 185 = .ok (.aload_n 0, 1) := by decide +kernel
theorem dX3_planStar_186 : decode cX3_planStar 186 = .ok (.getfield 9, 3) := by decide +kernel
theorem dX3_planStar_189 : decode cX3_planStar 189 = .ok (.iload 4, 2) := by decide +kernel
theorem dX3_planStar_191 : decode cX3_planStar 191 = .ok (.iload_n 2, 1) := by decide +kernel
theorem dX3_planStar_192 : decode cX3_planStar 192 = .ok (.invokevirtual 161, 3) := by decide +kernel
theorem dX3_planStar_195 : decode cX3_planStar 195 = .ok (.aload_n 0, 1) := by decide +kernel
theorem dX3_planStar_196 : decode cX3_planStar 196 = .ok (.getfield 9, 3) := by decide +kernel
theorem dX3_planStar_199 : decode cX3_planStar 199 = .ok (.getfield 177, 3) := by decide +kernel
theorem dX3_planStar_202 : decode cX3_planStar 202 = .ok (.iload 9, 2) := by decide +kernel
theorem dX3_planStar_204 : decode cX3_planStar 204 = .ok (.iload 6, 2) := by decide +kernel
theorem dX3_planStar_206 : decode cX3_planStar 206 = .ok (.invokevirtual 171, 3) := by decide +kernel
theorem dX3_planStar_209 : decode cX3_planStar 209 = .ok (.return_, 1) := by decide +kernel
set_option maxRecDepth 20000 in
theorem ggX3_secondOfTriangle_X4_firstOf : GoodIn wsX3_secondOfTriangle wsX4_firstOf := goodIn_r _ [6, 7, 46, 47, 48, 49, 50, 51, 52, 53] (by decide +kernel) (by decide +kernel)
set_option maxRecDepth 20000 in
theorem gX3_secondOfTriangle_X4_firstOf : GoodIn wsX3_secondOfTriangle (wsV RX3 116 RX4 yX4_firstOf wsX4_firstOf) := goodIn_app (goodIn_of _ (by decide +kernel)) ggX3_secondOfTriangle_X4_firstOf
set_option maxRecDepth 20000 in
theorem ggX3_secondOfTriangle_X4_secondOf : GoodIn wsX3_secondOfTriangle wsX4_secondOf := goodIn_r _ [11, 12, 46, 47, 48, 49, 50, 51, 52, 53] (by decide +kernel) (by decide +kernel)
set_option maxRecDepth 20000 in
theorem gX3_secondOfTriangle_X4_secondOf : GoodIn wsX3_secondOfTriangle (wsV RX3 119 RX4 yX4_secondOf wsX4_secondOf) := goodIn_app (goodIn_of _ (by decide +kernel)) ggX3_secondOfTriangle_X4_secondOf
set_option maxRecDepth 20000 in
theorem ggX3_secondOfTriangle_X4_hasWire : GoodIn wsX3_secondOfTriangle wsX4_hasWire := goodIn_r _ [16, 17, 18, 19, 20, 46, 47, 48, 49, 50, 51, 52, 53] (by decide +kernel) (by decide +kernel)
set_option maxRecDepth 20000 in
theorem gX3_secondOfTriangle_X4_hasWire : GoodIn wsX3_secondOfTriangle (wsV RX3 97 RX4 yX4_hasWire wsX4_hasWire) := goodIn_app (goodIn_of _ (by decide +kernel)) ggX3_secondOfTriangle_X4_hasWire
set_option maxRecDepth 20000 in
theorem ggX3_secondOfTriangle_X4_isAt : GoodIn wsX3_secondOfTriangle wsX4_isAt := goodIn_r _ [24, 25, 3, 4, 5, 6, 7, 26, 9, 10, 11, 12, 46, 47, 48, 49, 50, 51, 52, 53] (by decide +kernel) (by decide +kernel)
set_option maxRecDepth 20000 in
theorem gX3_secondOfTriangle_X4_isAt : GoodIn wsX3_secondOfTriangle (wsV RX3 179 RX4 yX4_isAt wsX4_isAt) := goodIn_app (goodIn_of _ (by decide +kernel)) ggX3_secondOfTriangle_X4_isAt
set_option maxRecDepth 20000 in
theorem ggX3_secondOfTriangle_X4_farEndOf : GoodIn wsX3_secondOfTriangle wsX4_farEndOf := goodIn_r _ [30, 25, 3, 4, 5, 6, 7, 26, 9, 10, 11, 12, 46, 47, 48, 49, 50, 51, 52, 53] (by decide +kernel) (by decide +kernel)
set_option maxRecDepth 20000 in
theorem gX3_secondOfTriangle_X4_farEndOf : GoodIn wsX3_secondOfTriangle (wsV RX3 161 RX4 yX4_farEndOf wsX4_farEndOf) := goodIn_app (goodIn_of _ (by decide +kernel)) ggX3_secondOfTriangle_X4_farEndOf
set_option maxRecDepth 20000 in
theorem ggX3_secondOfTriangle_X4_lowestBetween : GoodIn wsX3_secondOfTriangle wsX4_lowestBetween := goodIn_r _ [34, 7, 12, 35, 14, 15, 5, 16, 17, 18, 19, 20, 46, 47, 48, 49, 50, 51, 52, 53] (by decide +kernel) (by decide +kernel)
set_option maxRecDepth 20000 in
theorem gX3_secondOfTriangle_X4_lowestBetween : GoodIn wsX3_secondOfTriangle (wsV RX3 122 RX4 yX4_lowestBetween wsX4_lowestBetween) := goodIn_app (goodIn_of _ (by decide +kernel)) ggX3_secondOfTriangle_X4_lowestBetween
theorem dX3_secondOfTriangle_0 : decode cX3_secondOfTriangle 0 = .ok (.aload_n 0, 1) := by decide +kernel
theorem dX3_secondOfTriangle_1 : decode cX3_secondOfTriangle 1 = .ok (.getfield 9, 3) := by decide +kernel
theorem dX3_secondOfTriangle_4 : decode cX3_secondOfTriangle 4 = .ok (.iload_n 1, 1) := by decide +kernel
theorem dX3_secondOfTriangle_5 : decode cX3_secondOfTriangle 5 = .ok (.invokevirtual 116, 3) := by decide +kernel
theorem dX3_secondOfTriangle_8 : decode cX3_secondOfTriangle 8 = .ok (.istore_n 2, 1) := by decide +kernel
theorem dX3_secondOfTriangle_9 : decode cX3_secondOfTriangle 9 = .ok (.aload_n 0, 1) := by decide +kernel
theorem dX3_secondOfTriangle_10 : decode cX3_secondOfTriangle 10 = .ok (.getfield 9, 3) := by decide +kernel
theorem dX3_secondOfTriangle_13 : decode cX3_secondOfTriangle 13 = .ok (.iload_n 1, 1) := by decide +kernel
theorem dX3_secondOfTriangle_14 : decode cX3_secondOfTriangle 14 = .ok (.invokevirtual 119, 3) := by decide +kernel
theorem dX3_secondOfTriangle_17 : decode cX3_secondOfTriangle 17 = .ok (.istore_n 3, 1) := by decide +kernel
theorem dX3_secondOfTriangle_18 : decode cX3_secondOfTriangle 18 = .ok (.iconst 0, 1) := by decide +kernel
theorem dX3_secondOfTriangle_19 : decode cX3_secondOfTriangle 19 = .ok (.istore 4, 2) := by decide +kernel
theorem dX3_secondOfTriangle_21 : decode cX3_secondOfTriangle 21 = .ok (.iload 4, 2) := by decide +kernel
theorem dX3_secondOfTriangle_23 : decode cX3_secondOfTriangle 23 = .ok (.bipush 20, 2) := by decide +kernel
theorem dX3_secondOfTriangle_25 : decode cX3_secondOfTriangle 25 = .ok (.if_icmp .ge 81, 3) := by decide +kernel
theorem dX3_secondOfTriangle_28 : decode cX3_secondOfTriangle 28 = .ok (.iload_n 2, 1) := by decide +kernel
theorem dX3_secondOfTriangle_29 : decode cX3_secondOfTriangle 29 = .ok (.iload_n 3, 1) := by decide +kernel
theorem dX3_secondOfTriangle_30 : decode cX3_secondOfTriangle 30 = .ok (.if_icmp .eq 70, 3) := by decide +kernel
theorem dX3_secondOfTriangle_33 : decode cX3_secondOfTriangle 33 = .ok (.aload_n 0, 1) := by decide +kernel
theorem dX3_secondOfTriangle_34 : decode cX3_secondOfTriangle 34 = .ok (.getfield 9, 3) := by decide +kernel
theorem dX3_secondOfTriangle_37 : decode cX3_secondOfTriangle 37 = .ok (.iload 4, 2) := by decide +kernel
theorem dX3_secondOfTriangle_39 : decode cX3_secondOfTriangle 39 = .ok (.invokevirtual 97, 3) := by decide +kernel
theorem dX3_secondOfTriangle_42 : decode cX3_secondOfTriangle 42 = .ok (.ifCond .eq 58, 3) := by decide +kernel
theorem dX3_secondOfTriangle_45 : decode cX3_secondOfTriangle 45 = .ok (.aload_n 0, 1) := by decide +kernel
theorem dX3_secondOfTriangle_46 : decode cX3_secondOfTriangle 46 = .ok (.getfield 9, 3) := by decide +kernel
theorem dX3_secondOfTriangle_49 : decode cX3_secondOfTriangle 49 = .ok (.iload 4, 2) := by decide +kernel
theorem dX3_secondOfTriangle_51 : decode cX3_secondOfTriangle 51 = .ok (.iload_n 2, 1) := by decide +kernel
theorem dX3_secondOfTriangle_52 : decode cX3_secondOfTriangle 52 = .ok (.invokevirtual 179, 3) := by decide +kernel
theorem dX3_secondOfTriangle_55 : decode cX3_secondOfTriangle 55 = .ok (.ifCond .eq 45, 3) := by decide +kernel
theorem dX3_secondOfTriangle_58 : decode cX3_secondOfTriangle 58 = .ok (.aload_n 0, 1) := by decide +kernel
theorem dX3_secondOfTriangle_59 : decode cX3_secondOfTriangle 59 = .ok (.getfield 9, 3) := by decide +kernel
theorem dX3_secondOfTriangle_62 : decode cX3_secondOfTriangle 62 = .ok (.iload 4, 2) := by decide +kernel
theorem dX3_secondOfTriangle_64 : decode cX3_secondOfTriangle 64 = .ok (.iload_n 2, 1) := by decide +kernel
theorem dX3_secondOfTriangle_65 : decode cX3_secondOfTriangle 65 = .ok (.invokevirtual 161, 3) := by decide +kernel
theorem dX3_secondOfTriangle_68 : decode cX3_secondOfTriangle 68 = .ok (.istore 5, 2) := by decide +kernel
theorem dX3_secondOfTriangle_70 : decode cX3_secondOfTriangle 70 = .ok (.iload 5, 2) := by decide +kernel
theorem dX3_secondOfTriangle_72 : decode cX3_secondOfTriangle 72 = .ok (.iload_n 2, 1) := by decide +kernel
theorem dX3_secondOfTriangle_73 : decode cX3_secondOfTriangle 73 = .ok (.if_icmp .eq 27, 3) := by decide +kernel
theorem dX3_secondOfTriangle_76 : decode cX3_secondOfTriangle 76 = .ok (.iload 5, 2) := by decide +kernel
theorem dX3_secondOfTriangle_78 : decode cX3_secondOfTriangle 78 = .ok (.iload_n 3, 1) := by decide +kernel
theorem dX3_secondOfTriangle_79 : decode cX3_secondOfTriangle 79 = .ok (.if_icmp .eq 21, 3) := by decide +kernel
theorem dX3_secondOfTriangle_82 : decode cX3_secondOfTriangle 82 = .ok (.aload_n 0, 1) := by decide +kernel
theorem dX3_secondOfTriangle_83 : decode cX3_secondOfTriangle 83 = .ok (.getfield 9, 3) := by decide +kernel
theorem dX3_secondOfTriangle_86 : decode cX3_secondOfTriangle 86 = .ok (.iload_n 3, 1) := by decide +kernel
theorem dX3_secondOfTriangle_87 : decode cX3_secondOfTriangle 87 = .ok (.iload 5, 2) := by decide +kernel
theorem dX3_secondOfTriangle_89 : decode cX3_secondOfTriangle 89 = .ok (.iconst (-1), 1) := by decide +kernel
theorem dX3_secondOfTriangle_90 : decode cX3_secondOfTriangle 90 = .ok (.invokevirtual 122, 3) := by decide +kernel
theorem dX3_secondOfTriangle_93 : decode cX3_secondOfTriangle 93 = .ok (.iconst (-1), 1) := by decide +kernel
theorem dX3_secondOfTriangle_94 : decode cX3_secondOfTriangle 94 = .ok (.if_icmp .eq 6, 3) := by decide +kernel
theorem dX3_secondOfTriangle_97 : decode cX3_secondOfTriangle 97 = .ok (.iload 4, 2) := by decide +kernel
theorem dX3_secondOfTriangle_99 : decode cX3_secondOfTriangle 99 = .ok (.ireturn, 1) := by decide +kernel
theorem dX3_secondOfTriangle_100 : decode cX3_secondOfTriangle 100 = .ok (.iinc 4 1, 3) := by decide +kernel
theorem dX3_secondOfTriangle_103 : decode cX3_secondOfTriangle 103 = .ok (.goto (-82), 3) := by decide +kernel
theorem dX3_secondOfTriangle_106 : decode cX3_secondOfTriangle 106 = .ok (.iconst (-1), 1) := by decide +kernel
theorem dX3_secondOfTriangle_107 : decode cX3_secondOfTriangle 107 = .ok (.ireturn, 1) := by decide +kernel
set_option maxRecDepth 20000 in
theorem ggX3_keepAsItIs_X4_conductanceOf : GoodIn wsX3_keepAsItIs wsX4_conductanceOf := goodIn_r _ [19, 20, 31, 32, 33, 34, 35, 36, 37, 38] (by decide +kernel) (by decide +kernel)
set_option maxRecDepth 20000 in
theorem gX3_keepAsItIs_X4_conductanceOf : GoodIn wsX3_keepAsItIs (wsV RX3 128 RX4 yX4_conductanceOf wsX4_conductanceOf) := goodIn_app (goodIn_of _ (by decide +kernel)) ggX3_keepAsItIs_X4_conductanceOf
theorem dX3_keepAsItIs_0 : decode cX3_keepAsItIs 0 = .ok (.aload_n 0, 1) := by decide +kernel
theorem dX3_keepAsItIs_1 : decode cX3_keepAsItIs 1 = .ok (.getfield 44, 3) := by decide +kernel
theorem dX3_keepAsItIs_4 : decode cX3_keepAsItIs 4 = .ok (.ifCond .lt 12, 3) := by decide +kernel
theorem dX3_keepAsItIs_7 : decode cX3_keepAsItIs 7 = .ok (.aload_n 0, 1) := by decide +kernel
theorem dX3_keepAsItIs_8 : decode cX3_keepAsItIs 8 = .ok (.getfield 44, 3) := by decide +kernel
theorem dX3_keepAsItIs_11 : decode cX3_keepAsItIs 11 = .ok (.bipush 20, 2) := by decide +kernel
theorem dX3_keepAsItIs_13 : decode cX3_keepAsItIs 13 = .ok (.if_icmp .lt 5, 3) := by decide +kernel
theorem dX3_keepAsItIs_16 : decode cX3_keepAsItIs 16 = .ok (.iconst 0, 1) := by decide +kernel
theorem dX3_keepAsItIs_17 : decode cX3_keepAsItIs 17 = .ok (.ireturn, 1) := by decide +kernel
theorem dX3_keepAsItIs_18 : decode cX3_keepAsItIs 18 = .ok (.aload_n 0, 1) := by decide +kernel
theorem dX3_keepAsItIs_19 : decode cX3_keepAsItIs 19 = .ok (.getfield 26, 3) := by decide +kernel
theorem dX3_keepAsItIs_22 : decode cX3_keepAsItIs 22 = .ok (.aload_n 0, 1) := by decide +kernel
theorem dX3_keepAsItIs_23 : decode cX3_keepAsItIs 23 = .ok (.getfield 44, 3) := by decide +kernel
theorem dX3_keepAsItIs_26 : decode cX3_keepAsItIs 26 = .ok (.aload_n 0, 1) := by decide +kernel
theorem dX3_keepAsItIs_27 : decode cX3_keepAsItIs 27 = .ok (.getfield 9, 3) := by decide +kernel
theorem dX3_keepAsItIs_30 : decode cX3_keepAsItIs 30 = .ok (.getfield 182, 3) := by decide +kernel
theorem dX3_keepAsItIs_33 : decode cX3_keepAsItIs 33 = .ok (.iastore, 1) := by decide +kernel
theorem dX3_keepAsItIs_34 : decode cX3_keepAsItIs 34 = .ok (.aload_n 0, 1) := by decide +kernel
theorem dX3_keepAsItIs_35 : decode cX3_keepAsItIs 35 = .ok (.getfield 29, 3) := by decide +kernel
theorem dX3_keepAsItIs_38 : decode cX3_keepAsItIs 38 = .ok (.aload_n 0, 1) := by decide +kernel
theorem dX3_keepAsItIs_39 : decode cX3_keepAsItIs 39 = .ok (.getfield 44, 3) := by decide +kernel
theorem dX3_keepAsItIs_42 : decode cX3_keepAsItIs 42 = .ok (.aload_n 0, 1) := by decide +kernel
theorem dX3_keepAsItIs_43 : decode cX3_keepAsItIs 43 = .ok (.getfield 9, 3) := by decide +kernel
theorem dX3_keepAsItIs_46 : decode cX3_keepAsItIs 46 = .ok (.getfield 184, 3) := by decide +kernel
theorem dX3_keepAsItIs_49 : decode cX3_keepAsItIs 49 = .ok (.iastore, 1) := by decide +kernel
theorem dX3_keepAsItIs_50 : decode cX3_keepAsItIs 50 = .ok (.aload_n 0, 1) := by decide +kernel
theorem dX3_keepAsItIs_51 : decode cX3_keepAsItIs 51 = .ok (.getfield 32, 3) := by decide +kernel
theorem dX3_keepAsItIs_54 : decode cX3_keepAsItIs 54 = .ok (.aload_n 0, 1) := by decide +kernel
theorem dX3_keepAsItIs_55 : decode cX3_keepAsItIs 55 = .ok (.getfield 44, 3) := by decide +kernel
theorem dX3_keepAsItIs_58 : decode cX3_keepAsItIs 58 = .ok (.aload_n 0, 1) := by decide +kernel
theorem dX3_keepAsItIs_59 : decode cX3_keepAsItIs 59 = .ok (.getfield 9, 3) := by decide +kernel
theorem dX3_keepAsItIs_62 : decode cX3_keepAsItIs 62 = .ok (.getfield 177, 3) := by decide +kernel
theorem dX3_keepAsItIs_65 : decode cX3_keepAsItIs 65 = .ok (.iastore, 1) := by decide +kernel
theorem dX3_keepAsItIs_66 : decode cX3_keepAsItIs 66 = .ok (.aload_n 0, 1) := by decide +kernel
theorem dX3_keepAsItIs_67 : decode cX3_keepAsItIs 67 = .ok (.getfield 35, 3) := by decide +kernel
theorem dX3_keepAsItIs_70 : decode cX3_keepAsItIs 70 = .ok (.aload_n 0, 1) := by decide +kernel
theorem dX3_keepAsItIs_71 : decode cX3_keepAsItIs 71 = .ok (.getfield 44, 3) := by decide +kernel
theorem dX3_keepAsItIs_74 : decode cX3_keepAsItIs 74 = .ok (.aload_n 0, 1) := by decide +kernel
theorem dX3_keepAsItIs_75 : decode cX3_keepAsItIs 75 = .ok (.getfield 9, 3) := by decide +kernel
theorem dX3_keepAsItIs_78 : decode cX3_keepAsItIs 78 = .ok (.getfield 186, 3) := by decide +kernel
theorem dX3_keepAsItIs_81 : decode cX3_keepAsItIs 81 = .ok (.iastore, 1) := by decide +kernel
theorem dX3_keepAsItIs_82 : decode cX3_keepAsItIs 82 = .ok (.aload_n 0, 1) := by decide +kernel
theorem dX3_keepAsItIs_83 : decode cX3_keepAsItIs 83 = .ok (.getfield 38, 3) := by decide +kernel
theorem dX3_keepAsItIs_86 : decode cX3_keepAsItIs 86 = .ok (.aload_n 0, 1) := by decide +kernel
theorem dX3_keepAsItIs_87 : decode cX3_keepAsItIs 87 = .ok (.getfield 44, 3) := by decide +kernel
theorem dX3_keepAsItIs_90 : decode cX3_keepAsItIs 90 = .ok (.aload_n 0, 1) := by decide +kernel
theorem dX3_keepAsItIs_91 : decode cX3_keepAsItIs 91 = .ok (.getfield 18, 3) := by decide +kernel
theorem dX3_keepAsItIs_94 : decode cX3_keepAsItIs 94 = .ok (.getfield 126, 3) := by decide +kernel
theorem dX3_keepAsItIs_97 : decode cX3_keepAsItIs 97 = .ok (.iastore, 1) := by decide +kernel
theorem dX3_keepAsItIs_98 : decode cX3_keepAsItIs 98 = .ok (.aload_n 0, 1) := by decide +kernel
theorem dX3_keepAsItIs_99 : decode cX3_keepAsItIs 99 = .ok (.getfield 41, 3) := by decide +kernel
theorem dX3_keepAsItIs_102 : decode cX3_keepAsItIs 102 = .ok (.aload_n 0, 1) := by decide +kernel
theorem dX3_keepAsItIs_103 : decode cX3_keepAsItIs 103 = .ok (.getfield 44, 3) := by decide +kernel
theorem dX3_keepAsItIs_106 : decode cX3_keepAsItIs 106 = .ok (.aload_n 0, 1) := by decide +kernel
theorem dX3_keepAsItIs_107 : decode cX3_keepAsItIs 107 = .ok (.getfield 9, 3) := by decide +kernel
theorem dX3_keepAsItIs_110 : decode cX3_keepAsItIs 110 = .ok (.aload_n 0, 1) := by decide +kernel
theorem dX3_keepAsItIs_111 : decode cX3_keepAsItIs 111 = .ok (.getfield 18, 3) := by decide +kernel
theorem dX3_keepAsItIs_114 : decode cX3_keepAsItIs 114 = .ok (.getfield 126, 3) := by decide +kernel
theorem dX3_keepAsItIs_117 : decode cX3_keepAsItIs 117 = .ok (.invokevirtual 128, 3) := by decide +kernel
theorem dX3_keepAsItIs_120 : decode cX3_keepAsItIs 120 = .ok (.iastore, 1) := by decide +kernel
theorem dX3_keepAsItIs_121 : decode cX3_keepAsItIs 121 = .ok (.aload_n 0, 1) := by decide +kernel
theorem dX3_keepAsItIs_122 : decode cX3_keepAsItIs 122 = .ok (.dup, 1) := by decide +kernel
theorem dX3_keepAsItIs_123 : decode cX3_keepAsItIs 123 = .ok (.getfield 44, 3) := by decide +kernel
theorem dX3_keepAsItIs_126 : decode cX3_keepAsItIs 126 = .ok (.iconst 1, 1) := by decide +kernel
theorem dX3_keepAsItIs_127 : decode cX3_keepAsItIs 127 = .ok (.iadd, 1) := by decide +kernel
theorem dX3_keepAsItIs_128 : decode cX3_keepAsItIs 128 = .ok (.putfield 44, 3) := by decide +kernel
theorem dX3_keepAsItIs_131 : decode cX3_keepAsItIs 131 = .ok (.iconst 1, 1) := by decide +kernel
theorem dX3_keepAsItIs_132 : decode cX3_keepAsItIs 132 = .ok (.ireturn, 1) := by decide +kernel
set_option maxRecDepth 20000 in
theorem ggX3_carryOut_X4_setConductance : GoodIn wsX3_carryOut wsX4_setConductance := goodIn_r _ [18, 19, 48, 49, 50, 51, 52, 53, 54, 55] (by decide +kernel) (by decide +kernel)
set_option maxRecDepth 20000 in
theorem gX3_carryOut_X4_setConductance : GoodIn wsX3_carryOut (wsV RX3 188 RX4 yX4_setConductance wsX4_setConductance) := goodIn_app (goodIn_of _ (by decide +kernel)) ggX3_carryOut_X4_setConductance
set_option maxRecDepth 20000 in
theorem ggX3_carryOut_X4_addNode : GoodIn wsX3_carryOut wsX4_addNode := goodIn_r _ [23, 24, 25, 26, 27, 28, 29, 48, 49, 50, 51, 52, 53, 54, 55] (by decide +kernel) (by decide +kernel)
set_option maxRecDepth 20000 in
theorem gX3_carryOut_X4_addNode : GoodIn wsX3_carryOut (wsV RX3 192 RX4 yX4_addNode wsX4_addNode) := goodIn_app (goodIn_of _ (by decide +kernel)) ggX3_carryOut_X4_addNode
set_option maxRecDepth 20000 in
theorem ggX3_carryOut_X4_addWire : GoodIn wsX3_carryOut wsX4_addWire := goodIn_r _ [33, 34, 35, 36, 37, 19, 27, 28, 29, 48, 49, 50, 51, 52, 53, 54, 55] (by decide +kernel) (by decide +kernel)
set_option maxRecDepth 20000 in
theorem gX3_carryOut_X4_addWire : GoodIn wsX3_carryOut (wsV RX3 205 RX4 yX4_addWire wsX4_addWire) := goodIn_app (goodIn_of _ (by decide +kernel)) ggX3_carryOut_X4_addWire
theorem dX3_carryOut_0 : decode cX3_carryOut 0 = .ok (.aload_n 0, 1) := by decide +kernel
theorem dX3_carryOut_1 : decode cX3_carryOut 1 = .ok (.getfield 9, 3) := by decide +kernel
theorem dX3_carryOut_4 : decode cX3_carryOut 4 = .ok (.dup, 1) := by decide +kernel
theorem dX3_carryOut_5 : decode cX3_carryOut 5 = .ok (.getfield 182, 3) := by decide +kernel
theorem dX3_carryOut_8 : decode cX3_carryOut 8 = .ok (.aload_n 0, 1) := by decide +kernel
theorem dX3_carryOut_9 : decode cX3_carryOut 9 = .ok (.getfield 18, 3) := by decide +kernel
theorem dX3_carryOut_12 : decode cX3_carryOut 12 = .ok (.getfield 165, 3) := by decide +kernel
theorem dX3_carryOut_15 : decode cX3_carryOut 15 = .ok (.iconst (-1), 1) := by decide +kernel
theorem dX3_carryOut_16 : decode cX3_carryOut 16 = .ok (.ixor, 1) := by decide +kernel
theorem dX3_carryOut_17 : decode cX3_carryOut 17 = .ok (.iand, 1) := by decide +kernel
theorem dX3_carryOut_18 : decode cX3_carryOut 18 = .ok (.putfield 182, 3) := by decide +kernel
theorem dX3_carryOut_21 : decode cX3_carryOut 21 = .ok (.aload_n 0, 1) := by decide +kernel
theorem dX3_carryOut_22 : decode cX3_carryOut 22 = .ok (.getfield 9, 3) := by decide +kernel
theorem dX3_carryOut_25 : decode cX3_carryOut 25 = .ok (.dup, 1) := by decide +kernel
theorem dX3_carryOut_26 : decode cX3_carryOut 26 = .ok (.getfield 184, 3) := by decide +kernel
theorem dX3_carryOut_29 : decode cX3_carryOut 29 = .ok (.aload_n 0, 1) := by decide +kernel
theorem dX3_carryOut_30 : decode cX3_carryOut 30 = .ok (.getfield 18, 3) := by decide +kernel
theorem dX3_carryOut_33 : decode cX3_carryOut 33 = .ok (.getfield 113, 3) := by decide +kernel
theorem dX3_carryOut_36 : decode cX3_carryOut 36 = .ok (.iconst (-1), 1) := by decide +kernel
theorem dX3_carryOut_37 : decode cX3_carryOut 37 = .ok (.ixor, 1) := by decide +kernel
theorem dX3_carryOut_38 : decode cX3_carryOut 38 = .ok (.iand, 1) := by decide +kernel
theorem dX3_carryOut_39 : decode cX3_carryOut 39 = .ok (.putfield 184, 3) := by decide +kernel
theorem dX3_carryOut_42 : decode cX3_carryOut 42 = .ok (.aload_n 0, 1) := by decide +kernel
theorem dX3_carryOut_43 : decode cX3_carryOut 43 = .ok (.getfield 9, 3) := by decide +kernel
theorem dX3_carryOut_46 : decode cX3_carryOut 46 = .ok (.aload_n 0, 1) := by decide +kernel
theorem dX3_carryOut_47 : decode cX3_carryOut 47 = .ok (.getfield 18, 3) := by decide +kernel
theorem dX3_carryOut_50 : decode cX3_carryOut 50 = .ok (.getfield 126, 3) := by decide +kernel
theorem dX3_carryOut_53 : decode cX3_carryOut 53 = .ok (.aload_n 0, 1) := by decide +kernel
theorem dX3_carryOut_54 : decode cX3_carryOut 54 = .ok (.getfield 18, 3) := by decide +kernel
theorem dX3_carryOut_57 : decode cX3_carryOut 57 = .ok (.getfield 131, 3) := by decide +kernel
theorem dX3_carryOut_60 : decode cX3_carryOut 60 = .ok (.invokevirtual 188, 3) := by decide +kernel
theorem dX3_carryOut_63 : decode cX3_carryOut 63 = .ok (.aload_n 0, 1) := by decide +kernel
theorem dX3_carryOut_64 : decode cX3_carryOut 64 = .ok (.getfield 18, 3) := by decide +kernel
theorem dX3_carryOut_67 : decode cX3_carryOut 67 = .ok (.getfield 74, 3) := by decide +kernel
theorem dX3_carryOut_70 : decode cX3_carryOut 70 = .ok (.ifCond .le 12, 3) := by decide +kernel
theorem dX3_carryOut_73 : decode cX3_carryOut 73 = .ok (.aload_n 0, 1) := by decide +kernel
theorem dX3_carryOut_74 : decode cX3_carryOut 74 = .ok (.getfield 9, 3) := by decide +kernel
theorem dX3_carryOut_77 : decode cX3_carryOut 77 = .ok (.iconst 0, 1) := by decide +kernel
theorem dX3_carryOut_78 : decode cX3_carryOut 78 = .ok (.invokevirtual 192, 3) := by decide +kernel
theorem dX3_carryOut_81 : decode cX3_carryOut 81 = .ok (.pop, 1) := by decide +kernel
theorem dX3_carryOut_82 : decode cX3_carryOut 82 = .ok (.iconst 0, 1) := by decide +kernel
theorem dX3_carryOut_83 : decode cX3_carryOut 83 = .ok (.istore_n 1, 1) := by decide +kernel
theorem dX3_carryOut_84 : decode cX3_carryOut 84 = .ok (.iload_n 1, 1) := by decide +kernel
theorem dX3_carryOut_85 : decode cX3_carryOut 85 = .ok (.aload_n 0, 1) := by decide +kernel
theorem dX3_carryOut_86 : decode cX3_carryOut 86 = .ok (.getfield 18, 3) := by decide +kernel
theorem dX3_carryOut_89 : decode cX3_carryOut 89 = .ok (.getfield 77, 3) := by decide +kernel
theorem dX3_carryOut_92 : decode cX3_carryOut 92 = .ok (.if_icmp .ge 49, 3) := by decide +kernel
theorem dX3_carryOut_95 : decode cX3_carryOut 95 = .ok (.iload_n 1, 1) := by decide +kernel
theorem dX3_carryOut_96 : decode cX3_carryOut 96 = .ok (.iconst 3, 1) := by decide +kernel
theorem dX3_carryOut_97 : decode cX3_carryOut 97 = .ok (.if_icmp .ge 44, 3) := by decide +kernel
theorem dX3_carryOut_100 : decode cX3_carryOut 100 = .ok (.aload_n 0, 1) := by decide +kernel
theorem dX3_carryOut_101 : decode cX3_carryOut 101 = .ok (.getfield 9, 3) := by decide +kernel
theorem dX3_carryOut_104 : decode cX3_carryOut 104 = .ok (.aload_n 0, 1) := by decide +kernel
theorem dX3_carryOut_105 : decode cX3_carryOut 105 = .ok (.getfield 18, 3) := by decide +kernel
theorem dX3_carryOut_108 : decode cX3_carryOut 108 = .ok (.getfield 196, 3) := by decide +kernel
theorem dX3_carryOut_111 : decode cX3_carryOut 111 = .ok (.iload_n 1, 1) := by decide +kernel
theorem dX3_carryOut_112 : decode cX3_carryOut 112 = .ok (.iaload, 1) := by decide +kernel
theorem dX3_carryOut_113 : decode cX3_carryOut 113 = .ok (.aload_n 0, 1) := by decide +kernel
theorem dX3_carryOut_114 : decode cX3_carryOut 114 = .ok (.getfield 18, 3) := by decide +kernel
theorem dX3_carryOut_117 : decode cX3_carryOut 117 = .ok (.getfield 199, 3) := by decide +kernel
theorem dX3_carryOut_120 : decode cX3_carryOut 120 = .ok (.iload_n 1, 1) := by decide +kernel
theorem dX3_carryOut_121 : decode cX3_carryOut 121 = .ok (.iaload, 1) := by decide +kernel
theorem dX3_carryOut_122 : decode cX3_carryOut 122 = .ok (.aload_n 0, 1) := by decide +kernel
theorem dX3_carryOut_123 : decode cX3_carryOut 123 = .ok (.getfield 18, 3) := by decide +kernel
theorem dX3_carryOut_126 : decode cX3_carryOut 126 = .ok (.getfield 202, 3) := by decide +kernel
theorem dX3_carryOut_129 : decode cX3_carryOut 129 = .ok (.iload_n 1, 1) := by decide +kernel
theorem dX3_carryOut_130 : decode cX3_carryOut 130 = .ok (.iaload, 1) := by decide +kernel
theorem dX3_carryOut_131 : decode cX3_carryOut 131 = .ok (.invokevirtual 205, 3) := by decide +kernel
theorem dX3_carryOut_134 : decode cX3_carryOut 134 = .ok (.pop, 1) := by decide +kernel
theorem dX3_carryOut_135 : decode cX3_carryOut 135 = .ok (.iinc 1 1, 3) := by decide +kernel
theorem dX3_carryOut_138 : decode cX3_carryOut 138 = .ok (.goto (-54), 3) := by decide +kernel
theorem dX3_carryOut_141 : decode cX3_carryOut 141 = .ok (.return_, 1) := by decide +kernel
set_option maxRecDepth 20000 in
theorem ggX3_takeBack_X4_setConductance : GoodIn wsX3_takeBack wsX4_setConductance := goodIn_r _ [17, 18, 29, 30, 31, 32, 33, 34, 35, 36] (by decide +kernel) (by decide +kernel)
set_option maxRecDepth 20000 in
theorem gX3_takeBack_X4_setConductance : GoodIn wsX3_takeBack (wsV RX3 188 RX4 yX4_setConductance wsX4_setConductance) := goodIn_app (goodIn_of _ (by decide +kernel)) ggX3_takeBack_X4_setConductance
theorem dX3_takeBack_0 : decode cX3_takeBack 0 = .ok (.aload_n 0, 1) := by decide +kernel
theorem dX3_takeBack_1 : decode cX3_takeBack 1 = .ok (.getfield 44, 3) := by decide +kernel
theorem dX3_takeBack_4 : decode cX3_takeBack 4 = .ok (.ifCond .le 12, 3) := by decide +kernel
theorem dX3_takeBack_7 : decode cX3_takeBack 7 = .ok (.aload_n 0, 1) := by decide +kernel
theorem dX3_takeBack_8 : decode cX3_takeBack 8 = .ok (.getfield 44, 3) := by decide +kernel
theorem dX3_takeBack_11 : decode cX3_takeBack 11 = .ok (.bipush 20, 2) := by decide +kernel
theorem dX3_takeBack_13 : decode cX3_takeBack 13 = .ok (.if_icmp .le 4, 3) := by decide +kernel
theorem dX3_takeBack_16 : decode cX3_takeBack 16 = .ok (.return_, 1) := by decide +kernel
theorem dX3_takeBack_17 : decode cX3_takeBack 17 = .ok (.aload_n 0, 1) := by decide +kernel
theorem dX3_takeBack_18 : decode cX3_takeBack 18 = .ok (.dup, 1) := by decide +kernel
theorem dX3_takeBack_19 : decode cX3_takeBack 19 = .ok (.getfield 44, 3) := by decide +kernel
theorem dX3_takeBack_22 : decode cX3_takeBack 22 = .ok (.iconst 1, 1) := by decide +kernel
theorem dX3_takeBack_23 : decode cX3_takeBack 23 = .ok (.isub, 1) := by decide +kernel
theorem dX3_takeBack_24 : decode cX3_takeBack 24 = .ok (.putfield 44, 3) := by decide +kernel
theorem dX3_takeBack_27 : decode cX3_takeBack 27 = .ok (.aload_n 0, 1) := by decide +kernel
theorem dX3_takeBack_28 : decode cX3_takeBack 28 = .ok (.getfield 9, 3) := by decide +kernel
theorem dX3_takeBack_31 : decode cX3_takeBack 31 = .ok (.aload_n 0, 1) := by decide +kernel
theorem dX3_takeBack_32 : decode cX3_takeBack 32 = .ok (.getfield 26, 3) := by decide +kernel
theorem dX3_takeBack_35 : decode cX3_takeBack 35 = .ok (.aload_n 0, 1) := by decide +kernel
theorem dX3_takeBack_36 : decode cX3_takeBack 36 = .ok (.getfield 44, 3) := by decide +kernel
theorem dX3_takeBack_39 : decode cX3_takeBack 39 = .ok (.iaload, 1) := by decide +kernel
theorem dX3_takeBack_40 : decode cX3_takeBack 40 = .ok (.putfield 182, 3) := by decide +kernel
theorem dX3_takeBack_43 : decode cX3_takeBack 43 = .ok (.aload_n 0, 1) := by decide +kernel
theorem dX3_takeBack_44 : decode cX3_takeBack 44 = .ok (.getfield 9, 3) := by decide +kernel
theorem dX3_takeBack_47 : decode cX3_takeBack 47 = .ok (.aload_n 0, 1) := by decide +kernel
theorem dX3_takeBack_48 : decode cX3_takeBack 48 = .ok (.getfield 29, 3) := by decide +kernel
theorem dX3_takeBack_51 : decode cX3_takeBack 51 = .ok (.aload_n 0, 1) := by decide +kernel
theorem dX3_takeBack_52 : decode cX3_takeBack 52 = .ok (.getfield 44, 3) := by decide +kernel
theorem dX3_takeBack_55 : decode cX3_takeBack 55 = .ok (.iaload, 1) := by decide +kernel
theorem dX3_takeBack_56 : decode cX3_takeBack 56 = .ok (.putfield 184, 3) := by decide +kernel
theorem dX3_takeBack_59 : decode cX3_takeBack 59 = .ok (.aload_n 0, 1) := by decide +kernel
theorem dX3_takeBack_60 : decode cX3_takeBack 60 = .ok (.getfield 9, 3) := by decide +kernel
theorem dX3_takeBack_63 : decode cX3_takeBack 63 = .ok (.aload_n 0, 1) := by decide +kernel
theorem dX3_takeBack_64 : decode cX3_takeBack 64 = .ok (.getfield 32, 3) := by decide +kernel
theorem dX3_takeBack_67 : decode cX3_takeBack 67 = .ok (.aload_n 0, 1) := by decide +kernel
theorem dX3_takeBack_68 : decode cX3_takeBack 68 = .ok (.getfield 44, 3) := by decide +kernel
theorem dX3_takeBack_71 : decode cX3_takeBack 71 = .ok (.iaload, 1) := by decide +kernel
theorem dX3_takeBack_72 : decode cX3_takeBack 72 = .ok (.putfield 177, 3) := by decide +kernel
theorem dX3_takeBack_75 : decode cX3_takeBack 75 = .ok (.aload_n 0, 1) := by decide +kernel
theorem dX3_takeBack_76 : decode cX3_takeBack 76 = .ok (.getfield 9, 3) := by decide +kernel
theorem dX3_takeBack_79 : decode cX3_takeBack 79 = .ok (.aload_n 0, 1) := by decide +kernel
theorem dX3_takeBack_80 : decode cX3_takeBack 80 = .ok (.getfield 35, 3) := by decide +kernel
theorem dX3_takeBack_83 : decode cX3_takeBack 83 = .ok (.aload_n 0, 1) := by decide +kernel
theorem dX3_takeBack_84 : decode cX3_takeBack 84 = .ok (.getfield 44, 3) := by decide +kernel
theorem dX3_takeBack_87 : decode cX3_takeBack 87 = .ok (.iaload, 1) := by decide +kernel
theorem dX3_takeBack_88 : decode cX3_takeBack 88 = .ok (.putfield 186, 3) := by decide +kernel
theorem dX3_takeBack_91 : decode cX3_takeBack 91 = .ok (.aload_n 0, 1) := by decide +kernel
theorem dX3_takeBack_92 : decode cX3_takeBack 92 = .ok (.getfield 9, 3) := by decide +kernel
theorem dX3_takeBack_95 : decode cX3_takeBack 95 = .ok (.aload_n 0, 1) := by decide +kernel
theorem dX3_takeBack_96 : decode cX3_takeBack 96 = .ok (.getfield 38, 3) := by decide +kernel
theorem dX3_takeBack_99 : decode cX3_takeBack 99 = .ok (.aload_n 0, 1) := by decide +kernel
theorem dX3_takeBack_100 : decode cX3_takeBack 100 = .ok (.getfield 44, 3) := by decide +kernel
theorem dX3_takeBack_103 : decode cX3_takeBack 103 = .ok (.iaload, 1) := by decide +kernel
theorem dX3_takeBack_104 : decode cX3_takeBack 104 = .ok (.aload_n 0, 1) := by decide +kernel
theorem dX3_takeBack_105 : decode cX3_takeBack 105 = .ok (.getfield 41, 3) := by decide +kernel
theorem dX3_takeBack_108 : decode cX3_takeBack 108 = .ok (.aload_n 0, 1) := by decide +kernel
theorem dX3_takeBack_109 : decode cX3_takeBack 109 = .ok (.getfield 44, 3) := by decide +kernel
theorem dX3_takeBack_112 : decode cX3_takeBack 112 = .ok (.iaload, 1) := by decide +kernel
theorem dX3_takeBack_113 : decode cX3_takeBack 113 = .ok (.invokevirtual 188, 3) := by decide +kernel
theorem dX3_takeBack_116 : decode cX3_takeBack 116 = .ok (.return_, 1) := by decide +kernel
theorem dX4_init_0 : decode cX4_init 0 = .ok (.aload_n 0, 1) := by decide +kernel
theorem dX4_init_1 : decode cX4_init 1 = .ok (.invokespecial 3, 3) := by decide +kernel
theorem dX4_init_4 : decode cX4_init 4 = .ok (.aload_n 0, 1) := by decide +kernel
theorem dX4_init_5 : decode cX4_init 5 = .ok (.bipush 20, 2) := by decide +kernel
theorem dX4_init_7 : decode cX4_init 7 = .ok (.newarray .int, 2) := by decide +kernel
theorem dX4_init_9 : decode cX4_init 9 = .ok (.putfield 9, 3) := by decide +kernel
theorem dX4_init_12 : decode cX4_init 12 = .ok (.aload_n 0, 1) := by decide +kernel
theorem dX4_init_13 : decode cX4_init 13 = .ok (.bipush 20, 2) := by decide +kernel
theorem dX4_init_15 : decode cX4_init 15 = .ok (.newarray .int, 2) := by decide +kernel
theorem dX4_init_17 : decode cX4_init 17 = .ok (.putfield 15, 3) := by decide +kernel
theorem dX4_init_20 : decode cX4_init 20 = .ok (.aload_n 0, 1) := by decide +kernel
theorem dX4_init_21 : decode cX4_init 21 = .ok (.bipush 20, 2) := by decide +kernel
theorem dX4_init_23 : decode cX4_init 23 = .ok (.newarray .int, 2) := by decide +kernel
theorem dX4_init_25 : decode cX4_init 25 = .ok (.putfield 18, 3) := by decide +kernel
theorem dX4_init_28 : decode cX4_init 28 = .ok (.return_, 1) := by decide +kernel
set_option maxRecDepth 20000 in
theorem ggX4_hasNode_X7_isIn : GoodIn wsX4_hasNode wsX7_isIn := goodIn_r _ [4] (by decide +kernel) (by decide +kernel)
set_option maxRecDepth 20000 in
theorem gX4_hasNode_X7_isIn_n25 : GoodIn wsX4_hasNode (wsX7_isIn) := ggX4_hasNode_X7_isIn
theorem dX4_hasNode_0 : decode cX4_hasNode 0 = .ok (.iload_n 1, 1) := by decide +kernel
theorem dX4_hasNode_1 : decode cX4_hasNode 1 = .ok (.ifCond .lt 24, 3) := by decide +kernel
theorem dX4_hasNode_4 : decode cX4_hasNode 4 = .ok (.iload_n 1, 1) := by decide +kernel
theorem dX4_hasNode_5 : decode cX4_hasNode 5 = .ok (.bipush 7, 2) := by decide +kernel
theorem dX4_hasNode_7 : decode cX4_hasNode 7 = .ok (.if_icmp .ge 18, 3) := by decide +kernel
theorem dX4_hasNode_10 : decode cX4_hasNode 10 = .ok (.aload_n 0, 1) := by decide +kernel
theorem dX4_hasNode_11 : decode cX4_hasNode 11 = .ok (.getfield 21, 3) := by decide +kernel
theorem dX4_hasNode_14 : decode cX4_hasNode 14 = .ok (.iload_n 1, 1) := by decide +kernel
theorem dX4_hasNode_15 : decode cX4_hasNode 15 = .ok (.invokestatic 25, 3) := by decide +kernel
theorem dX4_hasNode_18 : decode cX4_hasNode 18 = .ok (.ifCond .eq 7, 3) := by decide +kernel
theorem dX4_hasNode_21 : decode cX4_hasNode 21 = .ok (.iconst 1, 1) := by decide +kernel
theorem dX4_hasNode_22 : decode cX4_hasNode 22 = .ok (.goto 4, 3) := by decide +kernel
theorem dX4_hasNode_25 : decode cX4_hasNode 25 = .ok (.iconst 0, 1) := by decide +kernel
theorem dX4_hasNode_26 : decode cX4_hasNode 26 = .ok (.ireturn, 1) := by decide +kernel
set_option maxRecDepth 20000 in
theorem ggX4_hasEdge_X4_hasNode : GoodIn wsX4_hasEdge wsX4_hasNode := goodIn_r _ [6, 7, 8, 9, 10, 11, 12, 13, 14, 15, 16, 17, 18] (by decide +kernel) (by decide +kernel)
set_option maxRecDepth 20000 in
theorem gX4_hasEdge_X4_hasNode : GoodIn wsX4_hasEdge (wsV RX4 29 RX4 yX4_hasNode wsX4_hasNode) := goodIn_app (goodIn_of _ (by decide +kernel)) ggX4_hasEdge_X4_hasNode
set_option maxRecDepth 20000 in
theorem ggX4_hasEdge_X7_isIn : GoodIn wsX4_hasEdge wsX7_isIn := goodIn_r _ [10] (by decide +kernel) (by decide +kernel)
set_option maxRecDepth 20000 in
theorem gX4_hasEdge_X7_isIn_n25 : GoodIn wsX4_hasEdge (wsX7_isIn) := ggX4_hasEdge_X7_isIn
theorem dX4_hasEdge_0 : decode cX4_hasEdge 0 = .ok (.aload_n 0, 1) := by decide +kernel
theorem dX4_hasEdge_1 : decode cX4_hasEdge 1 = .ok (.iload_n 1, 1) := by decide +kernel
theorem dX4_hasEdge_2 : decode cX4_hasEdge 2 = .ok (.invokevirtual 29, 3) := by decide +kernel
theorem dX4_hasEdge_5 : decode cX4_hasEdge 5 = .ok (.ifCond .eq 18, 3) := by decide +kernel
theorem dX4_hasEdge_8 : decode cX4_hasEdge 8 = .ok (.aload_n 0, 1) := by decide +kernel
theorem dX4_hasEdge_9 : decode cX4_hasEdge 9 = .ok (.getfield 33, 3) := by decide +kernel
theorem dX4_hasEdge_12 : decode cX4_hasEdge 12 = .ok (.iload_n 1, 1) := by decide +kernel
theorem dX4_hasEdge_13 : decode cX4_hasEdge 13 = .ok (.invokestatic 25, 3) := by decide +kernel
theorem dX4_hasEdge_16 : decode cX4_hasEdge 16 = .ok (.ifCond .eq 7, 3) := by decide +kernel
theorem dX4_hasEdge_19 : decode cX4_hasEdge 19 = .ok (.iconst 1, 1) := by decide +kernel
theorem dX4_hasEdge_20 : decode cX4_hasEdge 20 = .ok (.goto 4, 3) := by decide +kernel
theorem dX4_hasEdge_23 : decode cX4_hasEdge 23 = .ok (.iconst 0, 1) := by decide +kernel
theorem dX4_hasEdge_24 : decode cX4_hasEdge 24 = .ok (.ireturn, 1) := by decide +kernel
set_option maxRecDepth 20000 in
theorem ggX4_hasWire_X7_isIn : GoodIn wsX4_hasWire wsX7_isIn := goodIn_r _ [4] (by decide +kernel) (by decide +kernel)
set_option maxRecDepth 20000 in
theorem gX4_hasWire_X7_isIn_n25 : GoodIn wsX4_hasWire (wsX7_isIn) := ggX4_hasWire_X7_isIn
theorem dX4_hasWire_0 : decode cX4_hasWire 0 = .ok (.iload_n 1, 1) := by decide +kernel
theorem dX4_hasWire_1 : decode cX4_hasWire 1 = .ok (.ifCond .lt 24, 3) := by decide +kernel
theorem dX4_hasWire_4 : decode cX4_hasWire 4 = .ok (.iload_n 1, 1) := by decide +kernel
theorem dX4_hasWire_5 : decode cX4_hasWire 5 = .ok (.bipush 20, 2) := by decide +kernel
theorem dX4_hasWire_7 : decode cX4_hasWire 7 = .ok (.if_icmp .ge 18, 3) := by decide +kernel
theorem dX4_hasWire_10 : decode cX4_hasWire 10 = .ok (.aload_n 0, 1) := by decide +kernel
theorem dX4_hasWire_11 : decode cX4_hasWire 11 = .ok (.getfield 36, 3) := by decide +kernel
theorem dX4_hasWire_14 : decode cX4_hasWire 14 = .ok (.iload_n 1, 1) := by decide +kernel
theorem dX4_hasWire_15 : decode cX4_hasWire 15 = .ok (.invokestatic 25, 3) := by decide +kernel
theorem dX4_hasWire_18 : decode cX4_hasWire 18 = .ok (.ifCond .eq 7, 3) := by decide +kernel
theorem dX4_hasWire_21 : decode cX4_hasWire 21 = .ok (.iconst 1, 1) := by decide +kernel
theorem dX4_hasWire_22 : decode cX4_hasWire 22 = .ok (.goto 4, 3) := by decide +kernel
theorem dX4_hasWire_25 : decode cX4_hasWire 25 = .ok (.iconst 0, 1) := by decide +kernel
theorem dX4_hasWire_26 : decode cX4_hasWire 26 = .ok (.ireturn, 1) := by decide +kernel
theorem dX4_hasRoom_0 : decode cX4_hasRoom 0 = .ok (.aload_n 0, 1) := by decide +kernel
theorem dX4_hasRoom_1 : decode cX4_hasRoom 1 = .ok (.getfield 39, 3) := by decide +kernel
theorem dX4_hasRoom_4 : decode cX4_hasRoom 4 = .ok (.iload_n 1, 1) := by decide +kernel
theorem dX4_hasRoom_5 : decode cX4_hasRoom 5 = .ok (.iadd, 1) := by decide +kernel
theorem dX4_hasRoom_6 : decode cX4_hasRoom 6 = .ok (.bipush 7, 2) := by decide +kernel
theorem dX4_hasRoom_8 : decode cX4_hasRoom 8 = .ok (.if_icmp .gt 18, 3) := by decide +kernel
theorem dX4_hasRoom_11 : decode cX4_hasRoom 11 = .ok (.aload_n 0, 1) := by decide +kernel
theorem dX4_hasRoom_12 : decode cX4_hasRoom 12 = .ok (.getfield 42, 3) := by decide +kernel
theorem dX4_hasRoom_15 : decode cX4_hasRoom 15 = .ok (.iload_n 2, 1) := by decide +kernel
theorem dX4_hasRoom_16 : decode cX4_hasRoom 16 = .ok (.iadd, 1) := by decide +kernel
theorem dX4_hasRoom_17 : decode cX4_hasRoom 17 = .ok (.bipush 20, 2) := by decide +kernel
theorem dX4_hasRoom_19 : decode cX4_hasRoom 19 = .ok (.if_icmp .gt 7, 3) := by decide +kernel
theorem dX4_hasRoom_22 : decode cX4_hasRoom 22 = .ok (.iconst 1, 1) := by decide +kernel
theorem dX4_hasRoom_23 : decode cX4_hasRoom 23 = .ok (.goto 4, 3) := by decide +kernel
theorem dX4_hasRoom_26 : decode cX4_hasRoom 26 = .ok (.iconst 0, 1) := by decide +kernel
theorem dX4_hasRoom_27 : decode cX4_hasRoom 27 = .ok (.ireturn, 1) := by decide +kernel
theorem dX4_firstOf_0 : decode cX4_firstOf 0 = .ok (.iload_n 1, 1) := by decide +kernel
theorem dX4_firstOf_1 : decode cX4_firstOf 1 = .ok (.ifCond .lt 18, 3) := by decide +kernel
theorem dX4_firstOf_4 : decode cX4_firstOf 4 = .ok (.iload_n 1, 1) := by decide +kernel
theorem dX4_firstOf_5 : decode cX4_firstOf 5 = .ok (.bipush 20, 2) := by decide +kernel
theorem dX4_firstOf_7 : decode cX4_firstOf 7 = .ok (.if_icmp .ge 12, 3) := by decide +kernel
theorem dX4_firstOf_10 : decode cX4_firstOf 10 = .ok (.aload_n 0, 1) := by decide +kernel
theorem dX4_firstOf_11 : decode cX4_firstOf 11 = .ok (.getfield 9, 3) := by decide +kernel
theorem dX4_firstOf_14 : decode cX4_firstOf 14 = .ok (.iload_n 1, 1) := by decide +kernel
theorem dX4_firstOf_15 : decode cX4_firstOf 15 = .ok (.iaload, 1) := by decide +kernel
theorem dX4_firstOf_16 : decode cX4_firstOf 16 = .ok (.goto 4, 3) := by decide +kernel
theorem dX4_firstOf_19 : decode cX4_firstOf 19 = .ok (.iconst (-1), 1) := by decide +kernel
theorem dX4_firstOf_20 : decode cX4_firstOf 20 = .ok (.ireturn, 1) := by decide +kernel
theorem dX4_secondOf_0 : decode cX4_secondOf 0 = .ok (.iload_n 1, 1) := by decide +kernel
theorem dX4_secondOf_1 : decode cX4_secondOf 1 = .ok (.ifCond .lt 18, 3) := by decide +kernel
theorem dX4_secondOf_4 : decode cX4_secondOf 4 = .ok (.iload_n 1, 1) := by decide +kernel
theorem dX4_secondOf_5 : decode cX4_secondOf 5 = .ok (.bipush 20, 2) := by decide +kernel
theorem dX4_secondOf_7 : decode cX4_secondOf 7 = .ok (.if_icmp .ge 12, 3) := by decide +kernel
theorem dX4_secondOf_10 : decode cX4_secondOf 10 = .ok (.aload_n 0, 1) := by decide +kernel
theorem dX4_secondOf_11 : decode cX4_secondOf 11 = .ok (.getfield 15, 3) := by decide +kernel
theorem dX4_secondOf_14 : decode cX4_secondOf 14 = .ok (.iload_n 1, 1) := by decide +kernel
theorem dX4_secondOf_15 : decode cX4_secondOf 15 = .ok (.iaload, 1) := by decide +kernel
theorem dX4_secondOf_16 : decode cX4_secondOf 16 = .ok (.goto 4, 3) := by decide +kernel
theorem dX4_secondOf_19 : decode cX4_secondOf 19 = .ok (.iconst (-1), 1) := by decide +kernel
theorem dX4_secondOf_20 : decode cX4_secondOf 20 = .ok (.ireturn, 1) := by decide +kernel
theorem dX4_conductanceOf_0 : decode cX4_conductanceOf 0 = .ok (.iload_n 1, 1) := by decide +kernel
theorem dX4_conductanceOf_1 : decode cX4_conductanceOf 1 = .ok (.ifCond .lt 18, 3) := by decide +kernel
theorem dX4_conductanceOf_4 : decode cX4_conductanceOf 4 = .ok (.iload_n 1, 1) := by decide +kernel
theorem dX4_conductanceOf_5 : decode cX4_conductanceOf 5 = .ok (.bipush 20, 2) := by decide +kernel
theorem dX4_conductanceOf_7 : decode cX4_conductanceOf 7 = .ok (.if_icmp .ge 12, 3) := by decide +kernel
theorem dX4_conductanceOf_10 : decode cX4_conductanceOf 10 = .ok (.aload_n 0, 1) := by decide +kernel
theorem dX4_conductanceOf_11 : decode cX4_conductanceOf 11 = .ok (.getfield 18, 3) := by decide +kernel
theorem dX4_conductanceOf_14 : decode cX4_conductanceOf 14 = .ok (.iload_n 1, 1) := by decide +kernel
theorem dX4_conductanceOf_15 : decode cX4_conductanceOf 15 = .ok (.iaload, 1) := by decide +kernel
theorem dX4_conductanceOf_16 : decode cX4_conductanceOf 16 = .ok (.goto 4, 3) := by decide +kernel
theorem dX4_conductanceOf_19 : decode cX4_conductanceOf 19 = .ok (.iconst 0, 1) := by decide +kernel
theorem dX4_conductanceOf_20 : decode cX4_conductanceOf 20 = .ok (.ireturn, 1) := by decide +kernel
theorem dX4_setConductance_0 : decode cX4_setConductance 0 = .ok (.iload_n 1, 1) := by decide +kernel
theorem dX4_setConductance_1 : decode cX4_setConductance 1 = .ok (.ifCond .lt 16, 3) := by decide +kernel
theorem dX4_setConductance_4 : decode cX4_setConductance 4 = .ok (.iload_n 1, 1) := by decide +kernel
theorem dX4_setConductance_5 : decode cX4_setConductance 5 = .ok (.bipush 20, 2) := by decide +kernel
theorem dX4_setConductance_7 : decode cX4_setConductance 7 = .ok (.if_icmp .ge 10, 3) := by decide +kernel
theorem dX4_setConductance_10 : decode cX4_setConductance 10 = .ok (.aload_n 0, 1) := by decide +kernel
theorem dX4_setConductance_11 : decode cX4_setConductance 11 = .ok (.getfield 18, 3) := by decide +kernel
theorem dX4_setConductance_14 : decode cX4_setConductance 14 = .ok (.iload_n 1, 1) := by decide +kernel
theorem dX4_setConductance_15 : decode cX4_setConductance 15 = .ok (.iload_n 2, 1) := by decide +kernel
theorem dX4_setConductance_16 : decode cX4_setConductance 16 = .ok (.iastore, 1) := by decide +kernel
theorem dX4_setConductance_17 : decode cX4_setConductance 17 = .ok (.return_, 1) := by decide +kernel
set_option maxRecDepth 20000 in
theorem ggX4_isRing_X4_firstOf : GoodIn wsX4_isRing wsX4_firstOf := goodIn_r _ [5, 6, 12, 13, 14, 15, 16, 17, 18, 19] (by decide +kernel) (by decide +kernel)
set_option maxRecDepth 20000 in
theorem gX4_isRing_X4_firstOf : GoodIn wsX4_isRing (wsV RX4 45 RX4 yX4_firstOf wsX4_firstOf) := goodIn_app (goodIn_of _ (by decide +kernel)) ggX4_isRing_X4_firstOf
set_option maxRecDepth 20000 in
theorem ggX4_isRing_X4_secondOf : GoodIn wsX4_isRing wsX4_secondOf := goodIn_r _ [10, 11, 12, 13, 14, 15, 16, 17, 18, 19] (by decide +kernel) (by decide +kernel)
set_option maxRecDepth 20000 in
theorem gX4_isRing_X4_secondOf : GoodIn wsX4_isRing (wsV RX4 49 RX4 yX4_secondOf wsX4_secondOf) := goodIn_app (goodIn_of _ (by decide +kernel)) ggX4_isRing_X4_secondOf
theorem dX4_isRing_0 : decode cX4_isRing 0 = .ok (.aload_n 0, 1) := by decide +kernel
theorem dX4_isRing_1 : decode cX4_isRing 1 = .ok (.iload_n 1, 1) := by decide +kernel
theorem dX4_isRing_2 : decode cX4_isRing 2 = .ok (.invokevirtual 45, 3) := by decide +kernel
theorem dX4_isRing_5 : decode cX4_isRing 5 = .ok (.aload_n 0, 1) := by decide +kernel
theorem dX4_isRing_6 : decode cX4_isRing 6 = .ok (.iload_n 1, 1) := by decide +kernel
theorem dX4_isRing_7 : decode cX4_isRing 7 = .ok (.invokevirtual 49, 3) := by decide +kernel
theorem dX4_isRing_10 : decode cX4_isRing 10 = .ok (.if_icmp .ne 7, 3) := by decide +kernel
theorem dX4_isRing_13 : decode cX4_isRing 13 = .ok (.iconst 1, 1) := by decide +kernel
theorem dX4_isRing_14 : decode cX4_isRing 14 = .ok (.goto 4, 3) := by decide +kernel
theorem dX4_isRing_17 : decode cX4_isRing 17 = .ok (.iconst 0, 1) := by decide +kernel
theorem dX4_isRing_18 : decode cX4_isRing 18 = .ok (.ireturn, 1) := by decide +kernel
set_option maxRecDepth 20000 in
theorem ggX4_isAt_X4_firstOf : GoodIn wsX4_isAt wsX4_firstOf := goodIn_r _ [5, 6, 12, 13, 14, 15, 16, 17, 18, 19] (by decide +kernel) (by decide +kernel)
set_option maxRecDepth 20000 in
theorem gX4_isAt_X4_firstOf : GoodIn wsX4_isAt (wsV RX4 45 RX4 yX4_firstOf wsX4_firstOf) := goodIn_app (goodIn_of _ (by decide +kernel)) ggX4_isAt_X4_firstOf
set_option maxRecDepth 20000 in
theorem ggX4_isAt_X4_secondOf : GoodIn wsX4_isAt wsX4_secondOf := goodIn_r _ [10, 11, 12, 13, 14, 15, 16, 17, 18, 19] (by decide +kernel) (by decide +kernel)
set_option maxRecDepth 20000 in
theorem gX4_isAt_X4_secondOf : GoodIn wsX4_isAt (wsV RX4 49 RX4 yX4_secondOf wsX4_secondOf) := goodIn_app (goodIn_of _ (by decide +kernel)) ggX4_isAt_X4_secondOf
theorem dX4_isAt_0 : decode cX4_isAt 0 = .ok (.aload_n 0, 1) := by decide +kernel
theorem dX4_isAt_1 : decode cX4_isAt 1 = .ok (.iload_n 1, 1) := by decide +kernel
theorem dX4_isAt_2 : decode cX4_isAt 2 = .ok (.invokevirtual 45, 3) := by decide +kernel
theorem dX4_isAt_5 : decode cX4_isAt 5 = .ok (.iload_n 2, 1) := by decide +kernel
theorem dX4_isAt_6 : decode cX4_isAt 6 = .ok (.if_icmp .eq 12, 3) := by decide +kernel
theorem dX4_isAt_9 : decode cX4_isAt 9 = .ok (.aload_n 0, 1) := by decide +kernel
theorem dX4_isAt_10 : decode cX4_isAt 10 = .ok (.iload_n 1, 1) := by decide +kernel
theorem dX4_isAt_11 : decode cX4_isAt 11 = .ok (.invokevirtual 49, 3) := by decide +kernel
theorem dX4_isAt_14 : decode cX4_isAt 14 = .ok (.iload_n 2, 1) := by decide +kernel
theorem dX4_isAt_15 : decode cX4_isAt 15 = .ok (.if_icmp .ne 7, 3) := by decide +kernel
theorem dX4_isAt_18 : decode cX4_isAt 18 = .ok (.iconst 1, 1) := by decide +kernel
theorem dX4_isAt_19 : decode cX4_isAt 19 = .ok (.goto 4, 3) := by decide +kernel
theorem dX4_isAt_22 : decode cX4_isAt 22 = .ok (.iconst 0, 1) := by decide +kernel
theorem dX4_isAt_23 : decode cX4_isAt 23 = .ok (.ireturn, 1) := by decide +kernel
set_option maxRecDepth 20000 in
theorem ggX4_farEndOf_X4_firstOf : GoodIn wsX4_farEndOf wsX4_firstOf := goodIn_r _ [5, 6, 12, 13, 14, 15, 16, 17, 18, 19] (by decide +kernel) (by decide +kernel)
set_option maxRecDepth 20000 in
theorem gX4_farEndOf_X4_firstOf : GoodIn wsX4_farEndOf (wsV RX4 45 RX4 yX4_firstOf wsX4_firstOf) := goodIn_app (goodIn_of _ (by decide +kernel)) ggX4_farEndOf_X4_firstOf
set_option maxRecDepth 20000 in
theorem ggX4_farEndOf_X4_secondOf : GoodIn wsX4_farEndOf wsX4_secondOf := goodIn_r _ [10, 11, 12, 13, 14, 15, 16, 17, 18, 19] (by decide +kernel) (by decide +kernel)
set_option maxRecDepth 20000 in
theorem gX4_farEndOf_X4_secondOf : GoodIn wsX4_farEndOf (wsV RX4 49 RX4 yX4_secondOf wsX4_secondOf) := goodIn_app (goodIn_of _ (by decide +kernel)) ggX4_farEndOf_X4_secondOf
theorem dX4_farEndOf_0 : decode cX4_farEndOf 0 = .ok (.aload_n 0, 1) := by decide +kernel
theorem dX4_farEndOf_1 : decode cX4_farEndOf 1 = .ok (.iload_n 1, 1) := by decide +kernel
theorem dX4_farEndOf_2 : decode cX4_farEndOf 2 = .ok (.invokevirtual 45, 3) := by decide +kernel
theorem dX4_farEndOf_5 : decode cX4_farEndOf 5 = .ok (.iload_n 2, 1) := by decide +kernel
theorem dX4_farEndOf_6 : decode cX4_farEndOf 6 = .ok (.if_icmp .ne 11, 3) := by decide +kernel
theorem dX4_farEndOf_9 : decode cX4_farEndOf 9 = .ok (.aload_n 0, 1) := by decide +kernel
theorem dX4_farEndOf_10 : decode cX4_farEndOf 10 = .ok (.iload_n 1, 1) := by decide +kernel
theorem dX4_farEndOf_11 : decode cX4_farEndOf 11 = .ok (.invokevirtual 49, 3) := by decide +kernel
theorem dX4_farEndOf_14 : decode cX4_farEndOf 14 = .ok (.goto 8, 3) := by decide +kernel
theorem dX4_farEndOf_17 : decode cX4_farEndOf 17 = .ok (.aload_n 0, 1) := by decide +kernel
theorem dX4_farEndOf_18 : decode cX4_farEndOf 18 = .ok (.iload_n 1, 1) := by decide +kernel
theorem dX4_farEndOf_19 : decode cX4_farEndOf 19 = .ok (.invokevirtual 45, 3) := by decide +kernel
theorem dX4_farEndOf_22 : decode cX4_farEndOf 22 = .ok (.ireturn, 1) := by decide +kernel
set_option maxRecDepth 20000 in
theorem ggX4_lowestNode_X4_hasNode : GoodIn wsX4_lowestNode wsX4_hasNode := goodIn_r _ [5, 6, 7, 8, 9, 10, 11, 12, 13, 14, 15, 16, 17] (by decide +kernel) (by decide +kernel)
set_option maxRecDepth 20000 in
theorem gX4_lowestNode_X4_hasNode : GoodIn wsX4_lowestNode (wsV RX4 29 RX4 yX4_hasNode wsX4_hasNode) := goodIn_app (goodIn_of _ (by decide +kernel)) ggX4_lowestNode_X4_hasNode
theorem dX4_lowestNode_0 : decode cX4_lowestNode 0 = .ok (.iconst 0, 1) := by decide +kernel
theorem dX4_lowestNode_1 : decode cX4_lowestNode 1 = .ok (.istore_n 1, 1) := by decide +kernel
theorem dX4_lowestNode_2 : decode cX4_lowestNode 2 = .ok (.iload_n 1, 1) := by decide +kernel
theorem dX4_lowestNode_3 : decode cX4_lowestNode 3 = .ok (.bipush 7, 2) := by decide +kernel
theorem dX4_lowestNode_5 : decode cX4_lowestNode 5 = .ok (.if_icmp .ge 19, 3) := by decide +kernel
theorem dX4_lowestNode_8 : decode cX4_lowestNode 8 = .ok (.aload_n 0, 1) := by decide +kernel
theorem dX4_lowestNode_9 : decode cX4_lowestNode 9 = .ok (.iload_n 1, 1) := by decide +kernel
theorem dX4_lowestNode_10 : decode cX4_lowestNode 10 = .ok (.invokevirtual 29, 3) := by decide +kernel
theorem dX4_lowestNode_13 : decode cX4_lowestNode 13 = .ok (.ifCond .eq 5, 3) := by decide +kernel
theorem dX4_lowestNode_16 : decode cX4_lowestNode 16 = .ok (.iload_n 1, 1) := by decide +kernel
theorem dX4_lowestNode_17 : decode cX4_lowestNode 17 = .ok (.ireturn, 1) := by decide +kernel
theorem dX4_lowestNode_18 : decode cX4_lowestNode 18 = .ok (.iinc 1 1, 3) := by decide +kernel
theorem dX4_lowestNode_21 : decode cX4_lowestNode 21 = .ok (.goto (-19), 3) := by decide +kernel
theorem dX4_lowestNode_24 : decode cX4_lowestNode 24 = .ok (.iconst (-1), 1) := by decide +kernel
theorem dX4_lowestNode_25 : decode cX4_lowestNode 25 = .ok (.ireturn, 1) := by decide +kernel
set_option maxRecDepth 20000 in
theorem ggX4_wiresAt_X4_hasWire : GoodIn wsX4_wiresAt wsX4_hasWire := goodIn_r _ [7, 8, 9, 10, 11, 14, 15, 16, 17, 18, 19, 20, 21] (by decide +kernel) (by decide +kernel)
set_option maxRecDepth 20000 in
theorem gX4_wiresAt_X4_hasWire : GoodIn wsX4_wiresAt (wsV RX4 52 RX4 yX4_hasWire wsX4_hasWire) := goodIn_app (goodIn_of _ (by decide +kernel)) ggX4_wiresAt_X4_hasWire
set_option maxRecDepth 20000 in
theorem ggX4_wiresAt_X7_setOf : GoodIn wsX4_wiresAt wsX7_setOf := goodIn_r _ [13] (by decide +kernel) (by decide +kernel)
set_option maxRecDepth 20000 in
theorem gX4_wiresAt_X7_setOf_n55 : GoodIn wsX4_wiresAt (wsX7_setOf) := ggX4_wiresAt_X7_setOf
theorem dX4_wiresAt_0 : decode cX4_wiresAt 0 = .ok (.iconst 0, 1) := by decide +kernel
theorem dX4_wiresAt_1 : decode cX4_wiresAt 1 = .ok (.istore_n 2, 1) := by decide +kernel
theorem dX4_wiresAt_2 : decode cX4_wiresAt 2 = .ok (.iconst 0, 1) := by decide +kernel
theorem dX4_wiresAt_3 : decode cX4_wiresAt 3 = .ok (.istore_n 3, 1) := by decide +kernel
theorem dX4_wiresAt_4 : decode cX4_wiresAt 4 = .ok (.iload_n 3, 1) := by decide +kernel
theorem dX4_wiresAt_5 : decode cX4_wiresAt 5 = .ok (.bipush 20, 2) := by decide +kernel
theorem dX4_wiresAt_7 : decode cX4_wiresAt 7 = .ok (.if_icmp .ge 44, 3) := by decide +kernel
theorem dX4_wiresAt_10 : decode cX4_wiresAt 10 = .ok (.aload_n 0, 1) := by decide +kernel
theorem dX4_wiresAt_11 : decode cX4_wiresAt 11 = .ok (.iload_n 3, 1) := by decide +kernel
theorem dX4_wiresAt_12 : decode cX4_wiresAt 12 = .ok (.invokevirtual 52, 3) := by decide +kernel
theorem dX4_wiresAt_15 : decode cX4_wiresAt 15 = .ok (.ifCond .eq 30, 3) := by decide +kernel
theorem dX4_wiresAt_18 : decode cX4_wiresAt 18 = .ok (.aload_n 0, 1) := by decide +kernel
