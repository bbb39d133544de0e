theorem dX4_wiresAt_19 : decode cX4_wiresAt 19 = .ok (.getfield 9, 3) := by decide +kernel
theorem dX4_wiresAt_22 : decode cX4_wiresAt 22 = .ok (.iload_n 3, 1) := by decide +kernel
theorem dX4_wiresAt_23 : decode cX4_wiresAt 23 = .ok (.iaload, 1) := by decide +kernel
theorem dX4_wiresAt_24 : decode cX4_wiresAt 24 = .ok (.iload_n 1, 1) := by decide +kernel
theorem dX4_wiresAt_25 : decode cX4_wiresAt 25 = .ok (.if_icmp .eq 13, 3) := by decide +kernel
theorem dX4_wiresAt_28 : decode cX4_wiresAt 28 = .ok (.aload_n 0, 1) := by decide +kernel
theorem dX4_wiresAt_29 : decode cX4_wiresAt 29 = .ok (.getfield 15, 3) := by decide +kernel
theorem dX4_wiresAt_32 : decode cX4_wiresAt 32 = .ok (.iload_n 3, 1) := by decide +kernel
theorem dX4_wiresAt_33 : decode cX4_wiresAt 33 = .ok (.iaload, 1) := by decide +kernel
theorem dX4_wiresAt_34 : decode cX4_wiresAt 34 = .ok (.iload_n 1, 1) := by decide +kernel
theorem dX4_wiresAt_35 : decode cX4_wiresAt 35 = .ok (.if_icmp .ne 10, 3) := by decide +kernel
theorem dX4_wiresAt_38 : decode cX4_wiresAt 38 = .ok (.iload_n 2, 1) := by decide +kernel
theorem dX4_wiresAt_39 : decode cX4_wiresAt 39 = .ok (.iload_n 3, 1) := by decide +kernel
theorem dX4_wiresAt_40 : decode cX4_wiresAt 40 = .ok (.invokestatic 55, 3) := by decide +kernel
theorem dX4_wiresAt_43 : decode cX4_wiresAt 43 = .ok (.ior, 1) := by decide +kernel
theorem dX4_wiresAt_44 : decode cX4_wiresAt 44 = .ok (.istore_n 2, 1) := by decide +kernel
theorem dX4_wiresAt_45 : decode cX4_wiresAt 45 = .ok (.iinc 3 1, 3) := by decide +kernel
theorem dX4_wiresAt_48 : decode cX4_wiresAt 48 = .ok (.goto (-44), 3) := by decide +kernel
theorem dX4_wiresAt_51 : decode cX4_wiresAt 51 = .ok (.iload_n 2, 1) := by decide +kernel
theorem dX4_wiresAt_52 : decode cX4_wiresAt 52 = .ok (.ireturn, 1) := by decide +kernel
set_option maxRecDepth 20000 in
theorem ggX4_lowestBetween_X4_hasWire : GoodIn wsX4_lowestBetween wsX4_hasWire := goodIn_r _ [7, 8, 9, 10, 11, 12, 13, 14, 15, 16, 17, 18, 19] (by decide +kernel) (by decide +kernel)
set_option maxRecDepth 20000 in
theorem gX4_lowestBetween_X4_hasWire : GoodIn wsX4_lowestBetween (wsV RX4 52 RX4 yX4_hasWire wsX4_hasWire) := goodIn_app (goodIn_of _ (by decide +kernel)) ggX4_lowestBetween_X4_hasWire
theorem dX4_lowestBetween_0 : decode cX4_lowestBetween 0 = .ok (.iconst 0, 1) := by decide +kernel
theorem dX4_lowestBetween_1 : decode cX4_lowestBetween 1 = .ok (.istore 4, 2) := by decide +kernel
theorem dX4_lowestBetween_3 : decode cX4_lowestBetween 3 = .ok (.iload 4, 2) := by decide +kernel
theorem dX4_lowestBetween_5 : decode cX4_lowestBetween 5 = .ok (.bipush 20, 2) := by decide +kernel
theorem dX4_lowestBetween_7 : decode cX4_lowestBetween 7 = .ok (.if_icmp .ge 83, 3) := by decide +kernel
theorem dX4_lowestBetween_10 : decode cX4_lowestBetween 10 = .ok (.aload_n 0, 1) := by decide +kernel
theorem dX4_lowestBetween_11 : decode cX4_lowestBetween 11 = .ok (.getfield 9, 3) := by decide +kernel
theorem dX4_lowestBetween_14 : decode cX4_lowestBetween 14 = .ok (.iload 4, 2) := by decide +kernel
theorem dX4_lowestBetween_16 : decode cX4_lowestBetween 16 = .ok (.iaload, 1) := by decide +kernel
theorem dX4_lowestBetween_17 : decode cX4_lowestBetween 17 = .ok (.iload_n 1, 1) := by decide +kernel
theorem dX4_lowestBetween_18 : decode cX4_lowestBetween 18 = .ok (.if_icmp .ne 14, 3) := by decide +kernel
theorem dX4_lowestBetween_21 : decode cX4_lowestBetween 21 = .ok (.aload_n 0, 1) := by decide +kernel
theorem dX4_lowestBetween_22 : decode cX4_lowestBetween 22 = .ok (.getfield 15, 3) := by decide +kernel
theorem dX4_lowestBetween_25 : decode cX4_lowestBetween 25 = .ok (.iload 4, 2) := by decide +kernel
theorem dX4_lowestBetween_27 : decode cX4_lowestBetween 27 = .ok (.iaload, 1) := by decide +kernel
theorem dX4_lowestBetween_28 : decode cX4_lowestBetween 28 = .ok (.iload_n 2, 1) := by decide +kernel
theorem dX4_lowestBetween_29 : decode cX4_lowestBetween 29 = .ok (.if_icmp .eq 25, 3) := by decide +kernel
theorem dX4_lowestBetween_32 : decode cX4_lowestBetween 32 = .ok (.aload_n 0, 1) := by decide +kernel
theorem dX4_lowestBetween_33 : decode cX4_lowestBetween 33 = .ok (.getfield 9, 3) := by decide +kernel
theorem dX4_lowestBetween_36 : decode cX4_lowestBetween 36 = .ok (.iload 4, 2) := by decide +kernel
theorem dX4_lowestBetween_38 : decode cX4_lowestBetween 38 = .ok (.iaload, 1) := by decide +kernel
theorem dX4_lowestBetween_39 : decode cX4_lowestBetween 39 = .ok (.iload_n 2, 1) := by decide +kernel
theorem dX4_lowestBetween_40 : decode cX4_lowestBetween 40 = .ok (.if_icmp .ne 18, 3) := by decide +kernel
theorem dX4_lowestBetween_43 : decode cX4_lowestBetween 43 = .ok (.aload_n 0, 1) := by decide +kernel
theorem dX4_lowestBetween_44 : decode cX4_lowestBetween 44 = .ok (.getfield 15, 3) := by decide +kernel
theorem dX4_lowestBetween_47 : decode cX4_lowestBetween 47 = .ok (.iload 4, 2) := by decide +kernel
theorem dX4_lowestBetween_49 : decode cX4_lowestBetween 49 = .ok (.iaload, 1) := by decide +kernel
theorem dX4_lowestBetween_50 : decode cX4_lowestBetween 50 = .ok (.iload_n 1, 1) := by decide +kernel
theorem dX4_lowestBetween_51 : decode cX4_lowestBetween 51 = .ok (.if_icmp .ne 7, 3) := by decide +kernel
theorem dX4_lowestBetween_54 : decode cX4_lowestBetween 54 = .ok (.iconst 1, 1) := by decide +kernel
theorem dX4_lowestBetween_55 : decode cX4_lowestBetween 55 = .ok (.goto 4, 3) := by decide +kernel
theorem dX4_lowestBetween_58 : decode cX4_lowestBetween 58 = .ok (.iconst 0, 1) := by decide +kernel
theorem dX4_lowestBetween_59 : decode cX4_lowestBetween 59 = .ok (.istore 5, 2) := by decide +kernel
theorem dX4_lowestBetween_61 : decode cX4_lowestBetween 61 = .ok (.iload 5, 2) := by decide +kernel
theorem dX4_lowestBetween_63 : decode cX4_lowestBetween 63 = .ok (.ifCond .eq 21, 3) := by decide +kernel
theorem dX4_lowestBetween_66 : decode cX4_lowestBetween 66 = .ok (.iload 4, 2) := by decide +kernel
theorem dX4_lowestBetween_68 : decode cX4_lowestBetween 68 = .ok (.iload_n 3, 1) := by decide +kernel
theorem dX4_lowestBetween_69 : decode cX4_lowestBetween 69 = .ok (.if_icmp .eq 15, 3) := by decide +kernel
theorem dX4_lowestBetween_72 : decode cX4_lowestBetween 72 = .ok (.aload_n 0, 1) := by decide +kernel
theorem dX4_lowestBetween_73 : decode cX4_lowestBetween 73 = .ok (.iload 4, 2) := by decide +kernel
theorem dX4_lowestBetween_75 : decode cX4_lowestBetween 75 = .ok (.invokevirtual 52, 3) := by decide +kernel
theorem dX4_lowestBetween_78 : decode cX4_lowestBetween 78 = .ok (.ifCond .eq 6, 3) := by decide +kernel
theorem dX4_lowestBetween_81 : decode cX4_lowestBetween 81 = .ok (.iload 4, 2) := by decide +kernel
theorem dX4_lowestBetween_83 : decode cX4_lowestBetween 83 = .ok (.ireturn, 1) := by decide +kernel
theorem dX4_lowestBetween_84 : decode cX4_lowestBetween 84 = .ok (.iinc 4 1, 3) := by decide +kernel
theorem dX4_lowestBetween_87 : decode cX4_lowestBetween 87 = .ok (.goto (-84), 3) := by decide +kernel
theorem dX4_lowestBetween_90 : decode cX4_lowestBetween 90 = .ok (.iconst (-1), 1) := by decide +kernel
theorem dX4_lowestBetween_91 : decode cX4_lowestBetween 91 = .ok (.ireturn, 1) := by decide +kernel
set_option maxRecDepth 20000 in
theorem ggX4_addNode_X7_setOf : GoodIn wsX4_addNode wsX7_setOf := goodIn_r _ [6] (by decide +kernel) (by decide +kernel)
set_option maxRecDepth 20000 in
theorem gX4_addNode_X7_setOf_n55 : GoodIn wsX4_addNode (wsX7_setOf) := ggX4_addNode_X7_setOf
theorem dX4_addNode_0 : decode cX4_addNode 0 = .ok (.aload_n 0, 1) := by decide +kernel
theorem dX4_addNode_1 : decode cX4_addNode 1 = .ok (.getfield 39, 3) := by decide +kernel
theorem dX4_addNode_4 : decode cX4_addNode 4 = .ok (.istore_n 2, 1) := by decide +kernel
theorem dX4_addNode_5 : decode cX4_addNode 5 = .ok (.aload_n 0, 1) := by decide +kernel
theorem dX4_addNode_6 : decode cX4_addNode 6 = .ok (.dup, 1) := by decide +kernel
theorem dX4_addNode_7 : decode cX4_addNode 7 = .ok (.getfield 39, 3) := by decide +kernel
theorem dX4_addNode_10 : decode cX4_addNode 10 = .ok (.iconst 1, 1) := by decide +kernel
theorem dX4_addNode_11 : decode cX4_addNode 11 = .ok (.iadd, 1) := by decide +kernel
theorem dX4_addNode_12 : decode cX4_addNode 12 = .ok (.putfield 39, 3) := by decide +kernel
theorem dX4_addNode_15 : decode cX4_addNode 15 = .ok (.aload_n 0, 1) := by decide +kernel
theorem dX4_addNode_16 : decode cX4_addNode 16 = .ok (.dup, 1) := by decide +kernel
theorem dX4_addNode_17 : decode cX4_addNode 17 = .ok (.getfield 21, 3) := by decide +kernel
theorem dX4_addNode_20 : decode cX4_addNode 20 = .ok (.iload_n 2, 1) := by decide +kernel
theorem dX4_addNode_21 : decode cX4_addNode 21 = .ok (.invokestatic 55, 3) := by decide +kernel
theorem dX4_addNode_24 : decode cX4_addNode 24 = .ok (.ior, 1) := by decide +kernel
theorem dX4_addNode_25 : decode cX4_addNode 25 = .ok (.putfield 21, 3) := by decide +kernel
theorem dX4_addNode_28 : decode cX4_addNode 28 = .ok (.iload_n 1, 1) := by decide +kernel
theorem dX4_addNode_29 : decode cX4_addNode 29 = .ok (.ifCond .eq 16, 3) := by decide +kernel
theorem dX4_addNode_32 : decode cX4_addNode 32 = .ok (.aload_n 0, 1) := by decide +kernel
theorem dX4_addNode_33 : decode cX4_addNode 33 = .ok (.dup, 1) := by decide +kernel
theorem dX4_addNode_34 : decode cX4_addNode 34 = .ok (.getfield 33, 3) := by decide +kernel
theorem dX4_addNode_37 : decode cX4_addNode 37 = .ok (.iload_n 2, 1) := by decide +kernel
theorem dX4_addNode_38 : decode cX4_addNode 38 = .ok (.invokestatic 55, 3) := by decide +kernel
theorem dX4_addNode_41 : decode cX4_addNode 41 = .ok (.ior, 1) := by decide +kernel
theorem dX4_addNode_42 : decode cX4_addNode 42 = .ok (.putfield 33, 3) := by decide +kernel
theorem dX4_addNode_45 : decode cX4_addNode 45 = .ok (.iload_n 2, 1) := by decide +kernel
theorem dX4_addNode_46 : decode cX4_addNode 46 = .ok (.ireturn, 1) := by decide +kernel
set_option maxRecDepth 20000 in
theorem ggX4_addWire_X7_setOf : GoodIn wsX4_addWire wsX7_setOf := goodIn_r _ [8] (by decide +kernel) (by decide +kernel)
set_option maxRecDepth 20000 in
theorem gX4_addWire_X7_setOf_n55 : GoodIn wsX4_addWire (wsX7_setOf) := ggX4_addWire_X7_setOf
theorem dX4_addWire_0 : decode cX4_addWire 0 = .ok (.aload_n 0, 1) := by decide +kernel
theorem dX4_addWire_1 : decode cX4_addWire 1 = .ok (.getfield 42, 3) := by decide +kernel
theorem dX4_addWire_4 : decode cX4_addWire 4 = .ok (.istore 4, 2) := by decide +kernel
theorem dX4_addWire_6 : decode cX4_addWire 6 = .ok (.iload 4, 2) := by decide +kernel
theorem dX4_addWire_8 : decode cX4_addWire 8 = .ok (.ifCond .lt 10, 3) := by decide +kernel
theorem dX4_addWire_11 : decode cX4_addWire 11 = .ok (.iload 4, 2) := by decide +kernel
theorem dX4_addWire_13 : decode cX4_addWire 13 = .ok (.bipush 20, 2) := by decide +kernel
theorem dX4_addWire_15 : decode cX4_addWire 15 = .ok (.if_icmp .lt 5, 3) := by decide +kernel
theorem dX4_addWire_18 : decode cX4_addWire 18 = .ok (.iconst (-1), 1) := by decide +kernel
theorem dX4_addWire_19 : decode cX4_addWire 19 = .ok (.ireturn, 1) := by decide +kernel
theorem dX4_addWire_20 : decode cX4_addWire 20 = .ok (.aload_n 0, 1) := by decide +kernel
theorem dX4_addWire_21 : decode cX4_addWire 21 = .ok (.dup, 1) := by decide +kernel
theorem dX4_addWire_22 : decode cX4_addWire 22 = .ok (.getfield 42, 3) := by decide +kernel
theorem dX4_addWire_25 : decode cX4_addWire 25 = .ok (.iconst 1, 1) := by decide +kernel
theorem dX4_addWire_26 : decode cX4_addWire 26 = .ok (.iadd, 1) := by decide +kernel
theorem dX4_addWire_27 : decode cX4_addWire 27 = .ok (.putfield 42, 3) := by decide +kernel
theorem dX4_addWire_30 : decode cX4_addWire 30 = .ok (.aload_n 0, 1) := by decide +kernel
theorem dX4_addWire_31 : decode cX4_addWire 31 = .ok (.dup, 1) := by decide +kernel
theorem dX4_addWire_32 : decode cX4_addWire 32 = .ok (.getfield 36, 3) := by decide +kernel
theorem dX4_addWire_35 : decode cX4_addWire 35 = .ok (.iload 4, 2) := by decide +kernel
theorem dX4_addWire_37 : decode cX4_addWire 37 = .ok (.invokestatic 55, 3) := by decide +kernel
theorem dX4_addWire_40 : decode cX4_addWire 40 = .ok (.ior, 1) := by decide +kernel
theorem dX4_addWire_41 : decode cX4_addWire 41 = .ok (.putfield 36, 3) := by decide +kernel
theorem dX4_addWire_44 : decode cX4_addWire 44 = .ok (.aload_n 0, 1) := by decide +kernel
theorem dX4_addWire_45 : decode cX4_addWire 45 = .ok (.getfield 9, 3) := by decide +kernel
theorem dX4_addWire_48 : decode cX4_addWire 48 = .ok (.iload 4, 2) := by decide +kernel
theorem dX4_addWire_50 : decode cX4_addWire 50 = .ok (.iload_n 1, 1) := by decide +kernel
theorem dX4_addWire_51 : decode cX4_addWire 51 = .ok (.iastore, 1) := by decide +kernel
theorem dX4_addWire_52 : decode cX4_addWire 52 = .ok (.aload_n 0, 1) := by decide +kernel
theorem dX4_addWire_53 : decode cX4_addWire 53 = .ok (.getfield 15, 3) := by decide +kernel
theorem dX4_addWire_56 : decode cX4_addWire 56 = .ok (.iload 4, 2) := by decide +kernel
theorem dX4_addWire_58 : decode cX4_addWire 58 = .ok (.iload_n 2, 1) := by decide +kernel
theorem dX4_addWire_59 : decode cX4_addWire 59 = .ok (.iastore, 1) := by decide +kernel
theorem dX4_addWire_60 : decode cX4_addWire 60 = .ok (.aload_n 0, 1) := by decide +kernel
theorem dX4_addWire_61 : decode cX4_addWire 61 = .ok (.getfield 18, 3) := by decide +kernel
theorem dX4_addWire_64 : decode cX4_addWire 64 = .ok (.iload 4, 2) := by decide +kernel
theorem dX4_addWire_66 : decode cX4_addWire 66 = .ok (.iload_n 3, 1) := by decide +kernel
theorem dX4_addWire_67 : decode cX4_addWire 67 = .ok (.iastore, 1) := by decide +kernel
theorem dX4_addWire_68 : decode cX4_addWire 68 = .ok (.iload 4, 2) := by decide +kernel
theorem dX4_addWire_70 : decode cX4_addWire 70 = .ok (.ireturn, 1) := by decide +kernel
theorem dX5_init_0 : decode cX5_init 0 = .ok (.aload_n 0, 1) := by decide +kernel
theorem dX5_init_1 : decode cX5_init 1 = .ok (.invokespecial 3, 3) := by decide +kernel
theorem dX5_init_4 : decode cX5_init 4 = .ok (.aload_n 0, 1) := by decide +kernel
theorem dX5_init_5 : decode cX5_init 5 = .ok (.iconst 3, 1) := by decide +kernel
theorem dX5_init_6 : decode cX5_init 6 = .ok (.newarray .int, 2) := by decide +kernel
theorem dX5_init_8 : decode cX5_init 8 = .ok (.putfield 11, 3) := by decide +kernel
theorem dX5_init_11 : decode cX5_init 11 = .ok (.aload_n 0, 1) := by decide +kernel
theorem dX5_init_12 : decode cX5_init 12 = .ok (.iconst 3, 1) := by decide +kernel
theorem dX5_init_13 : decode cX5_init 13 = .ok (.newarray .int, 2) := by decide +kernel
theorem dX5_init_15 : decode cX5_init 15 = .ok (.putfield 15, 3) := by decide +kernel
theorem dX5_init_18 : decode cX5_init 18 = .ok (.aload_n 0, 1) := by decide +kernel
theorem dX5_init_19 : decode cX5_init 19 = .ok (.iconst 3, 1) := by decide +kernel
theorem dX5_init_20 : decode cX5_init 20 = .ok (.newarray .int, 2) := by decide +kernel
theorem dX5_init_22 : decode cX5_init 22 = .ok (.putfield 18, 3) := by decide +kernel
theorem dX5_init_25 : decode cX5_init 25 = .ok (.return_, 1) := by decide +kernel
theorem dX5_begin_0 : decode cX5_begin 0 = .ok (.aload_n 0, 1) := by decide +kernel
theorem dX5_begin_1 : decode cX5_begin 1 = .ok (.iconst 0, 1) := by decide +kernel
theorem dX5_begin_2 : decode cX5_begin 2 = .ok (.putfield 21, 3) := by decide +kernel
theorem dX5_begin_5 : decode cX5_begin 5 = .ok (.aload_n 0, 1) := by decide +kernel
theorem dX5_begin_6 : decode cX5_begin 6 = .ok (.iconst 0, 1) := by decide +kernel
theorem dX5_begin_7 : decode cX5_begin 7 = .ok (.putfield 25, 3) := by decide +kernel
theorem dX5_begin_10 : decode cX5_begin 10 = .ok (.aload_n 0, 1) := by decide +kernel
theorem dX5_begin_11 : decode cX5_begin 11 = .ok (.iconst 0, 1) := by decide +kernel
theorem dX5_begin_12 : decode cX5_begin 12 = .ok (.putfield 29, 3) := by decide +kernel
theorem dX5_begin_15 : decode cX5_begin 15 = .ok (.aload_n 0, 1) := by decide +kernel
theorem dX5_begin_16 : decode cX5_begin 16 = .ok (.iconst (-1), 1) := by decide +kernel
theorem dX5_begin_17 : decode cX5_begin 17 = .ok (.putfield 32, 3) := by decide +kernel
theorem dX5_begin_20 : decode cX5_begin 20 = .ok (.aload_n 0, 1) := by decide +kernel
theorem dX5_begin_21 : decode cX5_begin 21 = .ok (.iconst 0, 1) := by decide +kernel
theorem dX5_begin_22 : decode cX5_begin 22 = .ok (.putfield 35, 3) := by decide +kernel
theorem dX5_begin_25 : decode cX5_begin 25 = .ok (.aload_n 0, 1) := by decide +kernel
theorem dX5_begin_26 : decode cX5_begin 26 = .ok (.iconst 0, 1) := by decide +kernel
theorem dX5_begin_27 : decode cX5_begin 27 = .ok (.putfield 38, 3) := by decide +kernel
theorem dX5_begin_30 : decode cX5_begin 30 = .ok (.aload_n 0, 1) := by decide +kernel
theorem dX5_begin_31 : decode cX5_begin 31 = .ok (.iconst 0, 1) := by decide +kernel
theorem dX5_begin_32 : decode cX5_begin 32 = .ok (.putfield 41, 3) := by decide +kernel
theorem dX5_begin_35 : decode cX5_begin 35 = .ok (.return_, 1) := by decide +kernel
set_option maxRecDepth 20000 in
theorem ggX5_bring_X7_isConductance : GoodIn wsX5_bring wsX7_isConductance := goodIn_r _ [8] (by decide +kernel) (by decide +kernel)
set_option maxRecDepth 20000 in
theorem gX5_bring_X7_isConductance_n44 : GoodIn wsX5_bring (wsX7_isConductance) := ggX5_bring_X7_isConductance
theorem dX5_bring_0 : decode cX5_bring 0 = .ok (.iload 4, 2) := by decide +kernel
theorem dX5_bring_2 : decode cX5_bring 2 = .ok (.ifCond .le 28, 3) := by decide +kernel
theorem dX5_bring_5 : decode cX5_bring 5 = .ok (.iload_n 3, 1) := by decide +kernel
theorem dX5_bring_6 : decode cX5_bring 6 = .ok (.iload 4, 2) := by decide +kernel
theorem dX5_bring_8 : decode cX5_bring 8 = .ok (.irem, 1) := by decide +kernel
theorem dX5_bring_9 : decode cX5_bring 9 = .ok (.ifCond .ne 21, 3) := by decide +kernel
theorem dX5_bring_12 : decode cX5_bring 12 = .ok (.iload_n 3, 1) := by decide +kernel
theorem dX5_bring_13 : decode cX5_bring 13 = .ok (.iload 4, 2) := by decide +kernel
theorem dX5_bring_15 : decode cX5_bring 15 = .ok (.idiv, 1) := by decide +kernel
theorem dX5_bring_16 : decode cX5_bring 16 = .ok (.invokestatic 44, 3) := by decide +kernel
theorem dX5_bring_19 : decode cX5_bring 19 = .ok (.ifCond .eq 11, 3) := by decide +kernel
theorem dX5_bring_22 : decode cX5_bring 22 = .ok (.aload_n 0, 1) := by decide +kernel
theorem dX5_bring_23 : decode cX5_bring 23 = .ok (.getfield 41, 3) := by decide +kernel
theorem dX5_bring_26 : decode cX5_bring 26 = .ok (.iconst 3, 1) := by decide +kernel
theorem dX5_bring_27 : decode cX5_bring 27 = .ok (.if_icmp .lt 9, 3) := by decide +kernel
theorem dX5_bring_30 : decode cX5_bring 30 = .ok (.aload_n 0, 1) := by decide +kernel
theorem dX5_bring_31 : decode cX5_bring 31 = .ok (.iconst 0, 1) := by decide +kernel
theorem dX5_bring_32 : decode cX5_bring 32 = .ok (.putfield 21, 3) := by decide +kernel
theorem dX5_bring_35 : decode cX5_bring 35 = .ok (.return_, 1) := by decide +kernel
theorem dX5_bring_36 : decode cX5_bring 36 = .ok (.aload_n 0, 1) := by decide +kernel
theorem dX5_bring_37 : decode cX5_bring 37 = .ok (.getfield 11, 3) := by decide +kernel
theorem dX5_bring_40 : decode cX5_bring 40 = .ok (.aload_n 0, 1) := by decide +kernel
theorem dX5_bring_41 : decode cX5_bring 41 = .ok (.getfield 41, 3) := by decide +kernel
theorem dX5_bring_44 : decode cX5_bring 44 = .ok (.iload_n 1, 1) := by decide +kernel
theorem dX5_bring_45 : decode cX5_bring 45 = .ok (.iastore, 1) := by decide +kernel
theorem dX5_bring_46 : decode cX5_bring 46 = .ok (.aload_n 0, 1) := by decide +kernel
theorem dX5_bring_47 : decode cX5_bring 47 = .ok (.getfield 15, 3) := by decide +kernel
theorem dX5_bring_50 : decode cX5_bring 50 = .ok (.aload_n 0, 1) := by decide +kernel
theorem dX5_bring_51 : decode cX5_bring 51 = .ok (.getfield 41, 3) := by decide +kernel
theorem dX5_bring_54 : decode cX5_bring 54 = .ok (.iload_n 2, 1) := by decide +kernel
theorem dX5_bring_55 : decode cX5_bring 55 = .ok (.iastore, 1) := by decide +kernel
theorem dX5_bring_56 : decode cX5_bring 56 = .ok (.aload_n 0, 1) := by decide +kernel
theorem dX5_bring_57 : decode cX5_bring 57 = .ok (.getfield 18, 3) := by decide +kernel
theorem dX5_bring_60 : decode cX5_bring 60 = .ok (.aload_n 0, 1) := by decide +kernel
theorem dX5_bring_61 : decode cX5_bring 61 = .ok (.getfield 41, 3) := by decide +kernel
theorem dX5_bring_64 : decode cX5_bring 64 = .ok (.iload_n 3, 1) := by decide +kernel
theorem dX5_bring_65 : decode cX5_bring 65 = .ok (.iload 4, 2) := by decide +kernel
theorem dX5_bring_67 : decode cX5_bring 67 = .ok (.idiv, 1) := by decide +kernel
theorem dX5_bring_68 : decode cX5_bring 68 = .ok (.iastore, 1) := by decide +kernel
theorem dX5_bring_69 : decode cX5_bring 69 = .ok (.aload_n 0, 1) := by decide +kernel
theorem dX5_bring_70 : decode cX5_bring 70 = .ok (.dup, 1) := by decide +kernel
theorem dX5_bring_71 : decode cX5_bring 71 = .ok (.getfield 41, 3) := by decide +kernel
theorem dX5_bring_74 : decode cX5_bring 74 = .ok (.iconst 1, 1) := by decide +kernel
theorem dX5_bring_75 : decode cX5_bring 75 = .ok (.iadd, 1) := by decide +kernel
theorem dX5_bring_76 : decode cX5_bring 76 = .ok (.putfield 41, 3) := by decide +kernel
theorem dX5_bring_79 : decode cX5_bring 79 = .ok (.return_, 1) := by decide +kernel
theorem dX6_init_0 : decode cX6_init 0 = .ok (.aload_n 0, 1) := by decide +kernel
theorem dX6_init_1 : decode cX6_init 1 = .ok (.invokespecial 3, 3) := by decide +kernel
theorem dX6_init_4 : decode cX6_init 4 = .ok (.aload_n 0, 1) := by decide +kernel
theorem dX6_init_5 : decode cX6_init 5 = .ok (.aload_n 1, 1) := by decide +kernel
theorem dX6_init_6 : decode cX6_init 6 = .ok (.putfield 9, 3) := by decide +kernel
theorem dX6_init_9 : decode cX6_init 9 = .ok (.aload_n 0, 1) := by decide +kernel
theorem dX6_init_10 : decode cX6_init 10 = .ok (.bipush 9, 2) := by decide +kernel
theorem dX6_init_12 : decode cX6_init 12 = .ok (.newarray .int, 2) := by decide +kernel
theorem dX6_init_14 : decode cX6_init 14 = .ok (.putfield 15, 3) := by decide +kernel
theorem dX6_init_17 : decode cX6_init 17 = .ok (.return_, 1) := by decide +kernel
set_option maxRecDepth 20000 in
theorem ggX7_init_X4_init : GoodIn wsX7_init wsX4_init := goodIn_r _ [32, 33, 2, 3, 28, 34, 35, 36, 90, 91, 92, 93, 94, 95, 96, 97] (by decide +kernel) (by decide +kernel)
set_option maxRecDepth 20000 in
theorem gX7_init_X4_init : GoodIn wsX7_init (wsX4_init) := ggX7_init_X4_init
set_option maxRecDepth 20000 in
theorem ggX7_init_X0_init : GoodIn wsX7_init wsX0_init := goodIn_r _ [39, 40, 2, 3, 41, 28, 42, 43, 44, 105, 106, 107, 108, 109, 110, 111, 112, 113] (by decide +kernel) (by decide +kernel)
set_option maxRecDepth 20000 in
theorem gX7_init_X0_init : GoodIn wsX7_init (wsX0_init) := ggX7_init_X0_init
set_option maxRecDepth 20000 in
theorem ggX7_init_X2_init : GoodIn wsX7_init wsX2_init := goodIn_r _ [47, 48, 2, 3, 49, 28, 50, 51, 52, 53, 114, 115, 116] (by decide +kernel) (by decide +kernel)
set_option maxRecDepth 20000 in
theorem gX7_init_X2_init : GoodIn wsX7_init (wsX2_init) := ggX7_init_X2_init
set_option maxRecDepth 20000 in
theorem ggX7_init_X6_init : GoodIn wsX7_init wsX6_init := goodIn_r _ [56, 57, 2, 3, 58, 28, 59, 117, 118] (by decide +kernel) (by decide +kernel)
set_option maxRecDepth 20000 in
theorem gX7_init_X6_init : GoodIn wsX7_init (wsX6_init) := ggX7_init_X6_init
set_option maxRecDepth 20000 in
theorem ggX7_init_X3_init : GoodIn wsX7_init wsX3_init := goodIn_r _ [62, 63, 2, 3, 64, 65, 66, 67, 68, 28, 69, 70, 71, 72, 73, 74, 75, 76, 77, 78, 79, 80, 81, 82, 119, 120, 121, 122, 123, 124, 125, 126, 127, 128, 132, 133, 134, 135, 136, 137, 138, 139, 140, 141] (by decide +kernel) (by decide +kernel)
set_option maxRecDepth 20000 in
theorem gX7_init_X3_init : GoodIn wsX7_init (wsX3_init) := ggX7_init_X3_init
set_option maxRecDepth 20000 in
theorem ggX7_init_X1_init : GoodIn wsX7_init wsX1_init := goodIn_r _ [85, 86, 2, 3, 87, 52, 88, 89, 129, 130, 131] (by decide +kernel) (by decide +kernel)
set_option maxRecDepth 20000 in
theorem gX7_init_X1_init : GoodIn wsX7_init (wsX1_init) := ggX7_init_X1_init
theorem dX7_init_0 : decode cX7_init 0 = .ok (.aload_n 0, 1) := by decide +kernel
theorem dX7_init_1 : decode cX7_init 1 = .ok (.invokespecial 1, 3) := by decide +kernel
theorem dX7_init_4 : decode cX7_init 4 = .ok (.aload_n 0, 1) := by decide +kernel
theorem dX7_init_5 : decode cX7_init 5 = .ok (.new 7, 3) := by decide +kernel
theorem dX7_init_8 : decode cX7_init 8 = .ok (.dup, 1) := by decide +kernel
theorem dX7_init_9 : decode cX7_init 9 = .ok (.invokespecial 9, 3) := by decide +kernel
theorem dX7_init_12 : decode cX7_init 12 = .ok (.putfield 10, 3) := by decide +kernel
theorem dX7_init_15 : decode cX7_init 15 = .ok (.aload_n 0, 1) := by decide +kernel
theorem dX7_init_16 : decode cX7_init 16 = .ok (.new 16, 3) := by decide +kernel
theorem dX7_init_19 : decode cX7_init 19 = .ok (.dup, 1) := by decide +kernel
theorem dX7_init_20 : decode cX7_init 20 = .ok (.aload_n 0, 1) := by decide +kernel
theorem dX7_init_21 : decode cX7_init 21 = .ok (.getfield 10, 3) := by decide +kernel
theorem dX7_init_24 : decode cX7_init 24 = .ok (.invokespecial 18, 3) := by decide +kernel
theorem dX7_init_27 : decode cX7_init 27 = .ok (.putfield 21, 3) := by decide +kernel
theorem dX7_init_30 : decode cX7_init 30 = .ok (.aload_n 0, 1) := by decide +kernel
theorem dX7_init_31 : decode cX7_init 31 = .ok (.new 25, 3) := by decide +kernel
theorem dX7_init_34 : decode cX7_init 34 = .ok (.dup, 1) := by decide +kernel
theorem dX7_init_35 : decode cX7_init 35 = .ok (.aload_n 0, 1) := by decide +kernel
theorem dX7_init_36 : decode cX7_init 36 = .ok (.getfield 10, 3) := by decide +kernel
theorem dX7_init_39 : decode cX7_init 39 = .ok (.invokespecial 27, 3) := by decide +kernel
theorem dX7_init_42 : decode cX7_init 42 = .ok (.putfield 28, 3) := by decide +kernel
theorem dX7_init_45 : decode cX7_init 45 = .ok (.aload_n 0, 1) := by decide +kernel
theorem dX7_init_46 : decode cX7_init 46 = .ok (.new 32, 3) := by decide +kernel
theorem dX7_init_49 : decode cX7_init 49 = .ok (.dup, 1) := by decide +kernel
theorem dX7_init_50 : decode cX7_init 50 = .ok (.aload_n 0, 1) := by decide +kernel
theorem dX7_init_51 : decode cX7_init 51 = .ok (.getfield 10, 3) := by decide +kernel
theorem dX7_init_54 : decode cX7_init 54 = .ok (.invokespecial 34, 3) := by decide +kernel
theorem dX7_init_57 : decode cX7_init 57 = .ok (.putfield 35, 3) := by decide +kernel
theorem dX7_init_60 : decode cX7_init 60 = .ok (.aload_n 0, 1) := by decide +kernel
theorem dX7_init_61 : decode cX7_init 61 = .ok (.new 39, 3) := by decide +kernel
theorem dX7_init_64 : decode cX7_init 64 = .ok (.dup, 1) := by decide +kernel
theorem dX7_init_65 : decode cX7_init 65 = .ok (.aload_n 0, 1) := by decide +kernel
theorem dX7_init_66 : decode cX7_init 66 = .ok (.getfield 10, 3) := by decide +kernel
theorem dX7_init_69 : decode cX7_init 69 = .ok (.invokespecial 41, 3) := by decide +kernel
theorem dX7_init_72 : decode cX7_init 72 = .ok (.putfield 42, 3) := by decide +kernel
theorem dX7_init_75 : decode cX7_init 75 = .ok (.aload_n 0, 1) := by decide +kernel
theorem dX7_init_76 : decode cX7_init 76 = .ok (.new 46, 3) := by decide +kernel
theorem dX7_init_79 : decode cX7_init 79 = .ok (.dup, 1) := by decide +kernel
theorem dX7_init_80 : decode cX7_init 80 = .ok (.invokespecial 48, 3) := by decide +kernel
theorem dX7_init_83 : decode cX7_init 83 = .ok (.putfield 49, 3) := by decide +kernel
theorem dX7_init_86 : decode cX7_init 86 = .ok (.aload_n 0, 1) := by decide +kernel
theorem dX7_init_87 : decode cX7_init 87 = .ok (.bipush 7, 2) := by decide +kernel
theorem dX7_init_89 : decode cX7_init 89 = .ok (.newarray .int, 2) := by decide +kernel
theorem dX7_init_91 : decode cX7_init 91 = .ok (.putfield 53, 3) := by decide +kernel
theorem dX7_init_94 : decode cX7_init 94 = .ok (.return_, 1) := by decide +kernel
set_option maxRecDepth 20000 in
theorem ggX7_node_X4_hasRoom : GoodIn wsX7_node wsX4_hasRoom := goodIn_r _ [9, 10, 11, 34, 35, 36, 37, 38, 39, 40, 41] (by decide +kernel) (by decide +kernel)
set_option maxRecDepth 20000 in
theorem gX7_node_X4_hasRoom : GoodIn wsX7_node (wsV RX7 57 RX4 yX4_hasRoom wsX4_hasRoom) := goodIn_app (goodIn_of _ (by decide +kernel)) ggX7_node_X4_hasRoom
set_option maxRecDepth 20000 in
theorem ggX7_node_X3_forget : GoodIn wsX7_node wsX3_forget := goodIn_r _ [16, 17, 42, 43, 44, 45, 46, 47, 48, 49, 50, 51] (by decide +kernel) (by decide +kernel)
set_option maxRecDepth 20000 in
theorem gX7_node_X3_forget : GoodIn wsX7_node (wsV RX7 68 RX3 yX3_forget wsX3_forget) := goodIn_app (goodIn_of _ (by decide +kernel)) ggX7_node_X3_forget
set_option maxRecDepth 20000 in
theorem ggX7_node_X4_addNode : GoodIn wsX7_node wsX4_addNode := goodIn_r _ [21, 10, 22, 23, 24, 25, 26, 34, 35, 36, 37, 38, 39, 40, 41] (by decide +kernel) (by decide +kernel)
set_option maxRecDepth 20000 in
theorem gX7_node_X4_addNode : GoodIn wsX7_node (wsV RX7 71 RX4 yX4_addNode wsX4_addNode) := goodIn_app (goodIn_of _ (by decide +kernel)) ggX7_node_X4_addNode
theorem dX7_node_0 : decode cX7_node 0 = .ok (.aload_n 0, 1) := by decide +kernel
theorem dX7_node_1 : decode cX7_node 1 = .ok (.getfield 10, 3) := by decide +kernel
theorem dX7_node_4 : decode cX7_node 4 = .ok (.iconst 1, 1) := by decide +kernel
theorem dX7_node_5 : decode cX7_node 5 = .ok (.iconst 0, 1) := by decide +kernel
theorem dX7_node_6 : decode cX7_node 6 = .ok (.invokevirtual 57, 3) := by decide +kernel
theorem dX7_node_9 : decode cX7_node 9 = .ok (.ifCond .ne 13, 3) := by decide +kernel
theorem dX7_node_12 : decode cX7_node 12 = .ok (.new 61, 3) := by decide +kernel
theorem dX7_node_15 : decode cX7_node 15 = .ok (.dup, 1) := by decide +kernel
theorem dX7_node_16 : decode cX7_node 16 = .ok (.ldc 63, 2) := by decide +kernel
theorem dX7_node_18 : decode cX7_node 18 = .ok (.invokespecial 65, 3) := by decide +kernel
theorem dX7_node_21 : decode cX7_node 21 = .ok (.athrow, 1) := by decide +kernel
theorem dX7_node_22 : decode cX7_node 22 = .ok (.aload_n 0, 1) := by decide +kernel
theorem dX7_node_23 : decode cX7_node 23 = .ok (.getfield 42, 3) := by decide +kernel
theorem dX7_node_26 : decode cX7_node 26 = .ok (.invokevirtual 68, 3) := by decide +kernel
theorem dX7_node_29 : decode cX7_node 29 = .ok (.aload_n 0, 1) := by decide +kernel
theorem dX7_node_30 : decode cX7_node 30 = .ok (.getfield 10, 3) := by decide +kernel
theorem dX7_node_33 : decode cX7_node 33 = .ok (.iload_n 1, 1) := by decide +kernel
theorem dX7_node_34 : decode cX7_node 34 = .ok (.invokevirtual 71, 3) := by decide +kernel
theorem dX7_node_37 : decode cX7_node 37 = .ok (.ireturn, 1) := by decide +kernel
set_option maxRecDepth 20000 in
theorem ggX7_wire_X7_needNode : GoodIn wsX7_wire wsX7_needNode := goodIn_ca (goodIn_r _ [12, 13, 14, 5, 15, 16, 17, 18, 19, 20, 21, 11, 22, 55, 56, 57, 58, 59, 60, 61, 62, 63, 64, 65, 66, 67, 68, 69] (by decide +kernel) (by decide +kernel)) (goodIn_sub (fun _ h => List.mem_cons_of_mem _ (List.mem_append_right _ h)) (by decide +kernel))
set_option maxRecDepth 20000 in
theorem gX7_wire_X7_needNode : GoodIn wsX7_wire (wsV RX7 75 RX7 yX7_needNode wsX7_needNode) := goodIn_app (goodIn_of _ (by decide +kernel)) ggX7_wire_X7_needNode
set_option maxRecDepth 20000 in
theorem ggX7_wire_X7_isConductance : GoodIn wsX7_wire wsX7_isConductance := goodIn_r _ [25] (by decide +kernel) (by decide +kernel)
set_option maxRecDepth 20000 in
theorem gX7_wire_X7_isConductance : GoodIn wsX7_wire (va_wsS RX7 79 yX7_isConductance wsX7_isConductance) := goodIn_app (goodIn_of _ (by decide +kernel)) ggX7_wire_X7_isConductance
set_option maxRecDepth 20000 in
theorem ggX7_wire_X4_hasRoom : GoodIn wsX7_wire wsX4_hasRoom := goodIn_r _ [29, 30, 31, 62, 63, 64, 65, 66, 67, 68, 69] (by decide +kernel) (by decide +kernel)
set_option maxRecDepth 20000 in
theorem gX7_wire_X4_hasRoom : GoodIn wsX7_wire (wsV RX7 57 RX4 yX4_hasRoom wsX4_hasRoom) := goodIn_app (goodIn_of _ (by decide +kernel)) ggX7_wire_X4_hasRoom
set_option maxRecDepth 20000 in
theorem ggX7_wire_J6_bitCount_0f7a4 : GoodIn wsX7_wire wsJ6_bitCount_0f7a4 := goodIn_r _ [35, 36, 37, 38] (by decide +kernel) (by decide +kernel)
set_option maxRecDepth 20000 in
theorem gX7_wire_J6_bitCount_0f7a4 : GoodIn wsX7_wire (va_wsS RX7 92 yJ6_bitCount_0f7a4 wsJ6_bitCount_0f7a4) := goodIn_app (goodIn_of _ (by decide +kernel)) ggX7_wire_J6_bitCount_0f7a4
set_option maxRecDepth 20000 in
theorem ggX7_wire_X3_forget : GoodIn wsX7_wire wsX3_forget := goodIn_r _ [43, 44, 70, 71, 72, 73, 74, 75, 76, 77, 78, 79] (by decide +kernel) (by decide +kernel)
set_option maxRecDepth 20000 in
theorem gX7_wire_X3_forget : GoodIn wsX7_wire (wsV RX7 68 RX3 yX3_forget wsX3_forget) := goodIn_app (goodIn_of _ (by decide +kernel)) ggX7_wire_X3_forget
set_option maxRecDepth 20000 in
theorem ggX7_wire_X4_addWire : GoodIn wsX7_wire wsX4_addWire := goodIn_r _ [48, 31, 49, 50, 51, 52, 53, 11, 54, 62, 63, 64, 65, 66, 67, 68, 69] (by decide +kernel) (by decide +kernel)
set_option maxRecDepth 20000 in
theorem gX7_wire_X4_addWire : GoodIn wsX7_wire (wsV RX7 100 RX4 yX4_addWire wsX4_addWire) := goodIn_app (goodIn_of _ (by decide +kernel)) ggX7_wire_X4_addWire
theorem dX7_wire_0 : decode cX7_wire 0 = .ok (.aload_n 0, 1) := by decide +kernel
theorem dX7_wire_1 : decode cX7_wire 1 = .ok (.iload_n 1, 1) := by decide +kernel
theorem dX7_wire_2 : decode cX7_wire 2 = .ok (.invokevirtual 75, 3) := by decide +kernel
theorem dX7_wire_5 : decode cX7_wire 5 = .ok (.aload_n 0, 1) := by decide +kernel
theorem dX7_wire_6 : decode cX7_wire 6 = .ok (.iload_n 2, 1) := by decide +kernel
theorem dX7_wire_7 : decode cX7_wire 7 = .ok (.invokevirtual 75, 3) := by decide +kernel
theorem dX7_wire_10 : decode cX7_wire 10 = .ok (.iload_n 3, 1) := by decide +kernel
theorem dX7_wire_11 : decode cX7_wire 11 = .ok (.invokestatic 79, 3) := by decide +kernel
theorem dX7_wire_14 : decode cX7_wire 14 = .ok (.ifCond .ne 13, 3) := by decide +kernel
theorem dX7_wire_17 : decode cX7_wire 17 = .ok (.new 83, 3) := by decide +kernel
theorem dX7_wire_20 : decode cX7_wire 20 = .ok (.dup, 1) := by decide +kernel
theorem dX7_wire_21 : decode cX7_wire 21 = .ok (.ldc 85, 2) := by decide +kernel
theorem dX7_wire_23 : decode cX7_wire 23 = .ok (.invokespecial 87, 3) := by decide +kernel
theorem dX7_wire_26 : decode cX7_wire 26 = .ok (.athrow, 1) := by decide +kernel
theorem dX7_wire_27 : decode cX7_wire 27 = .ok (.aload_n 0, 1) := by decide +kernel
theorem dX7_wire_28 : decode cX7_wire 28 = .ok (.getfield 10, 3) := by decide +kernel
theorem dX7_wire_31 : decode cX7_wire 31 = .ok (.iconst 0, 1) := by decide +kernel
theorem dX7_wire_32 : decode cX7_wire 32 = .ok (.iconst 1, 1) := by decide +kernel
theorem dX7_wire_33 : decode cX7_wire 33 = .ok (.invokevirtual 57, 3) := by decide +kernel
theorem dX7_wire_36 : decode cX7_wire 36 = .ok (.ifCond .eq 18, 3) := by decide +kernel
theorem dX7_wire_39 : decode cX7_wire 39 = .ok (.aload_n 0, 1) := by decide +kernel
theorem dX7_wire_40 : decode cX7_wire 40 = .ok (.getfield 10, 3) := by decide +kernel
theorem dX7_wire_43 : decode cX7_wire 43 = .ok (.getfield 88, 3) := by decide +kernel
theorem dX7_wire_46 : decode cX7_wire 46 = .ok (.invokestatic 92, 3) := by decide +kernel
theorem dX7_wire_49 : decode cX7_wire 49 = .ok (.bipush 12, 2) := by decide +kernel
theorem dX7_wire_51 : decode cX7_wire 51 = .ok (.if_icmp .lt 13, 3) := by decide +kernel
theorem dX7_wire_54 : decode cX7_wire 54 = .ok (.new 61, 3) := by decide +kernel
theorem dX7_wire_57 : decode cX7_wire 57 = .ok (.dup, 1) := by decide +kernel
theorem dX7_wire_58 : decode cX7_wire 58 = .ok (.ldc 98, 2) := by decide +kernel
theorem dX7_wire_60 : decode cX7_wire 60 = .ok (.invokespecial 65, 3) := by decide +kernel
theorem dX7_wire_63 : decode cX7_wire 63 = .ok (.athrow, 1) := by decide +kernel
theorem dX7_wire_64 : decode cX7_wire 64 = .ok (.aload_n 0, 1) := by decide +kernel
theorem dX7_wire_65 : decode cX7_wire 65 = .ok (.getfield 42, 3) := by decide +kernel
theorem dX7_wire_68 : decode cX7_wire 68 = .ok (.invokevirtual 68, 3) := by decide +kernel
theorem dX7_wire_71 : decode cX7_wire 71 = .ok (.aload_n 0, 1) := by decide +kernel
theorem dX7_wire_72 : decode cX7_wire 72 = .ok (.getfield 10, 3) := by decide +kernel
theorem dX7_wire_75 : decode cX7_wire 75 = .ok (.iload_n 1, 1) := by decide +kernel
theorem dX7_wire_76 : decode cX7_wire 76 = .ok (.iload_n 2, 1) := by decide +kernel
theorem dX7_wire_77 : decode cX7_wire 77 = .ok (.iload_n 3, 1) := by decide +kernel
theorem dX7_wire_78 : decode cX7_wire 78 = .ok (.invokevirtual 100, 3) := by decide +kernel
theorem dX7_wire_81 : decode cX7_wire 81 = .ok (.ireturn, 1) := by decide +kernel
set_option maxRecDepth 20000 in
theorem ggX7_wireIs_X7_needWire : GoodIn wsX7_wireIs wsX7_needWire := goodIn_ca (goodIn_r _ [8, 9, 10, 3, 11, 12, 13, 14, 15, 16, 17, 7, 18, 34, 35, 36, 37, 38, 39, 40, 41, 42, 43, 44, 45, 46, 47, 48] (by decide +kernel) (by decide +kernel)) (goodIn_sub (fun _ h => List.mem_cons_of_mem _ (List.mem_append_right _ h)) (by decide +kernel))
set_option maxRecDepth 20000 in
theorem gX7_wireIs_X7_needWire : GoodIn wsX7_wireIs (wsV RX7 104 RX7 yX7_needWire wsX7_needWire) := goodIn_app (goodIn_of _ (by decide +kernel)) ggX7_wireIs_X7_needWire
set_option maxRecDepth 20000 in
theorem ggX7_wireIs_X4_firstOf : GoodIn wsX7_wireIs wsX4_firstOf := goodIn_r _ [22, 23, 41, 42, 43, 44, 45, 46, 47, 48] (by decide +kernel) (by decide +kernel)
set_option maxRecDepth 20000 in
theorem gX7_wireIs_X4_firstOf : GoodIn wsX7_wireIs (wsV RX7 109 RX4 yX4_firstOf wsX4_firstOf) := goodIn_app (goodIn_of _ (by decide +kernel)) ggX7_wireIs_X4_firstOf
set_option maxRecDepth 20000 in
theorem ggX7_wireIs_X4_secondOf : GoodIn wsX7_wireIs wsX4_secondOf := goodIn_r _ [27, 28, 41, 42, 43, 44, 45, 46, 47, 48] (by decide +kernel) (by decide +kernel)
set_option maxRecDepth 20000 in
theorem gX7_wireIs_X4_secondOf : GoodIn wsX7_wireIs (wsV RX7 112 RX4 yX4_secondOf wsX4_secondOf) := goodIn_app (goodIn_of _ (by decide +kernel)) ggX7_wireIs_X4_secondOf
set_option maxRecDepth 20000 in
theorem ggX7_wireIs_X4_conductanceOf : GoodIn wsX7_wireIs wsX4_conductanceOf := goodIn_r _ [32, 33, 41, 42, 43, 44, 45, 46, 47, 48] (by decide +kernel) (by decide +kernel)
set_option maxRecDepth 20000 in
theorem gX7_wireIs_X4_conductanceOf : GoodIn wsX7_wireIs (wsV RX7 115 RX4 yX4_conductanceOf wsX4_conductanceOf) := goodIn_app (goodIn_of _ (by decide +kernel)) ggX7_wireIs_X4_conductanceOf
theorem dX7_wireIs_0 : decode cX7_wireIs 0 = .ok (.aload_n 0, 1) := by decide +kernel
theorem dX7_wireIs_1 : decode cX7_wireIs 1 = .ok (.iload_n 1, 1) := by decide +kernel
theorem dX7_wireIs_2 : decode cX7_wireIs 2 = .ok (.invokevirtual 104, 3) := by decide +kernel
theorem dX7_wireIs_5 : decode cX7_wireIs 5 = .ok (.iload_n 2, 1) := by decide +kernel
theorem dX7_wireIs_6 : decode cX7_wireIs 6 = .ok (.ifCond .lt 8, 3) := by decide +kernel
theorem dX7_wireIs_9 : decode cX7_wireIs 9 = .ok (.iload_n 2, 1) := by decide +kernel
theorem dX7_wireIs_10 : decode cX7_wireIs 10 = .ok (.iconst 2, 1) := by decide +kernel
theorem dX7_wireIs_11 : decode cX7_wireIs 11 = .ok (.if_icmp .le 13, 3) := by decide +kernel
theorem dX7_wireIs_14 : decode cX7_wireIs 14 = .ok (.new 83, 3) := by decide +kernel
theorem dX7_wireIs_17 : decode cX7_wireIs 17 = .ok (.dup, 1) := by decide +kernel
theorem dX7_wireIs_18 : decode cX7_wireIs 18 = .ok (.ldc 107, 2) := by decide +kernel
theorem dX7_wireIs_20 : decode cX7_wireIs 20 = .ok (.invokespecial 87, 3) := by decide +kernel
theorem dX7_wireIs_23 : decode cX7_wireIs 23 = .ok (.athrow, 1) := by decide +kernel
theorem dX7_wireIs_24 : decode cX7_wireIs 24 = .ok (.iload_n 2, 1) := by decide +kernel
theorem dX7_wireIs_25 : decode cX7_wireIs 25 = .ok (.ifCond .ne 12, 3) := by decide +kernel
theorem dX7_wireIs_28 : decode cX7_wireIs 28 = .ok (.aload_n 0, 1) := by decide +kernel
theorem dX7_wireIs_29 : decode cX7_wireIs 29 = .ok (.getfield 10, 3) := by decide +kernel
theorem dX7_wireIs_32 : decode cX7_wireIs 32 = .ok (.iload_n 1, 1) := by decide +kernel
theorem dX7_wireIs_33 : decode cX7_wireIs 33 = .ok (.invokevirtual 109, 3) := by decide +kernel
theorem dX7_wireIs_36 : decode cX7_wireIs 36 = .ok (.ireturn, 1) := by decide +kernel
theorem dX7_wireIs_37 : decode cX7_wireIs 37 = .ok (.iload_n 2, 1) := by decide +kernel
theorem dX7_wireIs_38 : decode cX7_wireIs 38 = .ok (.iconst 1, 1) := by decide +kernel
theorem dX7_wireIs_39 : decode cX7_wireIs 39 = .ok (.if_icmp .ne 14, 3) := by decide +kernel
theorem dX7_wireIs_42 : decode cX7_wireIs 42 = .ok (.aload_n 0, 1) := by decide +kernel
theorem dX7_wireIs_43 : decode cX7_wireIs 43 = .ok (.getfield 10, 3) := by decide +kernel
theorem dX7_wireIs_46 : decode cX7_wireIs 46 = .ok (.iload_n 1, 1) := by decide +kernel
theorem dX7_wireIs_47 : decode cX7_wireIs 47 = .ok (.invokevirtual 112, 3) := by decide +kernel
theorem dX7_wireIs_50 : decode cX7_wireIs 50 = .ok (.goto 11, 3) := by decide +kernel
theorem dX7_wireIs_53 : decode cX7_wireIs 53 = .ok (.aload_n 0, 1) := by decide +kernel
theorem dX7_wireIs_54 : decode cX7_wireIs 54 = .ok (.getfield 10, 3) := by decide +kernel
theorem dX7_wireIs_57 : decode cX7_wireIs 57 = .ok (.iload_n 1, 1) := by decide +kernel
theorem dX7_wireIs_58 : decode cX7_wireIs 58 = .ok (.invokevirtual 115, 3) := by decide +kernel
theorem dX7_wireIs_61 : decode cX7_wireIs 61 = .ok (.ireturn, 1) := by decide +kernel
theorem dX7_nodes_0 : decode cX7_nodes 0 = .ok (.aload_n 0, 1) := by decide +kernel
theorem dX7_nodes_1 : decode cX7_nodes 1 = .ok (.getfield 10, 3) := by decide +kernel
theorem dX7_nodes_4 : decode cX7_nodes 4 = .ok (.getfield 118, 3) := by decide +kernel
theorem dX7_nodes_7 : decode cX7_nodes 7 = .ok (.ireturn, 1) := by decide +kernel
theorem dX7_wires_0 : decode cX7_wires 0 = .ok (.aload_n 0, 1) := by decide +kernel
theorem dX7_wires_1 : decode cX7_wires 1 = .ok (.getfield 10, 3) := by decide +kernel
theorem dX7_wires_4 : decode cX7_wires 4 = .ok (.getfield 88, 3) := by decide +kernel
theorem dX7_wires_7 : decode cX7_wires 7 = .ok (.ireturn, 1) := by decide +kernel
set_option maxRecDepth 20000 in
theorem ggX7_trees_X7_countTrees : GoodIn wsX7_trees wsX7_countTrees := goodIn_r _ [5, 6, 7, 8, 9, 10, 11, 12, 13, 14, 15, 16, 17, 18, 4, 19, 20, 21, 22, 23, 24, 25, 26, 27, 28, 29, 30, 31, 32, 33, 34, 35, 36, 37, 38, 39, 40, 41, 42, 43, 44, 45, 46, 47, 48, 49, 50, 51, 52, 53, 54, 55, 56, 57, 58, 59, 60, 61, 62, 63, 64, 65, 66, 67, 68, 69, 70, 71, 72, 73, 74, 75, 76, 77, 78, 79, 80, 81, 82, 83, 84, 85, 86, 87, 88, 89, 90, 91, 92, 93, 94, 95, 96, 97, 98, 99, 100, 101, 102, 103, 104, 105, 106, 107, 108, 109, 110, 111, 112, 113, 114, 115, 116, 117, 118, 119, 120] (by decide +kernel) (by decide +kernel)
set_option maxRecDepth 20000 in
theorem gX7_trees_X7_countTrees : GoodIn wsX7_trees (wsV RX7 121 RX7 yX7_countTrees wsX7_countTrees) := goodIn_app (goodIn_of _ (by decide +kernel)) ggX7_trees_X7_countTrees
theorem dX7_trees_0 : decode cX7_trees 0 = .ok (.aload_n 0, 1) := by decide +kernel
theorem dX7_trees_1 : decode cX7_trees 1 = .ok (.invokevirtual 121, 3) := by decide +kernel
theorem dX7_trees_4 : decode cX7_trees 4 = .ok (.lreturn, 1) := by decide +kernel
set_option maxRecDepth 20000 in
theorem ggX7_treesAnew_X2_countTreesAgain : GoodIn wsX7_treesAnew wsX2_countTreesAgain := goodIn_r _ [6, 7, 8, 9, 10, 11, 12, 13, 14, 15, 16, 17, 18, 19, 20, 21, 22, 23, 24, 5, 25, 26, 27, 28, 29, 30, 31, 32, 33, 34, 35, 36, 37, 38, 39, 40, 41, 42, 43, 44, 45, 46, 47, 48, 49, 50, 51, 52, 53, 54, 55, 56, 57, 58, 59, 60, 61, 62, 63, 64, 65, 66, 67, 68, 69, 70, 71, 72, 73, 74, 82, 83, 84, 85, 86, 87, 88, 89, 90, 91, 92] (by decide +kernel) (by decide +kernel)
set_option maxRecDepth 20000 in
theorem gX7_treesAnew_X2_countTreesAgain : GoodIn wsX7_treesAnew (wsV RX7 125 RX2 yX2_countTreesAgain wsX2_countTreesAgain) := goodIn_app (goodIn_of _ (by decide +kernel)) ggX7_treesAnew_X2_countTreesAgain
theorem dX7_treesAnew_0 : decode cX7_treesAnew 0 = .ok (.aload_n 0, 1) := by decide +kernel
theorem dX7_treesAnew_1 : decode cX7_treesAnew 1 = .ok (.getfield 28, 3) := by decide +kernel
theorem dX7_treesAnew_4 : decode cX7_treesAnew 4 = .ok (.invokevirtual 125, 3) := by decide +kernel
theorem dX7_treesAnew_7 : decode cX7_treesAnew 7 = .ok (.lreturn, 1) := by decide +kernel
set_option maxRecDepth 20000 in
theorem ggX7_tree_X0_treeAt : GoodIn wsX7_tree wsX0_treeAt := goodIn_r _ [8, 9, 10, 11, 12, 13, 14, 15, 16, 17, 18, 19, 20, 21, 22, 23, 24, 25, 26, 27, 28, 29, 7, 30, 31, 32, 33, 34, 35, 36, 37, 38, 39, 40, 41, 42, 43, 44, 45, 46, 47, 48, 49, 50, 51, 52, 53, 54, 55, 56, 57, 58, 59, 60, 61, 62, 63, 64, 65, 66, 67, 68, 69, 70, 71, 72, 73, 74, 75, 76, 77, 78, 86, 87, 88, 89, 90, 91, 92, 93, 94, 95, 96, 97, 98, 99, 100, 101, 102] (by decide +kernel) (by decide +kernel)
set_option maxRecDepth 20000 in
theorem gX7_tree_X0_treeAt : GoodIn wsX7_tree (wsV RX7 130 RX0 yX0_treeAt wsX0_treeAt) := goodIn_app (goodIn_of _ (by decide +kernel)) ggX7_tree_X0_treeAt
theorem dX7_tree_0 : decode cX7_tree 0 = .ok (.iload_n 1, 1) := by decide +kernel
theorem dX7_tree_1 : decode cX7_tree 1 = .ok (.ifCond .ge 13, 3) := by decide +kernel
theorem dX7_tree_4 : decode cX7_tree 4 = .ok (.new 83, 3) := by decide +kernel
theorem dX7_tree_7 : decode cX7_tree 7 = .ok (.dup, 1) := by decide +kernel
theorem dX7_tree_8 : decode cX7_tree 8 = .ok (.ldc 128, 2) := by decide +kernel
theorem dX7_tree_10 : decode cX7_tree 10 = .ok (.invokespecial 87, 3) := by decide +kernel
theorem dX7_tree_13 : decode cX7_tree 13 = .ok (.athrow, 1) := by decide +kernel
theorem dX7_tree_14 : decode cX7_tree 14 = .ok (.aload_n 0, 1) := by decide +kernel
theorem dX7_tree_15 : decode cX7_tree 15 = .ok (.getfield 21, 3) := by decide +kernel
theorem dX7_tree_18 : decode cX7_tree 18 = .ok (.iload_n 1, 1) := by decide +kernel
theorem dX7_tree_19 : decode cX7_tree 19 = .ok (.invokevirtual 130, 3) := by decide +kernel
theorem dX7_tree_22 : decode cX7_tree 22 = .ok (.ireturn, 1) := by decide +kernel
set_option maxRecDepth 20000 in
theorem ggX7_rest_X7_countRest : GoodIn wsX7_rest wsX7_countRest := goodIn_r _ [5, 6, 7, 8, 9, 10, 11, 12, 13, 14, 15, 16, 17, 18, 19, 20, 21, 22, 23, 24, 25, 26, 27, 28, 29, 30, 31, 32, 33, 34, 35, 36, 37, 38, 39, 40, 41, 42, 43, 44, 4, 45, 46, 47, 48, 49, 50, 51, 52, 53, 54, 55, 56, 57, 58, 59, 60, 61, 62, 63, 64, 65, 66, 67, 68, 69, 70, 71, 72, 73, 74, 75, 76, 77, 78, 79, 80, 81, 82, 83, 84, 85, 86, 87, 88, 89, 90, 91, 92, 93, 94, 95, 96, 97, 98, 99, 100, 101, 102, 103, 104, 105, 106, 107, 108, 109, 110, 111] (by decide +kernel) (by decide +kernel)
set_option maxRecDepth 20000 in
theorem gX7_rest_X7_countRest : GoodIn wsX7_rest (wsV RX7 133 RX7 yX7_countRest wsX7_countRest) := goodIn_app (goodIn_of _ (by decide +kernel)) ggX7_rest_X7_countRest
theorem dX7_rest_0 : decode cX7_rest 0 = .ok (.aload_n 0, 1) := by decide +kernel
theorem dX7_rest_1 : decode cX7_rest 1 = .ok (.invokevirtual 133, 3) := by decide +kernel
theorem dX7_rest_4 : decode cX7_rest 4 = .ok (.lreturn, 1) := by decide +kernel
set_option maxRecDepth 20000 in
theorem ggX7_answer_X7_needEdge : GoodIn wsX7_answer wsX7_needEdge := goodIn_ca (goodIn_r _ [7, 8, 9, 10, 11, 12, 13, 14, 15, 16, 17, 18, 19, 20, 21, 22, 6, 23, 122, 123, 124, 125, 126, 127, 128, 129, 130, 131, 132, 133, 134, 135, 136] (by decide +kernel) (by decide +kernel)) (goodIn_sub (fun _ h => List.mem_cons_of_mem _ (List.mem_append_right _ h)) (by decide +kernel))
set_option maxRecDepth 20000 in
theorem gX7_answer_X7_needEdge : GoodIn wsX7_answer (wsV RX7 136 RX7 yX7_needEdge wsX7_needEdge) := goodIn_app (goodIn_of _ (by decide +kernel)) ggX7_answer_X7_needEdge
set_option maxRecDepth 20000 in
theorem ggX7_answer_X7_upperOfAnswer : GoodIn wsX7_answer wsX7_upperOfAnswer := goodIn_r _ [27, 28, 10, 29, 30, 31, 6, 32, 33, 34, 35, 36, 37, 38, 39, 40, 41, 42, 43, 44, 45, 46, 47, 48, 49, 50, 51, 52, 53, 54, 55, 56, 57, 58, 59, 60, 14, 61, 62, 22, 23, 63, 64, 65, 66, 67, 68, 69, 70, 71, 72, 73, 74, 75, 76, 77, 78, 79, 80, 81, 82, 83, 84, 85, 86, 87, 88, 89, 90, 91, 92, 93, 94, 95, 96, 97, 98, 99, 100, 101, 102, 122, 123, 124, 125, 126, 127, 128, 129, 130, 131, 132, 133, 134, 135, 136, 137, 138, 139, 140, 141, 142, 143, 144, 145] (by decide +kernel) (by decide +kernel)
set_option maxRecDepth 20000 in
theorem gX7_answer_X7_upperOfAnswer : GoodIn wsX7_answer (wsV RX7 141 RX7 yX7_upperOfAnswer wsX7_upperOfAnswer) := goodIn_app (goodIn_of _ (by decide +kernel)) ggX7_answer_X7_upperOfAnswer
set_option maxRecDepth 20000 in
theorem ggX7_answer_X7_countRest : GoodIn wsX7_answer wsX7_countRest := goodIn_r _ [106, 28, 10, 29, 107, 108, 109, 36, 110, 111, 34, 35, 37, 38, 39, 40, 41, 42, 43, 44, 45, 46, 47, 48, 49, 50, 51, 52, 53, 54, 55, 56, 57, 58, 59, 60, 14, 61, 62, 22, 6, 23, 63, 64, 65, 66, 67, 68, 69, 70, 71, 72, 73, 74, 75, 76, 31, 32, 77, 78, 79, 80, 81, 82, 83, 84, 85, 86, 87, 88, 89, 90, 91, 92, 93, 94, 95, 96, 97, 98, 99, 100, 101, 102, 122, 123, 124, 125, 126, 127, 128, 129, 130, 131, 132, 133, 134, 135, 136, 137, 138, 139, 140, 141, 142, 143, 144, 145] (by decide +kernel) (by decide +kernel)
set_option maxRecDepth 20000 in
theorem gX7_answer_X7_countRest : GoodIn wsX7_answer (wsV RX7 133 RX7 yX7_countRest wsX7_countRest) := goodIn_app (goodIn_of _ (by decide +kernel)) ggX7_answer_X7_countRest
set_option maxRecDepth 20000 in
theorem ggX7_answer_X7_partOf : GoodIn wsX7_answer wsX7_partOf := goodIn_r _ [114, 115, 116, 117, 118, 119, 120, 6, 121] (by decide +kernel) (by decide +kernel)
set_option maxRecDepth 20000 in
theorem gX7_answer_X7_partOf : GoodIn wsX7_answer (va_wsS RX7 145 yX7_partOf wsX7_partOf) := goodIn_app (goodIn_of _ (by decide +kernel)) ggX7_answer_X7_partOf
theorem dX7_answer_0 : decode cX7_answer 0 = .ok (.aload_n 0, 1) := by decide +kernel
theorem dX7_answer_1 : decode cX7_answer 1 = .ok (.iload_n 1, 1) := by decide +kernel
theorem dX7_answer_2 : decode cX7_answer 2 = .ok (.invokevirtual 136, 3) := by decide +kernel
theorem dX7_answer_5 : decode cX7_answer 5 = .ok (.aload_n 0, 1) := by decide +kernel
theorem dX7_answer_6 : decode cX7_answer 6 = .ok (.iload_n 2, 1) := by decide +kernel
theorem dX7_answer_7 : decode cX7_answer 7 = .ok (.invokevirtual 136, 3) := by decide +kernel
theorem dX7_answer_10 : decode cX7_answer 10 = .ok (.iload_n 1, 1) := by decide +kernel
theorem dX7_answer_11 : decode cX7_answer 11 = .ok (.iload_n 2, 1) := by decide +kernel
theorem dX7_answer_12 : decode cX7_answer 12 = .ok (.if_icmp .ne 13, 3) := by decide +kernel
theorem dX7_answer_15 : decode cX7_answer 15 = .ok (.new 83, 3) := by decide +kernel
theorem dX7_answer_18 : decode cX7_answer 18 = .ok (.dup, 1) := by decide +kernel
theorem dX7_answer_19 : decode cX7_answer 19 = .ok (.ldc 139, 2) := by decide +kernel
theorem dX7_answer_21 : decode cX7_answer 21 = .ok (.invokespecial 87, 3) := by decide +kernel
theorem dX7_answer_24 : decode cX7_answer 24 = .ok (.athrow, 1) := by decide +kernel
theorem dX7_answer_25 : decode cX7_answer 25 = .ok (.aload_n 0, 1) := by decide +kernel
theorem dX7_answer_26 : decode cX7_answer 26 = .ok (.iload_n 1, 1) := by decide +kernel
theorem dX7_answer_27 : decode cX7_answer 27 = .ok (.iload_n 2, 1) := by decide +kernel
theorem dX7_answer_28 : decode cX7_answer 28 = .ok (.invokevirtual 141, 3) := by decide +kernel
theorem dX7_answer_31 : decode cX7_answer 31 = .ok (.aload_n 0, 1) := by decide +kernel
theorem dX7_answer_32 : decode cX7_answer 32 = .ok (.invokevirtual 133, 3) := by decide +kernel
theorem dX7_answer_35 : decode cX7_answer 35 = .ok (.iload_n 3, 1) := by decide +kernel
theorem dX7_answer_36 : decode cX7_answer 36 = .ok (.invokestatic 145, 3) := by decide +kernel
theorem dX7_answer_39 : decode cX7_answer 39 = .ok (.lreturn, 1) := by decide +kernel
set_option maxRecDepth 20000 in
theorem ggX7_value_X7_needEdge : GoodIn wsX7_value wsX7_needEdge := goodIn_ca (goodIn_r _ [7, 8, 9, 10, 11, 12, 13, 14, 15, 16, 17, 18, 19, 20, 21, 22, 6, 23, 29, 30, 31, 32, 33, 34, 35, 36, 37, 38, 39, 40, 41, 42, 43] (by decide +kernel) (by decide +kernel)) (goodIn_sub (fun _ h => List.mem_cons_of_mem _ (List.mem_append_right _ h)) (by decide +kernel))
set_option maxRecDepth 20000 in
theorem gX7_value_X7_needEdge : GoodIn wsX7_value (wsV RX7 136 RX7 yX7_needEdge wsX7_needEdge) := goodIn_app (goodIn_of _ (by decide +kernel)) ggX7_value_X7_needEdge
set_option maxRecDepth 20000 in
theorem ggX7_value_X7_setValue : GoodIn wsX7_value wsX7_setValue := goodIn_r _ [27, 28, 29, 30, 31, 32, 33, 34, 35] (by decide +kernel) (by decide +kernel)
set_option maxRecDepth 20000 in
theorem gX7_value_X7_setValue : GoodIn wsX7_value (wsV RX7 151 RX7 yX7_setValue wsX7_setValue) := goodIn_app (goodIn_of _ (by decide +kernel)) ggX7_value_X7_setValue
theorem dX7_value_0 : decode cX7_value 0 = .ok (.aload_n 0, 1) := by decide +kernel
theorem dX7_value_1 : decode cX7_value 1 = .ok (.iload_n 1, 1) := by decide +kernel
theorem dX7_value_2 : decode cX7_value 2 = .ok (.invokevirtual 136, 3) := by decide +kernel
theorem dX7_value_5 : decode cX7_value 5 = .ok (.iload_n 2, 1) := by decide +kernel
theorem dX7_value_6 : decode cX7_value 6 = .ok (.bipush (-99), 2) := by decide +kernel
theorem dX7_value_8 : decode cX7_value 8 = .ok (.if_icmp .lt 9, 3) := by decide +kernel
theorem dX7_value_11 : decode cX7_value 11 = .ok (.iload_n 2, 1) := by decide +kernel
theorem dX7_value_12 : decode cX7_value 12 = .ok (.bipush 99, 2) := by decide +kernel
theorem dX7_value_14 : decode cX7_value 14 = .ok (.if_icmp .le 13, 3) := by decide +kernel
theorem dX7_value_17 : decode cX7_value 17 = .ok (.new 83, 3) := by decide +kernel
theorem dX7_value_20 : decode cX7_value 20 = .ok (.dup, 1) := by decide +kernel
theorem dX7_value_21 : decode cX7_value 21 = .ok (.ldc 149, 2) := by decide +kernel
theorem dX7_value_23 : decode cX7_value 23 = .ok (.invokespecial 87, 3) := by decide +kernel
theorem dX7_value_26 : decode cX7_value 26 = .ok (.athrow, 1) := by decide +kernel
theorem dX7_value_27 : decode cX7_value 27 = .ok (.aload_n 0, 1) := by decide +kernel
theorem dX7_value_28 : decode cX7_value 28 = .ok (.iload_n 1, 1) := by decide +kernel
theorem dX7_value_29 : decode cX7_value 29 = .ok (.iload_n 2, 1) := by decide +kernel
theorem dX7_value_30 : decode cX7_value 30 = .ok (.invokevirtual 151, 3) := by decide +kernel
theorem dX7_value_33 : decode cX7_value 33 = .ok (.return_, 1) := by decide +kernel
set_option maxRecDepth 20000 in
theorem ggX7_potential_X7_needNode : GoodIn wsX7_potential wsX7_needNode := goodIn_ca (goodIn_r _ [6, 7, 8, 1, 9, 10, 11, 12, 13, 14, 15, 5, 16, 125, 126, 127, 128, 129, 130, 131, 132, 133, 134, 135, 136, 137, 138, 139] (by decide +kernel) (by decide +kernel)) (goodIn_sub (fun _ h => List.mem_cons_of_mem _ (List.mem_append_right _ h)) (by decide +kernel))
set_option maxRecDepth 20000 in
theorem gX7_potential_X7_needNode : GoodIn wsX7_potential (wsV RX7 75 RX7 yX7_needNode wsX7_needNode) := goodIn_app (goodIn_of _ (by decide +kernel)) ggX7_potential_X7_needNode
set_option maxRecDepth 20000 in
theorem ggX7_potential_X4_hasEdge : GoodIn wsX7_potential wsX4_hasEdge := goodIn_r _ [20, 21, 22, 10, 11, 12, 13, 14, 15, 5, 16, 132, 133, 134, 135, 136, 137, 138, 139] (by decide +kernel) (by decide +kernel)
set_option maxRecDepth 20000 in
theorem gX7_potential_X4_hasEdge : GoodIn wsX7_potential (wsV RX7 155 RX4 yX4_hasEdge wsX4_hasEdge) := goodIn_app (goodIn_of _ (by decide +kernel)) ggX7_potential_X4_hasEdge
set_option maxRecDepth 20000 in
theorem ggX7_potential_X7_valueOf : GoodIn wsX7_potential wsX7_valueOf := goodIn_r _ [26, 27, 125, 126, 127, 128, 129, 130, 131] (by decide +kernel) (by decide +kernel)
set_option maxRecDepth 20000 in
theorem gX7_potential_X7_valueOf : GoodIn wsX7_potential (wsV RX7 158 RX7 yX7_valueOf wsX7_valueOf) := goodIn_app (goodIn_of _ (by decide +kernel)) ggX7_potential_X7_valueOf
set_option maxRecDepth 20000 in
theorem ggX7_potential_X7_partOf : GoodIn wsX7_potential wsX7_partOf := goodIn_r _ [30, 31, 32, 33, 34, 35, 36, 5, 37] (by decide +kernel) (by decide +kernel)
set_option maxRecDepth 20000 in
theorem gX7_potential_X7_partOf : GoodIn wsX7_potential (va_wsS RX7 145 yX7_partOf wsX7_partOf) := goodIn_app (goodIn_of _ (by decide +kernel)) ggX7_potential_X7_partOf
set_option maxRecDepth 20000 in
theorem ggX7_potential_X7_upperOfPotential : GoodIn wsX7_potential wsX7_upperOfPotential := goodIn_r _ [41, 1, 42, 43, 17, 18, 19, 12, 20, 21, 22, 10, 11, 13, 14, 15, 5, 16, 23, 24, 25, 26, 27, 44, 45, 46, 47, 48, 49, 50, 51, 52, 53, 54, 55, 56, 57, 58, 59, 60, 61, 62, 63, 64, 65, 66, 67, 68, 69, 70, 71, 72, 73, 74, 75, 76, 77, 78, 79, 80, 81, 82, 83, 84, 85, 86, 87, 88, 89, 90, 91, 92, 93, 94, 95, 96, 97, 98, 99, 100, 101, 102, 103, 104, 105, 106, 107, 108, 109, 110, 111, 112, 113, 114, 115, 125, 126, 127, 128, 129, 130, 131, 132, 133, 134, 135, 136, 137, 138, 139, 140, 141, 142, 143, 144, 145, 146, 147, 148] (by decide +kernel) (by decide +kernel)
set_option maxRecDepth 20000 in
theorem gX7_potential_X7_upperOfPotential : GoodIn wsX7_potential (wsV RX7 162 RX7 yX7_upperOfPotential wsX7_upperOfPotential) := goodIn_app (goodIn_of _ (by decide +kernel)) ggX7_potential_X7_upperOfPotential
set_option maxRecDepth 20000 in
theorem ggX7_potential_X7_countRest : GoodIn wsX7_potential wsX7_countRest := goodIn_r _ [119, 42, 1, 43, 120, 121, 122, 47, 123, 124, 45, 46, 48, 49, 50, 51, 52, 53, 54, 55, 56, 57, 58, 59, 60, 61, 62, 63, 64, 65, 66, 67, 68, 69, 70, 71, 12, 72, 73, 15, 5, 16, 74, 75, 76, 77, 78, 79, 80, 81, 82, 83, 84, 85, 86, 87, 88, 89, 90, 91, 92, 93, 94, 95, 96, 97, 98, 99, 100, 101, 102, 103, 104, 105, 106, 107, 108, 109, 110, 111, 112, 113, 114, 115, 125, 126, 127, 128, 129, 130, 131, 132, 133, 134, 135, 136, 137, 138, 139, 140, 141, 142, 143, 144, 145, 146, 147, 148] (by decide +kernel) (by decide +kernel)
set_option maxRecDepth 20000 in
theorem gX7_potential_X7_countRest : GoodIn wsX7_potential (wsV RX7 133 RX7 yX7_countRest wsX7_countRest) := goodIn_app (goodIn_of _ (by decide +kernel)) ggX7_potential_X7_countRest
theorem dX7_potential_0 : decode cX7_potential 0 = .ok (.aload_n 0, 1) := by decide +kernel
theorem dX7_potential_1 : decode cX7_potential 1 = .ok (.iload_n 1, 1) := by decide +kernel
theorem dX7_potential_2 : decode cX7_potential 2 = .ok (.invokevirtual 75, 3) := by decide +kernel
theorem dX7_potential_5 : decode cX7_potential 5 = .ok (.aload_n 0, 1) := by decide +kernel
theorem dX7_potential_6 : decode cX7_potential 6 = .ok (.getfield 10, 3) := by decide +kernel
theorem dX7_potential_9 : decode cX7_potential 9 = .ok (.iload_n 1, 1) := by decide +kernel
theorem dX7_potential_10 : decode cX7_potential 10 = .ok (.invokevirtual 155, 3) := by decide +kernel
theorem dX7_potential_13 : decode cX7_potential 13 = .ok (.ifCond .eq 14, 3) := by decide +kernel
theorem dX7_potential_16 : decode cX7_potential 16 = .ok (.aload_n 0, 1) := by decide +kernel
theorem dX7_potential_17 : decode cX7_potential 17 = .ok (.iload_n 1, 1) := by decide +kernel
theorem dX7_potential_18 : decode cX7_potential 18 = .ok (.invokevirtual 158, 3) := by decide +kernel
theorem dX7_potential_21 : decode cX7_potential 21 = .ok (.lconst 1, 1) := by decide +kernel
theorem dX7_potential_22 : decode cX7_potential 22 = .ok (.iload_n 2, 1) := by decide +kernel
theorem dX7_potential_23 : decode cX7_potential 23 = .ok (.invokestatic 145, 3) := by decide +kernel
theorem dX7_potential_26 : decode cX7_potential 26 = .ok (.lreturn, 1) := by decide +kernel
theorem dX7_potential_27 : decode cX7_potential 27 = .ok (.aload_n 0, 1) := by decide +kernel
theorem dX7_potential_28 : decode cX7_potential 28 = .ok (.iload_n 1, 1) := by decide +kernel
theorem dX7_potential_29 : decode cX7_potential 29 = .ok (.invokevirtual 162, 3) := by decide +kernel
theorem dX7_potential_32 : decode cX7_potential 32 = .ok (.aload_n 0, 1) := by decide +kernel
theorem dX7_potential_33 : decode cX7_potential 33 = .ok (.invokevirtual 133, 3) := by decide +kernel
theorem dX7_potential_36 : decode cX7_potential 36 = .ok (.iload_n 2, 1) := by decide +kernel
theorem dX7_potential_37 : decode cX7_potential 37 = .ok (.invokestatic 145, 3) := by decide +kernel
theorem dX7_potential_40 : decode cX7_potential 40 = .ok (.lreturn, 1) := by decide +kernel
set_option maxRecDepth 20000 in
theorem ggX7_current_X7_needEdge : GoodIn wsX7_current wsX7_needEdge := goodIn_ca (goodIn_r _ [5, 6, 7, 8, 9, 10, 11, 12, 13, 14, 15, 16, 17, 18, 19, 20, 4, 21, 129, 130, 131, 132, 133, 134, 135, 136, 137, 138, 139, 140, 141, 142, 143] (by decide +kernel) (by decide +kernel)) (goodIn_sub (fun _ h => List.mem_cons_of_mem _ (List.mem_append_right _ h)) (by decide +kernel))
set_option maxRecDepth 20000 in
theorem gX7_current_X7_needEdge : GoodIn wsX7_current (wsV RX7 136 RX7 yX7_needEdge wsX7_needEdge) := goodIn_app (goodIn_of _ (by decide +kernel)) ggX7_current_X7_needEdge
set_option maxRecDepth 20000 in
theorem ggX7_current_X7_upperOfCurrent : GoodIn wsX7_current wsX7_upperOfCurrent := goodIn_r _ [25, 8, 9, 10, 11, 12, 13, 14, 15, 16, 17, 18, 19, 20, 4, 21, 26, 27, 28, 29, 30, 31, 32, 33, 34, 35, 36, 37, 38, 39, 40, 41, 42, 43, 44, 45, 46, 47, 48, 49, 50, 51, 52, 53, 54, 55, 56, 57, 58, 59, 60, 61, 62, 63, 64, 65, 66, 67, 68, 69, 70, 71, 72, 73, 74, 75, 76, 77, 78, 79, 80, 81, 82, 83, 84, 85, 86, 87, 88, 89, 90, 91, 92, 93, 94, 95, 96, 97, 98, 99, 100, 101, 102, 103, 104, 105, 106, 107, 108, 109, 129, 130, 131, 132, 133, 134, 135, 136, 137, 138, 139, 140, 141, 142, 143, 144, 145, 146, 147, 148, 149, 150, 151, 152] (by decide +kernel) (by decide +kernel)
set_option maxRecDepth 20000 in
theorem gX7_current_X7_upperOfCurrent : GoodIn wsX7_current (wsV RX7 165 RX7 yX7_upperOfCurrent wsX7_upperOfCurrent) := goodIn_app (goodIn_of _ (by decide +kernel)) ggX7_current_X7_upperOfCurrent
set_option maxRecDepth 20000 in
theorem ggX7_current_X7_countRest : GoodIn wsX7_current wsX7_countRest := goodIn_r _ [113, 35, 8, 36, 114, 115, 116, 43, 117, 118, 41, 42, 44, 45, 46, 47, 48, 49, 50, 51, 52, 53, 54, 55, 56, 57, 58, 59, 60, 61, 62, 63, 64, 65, 66, 67, 12, 68, 69, 20, 4, 21, 70, 71, 72, 73, 74, 75, 76, 77, 78, 79, 80, 81, 82, 83, 38, 39, 84, 85, 86, 87, 88, 89, 90, 91, 92, 93, 94, 95, 96, 97, 98, 99, 100, 101, 102, 103, 104, 105, 106, 107, 108, 109, 129, 130, 131, 132, 133, 134, 135, 136, 137, 138, 139, 140, 141, 142, 143, 144, 145, 146, 147, 148, 149, 150, 151, 152] (by decide +kernel) (by decide +kernel)
set_option maxRecDepth 20000 in
theorem gX7_current_X7_countRest : GoodIn wsX7_current (wsV RX7 133 RX7 yX7_countRest wsX7_countRest) := goodIn_app (goodIn_of _ (by decide +kernel)) ggX7_current_X7_countRest
set_option maxRecDepth 20000 in
theorem ggX7_current_X7_partOf : GoodIn wsX7_current wsX7_partOf := goodIn_r _ [121, 122, 123, 124, 125, 126, 127, 4, 128] (by decide +kernel) (by decide +kernel)
set_option maxRecDepth 20000 in
theorem gX7_current_X7_partOf : GoodIn wsX7_current (va_wsS RX7 145 yX7_partOf wsX7_partOf) := goodIn_app (goodIn_of _ (by decide +kernel)) ggX7_current_X7_partOf
theorem dX7_current_0 : decode cX7_current 0 = .ok (.aload_n 0, 1) := by decide +kernel
theorem dX7_current_1 : decode cX7_current 1 = .ok (.iload_n 1, 1) := by decide +kernel
theorem dX7_current_2 : decode cX7_current 2 = .ok (.invokevirtual 136, 3) := by decide +kernel
theorem dX7_current_5 : decode cX7_current 5 = .ok (.aload_n 0, 1) := by decide +kernel
theorem dX7_current_6 : decode cX7_current 6 = .ok (.iload_n 1, 1) := by decide +kernel
theorem dX7_current_7 : decode cX7_current 7 = .ok (.invokevirtual 165, 3) := by decide +kernel
theorem dX7_current_10 : decode cX7_current 10 = .ok (.aload_n 0, 1) := by decide +kernel
theorem dX7_current_11 : decode cX7_current 11 = .ok (.invokevirtual 133, 3) := by decide +kernel
theorem dX7_current_14 : decode cX7_current 14 = .ok (.iload_n 2, 1) := by decide +kernel
theorem dX7_current_15 : decode cX7_current 15 = .ok (.invokestatic 145, 3) := by decide +kernel
theorem dX7_current_18 : decode cX7_current 18 = .ok (.lreturn, 1) := by decide +kernel
set_option maxRecDepth 20000 in
theorem ggX7_power_X4_hasEdge : GoodIn wsX7_power wsX4_hasEdge := goodIn_r _ [6, 7, 8, 9, 10, 5, 11, 12, 13, 14, 15, 130, 131, 132, 133, 134, 135, 136, 137] (by decide +kernel) (by decide +kernel)
set_option maxRecDepth 20000 in
theorem gX7_power_X4_hasEdge : GoodIn wsX7_power (wsV RX7 155 RX4 yX4_hasEdge wsX4_hasEdge) := goodIn_app (goodIn_of _ (by decide +kernel)) ggX7_power_X4_hasEdge
set_option maxRecDepth 20000 in
theorem ggX7_power_X7_valueOf : GoodIn wsX7_power wsX7_valueOf := goodIn_r _ [19, 20, 123, 124, 125, 126, 127, 128, 129] (by decide +kernel) (by decide +kernel)
set_option maxRecDepth 20000 in
theorem gX7_power_X7_valueOf : GoodIn wsX7_power (wsV RX7 158 RX7 yX7_valueOf wsX7_valueOf) := goodIn_app (goodIn_of _ (by decide +kernel)) ggX7_power_X7_valueOf
set_option maxRecDepth 20000 in
theorem ggX7_power_X7_upperOfCurrent : GoodIn wsX7_power wsX7_upperOfCurrent := goodIn_r _ [24, 1, 2, 3, 4, 5, 6, 7, 8, 9, 10, 11, 12, 13, 14, 15, 16, 17, 18, 19, 20, 25, 26, 27, 28, 29, 30, 31, 32, 33, 34, 35, 36, 37, 38, 39, 40, 41, 42, 43, 44, 45, 46, 47, 48, 49, 50, 51, 52, 53, 54, 55, 56, 57, 58, 59, 60, 61, 62, 63, 64, 65, 66, 67, 68, 69, 70, 71, 72, 73, 74, 75, 76, 77, 78, 79, 80, 81, 82, 83, 84, 85, 86, 87, 88, 89, 90, 91, 92, 93, 94, 95, 96, 97, 98, 99, 100, 101, 102, 103, 123, 124, 125, 126, 127, 128, 129, 130, 131, 132, 133, 134, 135, 136, 137, 138, 139, 140, 141, 142, 143, 144, 145, 146] (by decide +kernel) (by decide +kernel)
set_option maxRecDepth 20000 in
theorem gX7_power_X7_upperOfCurrent : GoodIn wsX7_power (wsV RX7 165 RX7 yX7_upperOfCurrent wsX7_upperOfCurrent) := goodIn_app (goodIn_of _ (by decide +kernel)) ggX7_power_X7_upperOfCurrent
set_option maxRecDepth 20000 in
theorem ggX7_power_X7_countRest : GoodIn wsX7_power wsX7_countRest := goodIn_r _ [107, 29, 1, 30, 108, 109, 110, 37, 111, 112, 35, 36, 38, 39, 40, 41, 42, 43, 44, 45, 46, 47, 48, 49, 50, 51, 52, 53, 54, 55, 56, 57, 58, 59, 60, 61, 5, 62, 63, 13, 14, 15, 64, 65, 66, 67, 68, 69, 70, 71, 72, 73, 74, 75, 76, 77, 32, 33, 78, 79, 80, 81, 82, 83, 84, 85, 86, 87, 88, 89, 90, 91, 92, 93, 94, 95, 96, 97, 98, 99, 100, 101, 102, 103, 123, 124, 125, 126, 127, 128, 129, 130, 131, 132, 133, 134, 135, 136, 137, 138, 139, 140, 141, 142, 143, 144, 145, 146] (by decide +kernel) (by decide +kernel)
set_option maxRecDepth 20000 in
theorem gX7_power_X7_countRest : GoodIn wsX7_power (wsV RX7 133 RX7 yX7_countRest wsX7_countRest) := goodIn_app (goodIn_of _ (by decide +kernel)) ggX7_power_X7_countRest
set_option maxRecDepth 20000 in
theorem ggX7_power_X7_partOf : GoodIn wsX7_power wsX7_partOf := goodIn_r _ [115, 116, 117, 118, 119, 120, 121, 14, 122] (by decide +kernel) (by decide +kernel)
set_option maxRecDepth 20000 in
theorem gX7_power_X7_partOf : GoodIn wsX7_power (va_wsS RX7 145 yX7_partOf wsX7_partOf) := goodIn_app (goodIn_of _ (by decide +kernel)) ggX7_power_X7_partOf
theorem dX7_power_0 : decode cX7_power 0 = .ok (.lconst 0, 1) := by decide +kernel
theorem dX7_power_1 : decode cX7_power 1 = .ok (.lstore_n 2, 1) := by decide +kernel
theorem dX7_power_2 : decode cX7_power 2 = .ok (.iconst 0, 1) := by decide +kernel
theorem dX7_power_3 : decode cX7_power 3 = .ok (.istore 4, 2) := by decide +kernel
theorem dX7_power_5 : decode cX7_power 5 = .ok (.iload 4, 2) := by decide +kernel
theorem dX7_power_7 : decode cX7_power 7 = .ok (.bipush 7, 2) := by decide +kernel
theorem dX7_power_9 : decode cX7_power 9 = .ok (.if_icmp .ge 37, 3) := by decide +kernel
theorem dX7_power_12 : decode cX7_power 12 = .ok (.aload_n 0, 1) := by decide +kernel
theorem dX7_power_13 : decode cX7_power 13 = .ok (.getfield 10, 3) := by decide +kernel
theorem dX7_power_16 : decode cX7_power 16 = .ok (.iload 4, 2) := by decide +kernel
theorem dX7_power_18 : decode cX7_power 18 = .ok (.invokevirtual 155, 3) := by decide +kernel
theorem dX7_power_21 : decode cX7_power 21 = .ok (.ifCond .eq 19, 3) := by decide +kernel
theorem dX7_power_24 : decode cX7_power 24 = .ok (.lload_n 2, 1) := by decide +kernel
theorem dX7_power_25 : decode cX7_power 25 = .ok (.aload_n 0, 1) := by decide +kernel
theorem dX7_power_26 : decode cX7_power 26 = .ok (.iload 4, 2) := by decide +kernel
theorem dX7_power_28 : decode cX7_power 28 = .ok (.invokevirtual 158, 3) := by decide +kernel
theorem dX7_power_31 : decode cX7_power 31 = .ok (.aload_n 0, 1) := by decide +kernel
theorem dX7_power_32 : decode cX7_power 32 = .ok (.iload 4, 2) := by decide +kernel
theorem dX7_power_34 : decode cX7_power 34 = .ok (.invokevirtual 165, 3) := by decide +kernel
theorem dX7_power_37 : decode cX7_power 37 = .ok (.lmul, 1) := by decide +kernel
theorem dX7_power_38 : decode cX7_power 38 = .ok (.ladd, 1) := by decide +kernel
theorem dX7_power_39 : decode cX7_power 39 = .ok (.lstore_n 2, 1) := by decide +kernel
theorem dX7_power_40 : decode cX7_power 40 = .ok (.iinc 4 1, 3) := by decide +kernel
theorem dX7_power_43 : decode cX7_power 43 = .ok (.goto (-38), 3) := by decide +kernel
theorem dX7_power_46 : decode cX7_power 46 = .ok (.lload_n 2, 1) := by decide +kernel
theorem dX7_power_47 : decode cX7_power 47 = .ok (.aload_n 0, 1) := by decide +kernel
theorem dX7_power_48 : decode cX7_power 48 = .ok (.invokevirtual 133, 3) := by decide +kernel
theorem dX7_power_51 : decode cX7_power 51 = .ok (.iload_n 1, 1) := by decide +kernel
theorem dX7_power_52 : decode cX7_power 52 = .ok (.invokestatic 145, 3) := by decide +kernel
theorem dX7_power_55 : decode cX7_power 55 = .ok (.lreturn, 1) := by decide +kernel
set_option maxRecDepth 20000 in
theorem ggX7_distance_X7_needNode : GoodIn wsX7_distance wsX7_needNode := goodIn_ca (goodIn_r _ [6, 7, 8, 9, 10, 11, 12, 13, 14, 15, 16, 5, 17, 114, 115, 116, 117, 118, 119, 120, 121, 122, 123, 124, 125, 126, 127, 128] (by decide +kernel) (by decide +kernel)) (goodIn_sub (fun _ h => List.mem_cons_of_mem _ (List.mem_append_right _ h)) (by decide +kernel))
set_option maxRecDepth 20000 in
theorem gX7_distance_X7_needNode : GoodIn wsX7_distance (wsV RX7 75 RX7 yX7_needNode wsX7_needNode) := goodIn_app (goodIn_of _ (by decide +kernel)) ggX7_distance_X7_needNode
set_option maxRecDepth 20000 in
theorem ggX7_distance_X7_partOf : GoodIn wsX7_distance wsX7_partOf := goodIn_r _ [20, 21, 22, 23, 24, 25, 26, 5, 27] (by decide +kernel) (by decide +kernel)
set_option maxRecDepth 20000 in
theorem gX7_distance_X7_partOf : GoodIn wsX7_distance (va_wsS RX7 145 yX7_partOf wsX7_partOf) := goodIn_app (goodIn_of _ (by decide +kernel)) ggX7_distance_X7_partOf
set_option maxRecDepth 20000 in
theorem ggX7_distance_X7_setOf : GoodIn wsX7_distance wsX7_setOf := goodIn_r _ [30] (by decide +kernel) (by decide +kernel)
set_option maxRecDepth 20000 in
theorem gX7_distance_X7_setOf : GoodIn wsX7_distance (va_wsS RX7 168 yX7_setOf wsX7_setOf) := goodIn_app (goodIn_of _ (by decide +kernel)) ggX7_distance_X7_setOf
set_option maxRecDepth 20000 in
theorem ggX7_distance_X0_count : GoodIn wsX7_distance wsX0_count := goodIn_r _ [35, 36, 37, 38, 34, 39, 40, 41, 42, 43, 44, 45, 46, 47, 48, 49, 50, 51, 52, 53, 54, 55, 56, 57, 58, 59, 60, 61, 62, 13, 63, 64, 16, 5, 17, 65, 66, 67, 68, 69, 70, 71, 72, 73, 74, 75, 76, 77, 78, 29, 30, 79, 80, 81, 82, 83, 84, 85, 86, 87, 88, 89, 90, 91, 92, 93, 94, 95, 96, 97, 98, 99, 100, 101, 102, 103, 104, 129, 130, 131, 132, 133, 134, 135, 136, 137, 121, 122, 123, 124, 125, 126, 127, 128] (by decide +kernel) (by decide +kernel)
set_option maxRecDepth 20000 in
theorem gX7_distance_X0_count : GoodIn wsX7_distance (wsV RX7 171 RX0 yX0_count wsX0_count) := goodIn_app (goodIn_of _ (by decide +kernel)) ggX7_distance_X0_count
set_option maxRecDepth 20000 in
theorem ggX7_distance_X7_countTrees : GoodIn wsX7_distance wsX7_countTrees := goodIn_r _ [108, 9, 1, 109, 110, 111, 13, 112, 113, 11, 12, 14, 15, 16, 5, 17, 28, 29, 30, 31, 32, 33, 34, 35, 36, 37, 38, 39, 40, 41, 42, 43, 44, 45, 46, 47, 48, 49, 50, 51, 52, 53, 54, 55, 56, 57, 58, 59, 60, 61, 62, 63, 64, 65, 66, 67, 68, 69, 70, 71, 72, 73, 74, 75, 76, 77, 78, 79, 80, 81, 82, 83, 84, 85, 86, 87, 88, 89, 90, 91, 92, 93, 94, 95, 96, 97, 98, 99, 100, 101, 102, 103, 104, 114, 115, 116, 117, 118, 119, 120, 121, 122, 123, 124, 125, 126, 127, 128, 129, 130, 131, 132, 133, 134, 135, 136, 137] (by decide +kernel) (by decide +kernel)
set_option maxRecDepth 20000 in
theorem gX7_distance_X7_countTrees : GoodIn wsX7_distance (wsV RX7 121 RX7 yX7_countTrees wsX7_countTrees) := goodIn_app (goodIn_of _ (by decide +kernel)) ggX7_distance_X7_countTrees
theorem dX7_distance_0 : decode cX7_distance 0 = .ok (.aload_n 0, 1) := by decide +kernel
theorem dX7_distance_1 : decode cX7_distance 1 = .ok (.iload_n 1, 1) := by decide +kernel
theorem dX7_distance_2 : decode cX7_distance 2 = .ok (.invokevirtual 75, 3) := by decide +kernel
theorem dX7_distance_5 : decode cX7_distance 5 = .ok (.aload_n 0, 1) := by decide +kernel
theorem dX7_distance_6 : decode cX7_distance 6 = .ok (.iload_n 2, 1) := by decide +kernel
theorem dX7_distance_7 : decode cX7_distance 7 = .ok (.invokevirtual 75, 3) := by decide +kernel
theorem dX7_distance_10 : decode cX7_distance 10 = .ok (.iload_n 1, 1) := by decide +kernel
theorem dX7_distance_11 : decode cX7_distance 11 = .ok (.iload_n 2, 1) := by decide +kernel
theorem dX7_distance_12 : decode cX7_distance 12 = .ok (.if_icmp .ne 10, 3) := by decide +kernel
theorem dX7_distance_15 : decode cX7_distance 15 = .ok (.lconst 0, 1) := by decide +kernel
theorem dX7_distance_16 : decode cX7_distance 16 = .ok (.lconst 1, 1) := by decide +kernel
theorem dX7_distance_17 : decode cX7_distance 17 = .ok (.iload_n 3, 1) := by decide +kernel
theorem dX7_distance_18 : decode cX7_distance 18 = .ok (.invokestatic 145, 3) := by decide +kernel
theorem dX7_distance_21 : decode cX7_distance 21 = .ok (.lreturn, 1) := by decide +kernel
theorem dX7_distance_22 : decode cX7_distance 22 = .ok (.aload_n 0, 1) := by decide +kernel
theorem dX7_distance_23 : decode cX7_distance 23 = .ok (.getfield 21, 3) := by decide +kernel
theorem dX7_distance_26 : decode cX7_distance 26 = .ok (.iload_n 1, 1) := by decide +kernel
theorem dX7_distance_27 : decode cX7_distance 27 = .ok (.invokestatic 168, 3) := by decide +kernel
theorem dX7_distance_30 : decode cX7_distance 30 = .ok (.iload_n 2, 1) := by decide +kernel
theorem dX7_distance_31 : decode cX7_distance 31 = .ok (.invokestatic 168, 3) := by decide +kernel
theorem dX7_distance_34 : decode cX7_distance 34 = .ok (.ior, 1) := by decide +kernel
theorem dX7_distance_35 : decode cX7_distance 35 = .ok (.invokevirtual 171, 3) := by decide +kernel
theorem dX7_distance_38 : decode cX7_distance 38 = .ok (.aload_n 0, 1) := by decide +kernel
theorem dX7_distance_39 : decode cX7_distance 39 = .ok (.invokevirtual 121, 3) := by decide +kernel
theorem dX7_distance_42 : decode cX7_distance 42 = .ok (.iload_n 3, 1) := by decide +kernel
theorem dX7_distance_43 : decode cX7_distance 43 = .ok (.invokestatic 145, 3) := by decide +kernel
theorem dX7_distance_46 : decode cX7_distance 46 = .ok (.lreturn, 1) := by decide +kernel
set_option maxRecDepth 20000 in
theorem ggX7_chance_X7_needNode : GoodIn wsX7_chance wsX7_needNode := goodIn_ca (goodIn_r _ [8, 9, 10, 11, 12, 13, 14, 15, 16, 17, 18, 7, 19, 108, 109, 110, 111, 112, 113, 114, 115, 116, 117, 118, 119, 120, 121, 122] (by decide +kernel) (by decide +kernel)) (goodIn_sub (fun _ h => List.mem_cons_of_mem _ (List.mem_append_right _ h)) (by decide +kernel))
set_option maxRecDepth 20000 in
theorem gX7_chance_X7_needNode : GoodIn wsX7_chance (wsV RX7 75 RX7 yX7_needNode wsX7_needNode) := goodIn_app (goodIn_of _ (by decide +kernel)) ggX7_chance_X7_needNode
set_option maxRecDepth 20000 in
theorem ggX7_chance_X7_setOf : GoodIn wsX7_chance wsX7_setOf := goodIn_r _ [22] (by decide +kernel) (by decide +kernel)
set_option maxRecDepth 20000 in
theorem gX7_chance_X7_setOf : GoodIn wsX7_chance (va_wsS RX7 168 yX7_setOf wsX7_setOf) := goodIn_app (goodIn_of _ (by decide +kernel)) ggX7_chance_X7_setOf
set_option maxRecDepth 20000 in
theorem ggX7_chance_X0_countWith : GoodIn wsX7_chance wsX0_countWith := goodIn_r _ [27, 28, 29, 30, 31, 32, 33, 26, 34, 35, 36, 37, 38, 39, 40, 41, 42, 43, 44, 45, 46, 47, 48, 49, 50, 15, 51, 52, 18, 7, 19, 53, 54, 55, 56, 57, 58, 59, 60, 61, 62, 63, 64, 65, 66, 21, 22, 67, 68, 69, 70, 71, 72, 73, 74, 75, 76, 77, 78, 79, 80, 81, 82, 83, 84, 85, 86, 87, 88, 89, 90, 91, 92, 123, 124, 125, 126, 127, 128, 129, 130, 131, 115, 116, 117, 118, 119, 120, 121, 122] (by decide +kernel) (by decide +kernel)
set_option maxRecDepth 20000 in
theorem gX7_chance_X0_countWith : GoodIn wsX7_chance (wsV RX7 176 RX0 yX0_countWith wsX0_countWith) := goodIn_app (goodIn_of _ (by decide +kernel)) ggX7_chance_X0_countWith
set_option maxRecDepth 20000 in
theorem ggX7_chance_X0_count : GoodIn wsX7_chance wsX0_count := goodIn_r _ [96, 97, 24, 25, 26, 27, 28, 29, 30, 31, 32, 33, 34, 35, 36, 37, 38, 39, 40, 41, 42, 43, 44, 45, 46, 47, 48, 49, 50, 15, 51, 52, 18, 7, 19, 53, 54, 55, 56, 57, 58, 59, 60, 61, 62, 63, 64, 65, 66, 21, 22, 67, 68, 69, 70, 71, 72, 73, 74, 75, 76, 77, 78, 79, 80, 81, 82, 83, 84, 85, 86, 87, 88, 89, 90, 91, 92, 123, 124, 125, 126, 127, 128, 129, 130, 131, 115, 116, 117, 118, 119, 120, 121, 122] (by decide +kernel) (by decide +kernel)
set_option maxRecDepth 20000 in
theorem gX7_chance_X0_count : GoodIn wsX7_chance (wsV RX7 171 RX0 yX0_count wsX0_count) := goodIn_app (goodIn_of _ (by decide +kernel)) ggX7_chance_X0_count
set_option maxRecDepth 20000 in
theorem ggX7_chance_X7_partOf : GoodIn wsX7_chance wsX7_partOf := goodIn_r _ [100, 101, 102, 103, 104, 105, 106, 7, 107] (by decide +kernel) (by decide +kernel)
set_option maxRecDepth 20000 in
theorem gX7_chance_X7_partOf : GoodIn wsX7_chance (va_wsS RX7 145 yX7_partOf wsX7_partOf) := goodIn_app (goodIn_of _ (by decide +kernel)) ggX7_chance_X7_partOf
theorem dX7_chance_0 : decode cX7_chance 0 = .ok (.aload_n 0, 1) := by decide +kernel
theorem dX7_chance_1 : decode cX7_chance 1 = .ok (.iload_n 1, 1) := by decide +kernel
theorem dX7_chance_2 : decode cX7_chance 2 = .ok (.invokevirtual 75, 3) := by decide +kernel
theorem dX7_chance_5 : decode cX7_chance 5 = .ok (.aload_n 0, 1) := by decide +kernel
theorem dX7_chance_6 : decode cX7_chance 6 = .ok (.iload_n 2, 1) := by decide +kernel
theorem dX7_chance_7 : decode cX7_chance 7 = .ok (.invokevirtual 75, 3) := by decide +kernel
theorem dX7_chance_10 : decode cX7_chance 10 = .ok (.aload_n 0, 1) := by decide +kernel
theorem dX7_chance_11 : decode cX7_chance 11 = .ok (.iload_n 3, 1) := by decide +kernel
theorem dX7_chance_12 : decode cX7_chance 12 = .ok (.invokevirtual 75, 3) := by decide +kernel
theorem dX7_chance_15 : decode cX7_chance 15 = .ok (.iload_n 2, 1) := by decide +kernel
theorem dX7_chance_16 : decode cX7_chance 16 = .ok (.iload_n 3, 1) := by decide +kernel
theorem dX7_chance_17 : decode cX7_chance 17 = .ok (.if_icmp .ne 13, 3) := by decide +kernel
theorem dX7_chance_20 : decode cX7_chance 20 = .ok (.new 83, 3) := by decide +kernel
theorem dX7_chance_23 : decode cX7_chance 23 = .ok (.dup, 1) := by decide +kernel
theorem dX7_chance_24 : decode cX7_chance 24 = .ok (.ldc 174, 2) := by decide +kernel
theorem dX7_chance_26 : decode cX7_chance 26 = .ok (.invokespecial 87, 3) := by decide +kernel
theorem dX7_chance_29 : decode cX7_chance 29 = .ok (.athrow, 1) := by decide +kernel
theorem dX7_chance_30 : decode cX7_chance 30 = .ok (.iload_n 2, 1) := by decide +kernel
theorem dX7_chance_31 : decode cX7_chance 31 = .ok (.invokestatic 168, 3) := by decide +kernel
theorem dX7_chance_34 : decode cX7_chance 34 = .ok (.iload_n 3, 1) := by decide +kernel
theorem dX7_chance_35 : decode cX7_chance 35 = .ok (.invokestatic 168, 3) := by decide +kernel
theorem dX7_chance_38 : decode cX7_chance 38 = .ok (.ior, 1) := by decide +kernel
theorem dX7_chance_39 : decode cX7_chance 39 = .ok (.istore 5, 2) := by decide +kernel
theorem dX7_chance_41 : decode cX7_chance 41 = .ok (.aload_n 0, 1) := by decide +kernel
theorem dX7_chance_42 : decode cX7_chance 42 = .ok (.getfield 21, 3) := by decide +kernel
theorem dX7_chance_45 : decode cX7_chance 45 = .ok (.iload 5, 2) := by decide +kernel
theorem dX7_chance_47 : decode cX7_chance 47 = .ok (.iload_n 1, 1) := by decide +kernel
theorem dX7_chance_48 : decode cX7_chance 48 = .ok (.iload_n 2, 1) := by decide +kernel
theorem dX7_chance_49 : decode cX7_chance 49 = .ok (.invokevirtual 176, 3) := by decide +kernel
theorem dX7_chance_52 : decode cX7_chance 52 = .ok (.aload_n 0, 1) := by decide +kernel
theorem dX7_chance_53 : decode cX7_chance 53 = .ok (.getfield 21, 3) := by decide +kernel
theorem dX7_chance_56 : decode cX7_chance 56 = .ok (.iload 5, 2) := by decide +kernel
theorem dX7_chance_58 : decode cX7_chance 58 = .ok (.invokevirtual 171, 3) := by decide +kernel
theorem dX7_chance_61 : decode cX7_chance 61 = .ok (.iload 4, 2) := by decide +kernel
theorem dX7_chance_63 : decode cX7_chance 63 = .ok (.invokestatic 145, 3) := by decide +kernel
theorem dX7_chance_66 : decode cX7_chance 66 = .ok (.lreturn, 1) := by decide +kernel
set_option maxRecDepth 20000 in
theorem ggX7_starred_X7_needEdge : GoodIn wsX7_starred wsX7_needEdge := goodIn_ca (goodIn_r _ [7, 8, 9, 1, 10, 11, 12, 13, 14, 15, 16, 17, 18, 19, 20, 21, 6, 22, 129, 130, 131, 132, 133, 134, 135, 136, 137, 138, 139, 140, 141, 142, 143] (by decide +kernel) (by decide +kernel)) (goodIn_sub (fun _ h => List.mem_cons_of_mem _ (List.mem_append_right _ h)) (by decide +kernel))
set_option maxRecDepth 20000 in
theorem gX7_starred_X7_needEdge : GoodIn wsX7_starred (wsV RX7 136 RX7 yX7_needEdge wsX7_needEdge) := goodIn_app (goodIn_of _ (by decide +kernel)) ggX7_starred_X7_needEdge
set_option maxRecDepth 20000 in
theorem ggX7_starred_J6_bitCount_0f7a4 : GoodIn wsX7_starred wsJ6_bitCount_0f7a4 := goodIn_r _ [26, 27, 28, 29] (by decide +kernel) (by decide +kernel)
set_option maxRecDepth 20000 in
theorem gX7_starred_J6_bitCount_0f7a4 : GoodIn wsX7_starred (va_wsS RX7 92 yJ6_bitCount_0f7a4 wsJ6_bitCount_0f7a4) := goodIn_app (goodIn_of _ (by decide +kernel)) ggX7_starred_J6_bitCount_0f7a4
set_option maxRecDepth 20000 in
theorem ggX7_starred_X4_hasEdge : GoodIn wsX7_starred wsX4_hasEdge := goodIn_r _ [14, 15, 16, 17, 18, 13, 19, 20, 21, 6, 22, 136, 137, 138, 139, 140, 141, 142, 143] (by decide +kernel) (by decide +kernel)
set_option maxRecDepth 20000 in
theorem gX7_starred_X4_hasEdge : GoodIn wsX7_starred (wsV RX7 155 RX4 yX4_hasEdge wsX4_hasEdge) := goodIn_app (goodIn_of _ (by decide +kernel)) ggX7_starred_X4_hasEdge
set_option maxRecDepth 20000 in
theorem ggX7_starred_X7_upperOfOppositeAnswer : GoodIn wsX7_starred wsX7_upperOfOppositeAnswer := goodIn_r _ [33, 1, 10, 11, 12, 13, 14, 15, 16, 17, 18, 19, 20, 21, 6, 22, 34, 35, 36, 37, 38, 2, 39, 40, 41, 42, 43, 44, 45, 46, 47, 48, 49, 50, 51, 52, 53, 54, 55, 56, 57, 58, 59, 60, 24, 25, 26, 27, 28, 29, 61, 62, 63, 64, 65, 66, 67, 68, 69, 70, 71, 72, 73, 74, 75, 76, 77, 78, 79, 80, 81, 82, 83, 84, 85, 86, 87, 88, 89, 90, 91, 92, 93, 94, 95, 96, 97, 98, 99, 100, 101, 102, 103, 104, 105, 129, 130, 131, 132, 133, 134, 135, 136, 137, 138, 139, 140, 141, 142, 143, 144, 145, 146, 147, 148, 149, 150, 151, 152] (by decide +kernel) (by decide +kernel)
set_option maxRecDepth 20000 in
theorem gX7_starred_X7_upperOfOppositeAnswer : GoodIn wsX7_starred (wsV RX7 199 RX7 yX7_upperOfOppositeAnswer wsX7_upperOfOppositeAnswer) := goodIn_app (goodIn_of _ (by decide +kernel)) ggX7_starred_X7_upperOfOppositeAnswer
set_option maxRecDepth 20000 in
theorem ggX7_starred_X7_countTrees : GoodIn wsX7_starred wsX7_countTrees := goodIn_r _ [109, 1, 38, 110, 111, 112, 13, 113, 16, 17, 18, 19, 20, 21, 6, 22, 39, 40, 41, 114, 115, 116, 45, 117, 118, 43, 44, 46, 47, 48, 49, 50, 51, 52, 53, 54, 55, 56, 57, 58, 59, 60, 24, 25, 26, 27, 28, 29, 61, 62, 63, 64, 65, 66, 67, 68, 69, 70, 71, 72, 73, 74, 75, 76, 77, 78, 79, 80, 81, 82, 83, 84, 85, 86, 87, 88, 89, 90, 91, 92, 93, 94, 95, 96, 97, 98, 99, 100, 101, 102, 103, 104, 105, 129, 130, 131, 132, 133, 134, 135, 136, 137, 138, 139, 140, 141, 142, 143, 144, 145, 146, 147, 148, 149, 150, 151, 152] (by decide +kernel) (by decide +kernel)
set_option maxRecDepth 20000 in
theorem gX7_starred_X7_countTrees : GoodIn wsX7_starred (wsV RX7 121 RX7 yX7_countTrees wsX7_countTrees) := goodIn_app (goodIn_of _ (by decide +kernel)) ggX7_starred_X7_countTrees
set_option maxRecDepth 20000 in
theorem ggX7_starred_X7_partOf : GoodIn wsX7_starred wsX7_partOf := goodIn_r _ [121, 122, 123, 124, 125, 126, 127, 6, 128] (by decide +kernel) (by decide +kernel)
set_option maxRecDepth 20000 in
theorem gX7_starred_X7_partOf : GoodIn wsX7_starred (va_wsS RX7 145 yX7_partOf wsX7_partOf) := goodIn_app (goodIn_of _ (by decide +kernel)) ggX7_starred_X7_partOf
theorem dX7_starred_0 : decode cX7_starred 0 = .ok (.aload_n 0, 1) := by decide +kernel
theorem dX7_starred_1 : decode cX7_starred 1 = .ok (.iload_n 1, 1) := by decide +kernel
theorem dX7_starred_2 : decode cX7_starred 2 = .ok (.invokevirtual 136, 3) := by decide +kernel
theorem dX7_starred_5 : decode cX7_starred 5 = .ok (.aload_n 0, 1) := by decide +kernel
theorem dX7_starred_6 : decode cX7_starred 6 = .ok (.getfield 10, 3) := by decide +kernel
theorem dX7_starred_9 : decode cX7_starred 9 = .ok (.getfield 196, 3) := by decide +kernel
theorem dX7_starred_12 : decode cX7_starred 12 = .ok (.invokestatic 92, 3) := by decide +kernel
theorem dX7_starred_15 : decode cX7_starred 15 = .ok (.iconst 3, 1) := by decide +kernel
theorem dX7_starred_16 : decode cX7_starred 16 = .ok (.if_icmp .eq 5, 3) := by decide +kernel
theorem dX7_starred_19 : decode cX7_starred 19 = .ok (.lconst 0, 1) := by decide +kernel
theorem dX7_starred_20 : decode cX7_starred 20 = .ok (.lreturn, 1) := by decide +kernel
theorem dX7_starred_21 : decode cX7_starred 21 = .ok (.iconst 0, 1) := by decide +kernel
theorem dX7_starred_22 : decode cX7_starred 22 = .ok (.istore_n 3, 1) := by decide +kernel
theorem dX7_starred_23 : decode cX7_starred 23 = .ok (.iload_n 3, 1) := by decide +kernel
theorem dX7_starred_24 : decode cX7_starred 24 = .ok (.bipush 7, 2) := by decide +kernel
theorem dX7_starred_26 : decode cX7_starred 26 = .ok (.if_icmp .ge 32, 3) := by decide +kernel
theorem dX7_starred_29 : decode cX7_starred 29 = .ok (.aload_n 0, 1) := by decide +kernel
theorem dX7_starred_30 : decode cX7_starred 30 = .ok (.getfield 10, 3) := by decide +kernel
theorem dX7_starred_33 : decode cX7_starred 33 = .ok (.iload_n 3, 1) := by decide +kernel
theorem dX7_starred_34 : decode cX7_starred 34 = .ok (.invokevirtual 155, 3) := by decide +kernel
theorem dX7_starred_37 : decode cX7_starred 37 = .ok (.ifCond .eq 15, 3) := by decide +kernel
theorem dX7_starred_40 : decode cX7_starred 40 = .ok (.aload_n 0, 1) := by decide +kernel
theorem dX7_starred_41 : decode cX7_starred 41 = .ok (.iload_n 3, 1) := by decide +kernel
theorem dX7_starred_42 : decode cX7_starred 42 = .ok (.invokevirtual 199, 3) := by decide +kernel
theorem dX7_starred_45 : decode cX7_starred 45 = .ok (.lconst 0, 1) := by decide +kernel
theorem dX7_starred_46 : decode cX7_starred 46 = .ok (.lcmp, 1) := by decide +kernel
theorem dX7_starred_47 : decode cX7_starred 47 = .ok (.ifCond .ne 5, 3) := by decide +kernel
theorem dX7_starred_50 : decode cX7_starred 50 = .ok (.lconst 0, 1) := by decide +kernel
theorem dX7_starred_51 : decode cX7_starred 51 = .ok (.lreturn, 1) := by decide +kernel
theorem dX7_starred_52 : decode cX7_starred 52 = .ok (.iinc 3 1, 3) := by decide +kernel
theorem dX7_starred_55 : decode cX7_starred 55 = .ok (.goto (-32), 3) := by decide +kernel
theorem dX7_starred_58 : decode cX7_starred 58 = .ok (.aload_n 0, 1) := by decide +kernel
theorem dX7_starred_59 : decode cX7_starred 59 = .ok (.invokevirtual 121, 3) := by decide +kernel
theorem dX7_starred_62 : decode cX7_starred 62 = .ok (.aload_n 0, 1) := by decide +kernel
theorem dX7_starred_63 : decode cX7_starred 63 = .ok (.iload_n 1, 1) := by decide +kernel
theorem dX7_starred_64 : decode cX7_starred 64 = .ok (.invokevirtual 199, 3) := by decide +kernel
theorem dX7_starred_67 : decode cX7_starred 67 = .ok (.iload_n 2, 1) := by decide +kernel
theorem dX7_starred_68 : decode cX7_starred 68 = .ok (.invokestatic 145, 3) := by decide +kernel
theorem dX7_starred_71 : decode cX7_starred 71 = .ok (.lreturn, 1) := by decide +kernel
set_option maxRecDepth 20000 in
theorem ggX7_move_X7_needWireOrNode : GoodIn wsX7_move wsX7_needWireOrNode := goodIn_ca (goodIn_r _ [10, 11, 12, 9, 13, 14, 15, 16, 17, 18, 19, 20, 21, 22, 23, 24, 25, 26, 27, 28, 29, 30, 31, 32, 33, 34, 35, 36, 37, 212, 213, 214, 215, 216, 217, 218, 219, 220, 221, 222, 223, 224, 225, 226] (by decide +kernel) (by decide +kernel)) (goodIn_sub (fun _ h => List.mem_cons_of_mem _ (List.mem_append_right _ h)) (by decide +kernel))
set_option maxRecDepth 20000 in
theorem gX7_move_X7_needWireOrNode : GoodIn wsX7_move (wsV RX7 202 RX7 yX7_needWireOrNode wsX7_needWireOrNode) := goodIn_app (goodIn_of _ (by decide +kernel)) ggX7_move_X7_needWireOrNode
set_option maxRecDepth 20000 in
theorem ggX7_move_X3_doIfPossible : GoodIn wsX7_move wsX3_doIfPossible := goodIn_r _ [42, 43, 44, 45, 46, 47, 48, 49, 50, 51, 52, 53, 54, 55, 56, 57, 58, 59, 60, 61, 62, 41, 63, 64, 65, 66, 67, 24, 68, 69, 70, 71, 72, 73, 74, 75, 76, 77, 78, 79, 9, 80, 81, 82, 83, 84, 85, 86, 87, 88, 89, 90, 91, 92, 93, 22, 23, 25, 26, 27, 28, 94, 95, 96, 97, 98, 99, 100, 101, 102, 103, 104, 105, 106, 107, 108, 109, 110, 111, 112, 113, 114, 115, 116, 117, 118, 119, 120, 34, 35, 36, 37, 121, 122, 123, 124, 125, 126, 127, 128, 129, 130, 131, 132, 133, 134, 135, 136, 137, 138, 139, 140, 141, 142, 143, 144, 145, 146, 147, 148, 149, 150, 151, 152, 153, 154, 155, 156, 157, 158, 159, 160, 161, 162, 163, 164, 165, 166, 167, 168, 169, 170, 171, 172, 173, 174, 175, 176, 177, 178, 179, 180, 181, 182, 183, 184, 185, 186, 187, 188, 189, 190, 191, 192, 193, 194, 195, 196, 197, 198, 199, 200, 201, 202, 203, 204, 205, 206, 207, 208, 209, 210, 211, 227, 228, 229, 230, 231, 232, 233, 234, 235, 236, 237, 238, 239, 240, 241, 242, 243, 244, 245, 246, 219, 220, 221, 222, 223, 224, 225, 226] (by decide +kernel) (by decide +kernel)
set_option maxRecDepth 20000 in
theorem gX7_move_X3_doIfPossible : GoodIn wsX7_move (wsV RX7 207 RX3 yX3_doIfPossible wsX3_doIfPossible) := goodIn_app (goodIn_of _ (by decide +kernel)) ggX7_move_X3_doIfPossible
theorem dX7_move_0 : decode cX7_move 0 = .ok (.iload_n 1, 1) := by decide +kernel
theorem dX7_move_1 : decode cX7_move 1 = .ok (.ifCond .lt 17, 3) := by decide +kernel
theorem dX7_move_4 : decode cX7_move 4 = .ok (.iload_n 1, 1) := by decide +kernel
theorem dX7_move_5 : decode cX7_move 5 = .ok (.iconst 5, 1) := by decide +kernel
theorem dX7_move_6 : decode cX7_move 6 = .ok (.if_icmp .gt 12, 3) := by decide +kernel
theorem dX7_move_9 : decode cX7_move 9 = .ok (.aload_n 0, 1) := by decide +kernel
theorem dX7_move_10 : decode cX7_move 10 = .ok (.iload_n 1, 1) := by decide +kernel
theorem dX7_move_11 : decode cX7_move 11 = .ok (.iload_n 2, 1) := by decide +kernel
theorem dX7_move_12 : decode cX7_move 12 = .ok (.invokevirtual 202, 3) := by decide +kernel
theorem dX7_move_15 : decode cX7_move 15 = .ok (.goto 13, 3) := by decide +kernel
theorem dX7_move_18 : decode cX7_move 18 = .ok (.new 83, 3) := by decide +kernel
theorem dX7_move_21 : decode cX7_move 21 = .ok (.dup, 1) := by decide +kernel
theorem dX7_move_22 : decode cX7_move 22 = .ok (.ldc 205, 2) := by decide +kernel
theorem dX7_move_24 : decode cX7_move 24 = .ok (.invokespecial 87, 3) := by decide +kernel
theorem dX7_move_27 : decode cX7_move 27 = .ok (.athrow, 1) := by decide +kernel
theorem dX7_move_28 : decode cX7_move 28 = .ok (.aload_n 0, 1) := by decide +kernel
theorem dX7_move_29 : decode cX7_move 29 = .ok (.getfield 42, 3) := by decide +kernel
theorem dX7_move_32 : decode cX7_move 32 = .ok (.iload_n 1, 1) := by decide +kernel
theorem dX7_move_33 : decode cX7_move 33 = .ok (.iload_n 2, 1) := by decide +kernel
theorem dX7_move_34 : decode cX7_move 34 = .ok (.invokevirtual 207, 3) := by decide +kernel
theorem dX7_move_37 : decode cX7_move 37 = .ok (.ifCond .ne 13, 3) := by decide +kernel
theorem dX7_move_40 : decode cX7_move 40 = .ok (.new 61, 3) := by decide +kernel
theorem dX7_move_43 : decode cX7_move 43 = .ok (.dup, 1) := by decide +kernel
theorem dX7_move_44 : decode cX7_move 44 = .ok (.ldc 210, 2) := by decide +kernel
theorem dX7_move_46 : decode cX7_move 46 = .ok (.invokespecial 65, 3) := by decide +kernel
theorem dX7_move_49 : decode cX7_move 49 = .ok (.athrow, 1) := by decide +kernel
theorem dX7_move_50 : decode cX7_move 50 = .ok (.return_, 1) := by decide +kernel
set_option maxRecDepth 20000 in
theorem ggX7_undo_X3_howMany : GoodIn wsX7_undo wsX3_howMany := goodIn_r _ [8, 9, 38, 39, 40, 41, 42, 43, 44, 45, 46, 47] (by decide +kernel) (by decide +kernel)
set_option maxRecDepth 20000 in
theorem gX7_undo_X3_howMany : GoodIn wsX7_undo (wsV RX7 212 RX3 yX3_howMany wsX3_howMany) := goodIn_app (goodIn_of _ (by decide +kernel)) ggX7_undo_X3_howMany
set_option maxRecDepth 20000 in
theorem ggX7_undo_X3_takeBack : GoodIn wsX7_undo wsX3_takeBack := goodIn_r _ [13, 9, 14, 15, 16, 17, 18, 19, 20, 21, 22, 23, 24, 25, 26, 27, 28, 29, 30, 38, 39, 40, 41, 42, 43, 44, 45, 46, 47, 48, 49, 50, 51, 52, 53, 54, 55] (by decide +kernel) (by decide +kernel)
set_option maxRecDepth 20000 in
theorem gX7_undo_X3_takeBack : GoodIn wsX7_undo (wsV RX7 218 RX3 yX3_takeBack wsX3_takeBack) := goodIn_app (goodIn_of _ (by decide +kernel)) ggX7_undo_X3_takeBack
theorem dX7_undo_0 : decode cX7_undo 0 = .ok (.aload_n 0, 1) := by decide +kernel
theorem dX7_undo_1 : decode cX7_undo 1 = .ok (.getfield 42, 3) := by decide +kernel
theorem dX7_undo_4 : decode cX7_undo 4 = .ok (.invokevirtual 212, 3) := by decide +kernel
theorem dX7_undo_7 : decode cX7_undo 7 = .ok (.ifCond .ne 13, 3) := by decide +kernel
theorem dX7_undo_10 : decode cX7_undo 10 = .ok (.new 61, 3) := by decide +kernel
theorem dX7_undo_13 : decode cX7_undo 13 = .ok (.dup, 1) := by decide +kernel
theorem dX7_undo_14 : decode cX7_undo 14 = .ok (.ldc 216, 2) := by decide +kernel
theorem dX7_undo_16 : decode cX7_undo 16 = .ok (.invokespecial 65, 3) := by decide +kernel
theorem dX7_undo_19 : decode cX7_undo 19 = .ok (.athrow, 1) := by decide +kernel
theorem dX7_undo_20 : decode cX7_undo 20 = .ok (.aload_n 0, 1) := by decide +kernel
theorem dX7_undo_21 : decode cX7_undo 21 = .ok (.getfield 42, 3) := by decide +kernel
theorem dX7_undo_24 : decode cX7_undo 24 = .ok (.invokevirtual 218, 3) := by decide +kernel
theorem dX7_undo_27 : decode cX7_undo 27 = .ok (.aload_n 0, 1) := by decide +kernel
theorem dX7_undo_28 : decode cX7_undo 28 = .ok (.getfield 42, 3) := by decide +kernel
theorem dX7_undo_31 : decode cX7_undo 31 = .ok (.invokevirtual 212, 3) := by decide +kernel
theorem dX7_undo_34 : decode cX7_undo 34 = .ok (.ireturn, 1) := by decide +kernel
set_option maxRecDepth 20000 in
theorem ggX7_simplify_X3_doFirstSimple : GoodIn wsX7_simplify wsX3_doFirstSimple := goodIn_r _ [6, 7, 8, 9, 10, 11, 12, 13, 14, 15, 16, 17, 18, 19, 20, 21, 22, 23, 24, 25, 26, 5, 27, 28, 29, 30, 31, 32, 33, 34, 35, 36, 37, 38, 39, 40, 41, 42, 43, 44, 45, 46, 47, 48, 49, 50, 51, 52, 53, 54, 55, 56, 57, 58, 59, 60, 61, 62, 63, 64, 65, 66, 67, 68, 69, 70, 71, 72, 73, 74, 75, 76, 77, 78, 79, 80, 81, 82, 83, 84, 85, 86, 87, 88, 89, 90, 91, 92, 93, 94, 95, 96, 97, 98, 99, 100, 101, 102, 103, 104, 105, 106, 107, 108, 109, 110, 111, 112, 113, 114, 115, 116, 117, 118, 119, 120, 121, 122, 123, 124, 125, 126, 127, 128, 129, 130, 131, 132, 133, 134, 135, 136, 137, 138, 139, 140, 141, 142, 143, 144, 145, 146, 147, 148, 149, 150, 151, 152, 153, 154, 155, 156, 157, 158, 159, 160, 161, 162, 163, 164, 165, 166, 167, 168, 169, 170, 171, 172, 173, 174, 175, 176, 177, 178, 179, 180, 181, 182, 183, 184, 185, 186, 187, 188, 189, 190, 191, 192, 193, 194, 202, 203, 204, 205, 206, 207, 208, 209, 210, 211, 212, 213, 214, 215, 216, 217, 218, 219, 220, 221, 222, 223, 224, 225, 226, 227, 228, 229] (by decide +kernel) (by decide +kernel)
set_option maxRecDepth 20000 in
theorem gX7_simplify_X3_doFirstSimple : GoodIn wsX7_simplify (wsV RX7 221 RX3 yX3_doFirstSimple wsX3_doFirstSimple) := goodIn_app (goodIn_of _ (by decide +kernel)) ggX7_simplify_X3_doFirstSimple
theorem dX7_simplify_0 : decode cX7_simplify 0 = .ok (.iconst 0, 1) := by decide +kernel
theorem dX7_simplify_1 : decode cX7_simplify 1 = .ok (.istore_n 1, 1) := by decide +kernel
theorem dX7_simplify_2 : decode cX7_simplify 2 = .ok (.iload_n 1, 1) := by decide +kernel
theorem dX7_simplify_3 : decode cX7_simplify 3 = .ok (.bipush 20, 2) := by decide +kernel
theorem dX7_simplify_5 : decode cX7_simplify 5 = .ok (.if_icmp .ge 19, 3) := by decide +kernel
theorem dX7_simplify_8 : decode cX7_simplify 8 = .ok (.aload_n 0, 1) := by decide +kernel
theorem dX7_simplify_9 : decode cX7_simplify 9 = .ok (.getfield 42, 3) := by decide +kernel
theorem dX7_simplify_12 : decode cX7_simplify 12 = .ok (.invokevirtual 221, 3) := by decide +kernel
theorem dX7_simplify_15 : decode cX7_simplify 15 = .ok (.ifCond .eq 9, 3) := by decide +kernel
theorem dX7_simplify_18 : decode cX7_simplify 18 = .ok (.iinc 1 1, 3) := by decide +kernel
theorem dX7_simplify_21 : decode cX7_simplify 21 = .ok (.goto (-19), 3) := by decide +kernel
theorem dX7_simplify_24 : decode cX7_simplify 24 = .ok (.iload_n 1, 1) := by decide +kernel
theorem dX7_simplify_25 : decode cX7_simplify 25 = .ok (.ireturn, 1) := by decide +kernel
set_option maxRecDepth 20000 in
theorem ggX7_mark_X1_begin : GoodIn wsX7_mark wsX1_begin := goodIn_r _ [8, 9, 139, 140, 141] (by decide +kernel) (by decide +kernel)
set_option maxRecDepth 20000 in
theorem gX7_mark_X1_begin : GoodIn wsX7_mark (wsV RX7 225 RX1 yX1_begin wsX1_begin) := goodIn_app (goodIn_of _ (by decide +kernel)) ggX7_mark_X1_begin
set_option maxRecDepth 20000 in
theorem ggX7_mark_X7_countRest : GoodIn wsX7_mark wsX7_countRest := goodIn_r _ [14, 15, 2, 3, 16, 17, 18, 19, 20, 21, 22, 23, 24, 25, 26, 27, 28, 29, 30, 31, 32, 33, 34, 35, 36, 37, 38, 39, 40, 41, 42, 43, 44, 45, 46, 47, 48, 49, 50, 51, 13, 52, 53, 54, 55, 56, 57, 58, 59, 60, 61, 62, 63, 64, 65, 66, 67, 68, 69, 70, 71, 72, 73, 74, 75, 76, 77, 78, 79, 80, 81, 82, 83, 84, 85, 86, 87, 88, 89, 90, 91, 92, 93, 94, 124, 125, 126, 127, 128, 129, 130, 131, 132, 133, 134, 135, 136, 137, 138, 142, 143, 144, 145, 146, 147, 148, 149, 150] (by decide +kernel) (by decide +kernel)
set_option maxRecDepth 20000 in
theorem gX7_mark_X7_countRest : GoodIn wsX7_mark (wsV RX7 133 RX7 yX7_countRest wsX7_countRest) := goodIn_app (goodIn_of _ (by decide +kernel)) ggX7_mark_X7_countRest
set_option maxRecDepth 20000 in
theorem ggX7_mark_X1_hasPair : GoodIn wsX7_mark wsX1_hasPair := goodIn_r _ [98, 9, 99, 100, 7, 101, 51, 13, 52, 139, 140, 141] (by decide +kernel) (by decide +kernel)
set_option maxRecDepth 20000 in
theorem gX7_mark_X1_hasPair : GoodIn wsX7_mark (wsV RX7 228 RX1 yX1_hasPair wsX1_hasPair) := goodIn_app (goodIn_of _ (by decide +kernel)) ggX7_mark_X1_hasPair
set_option maxRecDepth 20000 in
theorem ggX7_mark_X7_upperOfAnswer : GoodIn wsX7_mark wsX7_upperOfAnswer := goodIn_r _ [105, 15, 2, 3, 106, 67, 13, 68, 107, 22, 23, 19, 24, 25, 26, 27, 28, 29, 30, 31, 32, 33, 34, 35, 36, 37, 38, 39, 40, 41, 42, 43, 44, 45, 46, 47, 48, 49, 50, 51, 52, 53, 54, 55, 56, 57, 58, 59, 60, 61, 62, 63, 64, 65, 66, 69, 70, 71, 72, 73, 74, 75, 76, 77, 78, 79, 80, 81, 82, 83, 84, 85, 86, 87, 88, 89, 90, 91, 92, 93, 94, 124, 125, 126, 127, 128, 129, 130, 131, 132, 133, 134, 135, 136, 137, 138, 142, 143, 144, 145, 146, 147, 148, 149, 150] (by decide +kernel) (by decide +kernel)
set_option maxRecDepth 20000 in
theorem gX7_mark_X7_upperOfAnswer : GoodIn wsX7_mark (wsV RX7 141 RX7 yX7_upperOfAnswer wsX7_upperOfAnswer) := goodIn_app (goodIn_of _ (by decide +kernel)) ggX7_mark_X7_upperOfAnswer
set_option maxRecDepth 20000 in
theorem ggX7_mark_X7_partOf : GoodIn wsX7_mark wsX7_partOf := goodIn_r _ [110, 111, 112, 113, 114, 115, 116, 13, 117] (by decide +kernel) (by decide +kernel)
set_option maxRecDepth 20000 in
theorem gX7_mark_X7_partOf : GoodIn wsX7_mark (va_wsS RX7 145 yX7_partOf wsX7_partOf) := goodIn_app (goodIn_of _ (by decide +kernel)) ggX7_mark_X7_partOf
set_option maxRecDepth 20000 in
theorem ggX7_mark_X1_keep : GoodIn wsX7_mark wsX1_keep := goodIn_r _ [121, 122, 123, 99, 100, 7, 101, 139, 140, 141] (by decide +kernel) (by decide +kernel)
set_option maxRecDepth 20000 in
theorem gX7_mark_X1_keep : GoodIn wsX7_mark (wsV RX7 231 RX1 yX1_keep wsX1_keep) := goodIn_app (goodIn_of _ (by decide +kernel)) ggX7_mark_X1_keep
theorem dX7_mark_0 : decode cX7_mark 0 = .ok (.aload_n 0, 1) := by decide +kernel
theorem dX7_mark_1 : decode cX7_mark 1 = .ok (.getfield 49, 3) := by decide +kernel
theorem dX7_mark_4 : decode cX7_mark 4 = .ok (.aload_n 0, 1) := by decide +kernel
theorem dX7_mark_5 : decode cX7_mark 5 = .ok (.getfield 10, 3) := by decide +kernel
theorem dX7_mark_8 : decode cX7_mark 8 = .ok (.getfield 196, 3) := by decide +kernel
theorem dX7_mark_11 : decode cX7_mark 11 = .ok (.invokevirtual 225, 3) := by decide +kernel
theorem dX7_mark_14 : decode cX7_mark 14 = .ok (.aload_n 0, 1) := by decide +kernel
theorem dX7_mark_15 : decode cX7_mark 15 = .ok (.invokevirtual 133, 3) := by decide +kernel
theorem dX7_mark_18 : decode cX7_mark 18 = .ok (.lstore_n 1, 1) := by decide +kernel
theorem dX7_mark_19 : decode cX7_mark 19 = .ok (.iconst 0, 1) := by decide +kernel
theorem dX7_mark_20 : decode cX7_mark 20 = .ok (.istore_n 3, 1) := by decide +kernel
theorem dX7_mark_21 : decode cX7_mark 21 = .ok (.iload_n 3, 1) := by decide +kernel
theorem dX7_mark_22 : decode cX7_mark 22 = .ok (.bipush 7, 2) := by decide +kernel
theorem dX7_mark_24 : decode cX7_mark 24 = .ok (.if_icmp .ge 73, 3) := by decide +kernel
theorem dX7_mark_27 : decode cX7_mark 27 = .ok (.iload_n 3, 1) := by decide +kernel
theorem dX7_mark_28 : decode cX7_mark 28 = .ok (.iconst 1, 1) := by decide +kernel
theorem dX7_mark_29 : decode cX7_mark 29 = .ok (.iadd, 1) := by decide +kernel
theorem dX7_mark_30 : decode cX7_mark 30 = .ok (.istore 4, 2) := by decide +kernel
theorem dX7_mark_32 : decode cX7_mark 32 = .ok (.iload 4, 2) := by decide +kernel
theorem dX7_mark_34 : decode cX7_mark 34 = .ok (.bipush 7, 2) := by decide +kernel
theorem dX7_mark_36 : decode cX7_mark 36 = .ok (.if_icmp .ge 55, 3) := by decide +kernel
theorem dX7_mark_39 : decode cX7_mark 39 = .ok (.aload_n 0, 1) := by decide +kernel
theorem dX7_mark_40 : decode cX7_mark 40 = .ok (.getfield 49, 3) := by decide +kernel
theorem dX7_mark_43 : decode cX7_mark 43 = .ok (.iload_n 3, 1) := by decide +kernel
theorem dX7_mark_44 : decode cX7_mark 44 = .ok (.iload 4, 2) := by decide +kernel
theorem dX7_mark_46 : decode cX7_mark 46 = .ok (.invokevirtual 228, 3) := by decide +kernel
theorem dX7_mark_49 : decode cX7_mark 49 = .ok (.ifCond .eq 36, 3) := by decide +kernel
theorem dX7_mark_52 : decode cX7_mark 52 = .ok (.aload_n 0, 1) := by decide +kernel
theorem dX7_mark_53 : decode cX7_mark 53 = .ok (.iload_n 3, 1) := by decide +kernel
theorem dX7_mark_54 : decode cX7_mark 54 = .ok (.iload 4, 2) := by decide +kernel
theorem dX7_mark_56 : decode cX7_mark 56 = .ok (.invokevirtual 141, 3) := by decide +kernel
theorem dX7_mark_59 : decode cX7_mark 59 = .ok (.lstore 5, 2) := by decide +kernel
theorem dX7_mark_61 : decode cX7_mark 61 = .ok (.aload_n 0, 1) := by decide +kernel
theorem dX7_mark_62 : decode cX7_mark 62 = .ok (.getfield 49, 3) := by decide +kernel
theorem dX7_mark_65 : decode cX7_mark 65 = .ok (.iload_n 3, 1) := by decide +kernel
theorem dX7_mark_66 : decode cX7_mark 66 = .ok (.iload 4, 2) := by decide +kernel
theorem dX7_mark_68 : decode cX7_mark 68 = .ok (.lload 5, 2) := by decide +kernel
theorem dX7_mark_70 : decode cX7_mark 70 = .ok (.lload_n 1, 1) := by decide +kernel
theorem dX7_mark_71 : decode cX7_mark 71 = .ok (.iconst 0, 1) := by decide +kernel
theorem dX7_mark_72 : decode cX7_mark 72 = .ok (.invokestatic 145, 3) := by decide +kernel
theorem dX7_mark_75 : decode cX7_mark 75 = .ok (.lload 5, 2) := by decide +kernel
theorem dX7_mark_77 : decode cX7_mark 77 = .ok (.lload_n 1, 1) := by decide +kernel
theorem dX7_mark_78 : decode cX7_mark 78 = .ok (.iconst 1, 1) := by decide +kernel
theorem dX7_mark_79 : decode cX7_mark 79 = .ok (.invokestatic 145, 3) := by decide +kernel
theorem dX7_mark_82 : decode cX7_mark 82 = .ok (.invokevirtual 231, 3) := by decide +kernel
theorem dX7_mark_85 : decode cX7_mark 85 = .ok (.iinc 4 1, 3) := by decide +kernel
theorem dX7_mark_88 : decode cX7_mark 88 = .ok (.goto (-56), 3) := by decide +kernel
theorem dX7_mark_91 : decode cX7_mark 91 = .ok (.iinc 3 1, 3) := by decide +kernel
theorem dX7_mark_94 : decode cX7_mark 94 = .ok (.goto (-73), 3) := by decide +kernel
theorem dX7_mark_97 : decode cX7_mark 97 = .ok (.return_, 1) := by decide +kernel
set_option maxRecDepth 20000 in
theorem ggX7_keeps_X7_countRest : GoodIn wsX7_keeps wsX7_countRest := goodIn_r _ [6, 7, 8, 9, 10, 11, 12, 13, 14, 15, 16, 17, 18, 19, 20, 21, 22, 23, 24, 25, 26, 27, 28, 29, 30, 31, 32, 33, 34, 35, 36, 37, 38, 39, 40, 41, 42, 43, 44, 45, 5, 46, 47, 48, 49, 50, 51, 52, 53, 54, 55, 56, 57, 58, 59, 60, 61, 62, 63, 64, 65, 66, 67, 68, 69, 70, 71, 72, 73, 74, 75, 76, 77, 78, 79, 80, 81, 82, 83, 84, 85, 86, 87, 88, 120, 121, 122, 123, 124, 125, 126, 127, 128, 129, 130, 131, 132, 133, 134, 135, 136, 137, 138, 139, 140, 141, 142, 143] (by decide +kernel) (by decide +kernel)
set_option maxRecDepth 20000 in
theorem gX7_keeps_X7_countRest : GoodIn wsX7_keeps (wsV RX7 133 RX7 yX7_countRest wsX7_countRest) := goodIn_app (goodIn_of _ (by decide +kernel)) ggX7_keeps_X7_countRest
set_option maxRecDepth 20000 in
theorem ggX7_keeps_X1_hasPair : GoodIn wsX7_keeps wsX1_hasPair := goodIn_r _ [93, 94, 95, 96, 92, 97, 45, 5, 46, 144, 145, 146] (by decide +kernel) (by decide +kernel)
set_option maxRecDepth 20000 in
theorem gX7_keeps_X1_hasPair : GoodIn wsX7_keeps (wsV RX7 228 RX1 yX1_hasPair wsX1_hasPair) := goodIn_app (goodIn_of _ (by decide +kernel)) ggX7_keeps_X1_hasPair
set_option maxRecDepth 20000 in
theorem ggX7_keeps_X7_upperOfAnswer : GoodIn wsX7_keeps wsX7_upperOfAnswer := goodIn_r _ [101, 7, 8, 9, 102, 61, 5, 62, 103, 16, 17, 13, 18, 19, 20, 21, 22, 23, 24, 25, 26, 27, 28, 29, 30, 31, 32, 33, 34, 35, 36, 37, 38, 39, 40, 41, 42, 43, 44, 45, 46, 47, 48, 49, 50, 51, 52, 53, 54, 55, 56, 57, 58, 59, 60, 63, 64, 65, 66, 67, 68, 69, 70, 71, 72, 73, 74, 75, 76, 77, 78, 79, 80, 81, 82, 83, 84, 85, 86, 87, 88, 120, 121, 122, 123, 124, 125, 126, 127, 128, 129, 130, 131, 132, 133, 134, 135, 136, 137, 138, 139, 140, 141, 142, 143] (by decide +kernel) (by decide +kernel)
set_option maxRecDepth 20000 in
theorem gX7_keeps_X7_upperOfAnswer : GoodIn wsX7_keeps (wsV RX7 141 RX7 yX7_upperOfAnswer wsX7_upperOfAnswer) := goodIn_app (goodIn_of _ (by decide +kernel)) ggX7_keeps_X7_upperOfAnswer
set_option maxRecDepth 20000 in
theorem ggX7_keeps_X7_partOf : GoodIn wsX7_keeps wsX7_partOf := goodIn_r _ [106, 107, 108, 109, 110, 111, 112, 5, 113] (by decide +kernel) (by decide +kernel)
set_option maxRecDepth 20000 in
theorem gX7_keeps_X7_partOf : GoodIn wsX7_keeps (va_wsS RX7 145 yX7_partOf wsX7_partOf) := goodIn_app (goodIn_of _ (by decide +kernel)) ggX7_keeps_X7_partOf
set_option maxRecDepth 20000 in
theorem ggX7_keeps_X1_isKept : GoodIn wsX7_keeps wsX1_isKept := goodIn_r _ [117, 118, 119, 95, 96, 92, 97, 144, 145, 146] (by decide +kernel) (by decide +kernel)
set_option maxRecDepth 20000 in
theorem gX7_keeps_X1_isKept : GoodIn wsX7_keeps (wsV RX7 235 RX1 yX1_isKept wsX1_isKept) := goodIn_app (goodIn_of _ (by decide +kernel)) ggX7_keeps_X1_isKept
theorem dX7_keeps_0 : decode cX7_keeps 0 = .ok (.aload_n 0, 1) := by decide +kernel
theorem dX7_keeps_1 : decode cX7_keeps 1 = .ok (.invokevirtual 133, 3) := by decide +kernel
theorem dX7_keeps_4 : decode cX7_keeps 4 = .ok (.lstore_n 1, 1) := by decide +kernel
theorem dX7_keeps_5 : decode cX7_keeps 5 = .ok (.iconst 0, 1) := by decide +kernel
theorem dX7_keeps_6 : decode cX7_keeps 6 = .ok (.istore_n 3, 1) := by decide +kernel
theorem dX7_keeps_7 : decode cX7_keeps 7 = .ok (.iload_n 3, 1) := by decide +kernel
theorem dX7_keeps_8 : decode cX7_keeps 8 = .ok (.bipush 7, 2) := by decide +kernel
theorem dX7_keeps_10 : decode cX7_keeps 10 = .ok (.if_icmp .ge 78, 3) := by decide +kernel
theorem dX7_keeps_13 : decode cX7_keeps 13 = .ok (.iload_n 3, 1) := by decide +kernel
theorem dX7_keeps_14 : decode cX7_keeps 14 = .ok (.iconst 1, 1) := by decide +kernel
theorem dX7_keeps_15 : decode cX7_keeps 15 = .ok (.iadd, 1) := by decide +kernel
theorem dX7_keeps_16 : decode cX7_keeps 16 = .ok (.istore 4, 2) := by decide +kernel
theorem dX7_keeps_18 : decode cX7_keeps 18 = .ok (.iload 4, 2) := by decide +kernel
theorem dX7_keeps_20 : decode cX7_keeps 20 = .ok (.bipush 7, 2) := by decide +kernel
theorem dX7_keeps_22 : decode cX7_keeps 22 = .ok (.if_icmp .ge 60, 3) := by decide +kernel
theorem dX7_keeps_25 : decode cX7_keeps 25 = .ok (.aload_n 0, 1) := by decide +kernel
theorem dX7_keeps_26 : decode cX7_keeps 26 = .ok (.getfield 49, 3) := by decide +kernel
theorem dX7_keeps_29 : decode cX7_keeps 29 = .ok (.iload_n 3, 1) := by decide +kernel
theorem dX7_keeps_30 : decode cX7_keeps 30 = .ok (.iload 4, 2) := by decide +kernel
theorem dX7_keeps_32 : decode cX7_keeps 32 = .ok (.invokevirtual 228, 3) := by decide +kernel
theorem dX7_keeps_35 : decode cX7_keeps 35 = .ok (.ifCond .eq 41, 3) := by decide +kernel
theorem dX7_keeps_38 : decode cX7_keeps 38 = .ok (.aload_n 0, 1) := by decide +kernel
theorem dX7_keeps_39 : decode cX7_keeps 39 = .ok (.iload_n 3, 1) := by decide +kernel
theorem dX7_keeps_40 : decode cX7_keeps 40 = .ok (.iload 4, 2) := by decide +kernel
theorem dX7_keeps_42 : decode cX7_keeps 42 = .ok (.invokevirtual 141, 3) := by decide +kernel
theorem dX7_keeps_45 : decode cX7_keeps 45 = .ok (.lstore 5, 2) := by decide +kernel
theorem dX7_keeps_47 : decode cX7_keeps 47 = .ok (.aload_n 0, 1) := by decide +kernel
theorem dX7_keeps_48 : decode cX7_keeps 48 = .ok (.getfield 49, 3) := by decide +kernel
theorem dX7_keeps_51 : decode cX7_keeps 51 = .ok (.iload_n 3, 1) := by decide +kernel
theorem dX7_keeps_52 : decode cX7_keeps 52 = .ok (.iload 4, 2) := by decide +kernel
theorem dX7_keeps_54 : decode cX7_keeps 54 = .ok (.lload 5, 2) := by decide +kernel
theorem dX7_keeps_56 : decode cX7_keeps 56 = .ok (.lload_n 1, 1) := by decide +kernel
theorem dX7_keeps_57 : decode cX7_keeps 57 = .ok (.iconst 0, 1) := by decide +kernel
theorem dX7_keeps_58 : decode cX7_keeps 58 = .ok (.invokestatic 145, 3) := by decide +kernel
theorem dX7_keeps_61 : decode cX7_keeps 61 = .ok (.lload 5, 2) := by decide +kernel
theorem dX7_keeps_63 : decode cX7_keeps 63 = .ok (.lload_n 1, 1) := by decide +kernel
theorem dX7_keeps_64 : decode cX7_keeps 64 = .ok (.iconst 1, 1) := by decide +kernel
theorem dX7_keeps_65 : decode cX7_keeps 65 = .ok (.invokestatic 145, 3) := by decide +kernel
theorem dX7_keeps_68 : decode cX7_keeps 68 = .ok (.invokevirtual 235, 3) := by decide +kernel
theorem dX7_keeps_71 : decode cX7_keeps 71 = .ok (.ifCond .ne 5, 3) := by decide +kernel
theorem dX7_keeps_74 : decode cX7_keeps 74 = .ok (.iconst 0, 1) := by decide +kernel
theorem dX7_keeps_75 : decode cX7_keeps 75 = .ok (.ireturn, 1) := by decide +kernel
theorem dX7_keeps_76 : decode cX7_keeps 76 = .ok (.iinc 4 1, 3) := by decide +kernel
theorem dX7_keeps_79 : decode cX7_keeps 79 = .ok (.goto (-61), 3) := by decide +kernel
theorem dX7_keeps_82 : decode cX7_keeps 82 = .ok (.iinc 3 1, 3) := by decide +kernel
theorem dX7_keeps_85 : decode cX7_keeps 85 = .ok (.goto (-78), 3) := by decide +kernel
theorem dX7_keeps_88 : decode cX7_keeps 88 = .ok (.iconst 1, 1) := by decide +kernel
theorem dX7_keeps_89 : decode cX7_keeps 89 = .ok (.ireturn, 1) := by decide +kernel
set_option maxRecDepth 20000 in
theorem ggX7_needNode_X4_hasNode : GoodIn wsX7_needNode wsX4_hasNode := goodIn_r _ [8, 9, 10, 11, 12, 20, 21, 22, 23, 24, 25, 26, 27] (by decide +kernel) (by decide +kernel)
set_option maxRecDepth 20000 in
theorem gX7_needNode_X4_hasNode : GoodIn wsX7_needNode (wsV RX7 239 RX4 yX4_hasNode wsX4_hasNode) := goodIn_app (goodIn_of _ (by decide +kernel)) ggX7_needNode_X4_hasNode
theorem dX7_needNode_0 : decode cX7_needNode 0 = .ok (.aload_n 0, 1) := by decide +kernel
theorem dX7_needNode_1 : decode cX7_needNode 1 = .ok (.getfield 10, 3) := by decide +kernel
theorem dX7_needNode_4 : decode cX7_needNode 4 = .ok (.iload_n 1, 1) := by decide +kernel
theorem dX7_needNode_5 : decode cX7_needNode 5 = .ok (.invokevirtual 239, 3) := by decide +kernel
theorem dX7_needNode_8 : decode cX7_needNode 8 = .ok (.ifCond .ne 13, 3) := by decide +kernel
theorem dX7_needNode_11 : decode cX7_needNode 11 = .ok (.new 183, 3) := by decide +kernel
theorem dX7_needNode_14 : decode cX7_needNode 14 = .ok (.dup, 1) := by decide +kernel
theorem dX7_needNode_15 : decode cX7_needNode 15 = .ok (.ldc 185, 2) := by decide +kernel
theorem dX7_needNode_17 : decode cX7_needNode 17 = .ok (.invokespecial 187, 3) := by decide +kernel
theorem dX7_needNode_20 : decode cX7_needNode 20 = .ok (.athrow, 1) := by decide +kernel
theorem dX7_needNode_21 : decode cX7_needNode 21 = .ok (.return_, 1) := by decide +kernel
set_option maxRecDepth 20000 in
theorem ggX7_needEdge_X4_hasEdge : GoodIn wsX7_needEdge wsX4_hasEdge := goodIn_r _ [8, 9, 10, 11, 12, 7, 13, 14, 15, 16, 17, 25, 26, 27, 28, 29, 30, 31, 32] (by decide +kernel) (by decide +kernel)
set_option maxRecDepth 20000 in
theorem gX7_needEdge_X4_hasEdge : GoodIn wsX7_needEdge (wsV RX7 155 RX4 yX4_hasEdge wsX4_hasEdge) := goodIn_app (goodIn_of _ (by decide +kernel)) ggX7_needEdge_X4_hasEdge
theorem dX7_needEdge_0 : decode cX7_needEdge 0 = .ok (.aload_n 0, 1) := by decide +kernel
theorem dX7_needEdge_1 : decode cX7_needEdge 1 = .ok (.getfield 10, 3) := by decide +kernel
theorem dX7_needEdge_4 : decode cX7_needEdge 4 = .ok (.iload_n 1, 1) := by decide +kernel
theorem dX7_needEdge_5 : decode cX7_needEdge 5 = .ok (.invokevirtual 155, 3) := by decide +kernel
theorem dX7_needEdge_8 : decode cX7_needEdge 8 = .ok (.ifCond .ne 13, 3) := by decide +kernel
theorem dX7_needEdge_11 : decode cX7_needEdge 11 = .ok (.new 183, 3) := by decide +kernel
theorem dX7_needEdge_14 : decode cX7_needEdge 14 = .ok (.dup, 1) := by decide +kernel
theorem dX7_needEdge_15 : decode cX7_needEdge 15 = .ok (.ldc 242, 2) := by decide +kernel
theorem dX7_needEdge_17 : decode cX7_needEdge 17 = .ok (.invokespecial 187, 3) := by decide +kernel
theorem dX7_needEdge_20 : decode cX7_needEdge 20 = .ok (.athrow, 1) := by decide +kernel
theorem dX7_needEdge_21 : decode cX7_needEdge 21 = .ok (.return_, 1) := by decide +kernel
set_option maxRecDepth 20000 in
theorem ggX7_needWire_X4_hasWire : GoodIn wsX7_needWire wsX4_hasWire := goodIn_r _ [8, 9, 10, 11, 12, 20, 21, 22, 23, 24, 25, 26, 27] (by decide +kernel) (by decide +kernel)
set_option maxRecDepth 20000 in
theorem gX7_needWire_X4_hasWire : GoodIn wsX7_needWire (wsV RX7 244 RX4 yX4_hasWire wsX4_hasWire) := goodIn_app (goodIn_of _ (by decide +kernel)) ggX7_needWire_X4_hasWire
theorem dX7_needWire_0 : decode cX7_needWire 0 = .ok (.aload_n 0, 1) := by decide +kernel
theorem dX7_needWire_1 : decode cX7_needWire 1 = .ok (.getfield 10, 3) := by decide +kernel
theorem dX7_needWire_4 : decode cX7_needWire 4 = .ok (.iload_n 1, 1) := by decide +kernel
theorem dX7_needWire_5 : decode cX7_needWire 5 = .ok (.invokevirtual 244, 3) := by decide +kernel
theorem dX7_needWire_8 : decode cX7_needWire 8 = .ok (.ifCond .ne 13, 3) := by decide +kernel
theorem dX7_needWire_11 : decode cX7_needWire 11 = .ok (.new 183, 3) := by decide +kernel
theorem dX7_needWire_14 : decode cX7_needWire 14 = .ok (.dup, 1) := by decide +kernel
theorem dX7_needWire_15 : decode cX7_needWire 15 = .ok (.ldc 247, 2) := by decide +kernel
theorem dX7_needWire_17 : decode cX7_needWire 17 = .ok (.invokespecial 187, 3) := by decide +kernel
theorem dX7_needWire_20 : decode cX7_needWire 20 = .ok (.athrow, 1) := by decide +kernel
theorem dX7_needWire_21 : decode cX7_needWire 21 = .ok (.return_, 1) := by decide +kernel
set_option maxRecDepth 20000 in
theorem ggX7_needWireOrNode_X7_isOfWire : GoodIn wsX7_needWireOrNode wsX7_isOfWire := goodIn_r _ [4] (by decide +kernel) (by decide +kernel)
set_option maxRecDepth 20000 in
theorem gX7_needWireOrNode_X7_isOfWire : GoodIn wsX7_needWireOrNode (va_wsS RX7 249 yX7_isOfWire wsX7_isOfWire) := goodIn_app (goodIn_of _ (by decide +kernel)) ggX7_needWireOrNode_X7_isOfWire
set_option maxRecDepth 20000 in
theorem ggX7_needWireOrNode_X7_needWire : GoodIn wsX7_needWireOrNode wsX7_needWire := goodIn_ca (goodIn_r _ [8, 9, 10, 11, 12, 13, 14, 15, 16, 17, 18, 3, 19, 29, 30, 31, 32, 33, 34, 35, 36, 37, 38, 39, 40, 41, 42, 43] (by decide +kernel) (by decide +kernel)) (goodIn_sub (fun _ h => List.mem_cons_of_mem _ (List.mem_append_right _ h)) (by decide +kernel))
set_option maxRecDepth 20000 in
theorem gX7_needWireOrNode_X7_needWire : GoodIn wsX7_needWireOrNode (wsV RX7 104 RX7 yX7_needWire wsX7_needWire) := goodIn_app (goodIn_of _ (by decide +kernel)) ggX7_needWireOrNode_X7_needWire
set_option maxRecDepth 20000 in
theorem ggX7_needWireOrNode_X7_needNode : GoodIn wsX7_needWireOrNode wsX7_needNode := goodIn_ca (goodIn_r _ [23, 9, 10, 11, 24, 25, 26, 15, 27, 28, 18, 3, 19, 29, 30, 31, 32, 33, 34, 35, 36, 37, 38, 39, 40, 41, 42, 43] (by decide +kernel) (by decide +kernel)) (goodIn_sub (fun _ h => List.mem_cons_of_mem _ (List.mem_append_right _ h)) (by decide +kernel))
set_option maxRecDepth 20000 in
theorem gX7_needWireOrNode_X7_needNode : GoodIn wsX7_needWireOrNode (wsV RX7 75 RX7 yX7_needNode wsX7_needNode) := goodIn_app (goodIn_of _ (by decide +kernel)) ggX7_needWireOrNode_X7_needNode
theorem dX7_needWireOrNode_0 : decode cX7_needWireOrNode 0 = .ok (.iload_n 1, 1) := by decide +kernel
theorem dX7_needWireOrNode_1 : decode cX7_needWireOrNode 1 = .ok (.invokestatic 249, 3) := by decide +kernel
theorem dX7_needWireOrNode_4 : decode cX7_needWireOrNode 4 = .ok (.ifCond .eq 11, 3) := by decide +kernel
theorem dX7_needWireOrNode_7 : decode cX7_needWireOrNode 7 = .ok (.aload_n 0, 1) := by decide +kernel
theorem dX7_needWireOrNode_8 : decode cX7_needWireOrNode 8 = .ok (.iload_n 2, 1) := by decide +kernel
theorem dX7_needWireOrNode_9 : decode cX7_needWireOrNode 9 = .ok (.invokevirtual 104, 3) := by decide +kernel
theorem dX7_needWireOrNode_12 : decode cX7_needWireOrNode 12 = .ok (.goto 8, 3) := by decide +kernel
theorem dX7_needWireOrNode_15 : decode cX7_needWireOrNode 15 = .ok (.aload_n 0, 1) := by decide +kernel
theorem dX7_needWireOrNode_16 : decode cX7_needWireOrNode 16 = .ok (.iload_n 2, 1) := by decide +kernel
theorem dX7_needWireOrNode_17 : decode cX7_needWireOrNode 17 = .ok (.invokevirtual 75, 3) := by decide +kernel
theorem dX7_needWireOrNode_20 : decode cX7_needWireOrNode 20 = .ok (.return_, 1) := by decide +kernel
theorem dX7_isOfWire_0 : decode cX7_isOfWire 0 = .ok (.iload_n 0, 1) := by decide +kernel
theorem dX7_isOfWire_1 : decode cX7_isOfWire 1 = .ok (.ifCond .eq 13, 3) := by decide +kernel
theorem dX7_isOfWire_4 : decode cX7_isOfWire 4 = .ok (.iload_n 0, 1) := by decide +kernel
theorem dX7_isOfWire_5 : decode cX7_isOfWire 5 = .ok (.iconst 1, 1) := by decide +kernel
theorem dX7_isOfWire_6 : decode cX7_isOfWire 6 = .ok (.if_icmp .eq 8, 3) := by decide +kernel
theorem dX7_isOfWire_9 : decode cX7_isOfWire 9 = .ok (.iload_n 0, 1) := by decide +kernel
theorem dX7_isOfWire_10 : decode cX7_isOfWire 10 = .ok (.iconst 5, 1) := by decide +kernel
theorem dX7_isOfWire_11 : decode cX7_isOfWire 11 = .ok (.if_icmp .ne 7, 3) := by decide +kernel
theorem dX7_isOfWire_14 : decode cX7_isOfWire 14 = .ok (.iconst 1, 1) := by decide +kernel
theorem dX7_isOfWire_15 : decode cX7_isOfWire 15 = .ok (.goto 4, 3) := by decide +kernel
theorem dX7_isOfWire_18 : decode cX7_isOfWire 18 = .ok (.iconst 0, 1) := by decide +kernel
theorem dX7_isOfWire_19 : decode cX7_isOfWire 19 = .ok (.ireturn, 1) := by decide +kernel
theorem dX7_isConductance_0 : decode cX7_isConductance 0 = .ok (.iload_n 0, 1) := by decide +kernel
theorem dX7_isConductance_1 : decode cX7_isConductance 1 = .ok (.iconst 1, 1) := by decide +kernel
theorem dX7_isConductance_2 : decode cX7_isConductance 2 = .ok (.if_icmp .lt 13, 3) := by decide +kernel
theorem dX7_isConductance_5 : decode cX7_isConductance 5 = .ok (.iload_n 0, 1) := by decide +kernel
theorem dX7_isConductance_6 : decode cX7_isConductance 6 = .ok (.bipush 60, 2) := by decide +kernel
theorem dX7_isConductance_8 : decode cX7_isConductance 8 = .ok (.if_icmp .gt 7, 3) := by decide +kernel
theorem dX7_isConductance_11 : decode cX7_isConductance 11 = .ok (.iconst 1, 1) := by decide +kernel
theorem dX7_isConductance_12 : decode cX7_isConductance 12 = .ok (.goto 4, 3) := by decide +kernel
theorem dX7_isConductance_15 : decode cX7_isConductance 15 = .ok (.iconst 0, 1) := by decide +kernel
theorem dX7_isConductance_16 : decode cX7_isConductance 16 = .ok (.ireturn, 1) := by decide +kernel
theorem dX7_setOf_0 : decode cX7_setOf 0 = .ok (.iconst 1, 1) := by decide +kernel
theorem dX7_setOf_1 : decode cX7_setOf 1 = .ok (.iload_n 0, 1) := by decide +kernel
theorem dX7_setOf_2 : decode cX7_setOf 2 = .ok (.ishl, 1) := by decide +kernel
theorem dX7_setOf_3 : decode cX7_setOf 3 = .ok (.ireturn, 1) := by decide +kernel
theorem dX7_isIn_0 : decode cX7_isIn 0 = .ok (.iload_n 0, 1) := by decide +kernel
theorem dX7_isIn_1 : decode cX7_isIn 1 = .ok (.iload_n 1, 1) := by decide +kernel
theorem dX7_isIn_2 : decode cX7_isIn 2 = .ok (.ishr, 1) := by decide +kernel
theorem dX7_isIn_3 : decode cX7_isIn 3 = .ok (.iconst 1, 1) := by decide +kernel
theorem dX7_isIn_4 : decode cX7_isIn 4 = .ok (.iand, 1) := by decide +kernel
theorem dX7_isIn_5 : decode cX7_isIn 5 = .ok (.ifCond .eq 7, 3) := by decide +kernel
theorem dX7_isIn_8 : decode cX7_isIn 8 = .ok (.iconst 1, 1) := by decide +kernel
theorem dX7_isIn_9 : decode cX7_isIn 9 = .ok (.goto 4, 3) := by decide +kernel
theorem dX7_isIn_12 : decode cX7_isIn 12 = .ok (.iconst 0, 1) := by decide +kernel
theorem dX7_isIn_13 : decode cX7_isIn 13 = .ok (.ireturn, 1) := by decide +kernel
set_option maxRecDepth 20000 in
theorem ggX7_partOf_X7_greatestDivisor : GoodIn wsX7_partOf wsX7_greatestDivisor := goodIn_r _ [8] (by decide +kernel) (by decide +kernel)
set_option maxRecDepth 20000 in
theorem gX7_partOf_X7_greatestDivisor : GoodIn wsX7_partOf (va_wsS RX7 258 yX7_greatestDivisor wsX7_greatestDivisor) := goodIn_app (goodIn_of _ (by decide +kernel)) ggX7_partOf_X7_greatestDivisor
theorem dX7_partOf_0 : decode cX7_partOf 0 = .ok (.lload_n 2, 1) := by decide +kernel
theorem dX7_partOf_1 : decode cX7_partOf 1 = .ok (.lload_n 0, 1) := by decide +kernel
theorem dX7_partOf_2 : decode cX7_partOf 2 = .ok (.invokestatic 252, 3) := by decide +kernel
theorem dX7_partOf_5 : decode cX7_partOf 5 = .ok (.invokestatic 258, 3) := by decide +kernel
theorem dX7_partOf_8 : decode cX7_partOf 8 = .ok (.lstore 5, 2) := by decide +kernel
theorem dX7_partOf_10 : decode cX7_partOf 10 = .ok (.lload_n 2, 1) := by decide +kernel
theorem dX7_partOf_11 : decode cX7_partOf 11 = .ok (.lconst 0, 1) := by decide +kernel
theorem dX7_partOf_12 : decode cX7_partOf 12 = .ok (.lcmp, 1) := by decide +kernel
theorem dX7_partOf_13 : decode cX7_partOf 13 = .ok (.ifCond .eq 10, 3) := by decide +kernel
theorem dX7_partOf_16 : decode cX7_partOf 16 = .ok (.lload 5, 2) := by decide +kernel
theorem dX7_partOf_18 : decode cX7_partOf 18 = .ok (.lconst 0, 1) := by decide +kernel
theorem dX7_partOf_19 : decode cX7_partOf 19 = .ok (.lcmp, 1) := by decide +kernel
theorem dX7_partOf_20 : decode cX7_partOf 20 = .ok (.ifCond .ne 5, 3) := by decide +kernel
theorem dX7_partOf_23 : decode cX7_partOf 23 = .ok (.lconst 0, 1) := by decide +kernel
theorem dX7_partOf_24 : decode cX7_partOf 24 = .ok (.lreturn, 1) := by decide +kernel
theorem dX7_partOf_25 : decode cX7_partOf 25 = .ok (.iload 4, 2) := by decide +kernel
theorem dX7_partOf_27 : decode cX7_partOf 27 = .ok (.ifCond .eq 7, 3) := by decide +kernel
theorem dX7_partOf_30 : decode cX7_partOf 30 = .ok (.lload_n 2, 1) := by decide +kernel
theorem dX7_partOf_31 : decode cX7_partOf 31 = .ok (.goto 4, 3) := by decide +kernel
theorem dX7_partOf_34 : decode cX7_partOf 34 = .ok (.lload_n 0, 1) := by decide +kernel
theorem dX7_partOf_35 : decode cX7_partOf 35 = .ok (.lload 5, 2) := by decide +kernel
theorem dX7_partOf_37 : decode cX7_partOf 37 = .ok (.ldiv, 1) := by decide +kernel
theorem dX7_partOf_38 : decode cX7_partOf 38 = .ok (.lreturn, 1) := by decide +kernel
theorem dX7_greatestDivisor_0 : decode cX7_greatestDivisor 0 = .ok (.lload_n 0, 1) := by decide +kernel
theorem dX7_greatestDivisor_1 : decode cX7_greatestDivisor 1 = .ok (.lstore 4, 2) := by decide +kernel
theorem dX7_greatestDivisor_3 : decode cX7_greatestDivisor 3 = .ok (.lload_n 2, 1) := by decide +kernel
theorem dX7_greatestDivisor_4 : decode cX7_greatestDivisor 4 = .ok (.lstore 6, 2) := by decide +kernel
theorem dX7_greatestDivisor_6 : decode cX7_greatestDivisor 6 = .ok (.iconst 0, 1) := by decide +kernel
theorem dX7_greatestDivisor_7 : decode cX7_greatestDivisor 7 = .ok (.istore 8, 2) := by decide +kernel
theorem dX7_greatestDivisor_9 : decode cX7_greatestDivisor 9 = .ok (.iload 8, 2) := by decide +kernel
theorem dX7_greatestDivisor_11 : decode cX7_greatestDivisor 11 = .ok (.sipush 1000, 3) := by decide +kernel
theorem dX7_greatestDivisor_14 : decode cX7_greatestDivisor 14 = .ok (.if_icmp .ge 31, 3) := by decide +kernel
theorem dX7_greatestDivisor_17 : decode cX7_greatestDivisor 17 = .ok (.lload 6, 2) := by decide +kernel
theorem dX7_greatestDivisor_19 : decode cX7_greatestDivisor 19 = .ok (.lconst 0, 1) := by decide +kernel
theorem dX7_greatestDivisor_20 : decode cX7_greatestDivisor 20 = .ok (.lcmp, 1) := by decide +kernel
theorem dX7_greatestDivisor_21 : decode cX7_greatestDivisor 21 = .ok (.ifCond .eq 24, 3) := by decide +kernel
theorem dX7_greatestDivisor_24 : decode cX7_greatestDivisor 24 = .ok (.lload 4, 2) := by decide +kernel
theorem dX7_greatestDivisor_26 : decode cX7_greatestDivisor 26 = .ok (.lload 6, 2) := by decide +kernel
theorem dX7_greatestDivisor_28 : decode cX7_greatestDivisor 28 = .ok (.lrem, 1) := by decide +kernel
theorem dX7_greatestDivisor_29 : decode cX7_greatestDivisor 29 = .ok (.lstore 9, 2) := by decide +kernel
theorem dX7_greatestDivisor_31 : decode cX7_greatestDivisor 31 = .ok (.lload 6, 2) := by decide +kernel
theorem dX7_greatestDivisor_33 : decode cX7_greatestDivisor 33 = .ok (.lstore 4, 2) := by decide +kernel
theorem dX7_greatestDivisor_35 : decode cX7_greatestDivisor 35 = .ok (.lload 9, 2) := by decide +kernel
theorem dX7_greatestDivisor_37 : decode cX7_greatestDivisor 37 = .ok (.lstore 6, 2) := by decide +kernel
theorem dX7_greatestDivisor_39 : decode cX7_greatestDivisor 39 = .ok (.iinc 8 1, 3) := by decide +kernel
theorem dX7_greatestDivisor_42 : decode cX7_greatestDivisor 42 = .ok (.goto (-33), 3) := by decide +kernel
theorem dX7_greatestDivisor_45 : decode cX7_greatestDivisor 45 = .ok (.lload 4, 2) := by decide +kernel
theorem dX7_greatestDivisor_47 : decode cX7_greatestDivisor 47 = .ok (.lreturn, 1) := by decide +kernel
set_option maxRecDepth 20000 in
theorem ggX7_countTrees_X4_lowestNode : GoodIn wsX7_countTrees wsX4_lowestNode := goodIn_r _ [7, 8, 9, 10, 6, 11, 12, 13, 14, 15, 100, 101, 102, 103, 104, 105, 106, 107] (by decide +kernel) (by decide +kernel)
set_option maxRecDepth 20000 in
theorem gX7_countTrees_X4_lowestNode : GoodIn wsX7_countTrees (wsV RX7 262 RX4 yX4_lowestNode wsX4_lowestNode) := goodIn_app (goodIn_of _ (by decide +kernel)) ggX7_countTrees_X4_lowestNode
set_option maxRecDepth 20000 in
theorem ggX7_countTrees_X7_setOf : GoodIn wsX7_countTrees wsX7_setOf := goodIn_r _ [18] (by decide +kernel) (by decide +kernel)
set_option maxRecDepth 20000 in
theorem gX7_countTrees_X7_setOf : GoodIn wsX7_countTrees (va_wsS RX7 168 yX7_setOf wsX7_setOf) := goodIn_app (goodIn_of _ (by decide +kernel)) ggX7_countTrees_X7_setOf
set_option maxRecDepth 20000 in
theorem ggX7_countTrees_X0_count : GoodIn wsX7_countTrees wsX0_count := goodIn_r _ [23, 24, 25, 26, 22, 27, 28, 29, 30, 31, 32, 33, 34, 35, 36, 37, 38, 39, 40, 41, 42, 43, 44, 45, 46, 47, 48, 49, 50, 6, 51, 52, 13, 14, 15, 53, 54, 55, 56, 57, 58, 59, 60, 61, 62, 63, 64, 65, 66, 17, 18, 67, 68, 69, 70, 71, 72, 73, 74, 75, 76, 77, 78, 79, 80, 81, 82, 83, 84, 85, 86, 87, 88, 89, 90, 91, 92, 108, 109, 110, 111, 112, 113, 114, 115, 116, 100, 101, 102, 103, 104, 105, 106, 107] (by decide +kernel) (by decide +kernel)
set_option maxRecDepth 20000 in
theorem gX7_countTrees_X0_count : GoodIn wsX7_countTrees (wsV RX7 171 RX0 yX0_count wsX0_count) := goodIn_app (goodIn_of _ (by decide +kernel)) ggX7_countTrees_X0_count
theorem dX7_countTrees_0 : decode cX7_countTrees 0 = .ok (.aload_n 0, 1) := by decide +kernel
theorem dX7_countTrees_1 : decode cX7_countTrees 1 = .ok (.getfield 10, 3) := by decide +kernel
theorem dX7_countTrees_4 : decode cX7_countTrees 4 = .ok (.invokevirtual 262, 3) := by decide +kernel
theorem dX7_countTrees_7 : decode cX7_countTrees 7 = .ok (.istore_n 1, 1) := by decide +kernel
theorem dX7_countTrees_8 : decode cX7_countTrees 8 = .ok (.iload_n 1, 1) := by decide +kernel
theorem dX7_countTrees_9 : decode cX7_countTrees 9 = .ok (.iconst (-1), 1) := by decide +kernel
theorem dX7_countTrees_10 : decode cX7_countTrees 10 = .ok (.if_icmp .ne 7, 3) := by decide +kernel
theorem dX7_countTrees_13 : decode cX7_countTrees 13 = .ok (.lconst 0, 1) := by decide +kernel
theorem dX7_countTrees_14 : decode cX7_countTrees 14 = .ok (.goto 14, 3) := by decide +kernel
theorem dX7_countTrees_17 : decode cX7_countTrees 17 = .ok (.aload_n 0, 1) := by decide +kernel
theorem dX7_countTrees_18 : decode cX7_countTrees 18 = .ok (.getfield 21, 3) := by decide +kernel
theorem dX7_countTrees_21 : decode cX7_countTrees 21 = .ok (.iload_n 1, 1) := by decide +kernel
theorem dX7_countTrees_22 : decode cX7_countTrees 22 = .ok (.invokestatic 168, 3) := by decide +kernel
theorem dX7_countTrees_25 : decode cX7_countTrees 25 = .ok (.invokevirtual 171, 3) := by decide +kernel
theorem dX7_countTrees_28 : decode cX7_countTrees 28 = .ok (.lreturn, 1) := by decide +kernel
set_option maxRecDepth 20000 in
theorem ggX7_countRest_X0_count : GoodIn wsX7_countRest wsX0_count := goodIn_r _ [8, 9, 10, 11, 7, 12, 13, 14, 15, 16, 17, 18, 19, 20, 21, 22, 23, 24, 25, 26, 27, 28, 29, 30, 31, 32, 33, 34, 35, 36, 37, 38, 39, 40, 41, 42, 43, 44, 45, 46, 47, 48, 49, 50, 51, 52, 53, 54, 55, 56, 57, 58, 59, 60, 61, 62, 63, 64, 65, 66, 67, 68, 69, 70, 71, 72, 73, 74, 75, 76, 77, 78, 79, 80, 81, 82, 83, 99, 100, 101, 102, 103, 104, 105, 106, 107, 91, 92, 93, 94, 95, 96, 97, 98] (by decide +kernel) (by decide +kernel)
set_option maxRecDepth 20000 in
theorem gX7_countRest_X0_count : GoodIn wsX7_countRest (wsV RX7 171 RX0 yX0_count wsX0_count) := goodIn_app (goodIn_of _ (by decide +kernel)) ggX7_countRest_X0_count
theorem dX7_countRest_0 : decode cX7_countRest 0 = .ok (.aload_n 0, 1) := by decide +kernel
theorem dX7_countRest_1 : decode cX7_countRest 1 = .ok (.getfield 21, 3) := by decide +kernel
theorem dX7_countRest_4 : decode cX7_countRest 4 = .ok (.aload_n 0, 1) := by decide +kernel
theorem dX7_countRest_5 : decode cX7_countRest 5 = .ok (.getfield 10, 3) := by decide +kernel
theorem dX7_countRest_8 : decode cX7_countRest 8 = .ok (.getfield 196, 3) := by decide +kernel
theorem dX7_countRest_11 : decode cX7_countRest 11 = .ok (.invokevirtual 171, 3) := by decide +kernel
theorem dX7_countRest_14 : decode cX7_countRest 14 = .ok (.lreturn, 1) := by decide +kernel
set_option maxRecDepth 20000 in
theorem ggX7_upperOfAnswer_X7_setOf : GoodIn wsX7_upperOfAnswer wsX7_setOf := goodIn_r _ [7] (by decide +kernel) (by decide +kernel)
set_option maxRecDepth 20000 in
theorem gX7_upperOfAnswer_X7_setOf : GoodIn wsX7_upperOfAnswer (va_wsS RX7 168 yX7_setOf wsX7_setOf) := goodIn_app (goodIn_of _ (by decide +kernel)) ggX7_upperOfAnswer_X7_setOf
set_option maxRecDepth 20000 in
theorem ggX7_upperOfAnswer_X0_countWith : GoodIn wsX7_upperOfAnswer wsX0_countWith := goodIn_r _ [12, 13, 14, 15, 16, 17, 18, 11, 19, 20, 21, 22, 23, 24, 25, 26, 27, 28, 29, 30, 31, 32, 33, 34, 35, 36, 37, 38, 39, 6, 40, 41, 42, 43, 44, 45, 46, 47, 48, 49, 50, 51, 52, 53, 54, 5, 7, 55, 56, 57, 58, 59, 60, 61, 62, 63, 64, 65, 66, 67, 68, 69, 70, 71, 72, 73, 74, 75, 76, 77, 78, 79, 80, 96, 97, 98, 99, 100, 101, 102, 103, 104, 88, 89, 90, 91, 92, 93, 94, 95] (by decide +kernel) (by decide +kernel)
set_option maxRecDepth 20000 in
theorem gX7_upperOfAnswer_X0_countWith : GoodIn wsX7_upperOfAnswer (wsV RX7 176 RX0 yX0_countWith wsX0_countWith) := goodIn_app (goodIn_of _ (by decide +kernel)) ggX7_upperOfAnswer_X0_countWith
theorem dX7_upperOfAnswer_0 : decode cX7_upperOfAnswer 0 = .ok (.aload_n 0, 1) := by decide +kernel
theorem dX7_upperOfAnswer_1 : decode cX7_upperOfAnswer 1 = .ok (.getfield 21, 3) := by decide +kernel
theorem dX7_upperOfAnswer_4 : decode cX7_upperOfAnswer 4 = .ok (.aload_n 0, 1) := by decide +kernel
theorem dX7_upperOfAnswer_5 : decode cX7_upperOfAnswer 5 = .ok (.getfield 10, 3) := by decide +kernel
theorem dX7_upperOfAnswer_8 : decode cX7_upperOfAnswer 8 = .ok (.getfield 196, 3) := by decide +kernel
theorem dX7_upperOfAnswer_11 : decode cX7_upperOfAnswer 11 = .ok (.iload_n 1, 1) := by decide +kernel
theorem dX7_upperOfAnswer_12 : decode cX7_upperOfAnswer 12 = .ok (.invokestatic 168, 3) := by decide +kernel
theorem dX7_upperOfAnswer_15 : decode cX7_upperOfAnswer 15 = .ok (.iconst (-1), 1) := by decide +kernel
theorem dX7_upperOfAnswer_16 : decode cX7_upperOfAnswer 16 = .ok (.ixor, 1) := by decide +kernel
theorem dX7_upperOfAnswer_17 : decode cX7_upperOfAnswer 17 = .ok (.iand, 1) := by decide +kernel
theorem dX7_upperOfAnswer_18 : decode cX7_upperOfAnswer 18 = .ok (.iload_n 1, 1) := by decide +kernel
theorem dX7_upperOfAnswer_19 : decode cX7_upperOfAnswer 19 = .ok (.iload_n 2, 1) := by decide +kernel
theorem dX7_upperOfAnswer_20 : decode cX7_upperOfAnswer 20 = .ok (.invokevirtual 176, 3) := by decide +kernel
theorem dX7_upperOfAnswer_23 : decode cX7_upperOfAnswer 23 = .ok (.lreturn, 1) := by decide +kernel
set_option maxRecDepth 20000 in
theorem ggX7_upperOfPotential_X4_hasEdge : GoodIn wsX7_upperOfPotential wsX4_hasEdge := goodIn_r _ [8, 9, 10, 11, 12, 7, 13, 14, 15, 16, 17, 102, 103, 104, 105, 106, 107, 108, 109] (by decide +kernel) (by decide +kernel)
set_option maxRecDepth 20000 in
theorem gX7_upperOfPotential_X4_hasEdge : GoodIn wsX7_upperOfPotential (wsV RX7 155 RX4 yX4_hasEdge wsX4_hasEdge) := goodIn_app (goodIn_of _ (by decide +kernel)) ggX7_upperOfPotential_X4_hasEdge
set_option maxRecDepth 20000 in
theorem ggX7_upperOfPotential_X7_valueOf : GoodIn wsX7_upperOfPotential wsX7_valueOf := goodIn_r _ [21, 22, 95, 96, 97, 98, 99, 100, 101] (by decide +kernel) (by decide +kernel)
set_option maxRecDepth 20000 in
theorem gX7_upperOfPotential_X7_valueOf : GoodIn wsX7_upperOfPotential (wsV RX7 158 RX7 yX7_valueOf wsX7_valueOf) := goodIn_app (goodIn_of _ (by decide +kernel)) ggX7_upperOfPotential_X7_valueOf
set_option maxRecDepth 20000 in
theorem ggX7_upperOfPotential_X0_countWith : GoodIn wsX7_upperOfPotential wsX0_countWith := goodIn_r _ [27, 28, 29, 30, 31, 32, 33, 26, 34, 35, 36, 37, 38, 39, 40, 41, 42, 43, 44, 45, 46, 47, 48, 49, 50, 7, 51, 52, 15, 16, 17, 53, 54, 55, 56, 57, 58, 59, 60, 61, 62, 63, 64, 65, 66, 67, 68, 69, 70, 71, 72, 73, 74, 75, 76, 77, 78, 79, 80, 81, 82, 83, 84, 85, 86, 87, 88, 89, 90, 91, 92, 93, 94, 110, 111, 112, 113, 114, 115, 116, 117, 118, 102, 103, 104, 105, 106, 107, 108, 109] (by decide +kernel) (by decide +kernel)
set_option maxRecDepth 20000 in
theorem gX7_upperOfPotential_X0_countWith : GoodIn wsX7_upperOfPotential (wsV RX7 176 RX0 yX0_countWith wsX0_countWith) := goodIn_app (goodIn_of _ (by decide +kernel)) ggX7_upperOfPotential_X0_countWith
theorem dX7_upperOfPotential_0 : decode cX7_upperOfPotential 0 = .ok (.lconst 0, 1) := by decide +kernel
theorem dX7_upperOfPotential_1 : decode cX7_upperOfPotential 1 = .ok (.lstore_n 2, 1) := by decide +kernel
theorem dX7_upperOfPotential_2 : decode cX7_upperOfPotential 2 = .ok (.iconst 0, 1) := by decide +kernel
theorem dX7_upperOfPotential_3 : decode cX7_upperOfPotential 3 = .ok (.istore 4, 2) := by decide +kernel
theorem dX7_upperOfPotential_5 : decode cX7_upperOfPotential 5 = .ok (.iload 4, 2) := by decide +kernel
theorem dX7_upperOfPotential_7 : decode cX7_upperOfPotential 7 = .ok (.bipush 7, 2) := by decide +kernel
theorem dX7_upperOfPotential_9 : decode cX7_upperOfPotential 9 = .ok (.if_icmp .ge 48, 3) := by decide +kernel
theorem dX7_upperOfPotential_12 : decode cX7_upperOfPotential 12 = .ok (.aload_n 0, 1) := by decide +kernel
theorem dX7_upperOfPotential_13 : decode cX7_upperOfPotential 13 = .ok (.getfield 10, 3) := by decide +kernel
theorem dX7_upperOfPotential_16 : decode cX7_upperOfPotential 16 = .ok (.iload 4, 2) := by decide +kernel
theorem dX7_upperOfPotential_18 : decode cX7_upperOfPotential 18 = .ok (.invokevirtual 155, 3) := by decide +kernel
theorem dX7_upperOfPotential_21 : decode cX7_upperOfPotential 21 = .ok (.ifCond .eq 30, 3) := by decide +kernel
theorem dX7_upperOfPotential_24 : decode cX7_upperOfPotential 24 = .ok (.lload_n 2, 1) := by decide +kernel
theorem dX7_upperOfPotential_25 : decode cX7_upperOfPotential 25 = .ok (.aload_n 0, 1) := by decide +kernel
theorem dX7_upperOfPotential_26 : decode cX7_upperOfPotential 26 = .ok (.iload 4, 2) := by decide +kernel
theorem dX7_upperOfPotential_28 : decode cX7_upperOfPotential 28 = .ok (.invokevirtual 158, 3) := by decide +kernel
theorem dX7_upperOfPotential_31 : decode cX7_upperOfPotential 31 = .ok (.aload_n 0, 1) := by decide +kernel
theorem dX7_upperOfPotential_32 : decode cX7_upperOfPotential 32 = .ok (.getfield 21, 3) := by decide +kernel
theorem dX7_upperOfPotential_35 : decode cX7_upperOfPotential 35 = .ok (.aload_n 0, 1) := by decide +kernel
theorem dX7_upperOfPotential_36 : decode cX7_upperOfPotential 36 = .ok (.getfield 10, 3) := by decide +kernel
theorem dX7_upperOfPotential_39 : decode cX7_upperOfPotential 39 = .ok (.getfield 196, 3) := by decide +kernel
theorem dX7_upperOfPotential_42 : decode cX7_upperOfPotential 42 = .ok (.iload_n 1, 1) := by decide +kernel
theorem dX7_upperOfPotential_43 : decode cX7_upperOfPotential 43 = .ok (.iload 4, 2) := by decide +kernel
theorem dX7_upperOfPotential_45 : decode cX7_upperOfPotential 45 = .ok (.invokevirtual 176, 3) := by decide +kernel
theorem dX7_upperOfPotential_48 : decode cX7_upperOfPotential 48 = .ok (.lmul, 1) := by decide +kernel
theorem dX7_upperOfPotential_49 : decode cX7_upperOfPotential 49 = .ok (.ladd, 1) := by decide +kernel
theorem dX7_upperOfPotential_50 : decode cX7_upperOfPotential 50 = .ok (.lstore_n 2, 1) := by decide +kernel
theorem dX7_upperOfPotential_51 : decode cX7_upperOfPotential 51 = .ok (.iinc 4 1, 3) := by decide +kernel
theorem dX7_upperOfPotential_54 : decode cX7_upperOfPotential 54 = .ok (.goto (-49), 3) := by decide +kernel
theorem dX7_upperOfPotential_57 : decode cX7_upperOfPotential 57 = .ok (.lload_n 2, 1) := by decide +kernel
theorem dX7_upperOfPotential_58 : decode cX7_upperOfPotential 58 = .ok (.lreturn, 1) := by decide +kernel
set_option maxRecDepth 20000 in
theorem ggX7_upperOfCurrent_X4_hasEdge : GoodIn wsX7_upperOfCurrent wsX4_hasEdge := goodIn_r _ [6, 7, 8, 9, 10, 5, 11, 12, 13, 14, 15, 107, 108, 109, 110, 111, 112, 113, 114] (by decide +kernel) (by decide +kernel)
set_option maxRecDepth 20000 in
theorem gX7_upperOfCurrent_X4_hasEdge : GoodIn wsX7_upperOfCurrent (wsV RX7 155 RX4 yX4_hasEdge wsX4_hasEdge) := goodIn_app (goodIn_of _ (by decide +kernel)) ggX7_upperOfCurrent_X4_hasEdge
set_option maxRecDepth 20000 in
theorem ggX7_upperOfCurrent_X7_valueOf : GoodIn wsX7_upperOfCurrent wsX7_valueOf := goodIn_r _ [19, 20, 100, 101, 102, 103, 104, 105, 106] (by decide +kernel) (by decide +kernel)
set_option maxRecDepth 20000 in
theorem gX7_upperOfCurrent_X7_valueOf : GoodIn wsX7_upperOfCurrent (wsV RX7 158 RX7 yX7_valueOf wsX7_valueOf) := goodIn_app (goodIn_of _ (by decide +kernel)) ggX7_upperOfCurrent_X7_valueOf
set_option maxRecDepth 20000 in
theorem ggX7_upperOfCurrent_X7_upperOfAnswer : GoodIn wsX7_upperOfCurrent wsX7_upperOfAnswer := goodIn_r _ [24, 25, 1, 26, 27, 28, 14, 29, 30, 31, 32, 33, 34, 35, 36, 37, 38, 39, 40, 41, 42, 43, 44, 45, 46, 47, 48, 49, 50, 51, 52, 53, 54, 55, 56, 57, 5, 58, 59, 13, 15, 60, 61, 62, 63, 64, 65, 66, 67, 68, 69, 70, 71, 72, 73, 74, 75, 76, 77, 78, 79, 80, 81, 82, 83, 84, 85, 86, 87, 88, 89, 90, 91, 92, 93, 94, 95, 96, 97, 98, 99, 100, 101, 102, 103, 104, 105, 106, 107, 108, 109, 110, 111, 112, 113, 114, 115, 116, 117, 118, 119, 120, 121, 122, 123] (by decide +kernel) (by decide +kernel)
set_option maxRecDepth 20000 in
theorem gX7_upperOfCurrent_X7_upperOfAnswer : GoodIn wsX7_upperOfCurrent (wsV RX7 141 RX7 yX7_upperOfAnswer wsX7_upperOfAnswer) := goodIn_app (goodIn_of _ (by decide +kernel)) ggX7_upperOfCurrent_X7_upperOfAnswer
theorem dX7_upperOfCurrent_0 : decode cX7_upperOfCurrent 0 = .ok (.lconst 0, 1) := by decide +kernel
theorem dX7_upperOfCurrent_1 : decode cX7_upperOfCurrent 1 = .ok (.lstore_n 2, 1) := by decide +kernel
theorem dX7_upperOfCurrent_2 : decode cX7_upperOfCurrent 2 = .ok (.iconst 0, 1) := by decide +kernel
theorem dX7_upperOfCurrent_3 : decode cX7_upperOfCurrent 3 = .ok (.istore 4, 2) := by decide +kernel
theorem dX7_upperOfCurrent_5 : decode cX7_upperOfCurrent 5 = .ok (.iload 4, 2) := by decide +kernel
theorem dX7_upperOfCurrent_7 : decode cX7_upperOfCurrent 7 = .ok (.bipush 7, 2) := by decide +kernel
theorem dX7_upperOfCurrent_9 : decode cX7_upperOfCurrent 9 = .ok (.if_icmp .ge 50, 3) := by decide +kernel
theorem dX7_upperOfCurrent_12 : decode cX7_upperOfCurrent 12 = .ok (.iload 4, 2) := by decide +kernel
theorem dX7_upperOfCurrent_14 : decode cX7_upperOfCurrent 14 = .ok (.iload_n 1, 1) := by decide +kernel
theorem dX7_upperOfCurrent_15 : decode cX7_upperOfCurrent 15 = .ok (.if_icmp .eq 38, 3) := by decide +kernel
theorem dX7_upperOfCurrent_18 : decode cX7_upperOfCurrent 18 = .ok (.aload_n 0, 1) := by decide +kernel
theorem dX7_upperOfCurrent_19 : decode cX7_upperOfCurrent 19 = .ok (.getfield 10, 3) := by decide +kernel
theorem dX7_upperOfCurrent_22 : decode cX7_upperOfCurrent 22 = .ok (.iload 4, 2) := by decide +kernel
theorem dX7_upperOfCurrent_24 : decode cX7_upperOfCurrent 24 = .ok (.invokevirtual 155, 3) := by decide +kernel
theorem dX7_upperOfCurrent_27 : decode cX7_upperOfCurrent 27 = .ok (.ifCond .eq 26, 3) := by decide +kernel
theorem dX7_upperOfCurrent_30 : decode cX7_upperOfCurrent 30 = .ok (.lload_n 2, 1) := by decide +kernel
theorem dX7_upperOfCurrent_31 : decode cX7_upperOfCurrent 31 = .ok (.aload_n 0, 1) := by decide +kernel
theorem dX7_upperOfCurrent_32 : decode cX7_upperOfCurrent 32 = .ok (.iload_n 1, 1) := by decide +kernel
theorem dX7_upperOfCurrent_33 : decode cX7_upperOfCurrent 33 = .ok (.invokevirtual 158, 3) := by decide +kernel
theorem dX7_upperOfCurrent_36 : decode cX7_upperOfCurrent 36 = .ok (.aload_n 0, 1) := by decide +kernel
theorem dX7_upperOfCurrent_37 : decode cX7_upperOfCurrent 37 = .ok (.iload 4, 2) := by decide +kernel
theorem dX7_upperOfCurrent_39 : decode cX7_upperOfCurrent 39 = .ok (.invokevirtual 158, 3) := by decide +kernel
theorem dX7_upperOfCurrent_42 : decode cX7_upperOfCurrent 42 = .ok (.lsub, 1) := by decide +kernel
theorem dX7_upperOfCurrent_43 : decode cX7_upperOfCurrent 43 = .ok (.aload_n 0, 1) := by decide +kernel
theorem dX7_upperOfCurrent_44 : decode cX7_upperOfCurrent 44 = .ok (.iload_n 1, 1) := by decide +kernel
theorem dX7_upperOfCurrent_45 : decode cX7_upperOfCurrent 45 = .ok (.iload 4, 2) := by decide +kernel
theorem dX7_upperOfCurrent_47 : decode cX7_upperOfCurrent 47 = .ok (.invokevirtual 141, 3) := by decide +kernel
theorem dX7_upperOfCurrent_50 : decode cX7_upperOfCurrent 50 = .ok (.lmul, 1) := by decide +kernel
theorem dX7_upperOfCurrent_51 : decode cX7_upperOfCurrent 51 = .ok (.ladd, 1) := by decide +kernel
theorem dX7_upperOfCurrent_52 : decode cX7_upperOfCurrent 52 = .ok (.lstore_n 2, 1) := by decide +kernel
theorem dX7_upperOfCurrent_53 : decode cX7_upperOfCurrent 53 = .ok (.iinc 4 1, 3) := by decide +kernel
theorem dX7_upperOfCurrent_56 : decode cX7_upperOfCurrent 56 = .ok (.goto (-51), 3) := by decide +kernel
theorem dX7_upperOfCurrent_59 : decode cX7_upperOfCurrent 59 = .ok (.lload_n 2, 1) := by decide +kernel
theorem dX7_upperOfCurrent_60 : decode cX7_upperOfCurrent 60 = .ok (.lreturn, 1) := by decide +kernel
theorem dX7_valueOf_0 : decode cX7_valueOf 0 = .ok (.iload_n 1, 1) := by decide +kernel
theorem dX7_valueOf_1 : decode cX7_valueOf 1 = .ok (.ifCond .lt 22, 3) := by decide +kernel
theorem dX7_valueOf_4 : decode cX7_valueOf 4 = .ok (.iload_n 1, 1) := by decide +kernel
theorem dX7_valueOf_5 : decode cX7_valueOf 5 = .ok (.aload_n 0, 1) := by decide +kernel
theorem dX7_valueOf_6 : decode cX7_valueOf 6 = .ok (.getfield 53, 3) := by decide +kernel
theorem dX7_valueOf_9 : decode cX7_valueOf 9 = .ok (.arraylength, 1) := by decide +kernel
theorem dX7_valueOf_10 : decode cX7_valueOf 10 = .ok (.if_icmp .ge 13, 3) := by decide +kernel
theorem dX7_valueOf_13 : decode cX7_valueOf 13 = .ok (.aload_n 0, 1) := by decide +kernel
theorem dX7_valueOf_14 : decode cX7_valueOf 14 = .ok (.getfield 53, 3) := by decide +kernel
theorem dX7_valueOf_17 : decode cX7_valueOf 17 = .ok (.iload_n 1, 1) := by decide +kernel
theorem dX7_valueOf_18 : decode cX7_valueOf 18 = .ok (.iaload, 1) := by decide +kernel
theorem dX7_valueOf_19 : decode cX7_valueOf 19 = .ok (.i2l, 1) := by decide +kernel
theorem dX7_valueOf_20 : decode cX7_valueOf 20 = .ok (.goto 4, 3) := by decide +kernel
theorem dX7_valueOf_23 : decode cX7_valueOf 23 = .ok (.lconst 0, 1) := by decide +kernel
theorem dX7_valueOf_24 : decode cX7_valueOf 24 = .ok (.lreturn, 1) := by decide +kernel
theorem dX7_setValue_0 : decode cX7_setValue 0 = .ok (.iload_n 1, 1) := by decide +kernel
theorem dX7_setValue_1 : decode cX7_setValue 1 = .ok (.ifCond .lt 19, 3) := by decide +kernel
theorem dX7_setValue_4 : decode cX7_setValue 4 = .ok (.iload_n 1, 1) := by decide +kernel
theorem dX7_setValue_5 : decode cX7_setValue 5 = .ok (.aload_n 0, 1) := by decide +kernel
theorem dX7_setValue_6 : decode cX7_setValue 6 = .ok (.getfield 53, 3) := by decide +kernel
theorem dX7_setValue_9 : decode cX7_setValue 9 = .ok (.arraylength, 1) := by decide +kernel
theorem dX7_setValue_10 : decode cX7_setValue 10 = .ok (.if_icmp .ge 10, 3) := by decide +kernel
theorem dX7_setValue_13 : decode cX7_setValue 13 = .ok (.aload_n 0, 1) := by decide +kernel
theorem dX7_setValue_14 : decode cX7_setValue 14 = .ok (.getfield 53, 3) := by decide +kernel
theorem dX7_setValue_17 : decode cX7_setValue 17 = .ok (.iload_n 1, 1) := by decide +kernel
theorem dX7_setValue_18 : decode cX7_setValue 18 = .ok (.iload_n 2, 1) := by decide +kernel
theorem dX7_setValue_19 : decode cX7_setValue 19 = .ok (.iastore, 1) := by decide +kernel
theorem dX7_setValue_20 : decode cX7_setValue 20 = .ok (.return_, 1) := by decide +kernel
set_option maxRecDepth 20000 in
theorem ggX7_upperOfOppositeAnswer_X4_hasEdge : GoodIn wsX7_upperOfOppositeAnswer wsX4_hasEdge := goodIn_r _ [6, 7, 8, 9, 10, 5, 11, 12, 13, 14, 15, 102, 103, 104, 105, 106, 107, 108, 109] (by decide +kernel) (by decide +kernel)
set_option maxRecDepth 20000 in
theorem gX7_upperOfOppositeAnswer_X4_hasEdge : GoodIn wsX7_upperOfOppositeAnswer (wsV RX7 155 RX4 yX4_hasEdge wsX4_hasEdge) := goodIn_app (goodIn_of _ (by decide +kernel)) ggX7_upperOfOppositeAnswer_X4_hasEdge
set_option maxRecDepth 20000 in
theorem ggX7_upperOfOppositeAnswer_X7_upperOfAnswer : GoodIn wsX7_upperOfOppositeAnswer wsX7_upperOfAnswer := goodIn_r _ [19, 20, 1, 21, 22, 23, 14, 24, 25, 26, 27, 28, 29, 30, 31, 32, 33, 34, 35, 36, 37, 38, 39, 40, 41, 42, 43, 44, 45, 46, 47, 48, 49, 50, 51, 52, 5, 53, 54, 13, 15, 55, 56, 57, 58, 59, 60, 61, 62, 63, 64, 65, 66, 67, 68, 69, 70, 71, 72, 73, 74, 75, 76, 77, 78, 79, 80, 81, 82, 83, 84, 85, 86, 87, 88, 89, 90, 91, 92, 93, 94, 95, 96, 97, 98, 99, 100, 101, 102, 103, 104, 105, 106, 107, 108, 109, 110, 111, 112, 113, 114, 115, 116, 117, 118] (by decide +kernel) (by decide +kernel)
set_option maxRecDepth 20000 in
theorem gX7_upperOfOppositeAnswer_X7_upperOfAnswer : GoodIn wsX7_upperOfOppositeAnswer (wsV RX7 141 RX7 yX7_upperOfAnswer wsX7_upperOfAnswer) := goodIn_app (goodIn_of _ (by decide +kernel)) ggX7_upperOfOppositeAnswer_X7_upperOfAnswer
theorem dX7_upperOfOppositeAnswer_0 : decode cX7_upperOfOppositeAnswer 0 = .ok (.iconst (-1), 1) := by decide +kernel
theorem dX7_upperOfOppositeAnswer_1 : decode cX7_upperOfOppositeAnswer 1 = .ok (.istore_n 2, 1) := by decide +kernel
theorem dX7_upperOfOppositeAnswer_2 : decode cX7_upperOfOppositeAnswer 2 = .ok (.iconst 0, 1) := by decide +kernel
theorem dX7_upperOfOppositeAnswer_3 : decode cX7_upperOfOppositeAnswer 3 = .ok (.istore_n 3, 1) := by decide +kernel
theorem dX7_upperOfOppositeAnswer_4 : decode cX7_upperOfOppositeAnswer 4 = .ok (.iload_n 3, 1) := by decide +kernel
theorem dX7_upperOfOppositeAnswer_5 : decode cX7_upperOfOppositeAnswer 5 = .ok (.bipush 7, 2) := by decide +kernel
theorem dX7_upperOfOppositeAnswer_7 : decode cX7_upperOfOppositeAnswer 7 = .ok (.if_icmp .ge 39, 3) := by decide +kernel
theorem dX7_upperOfOppositeAnswer_10 : decode cX7_upperOfOppositeAnswer 10 = .ok (.iload_n 3, 1) := by decide +kernel
theorem dX7_upperOfOppositeAnswer_11 : decode cX7_upperOfOppositeAnswer 11 = .ok (.iload_n 1, 1) := by decide +kernel
theorem dX7_upperOfOppositeAnswer_12 : decode cX7_upperOfOppositeAnswer 12 = .ok (.if_icmp .eq 28, 3) := by decide +kernel
theorem dX7_upperOfOppositeAnswer_15 : decode cX7_upperOfOppositeAnswer 15 = .ok (.aload_n 0, 1) := by decide +kernel
theorem dX7_upperOfOppositeAnswer_16 : decode cX7_upperOfOppositeAnswer 16 = .ok (.getfield 10, 3) := by decide +kernel
theorem dX7_upperOfOppositeAnswer_19 : decode cX7_upperOfOppositeAnswer 19 = .ok (.iload_n 3, 1) := by decide +kernel
theorem dX7_upperOfOppositeAnswer_20 : decode cX7_upperOfOppositeAnswer 20 = .ok (.invokevirtual 155, 3) := by decide +kernel
theorem dX7_upperOfOppositeAnswer_23 : decode cX7_upperOfOppositeAnswer 23 = .ok (.ifCond .eq 17, 3) := by decide +kernel
theorem dX7_upperOfOppositeAnswer_26 : decode cX7_upperOfOppositeAnswer 26 = .ok (.iload_n 2, 1) := by decide +kernel
theorem dX7_upperOfOppositeAnswer_27 : decode cX7_upperOfOppositeAnswer 27 = .ok (.iconst (-1), 1) := by decide +kernel
theorem dX7_upperOfOppositeAnswer_28 : decode cX7_upperOfOppositeAnswer 28 = .ok (.if_icmp .eq 10, 3) := by decide +kernel
theorem dX7_upperOfOppositeAnswer_31 : decode cX7_upperOfOppositeAnswer 31 = .ok (.aload_n 0, 1) := by decide +kernel
theorem dX7_upperOfOppositeAnswer_32 : decode cX7_upperOfOppositeAnswer 32 = .ok (.iload_n 2, 1) := by decide +kernel
theorem dX7_upperOfOppositeAnswer_33 : decode cX7_upperOfOppositeAnswer 33 = .ok (.iload_n 3, 1) := by decide +kernel
theorem dX7_upperOfOppositeAnswer_34 : decode cX7_upperOfOppositeAnswer 34 = .ok (.invokevirtual 141, 3) := by decide +kernel
theorem dX7_upperOfOppositeAnswer_37 : decode cX7_upperOfOppositeAnswer 37 = .ok (.lreturn, 1) := by decide +kernel
theorem dX7_upperOfOppositeAnswer_38 : decode cX7_upperOfOppositeAnswer 38 = .ok (.iload_n 3, 1) := by decide +kernel
theorem dX7_upperOfOppositeAnswer_39 : decode cX7_upperOfOppositeAnswer 39 = .ok (.istore_n 2, 1) := by decide +kernel
theorem dX7_upperOfOppositeAnswer_40 : decode cX7_upperOfOppositeAnswer 40 = .ok (.iinc 3 1, 3) := by decide +kernel
theorem dX7_upperOfOppositeAnswer_43 : decode cX7_upperOfOppositeAnswer 43 = .ok (.goto (-39), 3) := by decide +kernel
theorem dX7_upperOfOppositeAnswer_46 : decode cX7_upperOfOppositeAnswer 46 = .ok (.lconst 0, 1) := by decide +kernel
theorem dX7_upperOfOppositeAnswer_47 : decode cX7_upperOfOppositeAnswer 47 = .ok (.lreturn, 1) := by decide +kernel
theorem dJ6_bitCount_0f7a4_0 : decode cJ6_bitCount_0f7a4 0 = .ok (.iload_n 0, 1) := by decide +kernel
theorem dJ6_bitCount_0f7a4_1 : decode cJ6_bitCount_0f7a4 1 = .ok (.iload_n 0, 1) := by decide +kernel
theorem dJ6_bitCount_0f7a4_2 : decode cJ6_bitCount_0f7a4 2 = .ok (.iconst 1, 1) := by decide +kernel
theorem dJ6_bitCount_0f7a4_3 : decode cJ6_bitCount_0f7a4 3 = .ok (.iushr, 1) := by decide +kernel
theorem dJ6_bitCount_0f7a4_4 : decode cJ6_bitCount_0f7a4 4 = .ok (.ldc_w 265, 3) := by decide +kernel
theorem dJ6_bitCount_0f7a4_7 : decode cJ6_bitCount_0f7a4 7 = .ok (.iand, 1) := by decide +kernel
theorem dJ6_bitCount_0f7a4_8 : decode cJ6_bitCount_0f7a4 8 = .ok (.isub, 1) := by decide +kernel
theorem dJ6_bitCount_0f7a4_9 : decode cJ6_bitCount_0f7a4 9 = .ok (.istore_n 0, 1) := by decide +kernel
theorem dJ6_bitCount_0f7a4_10 : decode cJ6_bitCount_0f7a4 10 = .ok (.iload_n 0, 1) := by decide +kernel
theorem dJ6_bitCount_0f7a4_11 : decode cJ6_bitCount_0f7a4 11 = .ok (.ldc_w 266, 3) := by decide +kernel
theorem dJ6_bitCount_0f7a4_14 : decode cJ6_bitCount_0f7a4 14 = .ok (.iand, 1) := by decide +kernel
theorem dJ6_bitCount_0f7a4_15 : decode cJ6_bitCount_0f7a4 15 = .ok (.iload_n 0, 1) := by decide +kernel
theorem dJ6_bitCount_0f7a4_16 : decode cJ6_bitCount_0f7a4 16 = .ok (.iconst 2, 1) := by decide +kernel
theorem dJ6_bitCount_0f7a4_17 : decode cJ6_bitCount_0f7a4 17 = .ok (.iushr, 1) := by decide +kernel
theorem dJ6_bitCount_0f7a4_18 : decode cJ6_bitCount_0f7a4 18 = .ok (.ldc_w 266, 3) := by decide +kernel
theorem dJ6_bitCount_0f7a4_21 : decode cJ6_bitCount_0f7a4 21 = .ok (.iand, 1) := by decide +kernel
theorem dJ6_bitCount_0f7a4_22 : decode cJ6_bitCount_0f7a4 22 = .ok (.iadd, 1) := by decide +kernel
theorem dJ6_bitCount_0f7a4_23 : decode cJ6_bitCount_0f7a4 23 = .ok (.istore_n 0, 1) := by decide +kernel
theorem dJ6_bitCount_0f7a4_24 : decode cJ6_bitCount_0f7a4 24 = .ok (.iload_n 0, 1) := by decide +kernel
theorem dJ6_bitCount_0f7a4_25 : decode cJ6_bitCount_0f7a4 25 = .ok (.iload_n 0, 1) := by decide +kernel
theorem dJ6_bitCount_0f7a4_26 : decode cJ6_bitCount_0f7a4 26 = .ok (.iconst 4, 1) := by decide +kernel
theorem dJ6_bitCount_0f7a4_27 : decode cJ6_bitCount_0f7a4 27 = .ok (.iushr, 1) := by decide +kernel
theorem dJ6_bitCount_0f7a4_28 : decode cJ6_bitCount_0f7a4 28 = .ok (.iadd, 1) := by decide +kernel
theorem dJ6_bitCount_0f7a4_29 : decode cJ6_bitCount_0f7a4 29 = .ok (.ldc_w 267, 3) := by decide +kernel
theorem dJ6_bitCount_0f7a4_32 : decode cJ6_bitCount_0f7a4 32 = .ok (.iand, 1) := by decide +kernel
theorem dJ6_bitCount_0f7a4_33 : decode cJ6_bitCount_0f7a4 33 = .ok (.istore_n 0, 1) := by decide +kernel
theorem dJ6_bitCount_0f7a4_34 : decode cJ6_bitCount_0f7a4 34 = .ok (.iload_n 0, 1) := by decide +kernel
theorem dJ6_bitCount_0f7a4_35 : decode cJ6_bitCount_0f7a4 35 = .ok (.iload_n 0, 1) := by decide +kernel
theorem dJ6_bitCount_0f7a4_36 : decode cJ6_bitCount_0f7a4 36 = .ok (.bipush 8, 2) := by decide +kernel
theorem dJ6_bitCount_0f7a4_38 : decode cJ6_bitCount_0f7a4 38 = .ok (.iushr, 1) := by decide +kernel
theorem dJ6_bitCount_0f7a4_39 : decode cJ6_bitCount_0f7a4 39 = .ok (.iadd, 1) := by decide +kernel
theorem dJ6_bitCount_0f7a4_40 : decode cJ6_bitCount_0f7a4 40 = .ok (.istore_n 0, 1) := by decide +kernel
theorem dJ6_bitCount_0f7a4_41 : decode cJ6_bitCount_0f7a4 41 = .ok (.iload_n 0, 1) := by decide +kernel
theorem dJ6_bitCount_0f7a4_42 : decode cJ6_bitCount_0f7a4 42 = .ok (.iload_n 0, 1) := by decide +kernel
theorem dJ6_bitCount_0f7a4_43 : decode cJ6_bitCount_0f7a4 43 = .ok (.bipush 16, 2) := by decide +kernel
theorem dJ6_bitCount_0f7a4_45 : decode cJ6_bitCount_0f7a4 45 = .ok (.iushr, 1) := by decide +kernel
theorem dJ6_bitCount_0f7a4_46 : decode cJ6_bitCount_0f7a4 46 = .ok (.iadd, 1) := by decide +kernel
theorem dJ6_bitCount_0f7a4_47 : decode cJ6_bitCount_0f7a4 47 = .ok (.istore_n 0, 1) := by decide +kernel
theorem dJ6_bitCount_0f7a4_48 : decode cJ6_bitCount_0f7a4 48 = .ok (.iload_n 0, 1) := by decide +kernel
theorem dJ6_bitCount_0f7a4_49 : decode cJ6_bitCount_0f7a4 49 = .ok (.bipush 63, 2) := by decide +kernel
theorem dJ6_bitCount_0f7a4_51 : decode cJ6_bitCount_0f7a4 51 = .ok (.iand, 1) := by decide +kernel
theorem dJ6_bitCount_0f7a4_52 : decode cJ6_bitCount_0f7a4 52 = .ok (.ireturn, 1) := by decide +kernel
theorem dJ9_abs_067f4_0 : decode cJ9_abs_067f4 0 = .ok (.lload_n 0, 1) := by decide +kernel
theorem dJ9_abs_067f4_1 : decode cJ9_abs_067f4 1 = .ok (.lconst 0, 1) := by decide +kernel
theorem dJ9_abs_067f4_2 : decode cJ9_abs_067f4 2 = .ok (.lcmp, 1) := by decide +kernel
theorem dJ9_abs_067f4_3 : decode cJ9_abs_067f4 3 = .ok (.ifCond .ge 8, 3) := by decide +kernel
theorem dJ9_abs_067f4_6 : decode cJ9_abs_067f4 6 = .ok (.lload_n 0, 1) := by decide +kernel
theorem dJ9_abs_067f4_7 : decode cJ9_abs_067f4 7 = .ok (.lneg, 1) := by decide +kernel
theorem dJ9_abs_067f4_8 : decode cJ9_abs_067f4 8 = .ok (.goto 4, 3) := by decide +kernel
theorem dJ9_abs_067f4_11 : decode cJ9_abs_067f4 11 = .ok (.lload_n 0, 1) := by decide +kernel
theorem dJ9_abs_067f4_12 : decode cJ9_abs_067f4 12 = .ok (.lreturn, 1) := by decide +kernel
theorem dL_cell_0 : decode cL_cell 0 = .ok (.iload_n 1, 1) := by decide +kernel
theorem dL_cell_1 : decode cL_cell 1 = .ok (.aload_n 0, 1) := by decide +kernel
theorem dL_cell_2 : decode cL_cell 2 = .ok (.arraylength, 1) := by decide +kernel
theorem dL_cell_3 : decode cL_cell 3 = .ok (.if_icmp .ge 9, 3) := by decide +kernel
theorem dL_cell_6 : decode cL_cell 6 = .ok (.aload_n 0, 1) := by decide +kernel
theorem dL_cell_7 : decode cL_cell 7 = .ok (.iload_n 1, 1) := by decide +kernel
theorem dL_cell_8 : decode cL_cell 8 = .ok (.iaload, 1) := by decide +kernel
theorem dL_cell_9 : decode cL_cell 9 = .ok (.goto 10, 3) := by decide +kernel
theorem dL_cell_12 : decode cL_cell 12 = .ok (.ldc 7, 2) := by decide +kernel
theorem dL_cell_14 : decode cL_cell 14 = .ok (.iload_n 1, 1) := by decide +kernel
theorem dL_cell_15 : decode cL_cell 15 = .ok (.bipush 11, 2) := by decide +kernel
theorem dL_cell_17 : decode cL_cell 17 = .ok (.iadd, 1) := by decide +kernel
theorem dL_cell_18 : decode cL_cell 18 = .ok (.imul, 1) := by decide +kernel
theorem dL_cell_19 : decode cL_cell 19 = .ok (.ireturn, 1) := by decide +kernel
theorem dL_low_0 : decode cL_low 0 = .ok (.iload_n 0, 1) := by decide +kernel
theorem dL_low_1 : decode cL_low 1 = .ok (.iconst 1, 1) := by decide +kernel
theorem dL_low_2 : decode cL_low 2 = .ok (.iushr, 1) := by decide +kernel
theorem dL_low_3 : decode cL_low 3 = .ok (.iload_n 1, 1) := by decide +kernel
theorem dL_low_4 : decode cL_low 4 = .ok (.irem, 1) := by decide +kernel
theorem dL_low_5 : decode cL_low 5 = .ok (.ireturn, 1) := by decide +kernel
set_option maxRecDepth 20000 in
theorem ggL_node_X7_node : GoodIn wsL_node wsX7_node := goodIn_ca (goodIn_r _ [6, 7, 8, 9, 10, 11, 12, 13, 14, 15, 16, 17, 18, 19, 20, 21, 22, 23, 24, 25, 26, 27, 28, 29, 30, 5, 31, 32, 33, 34, 35, 36, 37, 38, 39, 40, 41, 42, 43, 44, 45, 46, 47, 48, 49, 50, 51, 52, 53, 54, 55, 56] (by decide +kernel) (by decide +kernel)) (goodIn_sub (fun _ h => List.mem_cons_of_mem _ (List.mem_append_right _ h)) (by decide +kernel))
set_option maxRecDepth 20000 in
theorem gL_node_X7_node : GoodIn wsL_node (wsV RL 8 RX7 yX7_node wsX7_node) := goodIn_app (goodIn_of _ (by decide +kernel)) ggL_node_X7_node
theorem dL_node_0 : decode cL_node 0 = .ok (.aload_n 0, 1) := by decide +kernel
theorem dL_node_1 : decode cL_node 1 = .ok (.iload_n 1, 1) := by decide +kernel
theorem dL_node_2 : decode cL_node 2 = .ok (.invokevirtual 8, 3) := by decide +kernel
theorem dL_node_5 : decode cL_node 5 = .ok (.istore_n 2, 1) := by decide +kernel
theorem dL_node_6 : decode cL_node 6 = .ok (.goto 8, 3) := by decide +kernel
theorem dL_node_9 : decode cL_node 9 = .ok (.astore_n 3, 1) := by decide +kernel
theorem dL_node_10 : decode cL_node 10 = .ok (.sipush (-7300), 3) := by decide +kernel
theorem dL_node_13 : decode cL_node 13 = .ok (.ireturn, 1) := by decide +kernel
theorem dL_node_14 : decode cL_node 14 = .ok (.iload_n 2, 1) := by decide +kernel
theorem dL_node_15 : decode cL_node 15 = .ok (.ireturn, 1) := by decide +kernel
set_option maxRecDepth 20000 in
theorem ggL_wire_X7_wire : GoodIn wsL_wire wsX7_wire := goodIn_ca (goodIn_ca (goodIn_ca (goodIn_r _ [8, 9, 10, 11, 12, 13, 14, 15, 16, 17, 18, 7, 19, 20, 21, 22, 23, 24, 25, 26, 27, 28, 29, 30, 31, 32, 33, 34, 35, 36, 37, 38, 39, 40, 41, 42, 43, 44, 45, 46, 47, 48, 49, 50, 51, 52, 53, 54, 55, 56, 57, 58, 59, 60, 61, 62, 63, 64, 65, 66, 67, 68, 69, 70, 71, 72, 73, 74, 75, 76, 77, 78, 79, 80, 81, 82, 83, 84, 85, 86] (by decide +kernel) (by decide +kernel)) (goodIn_sub (fun _ h => List.mem_cons_of_mem _ (List.mem_append_left _ (List.mem_append_left _ (List.mem_append_right _ h)))) (by decide +kernel))) (goodIn_sub (fun _ h => List.mem_cons_of_mem _ (List.mem_append_left _ (List.mem_append_right _ h))) (by decide +kernel))) (goodIn_sub (fun _ h => List.mem_cons_of_mem _ (List.mem_append_right _ h)) (by decide +kernel))
set_option maxRecDepth 20000 in
theorem gL_wire_X7_wire : GoodIn wsL_wire (wsV RL 16 RX7 yX7_wire wsX7_wire) := goodIn_app (goodIn_of _ (by decide +kernel)) ggL_wire_X7_wire
theorem dL_wire_0 : decode cL_wire 0 = .ok (.aload_n 0, 1) := by decide +kernel
theorem dL_wire_1 : decode cL_wire 1 = .ok (.iload_n 1, 1) := by decide +kernel
theorem dL_wire_2 : decode cL_wire 2 = .ok (.iload_n 2, 1) := by decide +kernel
theorem dL_wire_3 : decode cL_wire 3 = .ok (.iload_n 3, 1) := by decide +kernel
theorem dL_wire_4 : decode cL_wire 4 = .ok (.invokevirtual 16, 3) := by decide +kernel
theorem dL_wire_7 : decode cL_wire 7 = .ok (.istore 4, 2) := by decide +kernel
theorem dL_wire_9 : decode cL_wire 9 = .ok (.goto 21, 3) := by decide +kernel
theorem dL_wire_12 : decode cL_wire 12 = .ok (.astore 5, 2) := by decide +kernel
theorem dL_wire_14 : decode cL_wire 14 = .ok (.sipush (-7100), 3) := by decide +kernel
theorem dL_wire_17 : decode cL_wire 17 = .ok (.ireturn, 1) := by decide +kernel
theorem dL_wire_18 : decode cL_wire 18 = .ok (.astore 5, 2) := by decide +kernel
theorem dL_wire_20 : decode cL_wire 20 = .ok (.sipush (-7200), 3) := by decide +kernel
theorem dL_wire_23 : decode cL_wire 23 = .ok (.ireturn, 1) := by decide +kernel
theorem dL_wire_24 : decode cL_wire 24 = .ok (.astore 5, 2) := by decide +kernel
theorem dL_wire_26 : decode cL_wire 26 = .ok (.sipush (-7300), 3) := by decide +kernel
theorem dL_wire_29 : decode cL_wire 29 = .ok (.ireturn, 1) := by decide +kernel
theorem dL_wire_30 : decode cL_wire 30 = .ok (.iload 4, 2) := by decide +kernel
theorem dL_wire_32 : decode cL_wire 32 = .ok (.ireturn, 1) := by decide +kernel
set_option maxRecDepth 20000 in
theorem ggL_wireIs_X7_wireIs : GoodIn wsL_wireIs wsX7_wireIs := goodIn_ca (goodIn_ca (goodIn_r _ [7, 8, 9, 10, 11, 12, 13, 6, 14, 15, 16, 17, 18, 19, 20, 21, 22, 23, 24, 25, 26, 27, 28, 29, 30, 31, 32, 33, 34, 35, 36, 37, 38, 39, 40, 41, 42, 43, 44, 45, 46, 47, 48, 49, 50, 51, 52, 53, 54] (by decide +kernel) (by decide +kernel)) (goodIn_sub (fun _ h => List.mem_cons_of_mem _ (List.mem_append_left _ (List.mem_append_right _ h))) (by decide +kernel))) (goodIn_sub (fun _ h => List.mem_cons_of_mem _ (List.mem_append_right _ h)) (by decide +kernel))
set_option maxRecDepth 20000 in
theorem gL_wireIs_X7_wireIs : GoodIn wsL_wireIs (wsV RL 24 RX7 yX7_wireIs wsX7_wireIs) := goodIn_app (goodIn_of _ (by decide +kernel)) ggL_wireIs_X7_wireIs
theorem dL_wireIs_0 : decode cL_wireIs 0 = .ok (.aload_n 0, 1) := by decide +kernel
theorem dL_wireIs_1 : decode cL_wireIs 1 = .ok (.iload_n 1, 1) := by decide +kernel
theorem dL_wireIs_2 : decode cL_wireIs 2 = .ok (.iload_n 2, 1) := by decide +kernel
theorem dL_wireIs_3 : decode cL_wireIs 3 = .ok (.invokevirtual 24, 3) := by decide +kernel
theorem dL_wireIs_6 : decode cL_wireIs 6 = .ok (.istore_n 3, 1) := by decide +kernel
theorem dL_wireIs_7 : decode cL_wireIs 7 = .ok (.goto 15, 3) := by decide +kernel
theorem dL_wireIs_10 : decode cL_wireIs 10 = .ok (.astore 4, 2) := by decide +kernel
theorem dL_wireIs_12 : decode cL_wireIs 12 = .ok (.sipush (-7100), 3) := by decide +kernel
theorem dL_wireIs_15 : decode cL_wireIs 15 = .ok (.ireturn, 1) := by decide +kernel
theorem dL_wireIs_16 : decode cL_wireIs 16 = .ok (.astore 4, 2) := by decide +kernel
theorem dL_wireIs_18 : decode cL_wireIs 18 = .ok (.sipush (-7200), 3) := by decide +kernel
theorem dL_wireIs_21 : decode cL_wireIs 21 = .ok (.ireturn, 1) := by decide +kernel
theorem dL_wireIs_22 : decode cL_wireIs 22 = .ok (.iload_n 3, 1) := by decide +kernel
theorem dL_wireIs_23 : decode cL_wireIs 23 = .ok (.ireturn, 1) := by decide +kernel
set_option maxRecDepth 20000 in
theorem ggL_tree_X7_tree : GoodIn wsL_tree wsX7_tree := goodIn_ca (goodIn_r _ [6, 7, 8, 9, 10, 11, 12, 13, 14, 15, 16, 17, 18, 19, 20, 21, 22, 23, 24, 25, 26, 27, 28, 5, 29, 30, 31, 32, 33, 34, 35, 36, 37, 38, 39, 40, 41, 42, 43, 44, 45, 46, 47, 48, 49, 50, 51, 52, 53, 54, 55, 56, 57, 58, 59, 60, 61, 62, 63, 64, 65, 66, 67, 68, 69, 70, 71, 72, 73, 74, 75, 76, 77, 78, 79, 80, 81, 82, 83, 84, 85, 86, 87, 88, 89, 90, 91, 92, 93, 94, 95, 96, 97, 98, 99, 100, 101, 102, 103, 104, 105, 106, 107] (by decide +kernel) (by decide +kernel)) (goodIn_sub (fun _ h => List.mem_cons_of_mem _ (List.mem_append_right _ h)) (by decide +kernel))
set_option maxRecDepth 20000 in
theorem gL_tree_X7_tree : GoodIn wsL_tree (wsV RL 28 RX7 yX7_tree wsX7_tree) := goodIn_app (goodIn_of _ (by decide +kernel)) ggL_tree_X7_tree
theorem dL_tree_0 : decode cL_tree 0 = .ok (.aload_n 0, 1) := by decide +kernel
theorem dL_tree_1 : decode cL_tree 1 = .ok (.iload_n 1, 1) := by decide +kernel
theorem dL_tree_2 : decode cL_tree 2 = .ok (.invokevirtual 28, 3) := by decide +kernel
theorem dL_tree_5 : decode cL_tree 5 = .ok (.istore_n 2, 1) := by decide +kernel
theorem dL_tree_6 : decode cL_tree 6 = .ok (.goto 8, 3) := by decide +kernel
theorem dL_tree_9 : decode cL_tree 9 = .ok (.astore_n 3, 1) := by decide +kernel
theorem dL_tree_10 : decode cL_tree 10 = .ok (.sipush (-7200), 3) := by decide +kernel
theorem dL_tree_13 : decode cL_tree 13 = .ok (.ireturn, 1) := by decide +kernel
theorem dL_tree_14 : decode cL_tree 14 = .ok (.iload_n 2, 1) := by decide +kernel
theorem dL_tree_15 : decode cL_tree 15 = .ok (.ireturn, 1) := by decide +kernel
set_option maxRecDepth 20000 in
theorem ggL_answer_X7_answer : GoodIn wsL_answer wsX7_answer := goodIn_ca (goodIn_ca (goodIn_r _ [9, 10, 11, 12, 13, 14, 8, 15, 16, 17, 18, 19, 20, 21, 22, 23, 24, 25, 26, 27, 28, 29, 30, 31, 32, 33, 34, 35, 36, 37, 38, 39, 40, 41, 42, 43, 44, 45, 46, 47, 48, 49, 50, 51, 52, 53, 54, 55, 56, 57, 58, 59, 60, 61, 62, 63, 64, 65, 66, 67, 68, 69, 70, 71, 72, 73, 74, 75, 76, 77, 78, 79, 80, 81, 82, 83, 84, 85, 86, 87, 88, 89, 90, 91, 92, 93, 94, 95, 96, 97, 98, 99, 100, 101, 102, 103, 104, 105, 106, 107, 108, 109, 110, 111, 112, 113, 114, 115, 116, 117, 118, 119, 120, 121, 122, 123, 124, 125, 126, 127, 128, 129, 130, 131, 132, 133, 134, 135, 136, 137, 138, 139, 140, 141, 142, 143, 144, 145, 146, 147, 148, 149, 150, 151, 152, 153] (by decide +kernel) (by decide +kernel)) (goodIn_sub (fun _ h => List.mem_cons_of_mem _ (List.mem_append_left _ (List.mem_append_right _ h))) (by decide +kernel))) (goodIn_sub (fun _ h => List.mem_cons_of_mem _ (List.mem_append_right _ h)) (by decide +kernel))
set_option maxRecDepth 20000 in
theorem gL_answer_X7_answer : GoodIn wsL_answer (wsV RL 32 RX7 yX7_answer wsX7_answer) := goodIn_app (goodIn_of _ (by decide +kernel)) ggL_answer_X7_answer
theorem dL_answer_0 : decode cL_answer 0 = .ok (.aload_n 0, 1) := by decide +kernel
theorem dL_answer_1 : decode cL_answer 1 = .ok (.iload_n 1, 1) := by decide +kernel
theorem dL_answer_2 : decode cL_answer 2 = .ok (.iload_n 2, 1) := by decide +kernel
theorem dL_answer_3 : decode cL_answer 3 = .ok (.iload_n 3, 1) := by decide +kernel
theorem dL_answer_4 : decode cL_answer 4 = .ok (.invokevirtual 32, 3) := by decide +kernel
theorem dL_answer_7 : decode cL_answer 7 = .ok (.lstore 4, 2) := by decide +kernel
theorem dL_answer_9 : decode cL_answer 9 = .ok (.goto 15, 3) := by decide +kernel
theorem dL_answer_12 : decode cL_answer 12 = .ok (.astore 6, 2) := by decide +kernel
theorem dL_answer_14 : decode cL_answer 14 = .ok (.ldc2_w 36, 3) := by decide +kernel
theorem dL_answer_17 : decode cL_answer 17 = .ok (.lreturn, 1) := by decide +kernel
theorem dL_answer_18 : decode cL_answer 18 = .ok (.astore 6, 2) := by decide +kernel
theorem dL_answer_20 : decode cL_answer 20 = .ok (.ldc2_w 38, 3) := by decide +kernel
theorem dL_answer_23 : decode cL_answer 23 = .ok (.lreturn, 1) := by decide +kernel
theorem dL_answer_24 : decode cL_answer 24 = .ok (.lload 4, 2) := by decide +kernel
theorem dL_answer_26 : decode cL_answer 26 = .ok (.lreturn, 1) := by decide +kernel
set_option maxRecDepth 20000 in
theorem ggL_value_X7_value : GoodIn wsL_value wsX7_value := goodIn_ca (goodIn_ca (goodIn_r _ [7, 8, 9, 10, 11, 12, 6, 13, 14, 15, 16, 17, 18, 19, 20, 21, 22, 23, 24, 25, 26, 27, 28, 29, 30, 31, 32, 33, 34, 35, 36, 37, 38, 39, 40, 41, 42, 43, 44, 45, 46, 47, 48, 49] (by decide +kernel) (by decide +kernel)) (goodIn_sub (fun _ h => List.mem_cons_of_mem _ (List.mem_append_left _ (List.mem_append_right _ h))) (by decide +kernel))) (goodIn_sub (fun _ h => List.mem_cons_of_mem _ (List.mem_append_right _ h)) (by decide +kernel))
set_option maxRecDepth 20000 in
theorem gL_value_X7_value : GoodIn wsL_value (wsV RL 40 RX7 yX7_value wsX7_value) := goodIn_app (goodIn_of _ (by decide +kernel)) ggL_value_X7_value
theorem dL_value_0 : decode cL_value 0 = .ok (.aload_n 0, 1) := by decide +kernel
theorem dL_value_1 : decode cL_value 1 = .ok (.iload_n 1, 1) := by decide +kernel
theorem dL_value_2 : decode cL_value 2 = .ok (.iload_n 2, 1) := by decide +kernel
theorem dL_value_3 : decode cL_value 3 = .ok (.invokevirtual 40, 3) := by decide +kernel
theorem dL_value_6 : decode cL_value 6 = .ok (.goto 13, 3) := by decide +kernel
theorem dL_value_9 : decode cL_value 9 = .ok (.astore_n 3, 1) := by decide +kernel
theorem dL_value_10 : decode cL_value 10 = .ok (.sipush (-7100), 3) := by decide +kernel
theorem dL_value_13 : decode cL_value 13 = .ok (.ireturn, 1) := by decide +kernel
theorem dL_value_14 : decode cL_value 14 = .ok (.astore_n 3, 1) := by decide +kernel
theorem dL_value_15 : decode cL_value 15 = .ok (.sipush (-7200), 3) := by decide +kernel
theorem dL_value_18 : decode cL_value 18 = .ok (.ireturn, 1) := by decide +kernel
theorem dL_value_19 : decode cL_value 19 = .ok (.iconst 0, 1) := by decide +kernel
theorem dL_value_20 : decode cL_value 20 = .ok (.ireturn, 1) := by decide +kernel
set_option maxRecDepth 20000 in
theorem ggL_potential_X7_potential : GoodIn wsL_potential wsX7_potential := goodIn_ca (goodIn_r _ [7, 8, 9, 10, 11, 6, 12, 13, 14, 15, 16, 17, 18, 19, 20, 21, 22, 23, 24, 25, 26, 27, 28, 29, 30, 31, 32, 33, 34, 35, 36, 37, 38, 39, 40, 41, 42, 43, 44, 45, 46, 47, 48, 49, 50, 51, 52, 53, 54, 55, 56, 57, 58, 59, 60, 61, 62, 63, 64, 65, 66, 67, 68, 69, 70, 71, 72, 73, 74, 75, 76, 77, 78, 79, 80, 81, 82, 83, 84, 85, 86, 87, 88, 89, 90, 91, 92, 93, 94, 95, 96, 97, 98, 99, 100, 101, 102, 103, 104, 105, 106, 107, 108, 109, 110, 111, 112, 113, 114, 115, 116, 117, 118, 119, 120, 121, 122, 123, 124, 125, 126, 127, 128, 129, 130, 131, 132, 133, 134, 135, 136, 137, 138, 139, 140, 141, 142, 143, 144, 145, 146, 147, 148, 149, 150, 151, 152, 153, 154] (by decide +kernel) (by decide +kernel)) (goodIn_sub (fun _ h => List.mem_cons_of_mem _ (List.mem_append_right _ h)) (by decide +kernel))
set_option maxRecDepth 20000 in
theorem gL_potential_X7_potential : GoodIn wsL_potential (wsV RL 44 RX7 yX7_potential wsX7_potential) := goodIn_app (goodIn_of _ (by decide +kernel)) ggL_potential_X7_potential
theorem dL_potential_0 : decode cL_potential 0 = .ok (.aload_n 0, 1) := by decide +kernel
theorem dL_potential_1 : decode cL_potential 1 = .ok (.iload_n 1, 1) := by decide +kernel
theorem dL_potential_2 : decode cL_potential 2 = .ok (.iload_n 2, 1) := by decide +kernel
theorem dL_potential_3 : decode cL_potential 3 = .ok (.invokevirtual 44, 3) := by decide +kernel
theorem dL_potential_6 : decode cL_potential 6 = .ok (.lstore_n 3, 1) := by decide +kernel
theorem dL_potential_7 : decode cL_potential 7 = .ok (.goto 9, 3) := by decide +kernel
theorem dL_potential_10 : decode cL_potential 10 = .ok (.astore 5, 2) := by decide +kernel
theorem dL_potential_12 : decode cL_potential 12 = .ok (.ldc2_w 36, 3) := by decide +kernel
theorem dL_potential_15 : decode cL_potential 15 = .ok (.lreturn, 1) := by decide +kernel
theorem dL_potential_16 : decode cL_potential 16 = .ok (.lload_n 3, 1) := by decide +kernel
theorem dL_potential_17 : decode cL_potential 17 = .ok (.lreturn, 1) := by decide +kernel
set_option maxRecDepth 20000 in
theorem ggL_current_X7_current : GoodIn wsL_current wsX7_current := goodIn_ca (goodIn_r _ [7, 8, 9, 10, 6, 11, 12, 13, 14, 15, 16, 17, 18, 19, 20, 21, 22, 23, 24, 25, 26, 27, 28, 29, 30, 31, 32, 33, 34, 35, 36, 37, 38, 39, 40, 41, 42, 43, 44, 45, 46, 47, 48, 49, 50, 51, 52, 53, 54, 55, 56, 57, 58, 59, 60, 61, 62, 63, 64, 65, 66, 67, 68, 69, 70, 71, 72, 73, 74, 75, 76, 77, 78, 79, 80, 81, 82, 83, 84, 85, 86, 87, 88, 89, 90, 91, 92, 93, 94, 95, 96, 97, 98, 99, 100, 101, 102, 103, 104, 105, 106, 107, 108, 109, 110, 111, 112, 113, 114, 115, 116, 117, 118, 119, 120, 121, 122, 123, 124, 125, 126, 127, 128, 129, 130, 131, 132, 133, 134, 135, 136, 137, 138, 139, 140, 141, 142, 143, 144, 145, 146, 147, 148, 149, 150, 151, 152, 153, 154, 155, 156, 157, 158] (by decide +kernel) (by decide +kernel)) (goodIn_sub (fun _ h => List.mem_cons_of_mem _ (List.mem_append_right _ h)) (by decide +kernel))
set_option maxRecDepth 20000 in
theorem gL_current_X7_current : GoodIn wsL_current (wsV RL 48 RX7 yX7_current wsX7_current) := goodIn_app (goodIn_of _ (by decide +kernel)) ggL_current_X7_current
theorem dL_current_0 : decode cL_current 0 = .ok (.aload_n 0, 1) := by decide +kernel
theorem dL_current_1 : decode cL_current 1 = .ok (.iload_n 1, 1) := by decide +kernel
theorem dL_current_2 : decode cL_current 2 = .ok (.iload_n 2, 1) := by decide +kernel
theorem dL_current_3 : decode cL_current 3 = .ok (.invokevirtual 48, 3) := by decide +kernel
theorem dL_current_6 : decode cL_current 6 = .ok (.lstore_n 3, 1) := by decide +kernel
theorem dL_current_7 : decode cL_current 7 = .ok (.goto 9, 3) := by decide +kernel
theorem dL_current_10 : decode cL_current 10 = .ok (.astore 5, 2) := by decide +kernel
theorem dL_current_12 : decode cL_current 12 = .ok (.ldc2_w 36, 3) := by decide +kernel
theorem dL_current_15 : decode cL_current 15 = .ok (.lreturn, 1) := by decide +kernel
theorem dL_current_16 : decode cL_current 16 = .ok (.lload_n 3, 1) := by decide +kernel
theorem dL_current_17 : decode cL_current 17 = .ok (.lreturn, 1) := by decide +kernel
set_option maxRecDepth 20000 in
theorem ggL_distance_X7_distance : GoodIn wsL_distance wsX7_distance := goodIn_ca (goodIn_r _ [7, 8, 9, 10, 11, 6, 12, 13, 14, 15, 16, 17, 18, 19, 20, 21, 22, 23, 24, 25, 26, 27, 28, 29, 30, 31, 32, 33, 34, 35, 36, 37, 38, 39, 40, 41, 42, 43, 44, 45, 46, 47, 48, 49, 50, 51, 52, 53, 54, 55, 56, 57, 58, 59, 60, 61, 62, 63, 64, 65, 66, 67, 68, 69, 70, 71, 72, 73, 74, 75, 76, 77, 78, 79, 80, 81, 82, 83, 84, 85, 86, 87, 88, 89, 90, 91, 92, 93, 94, 95, 96, 97, 98, 99, 100, 101, 102, 103, 104, 105, 106, 107, 108, 109, 110, 111, 112, 113, 114, 115, 116, 117, 118, 119, 120, 121, 122, 123, 124, 125, 126, 127, 128, 129, 130, 131, 132, 133, 134, 135, 136, 137, 138, 139, 140, 141, 142, 143] (by decide +kernel) (by decide +kernel)) (goodIn_sub (fun _ h => List.mem_cons_of_mem _ (List.mem_append_right _ h)) (by decide +kernel))
set_option maxRecDepth 20000 in
theorem gL_distance_X7_distance : GoodIn wsL_distance (wsV RL 51 RX7 yX7_distance wsX7_distance) := goodIn_app (goodIn_of _ (by decide +kernel)) ggL_distance_X7_distance
theorem dL_distance_0 : decode cL_distance 0 = .ok (.aload_n 0, 1) := by decide +kernel
theorem dL_distance_1 : decode cL_distance 1 = .ok (.iload_n 1, 1) := by decide +kernel
theorem dL_distance_2 : decode cL_distance 2 = .ok (.iload_n 2, 1) := by decide +kernel
theorem dL_distance_3 : decode cL_distance 3 = .ok (.iload_n 3, 1) := by decide +kernel
theorem dL_distance_4 : decode cL_distance 4 = .ok (.invokevirtual 51, 3) := by decide +kernel
theorem dL_distance_7 : decode cL_distance 7 = .ok (.lstore 4, 2) := by decide +kernel
theorem dL_distance_9 : decode cL_distance 9 = .ok (.goto 9, 3) := by decide +kernel
theorem dL_distance_12 : decode cL_distance 12 = .ok (.astore 6, 2) := by decide +kernel
theorem dL_distance_14 : decode cL_distance 14 = .ok (.ldc2_w 36, 3) := by decide +kernel
theorem dL_distance_17 : decode cL_distance 17 = .ok (.lreturn, 1) := by decide +kernel
theorem dL_distance_18 : decode cL_distance 18 = .ok (.lload 4, 2) := by decide +kernel
theorem dL_distance_20 : decode cL_distance 20 = .ok (.lreturn, 1) := by decide +kernel
set_option maxRecDepth 20000 in
theorem ggL_chance_X7_chance : GoodIn wsL_chance wsX7_chance := goodIn_ca (goodIn_ca (goodIn_r _ [9, 10, 11, 12, 13, 14, 15, 8, 16, 17, 18, 19, 20, 21, 22, 23, 24, 25, 26, 27, 28, 29, 30, 31, 32, 33, 34, 35, 36, 37, 38, 39, 40, 41, 42, 43, 44, 45, 46, 47, 48, 49, 50, 51, 52, 53, 54, 55, 56, 57, 58, 59, 60, 61, 62, 63, 64, 65, 66, 67, 68, 69, 70, 71, 72, 73, 74, 75, 76, 77, 78, 79, 80, 81, 82, 83, 84, 85, 86, 87, 88, 89, 90, 91, 92, 93, 94, 95, 96, 97, 98, 99, 100, 101, 102, 103, 104, 105, 106, 107, 108, 109, 110, 111, 112, 113, 114, 115, 116, 117, 118, 119, 120, 121, 122, 123, 124, 125, 126, 127, 128, 129, 130, 131, 132, 133, 134, 135, 136, 137, 138, 139] (by decide +kernel) (by decide +kernel)) (goodIn_sub (fun _ h => List.mem_cons_of_mem _ (List.mem_append_left _ (List.mem_append_right _ h))) (by decide +kernel))) (goodIn_sub (fun _ h => List.mem_cons_of_mem _ (List.mem_append_right _ h)) (by decide +kernel))
set_option maxRecDepth 20000 in
theorem gL_chance_X7_chance : GoodIn wsL_chance (wsV RL 54 RX7 yX7_chance wsX7_chance) := goodIn_app (goodIn_of _ (by decide +kernel)) ggL_chance_X7_chance
theorem dL_chance_0 : decode cL_chance 0 = .ok (.aload_n 0, 1) := by decide +kernel
theorem dL_chance_1 : decode cL_chance 1 = .ok (.iload_n 1, 1) := by decide +kernel
theorem dL_chance_2 : decode cL_chance 2 = .ok (.iload_n 2, 1) := by decide +kernel
theorem dL_chance_3 : decode cL_chance 3 = .ok (.iload_n 3, 1) := by decide +kernel
theorem dL_chance_4 : decode cL_chance 4 = .ok (.iload 4, 2) := by decide +kernel
theorem dL_chance_6 : decode cL_chance 6 = .ok (.invokevirtual 54, 3) := by decide +kernel
theorem dL_chance_9 : decode cL_chance 9 = .ok (.lstore 5, 2) := by decide +kernel
theorem dL_chance_11 : decode cL_chance 11 = .ok (.goto 15, 3) := by decide +kernel
theorem dL_chance_14 : decode cL_chance 14 = .ok (.astore 7, 2) := by decide +kernel
theorem dL_chance_16 : decode cL_chance 16 = .ok (.ldc2_w 36, 3) := by decide +kernel
theorem dL_chance_19 : decode cL_chance 19 = .ok (.lreturn, 1) := by decide +kernel
theorem dL_chance_20 : decode cL_chance 20 = .ok (.astore 7, 2) := by decide +kernel
theorem dL_chance_22 : decode cL_chance 22 = .ok (.ldc2_w 38, 3) := by decide +kernel
theorem dL_chance_25 : decode cL_chance 25 = .ok (.lreturn, 1) := by decide +kernel
theorem dL_chance_26 : decode cL_chance 26 = .ok (.lload 5, 2) := by decide +kernel
theorem dL_chance_28 : decode cL_chance 28 = .ok (.lreturn, 1) := by decide +kernel
set_option maxRecDepth 20000 in
theorem ggL_starred_X7_starred : GoodIn wsL_starred wsX7_starred := goodIn_ca (goodIn_r _ [7, 8, 9, 10, 11, 12, 6, 13, 14, 15, 16, 17, 18, 19, 20, 21, 22, 23, 24, 25, 26, 27, 28, 29, 30, 31, 32, 33, 34, 35, 36, 37, 38, 39, 40, 41, 42, 43, 44, 45, 46, 47, 48, 49, 50, 51, 52, 53, 54, 55, 56, 57, 58, 59, 60, 61, 62, 63, 64, 65, 66, 67, 68, 69, 70, 71, 72, 73, 74, 75, 76, 77, 78, 79, 80, 81, 82, 83, 84, 85, 86, 87, 88, 89, 90, 91, 92, 93, 94, 95, 96, 97, 98, 99, 100, 101, 102, 103, 104, 105, 106, 107, 108, 109, 110, 111, 112, 113, 114, 115, 116, 117, 118, 119, 120, 121, 122, 123, 124, 125, 126, 127, 128, 129, 130, 131, 132, 133, 134, 135, 136, 137, 138, 139, 140, 141, 142, 143, 144, 145, 146, 147, 148, 149, 150, 151, 152, 153, 154, 155, 156, 157, 158] (by decide +kernel) (by decide +kernel)) (goodIn_sub (fun _ h => List.mem_cons_of_mem _ (List.mem_append_right _ h)) (by decide +kernel))
set_option maxRecDepth 20000 in
theorem gL_starred_X7_starred : GoodIn wsL_starred (wsV RL 61 RX7 yX7_starred wsX7_starred) := goodIn_app (goodIn_of _ (by decide +kernel)) ggL_starred_X7_starred
theorem dL_starred_0 : decode cL_starred 0 = .ok (.aload_n 0, 1) := by decide +kernel
theorem dL_starred_1 : decode cL_starred 1 = .ok (.iload_n 1, 1) := by decide +kernel
theorem dL_starred_2 : decode cL_starred 2 = .ok (.iload_n 2, 1) := by decide +kernel
theorem dL_starred_3 : decode cL_starred 3 = .ok (.invokevirtual 61, 3) := by decide +kernel
theorem dL_starred_6 : decode cL_starred 6 = .ok (.lstore_n 3, 1) := by decide +kernel
theorem dL_starred_7 : decode cL_starred 7 = .ok (.goto 9, 3) := by decide +kernel
theorem dL_starred_10 : decode cL_starred 10 = .ok (.astore 5, 2) := by decide +kernel
theorem dL_starred_12 : decode cL_starred 12 = .ok (.ldc2_w 36, 3) := by decide +kernel
theorem dL_starred_15 : decode cL_starred 15 = .ok (.lreturn, 1) := by decide +kernel
theorem dL_starred_16 : decode cL_starred 16 = .ok (.lload_n 3, 1) := by decide +kernel
theorem dL_starred_17 : decode cL_starred 17 = .ok (.lreturn, 1) := by decide +kernel
set_option maxRecDepth 20000 in
theorem ggL_move_X7_move : GoodIn wsL_move wsX7_move := goodIn_ca (goodIn_ca (goodIn_ca (goodIn_r _ [8, 9, 10, 11, 12, 13, 14, 15, 16, 7, 17, 18, 19, 20, 21, 22, 23, 24, 25, 26, 27, 28, 29, 30, 31, 32, 33, 34, 35, 36, 37, 38, 39, 40, 41, 42, 43, 44, 45, 46, 47, 48, 49, 50, 51, 52, 53, 54, 55, 56, 57, 58, 59, 60, 61, 62, 63, 64, 65, 66, 67, 68, 69, 70, 71, 72, 73, 74, 75, 76, 77, 78, 79, 80, 81, 82, 83, 84, 85, 86, 87, 88, 89, 90, 91, 92, 93, 94, 95, 96, 97, 98, 99, 100, 101, 102, 103, 104, 105, 106, 107, 108, 109, 110, 111, 112, 113, 114, 115, 116, 117, 118, 119, 120, 121, 122, 123, 124, 125, 126, 127, 128, 129, 130, 131, 132, 133, 134, 135, 136, 137, 138, 139, 140, 141, 142, 143, 144, 145, 146, 147, 148, 149, 150, 151, 152, 153, 154, 155, 156, 157, 158, 159, 160, 161, 162, 163, 164, 165, 166, 167, 168, 169, 170, 171, 172, 173, 174, 175, 176, 177, 178, 179, 180, 181, 182, 183, 184, 185, 186, 187, 188, 189, 190, 191, 192, 193, 194, 195, 196, 197, 198, 199, 200, 201, 202, 203, 204, 205, 206, 207, 208, 209, 210, 211, 212, 213, 214, 215, 216, 217, 218, 219, 220, 221, 222, 223, 224, 225, 226, 227, 228, 229, 230, 231, 232, 233, 234, 235, 236, 237, 238, 239, 240, 241, 242, 243, 244, 245, 246, 247, 248, 249, 250, 251, 252, 253] (by decide +kernel) (by decide +kernel)) (goodIn_sub (fun _ h => List.mem_cons_of_mem _ (List.mem_append_left _ (List.mem_append_left _ (List.mem_append_right _ h)))) (by decide +kernel))) (goodIn_sub (fun _ h => List.mem_cons_of_mem _ (List.mem_append_left _ (List.mem_append_right _ h))) (by decide +kernel))) (goodIn_sub (fun _ h => List.mem_cons_of_mem _ (List.mem_append_right _ h)) (by decide +kernel))
set_option maxRecDepth 20000 in
theorem gL_move_X7_move : GoodIn wsL_move (wsV RL 64 RX7 yX7_move wsX7_move) := goodIn_app (goodIn_of _ (by decide +kernel)) ggL_move_X7_move
theorem dL_move_0 : decode cL_move 0 = .ok (.aload_n 0, 1) := by decide +kernel
theorem dL_move_1 : decode cL_move 1 = .ok (.iload_n 1, 1) := by decide +kernel
theorem dL_move_2 : decode cL_move 2 = .ok (.iload_n 2, 1) := by decide +kernel
theorem dL_move_3 : decode cL_move 3 = .ok (.invokevirtual 64, 3) := by decide +kernel
theorem dL_move_6 : decode cL_move 6 = .ok (.goto 18, 3) := by decide +kernel
theorem dL_move_9 : decode cL_move 9 = .ok (.astore_n 3, 1) := by decide +kernel
theorem dL_move_10 : decode cL_move 10 = .ok (.sipush (-7100), 3) := by decide +kernel
theorem dL_move_13 : decode cL_move 13 = .ok (.ireturn, 1) := by decide +kernel
theorem dL_move_14 : decode cL_move 14 = .ok (.astore_n 3, 1) := by decide +kernel
theorem dL_move_15 : decode cL_move 15 = .ok (.sipush (-7200), 3) := by decide +kernel
theorem dL_move_18 : decode cL_move 18 = .ok (.ireturn, 1) := by decide +kernel
theorem dL_move_19 : decode cL_move 19 = .ok (.astore_n 3, 1) := by decide +kernel
theorem dL_move_20 : decode cL_move 20 = .ok (.sipush (-7300), 3) := by decide +kernel
theorem dL_move_23 : decode cL_move 23 = .ok (.ireturn, 1) := by decide +kernel
theorem dL_move_24 : decode cL_move 24 = .ok (.iconst 0, 1) := by decide +kernel
theorem dL_move_25 : decode cL_move 25 = .ok (.ireturn, 1) := by decide +kernel
set_option maxRecDepth 20000 in
theorem ggL_undo_X7_undo : GoodIn wsL_undo wsX7_undo := goodIn_ca (goodIn_r _ [6, 7, 8, 9, 10, 11, 12, 13, 14, 15, 16, 17, 18, 19, 20, 21, 22, 23, 24, 25, 26, 27, 28, 29, 30, 31, 32, 33, 34, 35, 36, 37, 38, 39, 40, 41, 42, 43, 44, 45, 46, 47, 48, 49, 50, 51, 52, 53, 54, 55, 56, 57, 58, 59, 60, 61] (by decide +kernel) (by decide +kernel)) (goodIn_sub (fun _ h => List.mem_cons_of_mem _ (List.mem_append_right _ h)) (by decide +kernel))
set_option maxRecDepth 20000 in
theorem gL_undo_X7_undo : GoodIn wsL_undo (wsV RL 67 RX7 yX7_undo wsX7_undo) := goodIn_app (goodIn_of _ (by decide +kernel)) ggL_undo_X7_undo
theorem dL_undo_0 : decode cL_undo 0 = .ok (.aload_n 0, 1) := by decide +kernel
theorem dL_undo_1 : decode cL_undo 1 = .ok (.invokevirtual 67, 3) := by decide +kernel
theorem dL_undo_4 : decode cL_undo 4 = .ok (.istore_n 1, 1) := by decide +kernel
theorem dL_undo_5 : decode cL_undo 5 = .ok (.goto 8, 3) := by decide +kernel
theorem dL_undo_8 : decode cL_undo 8 = .ok (.astore_n 2, 1) := by decide +kernel
theorem dL_undo_9 : decode cL_undo 9 = .ok (.sipush (-7300), 3) := by decide +kernel
theorem dL_undo_12 : decode cL_undo 12 = .ok (.ireturn, 1) := by decide +kernel
theorem dL_undo_13 : decode cL_undo 13 = .ok (.iload_n 1, 1) := by decide +kernel
theorem dL_undo_14 : decode cL_undo 14 = .ok (.ireturn, 1) := by decide +kernel
theorem dL_between_0 : decode cL_between 0 = .ok (.lconst 0, 1) := by decide +kernel
theorem dL_between_1 : decode cL_between 1 = .ok (.lstore 6, 2) := by decide +kernel
theorem dL_between_3 : decode cL_between 3 = .ok (.iconst 0, 1) := by decide +kernel
theorem dL_between_4 : decode cL_between 4 = .ok (.istore 8, 2) := by decide +kernel
theorem dL_between_6 : decode cL_between 6 = .ok (.iload 8, 2) := by decide +kernel
theorem dL_between_8 : decode cL_between 8 = .ok (.aload_n 2, 1) := by decide +kernel
theorem dL_between_9 : decode cL_between 9 = .ok (.iconst 3, 1) := by decide +kernel
theorem dL_between_10 : decode cL_between 10 = .ok (.iaload, 1) := by decide +kernel
theorem dL_between_11 : decode cL_between 11 = .ok (.if_icmp .ge 117, 3) := by decide +kernel
theorem dL_between_14 : decode cL_between 14 = .ok (.aload_n 2, 1) := by decide +kernel
theorem dL_between_15 : decode cL_between 15 = .ok (.iconst 4, 1) := by decide +kernel
theorem dL_between_16 : decode cL_between 16 = .ok (.iaload, 1) := by decide +kernel
theorem dL_between_17 : decode cL_between 17 = .ok (.iload 8, 2) := by decide +kernel
theorem dL_between_19 : decode cL_between 19 = .ok (.ishr, 1) := by decide +kernel
theorem dL_between_20 : decode cL_between 20 = .ok (.iconst 1, 1) := by decide +kernel
theorem dL_between_21 : decode cL_between 21 = .ok (.iand, 1) := by decide +kernel
theorem dL_between_22 : decode cL_between 22 = .ok (.ifCond .eq 100, 3) := by decide +kernel
theorem dL_between_25 : decode cL_between 25 = .ok (.aload_n 3, 1) := by decide +kernel
theorem dL_between_26 : decode cL_between 26 = .ok (.iload 8, 2) := by decide +kernel
theorem dL_between_28 : decode cL_between 28 = .ok (.iaload, 1) := by decide +kernel
theorem dL_between_29 : decode cL_between 29 = .ok (.aload 4, 2) := by decide +kernel
theorem dL_between_31 : decode cL_between 31 = .ok (.iload 8, 2) := by decide +kernel
theorem dL_between_33 : decode cL_between 33 = .ok (.iaload, 1) := by decide +kernel
theorem dL_between_34 : decode cL_between 34 = .ok (.if_icmp .ne 6, 3) := by decide +kernel
theorem dL_between_37 : decode cL_between 37 = .ok (.goto 85, 3) := by decide +kernel
theorem dL_between_40 : decode cL_between 40 = .ok (.aload_n 3, 1) := by decide +kernel
theorem dL_between_41 : decode cL_between 41 = .ok (.iload 8, 2) := by decide +kernel
theorem dL_between_43 : decode cL_between 43 = .ok (.iaload, 1) := by decide +kernel
theorem dL_between_44 : decode cL_between 44 = .ok (.iload_n 0, 1) := by decide +kernel
theorem dL_between_45 : decode cL_between 45 = .ok (.if_icmp .ne 12, 3) := by decide +kernel
theorem dL_between_48 : decode cL_between 48 = .ok (.aload 4, 2) := by decide +kernel
theorem dL_between_50 : decode cL_between 50 = .ok (.iload 8, 2) := by decide +kernel
theorem dL_between_52 : decode cL_between 52 = .ok (.iaload, 1) := by decide +kernel
theorem dL_between_53 : decode cL_between 53 = .ok (.iload_n 1, 1) := by decide +kernel
theorem dL_between_54 : decode cL_between 54 = .ok (.if_icmp .eq 20, 3) := by decide +kernel
theorem dL_between_57 : decode cL_between 57 = .ok (.aload_n 3, 1) := by decide +kernel
theorem dL_between_58 : decode cL_between 58 = .ok (.iload 8, 2) := by decide +kernel
theorem dL_between_60 : decode cL_between 60 = .ok (.iaload, 1) := by decide +kernel
theorem dL_between_61 : decode cL_between 61 = .ok (.iload_n 1, 1) := by decide +kernel
theorem dL_between_62 : decode cL_between 62 = .ok (.if_icmp .ne 16, 3) := by decide +kernel
theorem dL_between_65 : decode cL_between 65 = .ok (.aload 4, 2) := by decide +kernel
theorem dL_between_67 : decode cL_between 67 = .ok (.iload 8, 2) := by decide +kernel
theorem dL_between_69 : decode cL_between 69 = .ok (.iaload, 1) := by decide +kernel
theorem dL_between_70 : decode cL_between 70 = .ok (.iload_n 0, 1) := by decide +kernel
theorem dL_between_71 : decode cL_between 71 = .ok (.if_icmp .ne 7, 3) := by decide +kernel
theorem dL_between_74 : decode cL_between 74 = .ok (.iconst 1, 1) := by decide +kernel
theorem dL_between_75 : decode cL_between 75 = .ok (.goto 4, 3) := by decide +kernel
theorem dL_between_78 : decode cL_between 78 = .ok (.iconst 0, 1) := by decide +kernel
theorem dL_between_79 : decode cL_between 79 = .ok (.istore 9, 2) := by decide +kernel
theorem dL_between_81 : decode cL_between 81 = .ok (.iload_n 0, 1) := by decide +kernel
theorem dL_between_82 : decode cL_between 82 = .ok (.iload_n 1, 1) := by decide +kernel
theorem dL_between_83 : decode cL_between 83 = .ok (.if_icmp .ne 23, 3) := by decide +kernel
theorem dL_between_86 : decode cL_between 86 = .ok (.aload_n 3, 1) := by decide +kernel
theorem dL_between_87 : decode cL_between 87 = .ok (.iload 8, 2) := by decide +kernel
theorem dL_between_89 : decode cL_between 89 = .ok (.iaload, 1) := by decide +kernel
theorem dL_between_90 : decode cL_between 90 = .ok (.iload_n 0, 1) := by decide +kernel
theorem dL_between_91 : decode cL_between 91 = .ok (.if_icmp .eq 20, 3) := by decide +kernel
theorem dL_between_94 : decode cL_between 94 = .ok (.aload 4, 2) := by decide +kernel
theorem dL_between_96 : decode cL_between 96 = .ok (.iload 8, 2) := by decide +kernel
theorem dL_between_98 : decode cL_between 98 = .ok (.iaload, 1) := by decide +kernel
theorem dL_between_99 : decode cL_between 99 = .ok (.iload_n 0, 1) := by decide +kernel
theorem dL_between_100 : decode cL_between 100 = .ok (.if_icmp .ne 22, 3) := by decide +kernel
theorem dL_between_103 : decode cL_between 103 = .ok (.goto 8, 3) := by decide +kernel
theorem dL_between_106 : decode cL_between 106 = .ok (.iload 9, 2) := by decide +kernel
theorem dL_between_108 : decode cL_between 108 = .ok (.ifCond .eq 14, 3) := by decide +kernel
theorem dL_between_111 : decode cL_between 111 = .ok (.lload 6, 2) := by decide +kernel
theorem dL_between_113 : decode cL_between 113 = .ok (.aload 5, 2) := by decide +kernel
theorem dL_between_115 : decode cL_between 115 = .ok (.iload 8, 2) := by decide +kernel
theorem dL_between_117 : decode cL_between 117 = .ok (.iaload, 1) := by decide +kernel
theorem dL_between_118 : decode cL_between 118 = .ok (.i2l, 1) := by decide +kernel
theorem dL_between_119 : decode cL_between 119 = .ok (.ladd, 1) := by decide +kernel
theorem dL_between_120 : decode cL_between 120 = .ok (.lstore 6, 2) := by decide +kernel
theorem dL_between_122 : decode cL_between 122 = .ok (.iinc 8 1, 3) := by decide +kernel
theorem dL_between_125 : decode cL_between 125 = .ok (.goto (-119), 3) := by decide +kernel
theorem dL_between_128 : decode cL_between 128 = .ok (.lload 6, 2) := by decide +kernel
theorem dL_between_130 : decode cL_between 130 = .ok (.lreturn, 1) := by decide +kernel
set_option maxRecDepth 20000 in
theorem ggL_minor_L_between : GoodIn wsL_minor wsL_between := goodIn_r _ [6] (by decide +kernel) (by decide +kernel)
set_option maxRecDepth 20000 in
theorem gL_minor_L_between : GoodIn wsL_minor (va_wsS RL 71 yL_between wsL_between) := goodIn_app (goodIn_of _ (by decide +kernel)) ggL_minor_L_between
theorem dL_minor_0 : decode cL_minor 0 = .ok (.bipush 64, 2) := by decide +kernel
theorem dL_minor_2 : decode cL_minor 2 = .ok (.newarray .long, 2) := by decide +kernel
theorem dL_minor_4 : decode cL_minor 4 = .ok (.astore 7, 2) := by decide +kernel
theorem dL_minor_6 : decode cL_minor 6 = .ok (.bipush 7, 2) := by decide +kernel
theorem dL_minor_8 : decode cL_minor 8 = .ok (.newarray .int, 2) := by decide +kernel
theorem dL_minor_10 : decode cL_minor 10 = .ok (.astore 8, 2) := by decide +kernel
theorem dL_minor_12 : decode cL_minor 12 = .ok (.iconst 0, 1) := by decide +kernel
theorem dL_minor_13 : decode cL_minor 13 = .ok (.istore 9, 2) := by decide +kernel
theorem dL_minor_15 : decode cL_minor 15 = .ok (.iconst 0, 1) := by decide +kernel
theorem dL_minor_16 : decode cL_minor 16 = .ok (.istore 10, 2) := by decide +kernel
theorem dL_minor_18 : decode cL_minor 18 = .ok (.iload 10, 2) := by decide +kernel
theorem dL_minor_20 : decode cL_minor 20 = .ok (.bipush 7, 2) := by decide +kernel
theorem dL_minor_22 : decode cL_minor 22 = .ok (.if_icmp .ge 29, 3) := by decide +kernel
theorem dL_minor_25 : decode cL_minor 25 = .ok (.iload_n 0, 1) := by decide +kernel
theorem dL_minor_26 : decode cL_minor 26 = .ok (.iload 10, 2) := by decide +kernel
theorem dL_minor_28 : decode cL_minor 28 = .ok (.ishr, 1) := by decide +kernel
theorem dL_minor_29 : decode cL_minor 29 = .ok (.iconst 1, 1) := by decide +kernel
theorem dL_minor_30 : decode cL_minor 30 = .ok (.iand, 1) := by decide +kernel
theorem dL_minor_31 : decode cL_minor 31 = .ok (.iconst 1, 1) := by decide +kernel
theorem dL_minor_32 : decode cL_minor 32 = .ok (.if_icmp .ne 13, 3) := by decide +kernel
theorem dL_minor_35 : decode cL_minor 35 = .ok (.aload 8, 2) := by decide +kernel
theorem dL_minor_37 : decode cL_minor 37 = .ok (.iload 9, 2) := by decide +kernel
theorem dL_minor_39 : decode cL_minor 39 = .ok (.iinc 9 1, 3) := by decide +kernel
theorem dL_minor_42 : decode cL_minor 42 = .ok (.iload 10, 2) := by decide +kernel
theorem dL_minor_44 : decode cL_minor 44 = .ok (.iastore, 1) := by decide +kernel
theorem dL_minor_45 : decode cL_minor 45 = .ok (.iinc 10 1, 3) := by decide +kernel
theorem dL_minor_48 : decode cL_minor 48 = .ok (.goto (-30), 3) := by decide +kernel
theorem dL_minor_51 : decode cL_minor 51 = .ok (.aload 7, 2) := by decide +kernel
theorem dL_minor_53 : decode cL_minor 53 = .ok (.iconst 0, 1) := by decide +kernel
theorem dL_minor_54 : decode cL_minor 54 = .ok (.lconst 1, 1) := by decide +kernel
theorem dL_minor_55 : decode cL_minor 55 = .ok (.lastore, 1) := by decide +kernel
theorem dL_minor_56 : decode cL_minor 56 = .ok (.iconst 0, 1) := by decide +kernel
theorem dL_minor_57 : decode cL_minor 57 = .ok (.istore 10, 2) := by decide +kernel
theorem dL_minor_59 : decode cL_minor 59 = .ok (.iload 10, 2) := by decide +kernel
theorem dL_minor_61 : decode cL_minor 61 = .ok (.iconst 1, 1) := by decide +kernel
theorem dL_minor_62 : decode cL_minor 62 = .ok (.iload 9, 2) := by decide +kernel
theorem dL_minor_64 : decode cL_minor 64 = .ok (.ishl, 1) := by decide +kernel
theorem dL_minor_65 : decode cL_minor 65 = .ok (.iconst 1, 1) := by decide +kernel
theorem dL_minor_66 : decode cL_minor 66 = .ok (.isub, 1) := by decide +kernel
theorem dL_minor_67 : decode cL_minor 67 = .ok (.if_icmp .ge 207, 3) := by decide +kernel
theorem dL_minor_70 : decode cL_minor 70 = .ok (.iconst 0, 1) := by decide +kernel
theorem dL_minor_71 : decode cL_minor 71 = .ok (.istore 11, 2) := by decide +kernel
theorem dL_minor_73 : decode cL_minor 73 = .ok (.iconst 0, 1) := by decide +kernel
theorem dL_minor_74 : decode cL_minor 74 = .ok (.istore 12, 2) := by decide +kernel
theorem dL_minor_76 : decode cL_minor 76 = .ok (.iload 12, 2) := by decide +kernel
theorem dL_minor_78 : decode cL_minor 78 = .ok (.iload 9, 2) := by decide +kernel
theorem dL_minor_80 : decode cL_minor 80 = .ok (.if_icmp .ge 21, 3) := by decide +kernel
theorem dL_minor_83 : decode cL_minor 83 = .ok (.iload 11, 2) := by decide +kernel
theorem dL_minor_85 : decode cL_minor 85 = .ok (.iload 10, 2) := by decide +kernel
theorem dL_minor_87 : decode cL_minor 87 = .ok (.iload 12, 2) := by decide +kernel
theorem dL_minor_89 : decode cL_minor 89 = .ok (.ishr, 1) := by decide +kernel
theorem dL_minor_90 : decode cL_minor 90 = .ok (.iconst 1, 1) := by decide +kernel
theorem dL_minor_91 : decode cL_minor 91 = .ok (.iand, 1) := by decide +kernel
theorem dL_minor_92 : decode cL_minor 92 = .ok (.iadd, 1) := by decide +kernel
theorem dL_minor_93 : decode cL_minor 93 = .ok (.istore 11, 2) := by decide +kernel
theorem dL_minor_95 : decode cL_minor 95 = .ok (.iinc 12 1, 3) := by decide +kernel
theorem dL_minor_98 : decode cL_minor 98 = .ok (.goto (-22), 3) := by decide +kernel
theorem dL_minor_101 : decode cL_minor 101 = .ok (.iconst 0, 1) := by decide +kernel
theorem dL_minor_102 : decode cL_minor 102 = .ok (.istore 12, 2) := by decide +kernel
theorem dL_minor_104 : decode cL_minor 104 = .ok (.iload 12, 2) := by decide +kernel
theorem dL_minor_106 : decode cL_minor 106 = .ok (.iload 9, 2) := by decide +kernel
theorem dL_minor_108 : decode cL_minor 108 = .ok (.if_icmp .ge 160, 3) := by decide +kernel
theorem dL_minor_111 : decode cL_minor 111 = .ok (.iload 10, 2) := by decide +kernel
theorem dL_minor_113 : decode cL_minor 113 = .ok (.iload 12, 2) := by decide +kernel
theorem dL_minor_115 : decode cL_minor 115 = .ok (.ishr, 1) := by decide +kernel
theorem dL_minor_116 : decode cL_minor 116 = .ok (.iconst 1, 1) := by decide +kernel
theorem dL_minor_117 : decode cL_minor 117 = .ok (.iand, 1) := by decide +kernel
theorem dL_minor_118 : decode cL_minor 118 = .ok (.iconst 1, 1) := by decide +kernel
theorem dL_minor_119 : decode cL_minor 119 = .ok (.if_icmp .ne 6, 3) := by decide +kernel
theorem dL_minor_122 : decode cL_minor 122 = .ok (.goto 140, 3) := by decide +kernel
theorem dL_minor_125 : decode cL_minor 125 = .ok (.iconst 0, 1) := by decide +kernel
theorem dL_minor_126 : decode cL_minor 126 = .ok (.istore 13, 2) := by decide +kernel
theorem dL_minor_128 : decode cL_minor 128 = .ok (.iload 12, 2) := by decide +kernel
theorem dL_minor_130 : decode cL_minor 130 = .ok (.iconst 1, 1) := by decide +kernel
theorem dL_minor_131 : decode cL_minor 131 = .ok (.iadd, 1) := by decide +kernel
theorem dL_minor_132 : decode cL_minor 132 = .ok (.istore 14, 2) := by decide +kernel
theorem dL_minor_134 : decode cL_minor 134 = .ok (.iload 14, 2) := by decide +kernel
theorem dL_minor_136 : decode cL_minor 136 = .ok (.iload 9, 2) := by decide +kernel
theorem dL_minor_138 : decode cL_minor 138 = .ok (.if_icmp .ge 21, 3) := by decide +kernel
theorem dL_minor_141 : decode cL_minor 141 = .ok (.iload 13, 2) := by decide +kernel
theorem dL_minor_143 : decode cL_minor 143 = .ok (.iload 10, 2) := by decide +kernel
theorem dL_minor_145 : decode cL_minor 145 = .ok (.iload 14, 2) := by decide +kernel
theorem dL_minor_147 : decode cL_minor 147 = .ok (.ishr, 1) := by decide +kernel
theorem dL_minor_148 : decode cL_minor 148 = .ok (.iconst 1, 1) := by decide +kernel
theorem dL_minor_149 : decode cL_minor 149 = .ok (.iand, 1) := by decide +kernel
theorem dL_minor_150 : decode cL_minor 150 = .ok (.iadd, 1) := by decide +kernel
theorem dL_minor_151 : decode cL_minor 151 = .ok (.istore 13, 2) := by decide +kernel
theorem dL_minor_153 : decode cL_minor 153 = .ok (.iinc 14 1, 3) := by decide +kernel
theorem dL_minor_156 : decode cL_minor 156 = .ok (.goto (-22), 3) := by decide +kernel
theorem dL_minor_159 : decode cL_minor 159 = .ok (.aload 8, 2) := by decide +kernel
theorem dL_minor_161 : decode cL_minor 161 = .ok (.iload 12, 2) := by decide +kernel
theorem dL_minor_163 : decode cL_minor 163 = .ok (.iaload, 1) := by decide +kernel
theorem dL_minor_164 : decode cL_minor 164 = .ok (.iload_n 1, 1) := by decide +kernel
theorem dL_minor_165 : decode cL_minor 165 = .ok (.if_icmp .ne 7, 3) := by decide +kernel
theorem dL_minor_168 : decode cL_minor 168 = .ok (.iload_n 2, 1) := by decide +kernel
theorem dL_minor_169 : decode cL_minor 169 = .ok (.goto 8, 3) := by decide +kernel
theorem dL_minor_172 : decode cL_minor 172 = .ok (.aload 8, 2) := by decide +kernel
theorem dL_minor_174 : decode cL_minor 174 = .ok (.iload 12, 2) := by decide +kernel
theorem dL_minor_176 : decode cL_minor 176 = .ok (.iaload, 1) := by decide +kernel
theorem dL_minor_177 : decode cL_minor 177 = .ok (.istore 14, 2) := by decide +kernel
theorem dL_minor_179 : decode cL_minor 179 = .ok (.aload 8, 2) := by decide +kernel
theorem dL_minor_181 : decode cL_minor 181 = .ok (.iload 11, 2) := by decide +kernel
theorem dL_minor_183 : decode cL_minor 183 = .ok (.iaload, 1) := by decide +kernel
theorem dL_minor_184 : decode cL_minor 184 = .ok (.iload 14, 2) := by decide +kernel
theorem dL_minor_186 : decode cL_minor 186 = .ok (.aload_n 3, 1) := by decide +kernel
theorem dL_minor_187 : decode cL_minor 187 = .ok (.aload 4, 2) := by decide +kernel
theorem dL_minor_189 : decode cL_minor 189 = .ok (.aload 5, 2) := by decide +kernel
theorem dL_minor_191 : decode cL_minor 191 = .ok (.aload 6, 2) := by decide +kernel
theorem dL_minor_193 : decode cL_minor 193 = .ok (.invokestatic 71, 3) := by decide +kernel
theorem dL_minor_196 : decode cL_minor 196 = .ok (.lstore 15, 2) := by decide +kernel
theorem dL_minor_198 : decode cL_minor 198 = .ok (.aload 8, 2) := by decide +kernel
theorem dL_minor_200 : decode cL_minor 200 = .ok (.iload 11, 2) := by decide +kernel
theorem dL_minor_202 : decode cL_minor 202 = .ok (.iaload, 1) := by decide +kernel
theorem dL_minor_203 : decode cL_minor 203 = .ok (.iload 14, 2) := by decide +kernel
theorem dL_minor_205 : decode cL_minor 205 = .ok (.if_icmp .eq 17, 3) := by decide +kernel
theorem dL_minor_208 : decode cL_minor 208 = .ok (.aload 8, 2) := by decide +kernel
theorem dL_minor_210 : decode cL_minor 210 = .ok (.iload 12, 2) := by decide +kernel
theorem dL_minor_212 : decode cL_minor 212 = .ok (.iaload, 1) := by decide +kernel
theorem dL_minor_213 : decode cL_minor 213 = .ok (.iload_n 1, 1) := by decide +kernel
theorem dL_minor_214 : decode cL_minor 214 = .ok (.if_icmp .eq 8, 3) := by decide +kernel
theorem dL_minor_217 : decode cL_minor 217 = .ok (.lload 15, 2) := by decide +kernel
theorem dL_minor_219 : decode cL_minor 219 = .ok (.lneg, 1) := by decide +kernel
theorem dL_minor_220 : decode cL_minor 220 = .ok (.lstore 15, 2) := by decide +kernel
theorem dL_minor_222 : decode cL_minor 222 = .ok (.aload 7, 2) := by decide +kernel
theorem dL_minor_224 : decode cL_minor 224 = .ok (.iload 10, 2) := by decide +kernel
theorem dL_minor_226 : decode cL_minor 226 = .ok (.iconst 1, 1) := by decide +kernel
theorem dL_minor_227 : decode cL_minor 227 = .ok (.iload 12, 2) := by decide +kernel
theorem dL_minor_229 : decode cL_minor 229 = .ok (.ishl, 1) := by decide +kernel
theorem dL_minor_230 : decode cL_minor 230 = .ok (.ior, 1) := by decide +kernel
theorem dL_minor_231 : decode cL_minor 231 = .ok (.dup2, 1) := by decide +kernel
theorem dL_minor_232 : decode cL_minor 232 = .ok (.laload, 1) := by decide +kernel
theorem dL_minor_233 : decode cL_minor 233 = .ok (.iload 13, 2) := by decide +kernel
theorem dL_minor_235 : decode cL_minor 235 = .ok (.iconst 2, 1) := by decide +kernel
theorem dL_minor_236 : decode cL_minor 236 = .ok (.irem, 1) := by decide +kernel
theorem dL_minor_237 : decode cL_minor 237 = .ok (.ifCond .ne 14, 3) := by decide +kernel
theorem dL_minor_240 : decode cL_minor 240 = .ok (.lload 15, 2) := by decide +kernel
theorem dL_minor_242 : decode cL_minor 242 = .ok (.aload 7, 2) := by decide +kernel
theorem dL_minor_244 : decode cL_minor 244 = .ok (.iload 10, 2) := by decide +kernel
theorem dL_minor_246 : decode cL_minor 246 = .ok (.laload, 1) := by decide +kernel
theorem dL_minor_247 : decode cL_minor 247 = .ok (.lmul, 1) := by decide +kernel
theorem dL_minor_248 : decode cL_minor 248 = .ok (.goto 12, 3) := by decide +kernel
theorem dL_minor_251 : decode cL_minor 251 = .ok (.lload 15, 2) := by decide +kernel
theorem dL_minor_253 : decode cL_minor 253 = .ok (.lneg, 1) := by decide +kernel
theorem dL_minor_254 : decode cL_minor 254 = .ok (.aload 7, 2) := by decide +kernel
theorem dL_minor_256 : decode cL_minor 256 = .ok (.iload 10, 2) := by decide +kernel
theorem dL_minor_258 : decode cL_minor 258 = .ok (.laload, 1) := by decide +kernel
theorem dL_minor_259 : decode cL_minor 259 = .ok (.lmul, 1) := by decide +kernel
theorem dL_minor_260 : decode cL_minor 260 = .ok (.ladd, 1) := by decide +kernel
theorem dL_minor_261 : decode cL_minor 261 = .ok (.lastore, 1) := by decide +kernel
theorem dL_minor_262 : decode cL_minor 262 = .ok (.iinc 12 1, 3) := by decide +kernel
theorem dL_minor_265 : decode cL_minor 265 = .ok (.goto (-161), 3) := by decide +kernel
theorem dL_minor_268 : decode cL_minor 268 = .ok (.iinc 10 1, 3) := by decide +kernel
theorem dL_minor_271 : decode cL_minor 271 = .ok (.goto (-212), 3) := by decide +kernel
theorem dL_minor_274 : decode cL_minor 274 = .ok (.aload 7, 2) := by decide +kernel
theorem dL_minor_276 : decode cL_minor 276 = .ok (.iconst 1, 1) := by decide +kernel
theorem dL_minor_277 : decode cL_minor 277 = .ok (.iload 9, 2) := by decide +kernel
theorem dL_minor_279 : decode cL_minor 279 = .ok (.ishl, 1) := by decide +kernel
theorem dL_minor_280 : decode cL_minor 280 = .ok (.iconst 1, 1) := by decide +kernel
theorem dL_minor_281 : decode cL_minor 281 = .ok (.isub, 1) := by decide +kernel
theorem dL_minor_282 : decode cL_minor 282 = .ok (.laload, 1) := by decide +kernel
theorem dL_minor_283 : decode cL_minor 283 = .ok (.lreturn, 1) := by decide +kernel
theorem dL_inner_0 : decode cL_inner 0 = .ok (.aload_n 0, 1) := by decide +kernel
theorem dL_inner_1 : decode cL_inner 1 = .ok (.iconst 1, 1) := by decide +kernel
theorem dL_inner_2 : decode cL_inner 2 = .ok (.iaload, 1) := by decide +kernel
theorem dL_inner_3 : decode cL_inner 3 = .ok (.aload_n 0, 1) := by decide +kernel
theorem dL_inner_4 : decode cL_inner 4 = .ok (.iconst 2, 1) := by decide +kernel
theorem dL_inner_5 : decode cL_inner 5 = .ok (.iaload, 1) := by decide +kernel
theorem dL_inner_6 : decode cL_inner 6 = .ok (.iconst (-1), 1) := by decide +kernel
theorem dL_inner_7 : decode cL_inner 7 = .ok (.ixor, 1) := by decide +kernel
theorem dL_inner_8 : decode cL_inner 8 = .ok (.iand, 1) := by decide +kernel
theorem dL_inner_9 : decode cL_inner 9 = .ok (.ireturn, 1) := by decide +kernel
set_option maxRecDepth 20000 in
theorem ggL_rest_L_inner : GoodIn wsL_rest wsL_inner := goodIn_r _ [4] (by decide +kernel) (by decide +kernel)
set_option maxRecDepth 20000 in
theorem gL_rest_L_inner : GoodIn wsL_rest (va_wsS RL 77 yL_inner wsL_inner) := goodIn_app (goodIn_of _ (by decide +kernel)) ggL_rest_L_inner
set_option maxRecDepth 20000 in
theorem ggL_rest_L_minor : GoodIn wsL_rest wsL_minor := goodIn_r _ [7, 8, 9, 10, 11, 3, 12] (by decide +kernel) (by decide +kernel)
set_option maxRecDepth 20000 in
theorem gL_rest_L_minor : GoodIn wsL_rest (va_wsS RL 81 yL_minor wsL_minor) := goodIn_app (goodIn_of _ (by decide +kernel)) ggL_rest_L_minor
theorem dL_rest_0 : decode cL_rest 0 = .ok (.aload_n 0, 1) := by decide +kernel
theorem dL_rest_1 : decode cL_rest 1 = .ok (.invokestatic 77, 3) := by decide +kernel
theorem dL_rest_4 : decode cL_rest 4 = .ok (.iconst (-1), 1) := by decide +kernel
theorem dL_rest_5 : decode cL_rest 5 = .ok (.iconst (-1), 1) := by decide +kernel
theorem dL_rest_6 : decode cL_rest 6 = .ok (.aload_n 0, 1) := by decide +kernel
theorem dL_rest_7 : decode cL_rest 7 = .ok (.aload_n 1, 1) := by decide +kernel
theorem dL_rest_8 : decode cL_rest 8 = .ok (.aload_n 2, 1) := by decide +kernel
theorem dL_rest_9 : decode cL_rest 9 = .ok (.aload_n 3, 1) := by decide +kernel
theorem dL_rest_10 : decode cL_rest 10 = .ok (.invokestatic 81, 3) := by decide +kernel
theorem dL_rest_13 : decode cL_rest 13 = .ok (.lreturn, 1) := by decide +kernel
set_option maxRecDepth 20000 in
theorem ggL_pair_L_between : GoodIn wsL_pair wsL_between := goodIn_r _ [4] (by decide +kernel) (by decide +kernel)
set_option maxRecDepth 20000 in
theorem gL_pair_L_between : GoodIn wsL_pair (va_wsS RL 71 yL_between wsL_between) := goodIn_app (goodIn_of _ (by decide +kernel)) ggL_pair_L_between
set_option maxRecDepth 20000 in
theorem ggL_pair_L_rest : GoodIn wsL_pair wsL_rest := goodIn_r _ [7, 8, 9, 3, 10, 11, 12, 13, 14, 15, 1, 2, 4] (by decide +kernel) (by decide +kernel)
set_option maxRecDepth 20000 in
theorem gL_pair_L_rest : GoodIn wsL_pair (va_wsS RL 85 yL_rest wsL_rest) := goodIn_app (goodIn_of _ (by decide +kernel)) ggL_pair_L_rest
set_option maxRecDepth 20000 in
theorem ggL_pair_L_inner : GoodIn wsL_pair wsL_inner := goodIn_r _ [10] (by decide +kernel) (by decide +kernel)
set_option maxRecDepth 20000 in
theorem gL_pair_L_inner : GoodIn wsL_pair (va_wsS RL 77 yL_inner wsL_inner) := goodIn_app (goodIn_of _ (by decide +kernel)) ggL_pair_L_inner
set_option maxRecDepth 20000 in
theorem ggL_pair_L_minor : GoodIn wsL_pair wsL_minor := goodIn_r _ [13, 14, 15, 1, 2, 3, 4] (by decide +kernel) (by decide +kernel)
set_option maxRecDepth 20000 in
theorem gL_pair_L_minor : GoodIn wsL_pair (va_wsS RL 81 yL_minor wsL_minor) := goodIn_app (goodIn_of _ (by decide +kernel)) ggL_pair_L_minor
theorem dL_pair_0 : decode cL_pair 0 = .ok (.iload_n 0, 1) := by decide +kernel
theorem dL_pair_1 : decode cL_pair 1 = .ok (.iload_n 1, 1) := by decide +kernel
theorem dL_pair_2 : decode cL_pair 2 = .ok (.aload_n 2, 1) := by decide +kernel
theorem dL_pair_3 : decode cL_pair 3 = .ok (.aload_n 3, 1) := by decide +kernel
theorem dL_pair_4 : decode cL_pair 4 = .ok (.aload 4, 2) := by decide +kernel
theorem dL_pair_6 : decode cL_pair 6 = .ok (.aload 5, 2) := by decide +kernel
theorem dL_pair_8 : decode cL_pair 8 = .ok (.invokestatic 71, 3) := by decide +kernel
theorem dL_pair_11 : decode cL_pair 11 = .ok (.aload_n 2, 1) := by decide +kernel
theorem dL_pair_12 : decode cL_pair 12 = .ok (.aload_n 3, 1) := by decide +kernel
theorem dL_pair_13 : decode cL_pair 13 = .ok (.aload 4, 2) := by decide +kernel
theorem dL_pair_15 : decode cL_pair 15 = .ok (.aload 5, 2) := by decide +kernel
theorem dL_pair_17 : decode cL_pair 17 = .ok (.invokestatic 85, 3) := by decide +kernel
theorem dL_pair_20 : decode cL_pair 20 = .ok (.lmul, 1) := by decide +kernel
theorem dL_pair_21 : decode cL_pair 21 = .ok (.lstore 6, 2) := by decide +kernel
theorem dL_pair_23 : decode cL_pair 23 = .ok (.iconst 0, 1) := by decide +kernel
theorem dL_pair_24 : decode cL_pair 24 = .ok (.istore 8, 2) := by decide +kernel
theorem dL_pair_26 : decode cL_pair 26 = .ok (.iload 8, 2) := by decide +kernel
theorem dL_pair_28 : decode cL_pair 28 = .ok (.bipush 7, 2) := by decide +kernel
theorem dL_pair_30 : decode cL_pair 30 = .ok (.if_icmp .ge 70, 3) := by decide +kernel
theorem dL_pair_33 : decode cL_pair 33 = .ok (.aload_n 2, 1) := by decide +kernel
theorem dL_pair_34 : decode cL_pair 34 = .ok (.invokestatic 77, 3) := by decide +kernel
theorem dL_pair_37 : decode cL_pair 37 = .ok (.iload 8, 2) := by decide +kernel
theorem dL_pair_39 : decode cL_pair 39 = .ok (.ishr, 1) := by decide +kernel
theorem dL_pair_40 : decode cL_pair 40 = .ok (.iconst 1, 1) := by decide +kernel
theorem dL_pair_41 : decode cL_pair 41 = .ok (.iand, 1) := by decide +kernel
theorem dL_pair_42 : decode cL_pair 42 = .ok (.ifCond .ne 7, 3) := by decide +kernel
theorem dL_pair_45 : decode cL_pair 45 = .ok (.lconst 0, 1) := by decide +kernel
theorem dL_pair_46 : decode cL_pair 46 = .ok (.goto 15, 3) := by decide +kernel
theorem dL_pair_49 : decode cL_pair 49 = .ok (.iload_n 0, 1) := by decide +kernel
theorem dL_pair_50 : decode cL_pair 50 = .ok (.iload 8, 2) := by decide +kernel
theorem dL_pair_52 : decode cL_pair 52 = .ok (.aload_n 2, 1) := by decide +kernel
theorem dL_pair_53 : decode cL_pair 53 = .ok (.aload_n 3, 1) := by decide +kernel
theorem dL_pair_54 : decode cL_pair 54 = .ok (.aload 4, 2) := by decide +kernel
theorem dL_pair_56 : decode cL_pair 56 = .ok (.aload 5, 2) := by decide +kernel
theorem dL_pair_58 : decode cL_pair 58 = .ok (.invokestatic 71, 3) := by decide +kernel
theorem dL_pair_61 : decode cL_pair 61 = .ok (.lstore 9, 2) := by decide +kernel
theorem dL_pair_63 : decode cL_pair 63 = .ok (.lload 9, 2) := by decide +kernel
theorem dL_pair_65 : decode cL_pair 65 = .ok (.lconst 0, 1) := by decide +kernel
theorem dL_pair_66 : decode cL_pair 66 = .ok (.lcmp, 1) := by decide +kernel
theorem dL_pair_67 : decode cL_pair 67 = .ok (.ifCond .le 27, 3) := by decide +kernel
theorem dL_pair_70 : decode cL_pair 70 = .ok (.lload 6, 2) := by decide +kernel
theorem dL_pair_72 : decode cL_pair 72 = .ok (.lload 9, 2) := by decide +kernel
theorem dL_pair_74 : decode cL_pair 74 = .ok (.aload_n 2, 1) := by decide +kernel
theorem dL_pair_75 : decode cL_pair 75 = .ok (.invokestatic 77, 3) := by decide +kernel
theorem dL_pair_78 : decode cL_pair 78 = .ok (.iload 8, 2) := by decide +kernel
theorem dL_pair_80 : decode cL_pair 80 = .ok (.iload_n 1, 1) := by decide +kernel
theorem dL_pair_81 : decode cL_pair 81 = .ok (.aload_n 2, 1) := by decide +kernel
theorem dL_pair_82 : decode cL_pair 82 = .ok (.aload_n 3, 1) := by decide +kernel
theorem dL_pair_83 : decode cL_pair 83 = .ok (.aload 4, 2) := by decide +kernel
theorem dL_pair_85 : decode cL_pair 85 = .ok (.aload 5, 2) := by decide +kernel
theorem dL_pair_87 : decode cL_pair 87 = .ok (.invokestatic 81, 3) := by decide +kernel
theorem dL_pair_90 : decode cL_pair 90 = .ok (.lmul, 1) := by decide +kernel
theorem dL_pair_91 : decode cL_pair 91 = .ok (.ladd, 1) := by decide +kernel
theorem dL_pair_92 : decode cL_pair 92 = .ok (.lstore 6, 2) := by decide +kernel
theorem dL_pair_94 : decode cL_pair 94 = .ok (.iinc 8 1, 3) := by decide +kernel
theorem dL_pair_97 : decode cL_pair 97 = .ok (.goto (-71), 3) := by decide +kernel
theorem dL_pair_100 : decode cL_pair 100 = .ok (.lload 6, 2) := by decide +kernel
theorem dL_pair_102 : decode cL_pair 102 = .ok (.lreturn, 1) := by decide +kernel
theorem dL_common_0 : decode cL_common 0 = .ok (.lload_n 0, 1) := by decide +kernel
theorem dL_common_1 : decode cL_common 1 = .ok (.lconst 0, 1) := by decide +kernel
theorem dL_common_2 : decode cL_common 2 = .ok (.lcmp, 1) := by decide +kernel
theorem dL_common_3 : decode cL_common 3 = .ok (.ifCond .ge 8, 3) := by decide +kernel
theorem dL_common_6 : decode cL_common 6 = .ok (.lload_n 0, 1) := by decide +kernel
theorem dL_common_7 : decode cL_common 7 = .ok (.lneg, 1) := by decide +kernel
theorem dL_common_8 : decode cL_common 8 = .ok (.goto 4, 3) := by decide +kernel
theorem dL_common_11 : decode cL_common 11 = .ok (.lload_n 0, 1) := by decide +kernel
theorem dL_common_12 : decode cL_common 12 = .ok (.lstore 4, 2) := by decide +kernel
theorem dL_common_14 : decode cL_common 14 = .ok (.lload_n 2, 1) := by decide +kernel
theorem dL_common_15 : decode cL_common 15 = .ok (.lstore 6, 2) := by decide +kernel
theorem dL_common_17 : decode cL_common 17 = .ok (.lload 4, 2) := by decide +kernel
theorem dL_common_19 : decode cL_common 19 = .ok (.lconst 0, 1) := by decide +kernel
theorem dL_common_20 : decode cL_common 20 = .ok (.lcmp, 1) := by decide +kernel
theorem dL_common_21 : decode cL_common 21 = .ok (.ifCond .le 21, 3) := by decide +kernel
theorem dL_common_24 : decode cL_common 24 = .ok (.lload 6, 2) := by decide +kernel
theorem dL_common_26 : decode cL_common 26 = .ok (.lload 4, 2) := by decide +kernel
theorem dL_common_28 : decode cL_common 28 = .ok (.lrem, 1) := by decide +kernel
theorem dL_common_29 : decode cL_common 29 = .ok (.lstore 8, 2) := by decide +kernel
theorem dL_common_31 : decode cL_common 31 = .ok (.lload 4, 2) := by decide +kernel
theorem dL_common_33 : decode cL_common 33 = .ok (.lstore 6, 2) := by decide +kernel
theorem dL_common_35 : decode cL_common 35 = .ok (.lload 8, 2) := by decide +kernel
theorem dL_common_37 : decode cL_common 37 = .ok (.lstore 4, 2) := by decide +kernel
theorem dL_common_39 : decode cL_common 39 = .ok (.goto (-22), 3) := by decide +kernel
theorem dL_common_42 : decode cL_common 42 = .ok (.lload 6, 2) := by decide +kernel
theorem dL_common_44 : decode cL_common 44 = .ok (.lreturn, 1) := by decide +kernel
set_option maxRecDepth 20000 in
theorem ggL_is_L_common : GoodIn wsL_is wsL_common := goodIn_r _ [4] (by decide +kernel) (by decide +kernel)
set_option maxRecDepth 20000 in
theorem gL_is_L_common : GoodIn wsL_is (va_wsS RL 89 yL_common wsL_common) := goodIn_app (goodIn_of _ (by decide +kernel)) ggL_is_L_common
theorem dL_is_0 : decode cL_is 0 = .ok (.lload 6, 2) := by decide +kernel
theorem dL_is_2 : decode cL_is 2 = .ok (.lconst 0, 1) := by decide +kernel
theorem dL_is_3 : decode cL_is 3 = .ok (.lcmp, 1) := by decide +kernel
theorem dL_is_4 : decode cL_is 4 = .ok (.ifCond .ne 21, 3) := by decide +kernel
theorem dL_is_7 : decode cL_is 7 = .ok (.lload_n 0, 1) := by decide +kernel
theorem dL_is_8 : decode cL_is 8 = .ok (.lconst 0, 1) := by decide +kernel
theorem dL_is_9 : decode cL_is 9 = .ok (.lcmp, 1) := by decide +kernel
theorem dL_is_10 : decode cL_is 10 = .ok (.ifCond .ne 13, 3) := by decide +kernel
theorem dL_is_13 : decode cL_is 13 = .ok (.lload_n 2, 1) := by decide +kernel
theorem dL_is_14 : decode cL_is 14 = .ok (.lconst 0, 1) := by decide +kernel
theorem dL_is_15 : decode cL_is 15 = .ok (.lcmp, 1) := by decide +kernel
