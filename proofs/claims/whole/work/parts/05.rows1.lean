theorem dX4_wiresAt_19 : decode cX4_wiresAt 19 = .ok (.getfield 9, 3) := by decide +kernel
theorem dX4_wiresAt_22 : decode cX4_wiresAt 22 = .ok (.iload_n 3, 1) := by decide +kernel
theorem dX4_wiresAt_23 : decode cX4_wiresAt 23 = .ok (.iaload, 1) := by decide +kernel
theorem dX4_wiresAt_24 : decode cX4_wiresAt 24 = .ok (.iload_n 1, 1) := by decide +kernel
theorem dX4_wiresAt_25 : decode cX4_wiresAt 25 = .ok (.if_icmp .eq 13, 3) := by decide +kernel
theorem dX4_wiresAt_28 : decode cX4_wiresAt 28 = .ok (.aload_n 0, 1) := by decide +kernel
theorem dX4_wiresAt_29 : decode cX4_wiresAt 29 = .ok (.getfield 15, 3) := by decide +kernel
theorem dX4_wiresAt_32 : decode cX4_wiresAt 32 = .ok (.iload_n 3, 1) := by decide +kernel
theorem dX4_wiresAt_33 : decode cX4_wiresAt 33 = .ok (.iaload, 1) := by decide +kernel
theorem dX4_wiresAt_34 : decode cX4_wiresAt 34 = .ok (.iload_n 1, 1) := by decide +kernel
theorem dX4_wiresAt_35 : decode cX4_wiresAt 35 = .ok (.if_icmp .ne 10, 3) := by decide +kernel
theorem dX4_wiresAt_38 : decode cX4_wiresAt 38 = .ok (.iload_n 2, 1) := by decide +kernel
theorem dX4_wiresAt_39 : decode cX4_wiresAt 39 = .ok (.iload_n 3, 1) := by decide +kernel
theorem dX4_wiresAt_40 : decode cX4_wiresAt 40 = .ok (.invokestatic 55, 3) := by decide +kernel
theorem dX4_wiresAt_43 : decode cX4_wiresAt 43 = .ok (.ior, 1) := by decide +kernel
theorem dX4_wiresAt_44 : decode cX4_wiresAt 44 = .ok (.istore_n 2, 1) := by decide +kernel
theorem dX4_wiresAt_45 : decode cX4_wiresAt 45 = .ok (.iinc 3 1, 3) := by decide +kernel
theorem dX4_wiresAt_48 : decode cX4_wiresAt 48 = .ok (.goto (-44), 3) := by decide +kernel
theorem dX4_wiresAt_51 : decode cX4_wiresAt 51 = .ok (.iload_n 2, 1) := by decide +kernel
theorem dX4_wiresAt_52 : decode cX4_wiresAt 52 = .ok (.ireturn, 1) := by decide +kernel
set_option maxRecDepth 20000 in
theorem ggX4_lowestBetween_X4_hasWire : GoodIn wsX4_lowestBetween wsX4_hasWire := goodIn_r _ [7, 8, 9, 10, 11, 12, 13, 14, 15, 16, 17, 18, 19] (by decide +kernel) (by decide +kernel)
set_option maxRecDepth 20000 in
theorem gX4_lowestBetween_X4_hasWire : GoodIn wsX4_lowestBetween (wsV RX4 52 RX4 yX4_hasWire wsX4_hasWire) := goodIn_app (goodIn_of _ (by decide +kernel)) ggX4_lowestBetween_X4_hasWire
theorem dX4_lowestBetween_0 : decode cX4_lowestBetween 0 = .ok (.iconst 0, 1) := by decide +kernel
theorem dX4_lowestBetween_1 : decode cX4_lowestBetween 1 = .ok (.istore 4, 2) := by decide +kernel
theorem dX4_lowestBetween_3 : decode cX4_lowestBetween 3 = .ok (.iload 4, 2) := by decide +kernel
theorem dX4_lowestBetween_5 : decode cX4_lowestBetween 5 = .ok (.bipush 20, 2) := by decide +kernel
theorem dX4_lowestBetween_7 : decode cX4_lowestBetween 7 = .ok (.if_icmp .ge 83, 3) := by decide +kernel
theorem dX4_lowestBetween_10 : decode cX4_lowestBetween 10 = .ok (.aload_n 0, 1) := by decide +kernel
theorem dX4_lowestBetween_11 : decode cX4_lowestBetween 11 = .ok (.getfield 9, 3) := by decide +kernel
theorem dX4_lowestBetween_14 : decode cX4_lowestBetween 14 = .ok (.iload 4, 2) := by decide +kernel
theorem dX4_lowestBetween_16 : decode cX4_lowestBetween 16 = .ok (.iaload, 1) := by decide +kernel
theorem dX4_lowestBetween_17 : decode cX4_lowestBetween 17 = .ok (.iload_n 1, 1) := by decide +kernel
theorem dX4_lowestBetween_18 : decode cX4_lowestBetween 18 = .ok (.if_icmp .ne 14, 3) := by decide +kernel
theorem dX4_lowestBetween_21 : decode cX4_lowestBetween 21 = .ok (.aload_n 0, 1) := by decide +kernel
theorem dX4_lowestBetween_22 : decode cX4_lowestBetween 22 = .ok (.getfield 15, 3) := by decide +kernel
theorem dX4_lowestBetween_25 : decode cX4_lowestBetween 25 = .ok (.iload 4, 2) := by decide +kernel
theorem dX4_lowestBetween_27 : decode cX4_lowestBetween 27 = .ok (.iaload, 1) := by decide +kernel
theorem dX4_lowestBetween_28 : decode cX4_lowestBetween 28 = .ok (.iload_n 2, 1) := by decide +kernel
theorem dX4_lowestBetween_29 : decode cX4_lowestBetween 29 = .ok (.if_icmp .eq 25, 3) := by decide +kernel
theorem dX4_lowestBetween_32 : decode cX4_lowestBetween 32 = .ok (.aload_n 0, 1) := by decide +kernel
theorem dX4_lowestBetween_33 : decode cX4_lowestBetween 33 = .ok (.getfield 9, 3) := by decide +kernel
theorem dX4_lowestBetween_36 : decode cX4_lowestBetween 36 = .ok (.iload 4, 2) := by decide +kernel
theorem dX4_lowestBetween_38 : decode cX4_lowestBetween 38 = .ok (.iaload, 1) := by decide +kernel
theorem dX4_lowestBetween_39 : decode cX4_lowestBetween 39 = .ok (.iload_n 2, 1) := by decide +kernel
theorem dX4_lowestBetween_40 : decode cX4_lowestBetween 40 = .ok (.if_icmp .ne 18, 3) := by decide +kernel
theorem dX4_lowestBetween_43 : decode cX4_lowestBetween 43 = .ok (.aload_n 0, 1) := by decide +kernel
theorem dX4_lowestBetween_44 : decode cX4_lowestBetween 44 = .ok (.getfield 15, 3) := by decide +kernel
theorem dX4_lowestBetween_47 : decode cX4_lowestBetween 47 = .ok (.iload 4, 2) := by decide +kernel
theorem dX4_lowestBetween_49 : decode cX4_lowestBetween 49 = .ok (.iaload, 1) := by decide +kernel
theorem dX4_lowestBetween_50 : decode cX4_lowestBetween 50 = .ok (.iload_n 1, 1) := by decide +kernel
theorem dX4_lowestBetween_51 : decode cX4_lowestBetween 51 = .ok (.if_icmp .ne 7, 3) := by decide +kernel
theorem dX4_lowestBetween_54 : decode cX4_lowestBetween 54 = .ok (.iconst 1, 1) := by decide +kernel
theorem dX4_lowestBetween_55 : decode cX4_lowestBetween 55 = .ok (.goto 4, 3) := by decide +kernel
theorem dX4_lowestBetween_58 : decode cX4_lowestBetween 58 = .ok (.iconst 0, 1) := by decide +kernel
theorem dX4_lowestBetween_59 : decode cX4_lowestBetween 59 = .ok (.istore 5, 2) := by decide +kernel
theorem dX4_lowestBetween_61 : decode cX4_lowestBetween 61 = .ok (.iload 5, 2) := by decide +kernel
theorem dX4_lowestBetween_63 : decode cX4_lowestBetween 63 = .ok (.ifCond .eq 21, 3) := by decide +kernel
theorem dX4_lowestBetween_66 : decode cX4_lowestBetween 66 = .ok (.iload 4, 2) := by decide +kernel
theorem dX4_lowestBetween_68 : decode cX4_lowestBetween 68 = .ok (.iload_n 3, 1) := by decide +kernel
theorem dX4_lowestBetween_69 : decode cX4_lowestBetween 69 = .ok (.if_icmp .eq 15, 3) := by decide +kernel
theorem dX4_lowestBetween_72 : decode cX4_lowestBetween 72 = .ok (.aload_n 0, 1) := by decide +kernel
theorem dX4_lowestBetween_73 : decode cX4_lowestBetween 73 = .ok (.iload 4, 2) := by decide +kernel
theorem dX4_lowestBetween_75 : decode cX4_lowestBetween 75 = .ok (.invokevirtual 52, 3) := by decide +kernel
theorem dX4_lowestBetween_78 : decode cX4_lowestBetween 78 = .ok (.ifCond .eq 6, 3) := by decide +kernel
theorem dX4_lowestBetween_81 : decode cX4_lowestBetween 81 = .ok (.iload 4, 2) := by decide +kernel
theorem dX4_lowestBetween_83 : decode cX4_lowestBetween 83 = .ok (.ireturn, 1) := by decide +kernel
theorem dX4_lowestBetween_84 : decode cX4_lowestBetween 84 = .ok (.iinc 4 1, 3) := by decide +kernel
theorem dX4_lowestBetween_87 : decode cX4_lowestBetween 87 = .ok (.goto (-84), 3) := by decide +kernel
theorem dX4_lowestBetween_90 : decode cX4_lowestBetween 90 = .ok (.iconst (-1), 1) := by decide +kernel
theorem dX4_lowestBetween_91 : decode cX4_lowestBetween 91 = .ok (.ireturn, 1) := by decide +kernel
set_option maxRecDepth 20000 in
theorem ggX4_addNode_X7_setOf : GoodIn wsX4_addNode wsX7_setOf := goodIn_r _ [6] (by decide +kernel) (by decide +kernel)
set_option maxRecDepth 20000 in
theorem gX4_addNode_X7_setOf_n55 : GoodIn wsX4_addNode (wsX7_setOf) := ggX4_addNode_X7_setOf
theorem dX4_addNode_0 : decode cX4_addNode 0 = .ok (.aload_n 0, 1) := by decide +kernel
theorem dX4_addNode_1 : decode cX4_addNode 1 = .ok (.getfield 39, 3) := by decide +kernel
theorem dX4_addNode_4 : decode cX4_addNode 4 = .ok (.istore_n 2, 1) := by decide +kernel
theorem dX4_addNode_5 : decode cX4_addNode 5 = .ok (.aload_n 0, 1) := by decide +kernel
theorem dX4_addNode_6 : decode cX4_addNode 6 = .ok (.dup, 1) := by decide +kernel
theorem dX4_addNode_7 : decode cX4_addNode 7 = .ok (.getfield 39, 3) := by decide +kernel
theorem dX4_addNode_10 : decode cX4_addNode 10 = .ok (.iconst 1, 1) := by decide +kernel
theorem dX4_addNode_11 : decode cX4_addNode 11 = .ok (.iadd, 1) := by decide +kernel
theorem dX4_addNode_12 : decode cX4_addNode 12 = .ok (.putfield 39, 3) := by decide +kernel
theorem dX4_addNode_15 : decode cX4_addNode 15 = .ok (.aload_n 0, 1) := by decide +kernel
theorem dX4_addNode_16 : decode cX4_addNode 16 = .ok (.dup, 1) := by decide +kernel
theorem dX4_addNode_17 : decode cX4_addNode 17 = .ok (.getfield 21, 3) := by decide +kernel
theorem dX4_addNode_20 : decode cX4_addNode 20 = .ok (.iload_n 2, 1) := by decide +kernel
theorem dX4_addNode_21 : decode cX4_addNode 21 = .ok (.invokestatic 55, 3) := by decide +kernel
theorem dX4_addNode_24 : decode cX4_addNode 24 = .ok (.ior, 1) := by decide +kernel
theorem dX4_addNode_25 : decode cX4_addNode 25 = .ok (.putfield 21, 3) := by decide +kernel
theorem dX4_addNode_28 : decode cX4_addNode 28 = .ok (.iload_n 1, 1) := by decide +kernel
theorem dX4_addNode_29 : decode cX4_addNode 29 = .ok (.ifCond .eq 16, 3) := by decide +kernel
theorem dX4_addNode_32 : decode cX4_addNode 32 = .ok (.aload_n 0, 1) := by decide +kernel
theorem dX4_addNode_33 : decode cX4_addNode 33 = .ok (.dup, 1) := by decide +kernel
theorem dX4_addNode_34 : decode cX4_addNode 34 = .ok (.getfield 33, 3) := by decide +kernel
theorem dX4_addNode_37 : decode cX4_addNode 37 = .ok (.iload_n 2, 1) := by decide +kernel
theorem dX4_addNode_38 : decode cX4_addNode 38 = .ok (.invokestatic 55, 3) := by decide +kernel
theorem dX4_addNode_41 : decode cX4_addNode 41 = .ok (.ior, 1) := by decide +kernel
theorem dX4_addNode_42 : decode cX4_addNode 42 = .ok (.putfield 33, 3) := by decide +kernel
theorem dX4_addNode_45 : decode cX4_addNode 45 = .ok (.iload_n 2, 1) := by decide +kernel
theorem dX4_addNode_46 : decode cX4_addNode 46 = .ok (.ireturn, 1) := by decide +kernel
set_option maxRecDepth 20000 in
theorem ggX4_addWire_X7_setOf : GoodIn wsX4_addWire wsX7_setOf := goodIn_r _ [8] (by decide +kernel) (by decide +kernel)
set_option maxRecDepth 20000 in
theorem gX4_addWire_X7_setOf_n55 : GoodIn wsX4_addWire (wsX7_setOf) := ggX4_addWire_X7_setOf
theorem dX4_addWire_0 : decode cX4_addWire 0 = .ok (.aload_n 0, 1) := by decide +kernel
theorem dX4_addWire_1 : decode cX4_addWire 1 = .ok (.getfield 42, 3) := by decide +kernel
theorem dX4_addWire_4 : decode cX4_addWire 4 = .ok (.istore 4, 2) := by decide +kernel
theorem dX4_addWire_6 : decode cX4_addWire 6 = .ok (.iload 4, 2) := by decide +kernel
theorem dX4_addWire_8 : decode cX4_addWire 8 = .ok (.ifCond .lt 10, 3) := by decide +kernel
theorem dX4_addWire_11 : decode cX4_addWire 11 = .ok (.iload 4, 2) := by decide +kernel
theorem dX4_addWire_13 : decode cX4_addWire 13 = .ok (.bipush 20, 2) := by decide +kernel
theorem dX4_addWire_15 : decode cX4_addWire 15 = .ok (.if_icmp .lt 5, 3) := by decide +kernel
theorem dX4_addWire_18 : decode cX4_addWire 18 = .ok (.iconst (-1), 1) := by decide +kernel
theorem dX4_addWire_19 : decode cX4_addWire 19 = .ok (.ireturn, 1) := by decide +kernel
theorem dX4_addWire_20 : decode cX4_addWire 20 = .ok (.aload_n 0, 1) := by decide +kernel
theorem dX4_addWire_21 : decode cX4_addWire 21 = .ok (.dup, 1) := by decide +kernel
theorem dX4_addWire_22 : decode cX4_addWire 22 = .ok (.getfield 42, 3) := by decide +kernel
theorem dX4_addWire_25 : decode cX4_addWire 25 = .ok (.iconst 1, 1) := by decide +kernel
theorem dX4_addWire_26 : decode cX4_addWire 26 = .ok (.iadd, 1) := by decide +kernel
theorem dX4_addWire_27 : decode cX4_addWire 27 = .ok (.putfield 42, 3) := by decide +kernel
theorem dX4_addWire_30 : decode cX4_addWire 30 = .ok (.aload_n 0, 1) := by decide +kernel
theorem dX4_addWire_31 : decode cX4_addWire 31 = .ok (.dup, 1) := by decide +kernel
theorem dX4_addWire_32 : decode cX4_addWire 32 = .ok (.getfield 36, 3) := by decide +kernel
theorem dX4_addWire_35 : decode cX4_addWire 35 = .ok (.iload 4, 2) := by decide +kernel
theorem dX4_addWire_37 : decode cX4_addWire 37 = .ok (.invokestatic 55, 3) := by decide +kernel
theorem dX4_addWire_40 : decode cX4_addWire 40 = .ok (.ior, 1) := by decide +kernel
theorem dX4_addWire_41 : decode cX4_addWire 41 = .ok (.putfield 36, 3) := by decide +kernel
theorem dX4_addWire_44 : decode cX4_addWire 44 = .ok (.aload_n 0, 1) := by decide +kernel
theorem dX4_addWire_45 : decode cX4_addWire 45 = .ok (.getfield 9, 3) := by decide +kernel
theorem dX4_addWire_48 : decode cX4_addWire 48 = .ok (.iload 4, 2) := by decide +kernel
theorem dX4_addWire_50 : decode cX4_addWire 50 = .ok (.iload_n 1, 1) := by decide +kernel
theorem dX4_addWire_51 : decode cX4_addWire 51 = .ok (.iastore, 1) := by decide +kernel
theorem dX4_addWire_52 : decode cX4_addWire 52 = .ok (.aload_n 0, 1) := by decide +kernel
theorem dX4_addWire_53 : decode cX4_addWire 53 = .ok (.getfield 15, 3) := by decide +kernel
theorem dX4_addWire_56 : decode cX4_addWire 56 = .ok (.iload 4, 2) := by decide +kernel
theorem dX4_addWire_58 : decode cX4_addWire 58 = .ok (.iload_n 2, 1) := by decide +kernel
theorem dX4_addWire_59 : decode cX4_addWire 59 = .ok (.iastore, 1) := by decide +kernel
theorem dX4_addWire_60 : decode cX4_addWire 60 = .ok (.aload_n 0, 1) := by decide +kernel
theorem dX4_addWire_61 : decode cX4_addWire 61 = .ok (.getfield 18, 3) := by decide +kernel
theorem dX4_addWire_64 : decode cX4_addWire 64 = .ok (.iload 4, 2) := by decide +kernel
theorem dX4_addWire_66 : decode cX4_addWire 66 = .ok (.iload_n 3, 1) := by decide +kernel
theorem dX4_addWire_67 : decode cX4_addWire 67 = .ok (.iastore, 1) := by decide +kernel
theorem dX4_addWire_68 : decode cX4_addWire 68 = .ok (.iload 4, 2) := by decide +kernel
theorem dX4_addWire_70 : decode cX4_addWire 70 = .ok (.ireturn, 1) := by decide +kernel
theorem dX5_init_0 : decode cX5_init 0 = .ok (.aload_n 0, 1) := by decide +kernel
theorem dX5_init_1 : decode cX5_init 1 = .ok (.invokespecial 3, 3) := by decide +kernel
theorem dX5_init_4 : decode cX5_init 4 = .ok (.aload_n 0, 1) := by decide +kernel
theorem dX5_init_5 : decode cX5_init 5 = .ok (.iconst 3, 1) := by decide +kernel
theorem dX5_init_6 : decode cX5_init 6 = .ok (.newarray .int, 2) := by decide +kernel
theorem dX5_init_8 : decode cX5_init 8 = .ok (.putfield 11, 3) := by decide +kernel
theorem dX5_init_11 : decode cX5_init 11 = .ok (.aload_n 0, 1) := by decide +kernel
theorem dX5_init_12 : decode cX5_init 12 = .ok (.iconst 3, 1) := by decide +kernel
theorem dX5_init_13 : decode cX5_init 13 = .ok (.newarray .int, 2) := by decide +kernel
theorem dX5_init_15 : decode cX5_init 15 = .ok (.putfield 15, 3) := by decide +kernel
theorem dX5_init_18 : decode cX5_init 18 = .ok (.aload_n 0, 1) := by decide +kernel
theorem dX5_init_19 : decode cX5_init 19 = .ok (.iconst 3, 1) := by decide +kernel
theorem dX5_init_20 : decode cX5_init 20 = .ok (.newarray .int, 2) := by decide +kernel
theorem dX5_init_22 : decode cX5_init 22 = .ok (.putfield 18, 3) := by decide +kernel
theorem dX5_init_25 : decode cX5_init 25 = .ok (.return_, 1) := by decide +kernel
theorem dX5_begin_0 : decode cX5_begin 0 = .ok (.aload_n 0, 1) := by decide +kernel
theorem dX5_begin_1 : decode cX5_begin 1 = .ok (.iconst 0, 1) := by decide +kernel
theorem dX5_begin_2 : decode cX5_begin 2 = .ok (.putfield 21, 3) := by decide +kernel
theorem dX5_begin_5 : decode cX5_begin 5 = .ok (.aload_n 0, 1) := by decide +kernel
theorem dX5_begin_6 : decode cX5_begin 6 = .ok (.iconst 0, 1) := by decide +kernel
theorem dX5_begin_7 : decode cX5_begin 7 = .ok (.putfield 25, 3) := by decide +kernel
theorem dX5_begin_10 : decode cX5_begin 10 = .ok (.aload_n 0, 1) := by decide +kernel
theorem dX5_begin_11 : decode cX5_begin 11 = .ok (.iconst 0, 1) := by decide +kernel
theorem dX5_begin_12 : decode cX5_begin 12 = .ok (.putfield 29, 3) := by decide +kernel
theorem dX5_begin_15 : decode cX5_begin 15 = .ok (.aload_n 0, 1) := by decide +kernel
theorem dX5_begin_16 : decode cX5_begin 16 = .ok (.iconst (-1), 1) := by decide +kernel
theorem dX5_begin_17 : decode cX5_begin 17 = .ok (.putfield 32, 3) := by decide +kernel
theorem dX5_begin_20 : decode cX5_begin 20 = .ok (.aload_n 0, 1) := by decide +kernel
theorem dX5_begin_21 : decode cX5_begin 21 = .ok (.iconst 0, 1) := by decide +kernel
theorem dX5_begin_22 : decode cX5_begin 22 = .ok (.putfield 35, 3) := by decide +kernel
theorem dX5_begin_25 : decode cX5_begin 25 = .ok (.aload_n 0, 1) := by decide +kernel
theorem dX5_begin_26 : decode cX5_begin 26 = .ok (.iconst 0, 1) := by decide +kernel
theorem dX5_begin_27 : decode cX5_begin 27 = .ok (.putfield 38, 3) := by decide +kernel
theorem dX5_begin_30 : decode cX5_begin 30 = .ok (.aload_n 0, 1) := by decide +kernel
theorem dX5_begin_31 : decode cX5_begin 31 = .ok (.iconst 0, 1) := by decide +kernel
theorem dX5_begin_32 : decode cX5_begin 32 = .ok (.putfield 41, 3) := by decide +kernel
theorem dX5_begin_35 : decode cX5_begin 35 = .ok (.return_, 1) := by decide +kernel
set_option maxRecDepth 20000 in
theorem ggX5_bring_X7_isConductance : GoodIn wsX5_bring wsX7_isConductance := goodIn_r _ [8] (by decide +kernel) (by decide +kernel)
set_option maxRecDepth 20000 in
theorem gX5_bring_X7_isConductance_n44 : GoodIn wsX5_bring (wsX7_isConductance) := ggX5_bring_X7_isConductance
theorem dX5_bring_0 : decode cX5_bring 0 = .ok (.iload 4, 2) := by decide +kernel
theorem dX5_bring_2 : decode cX5_bring 2 = .ok (.ifCond .le 28, 3) := by decide +kernel
theorem dX5_bring_5 : decode cX5_bring 5 = .ok (.iload_n 3, 1) := by decide +kernel
theorem dX5_bring_6 : decode cX5_bring 6 = .ok (.iload 4, 2) := by decide +kernel
theorem dX5_bring_8 : decode cX5_bring 8 = .ok (.irem, 1) := by decide +kernel
theorem dX5_bring_9 : decode cX5_bring 9 = .ok (.ifCond .ne 21, 3) := by decide +kernel
theorem dX5_bring_12 : decode cX5_bring 12 = .ok (.iload_n 3, 1) := by decide +kernel
theorem dX5_bring_13 : decode cX5_bring 13 = .ok (.iload 4, 2) := by decide +kernel
theorem dX5_bring_15 : decode cX5_bring 15 = .ok (.idiv, 1) := by decide +kernel
theorem dX5_bring_16 : decode cX5_bring 16 = .ok (.invokestatic 44, 3) := by decide +kernel
theorem dX5_bring_19 : decode cX5_bring 19 = .ok (.ifCond .eq 11, 3) := by decide +kernel
theorem dX5_bring_22 : decode cX5_bring 22 = .ok (.aload_n 0, 1) := by decide +kernel
theorem dX5_bring_23 : decode cX5_bring 23 = .ok (.getfield 41, 3) := by decide +kernel
theorem dX5_bring_26 : decode cX5_bring 26 = .ok (.iconst 3, 1) := by decide +kernel
theorem dX5_bring_27 : decode cX5_bring 27 = .ok (.if_icmp .lt 9, 3) := by decide +kernel
theorem dX5_bring_30 : decode cX5_bring 30 = .ok (.aload_n 0, 1) := by decide +kernel
theorem dX5_bring_31 : decode cX5_bring 31 = .ok (.iconst 0, 1) := by decide +kernel
theorem dX5_bring_32 : decode cX5_bring 32 = .ok (.putfield 21, 3) := by decide +kernel
theorem dX5_bring_35 : decode cX5_bring 35 = .ok (.return_, 1) := by decide +kernel
theorem dX5_bring_36 : decode cX5_bring 36 = .ok (.aload_n 0, 1) := by decide +kernel
theorem dX5_bring_37 : decode cX5_bring 37 = .ok (.getfield 11, 3) := by decide +kernel
theorem dX5_bring_40 : decode cX5_bring 40 = .ok (.aload_n 0, 1) := by decide +kernel
theorem dX5_bring_41 : decode cX5_bring 41 = .ok (.getfield 41, 3) := by decide +kernel
theorem dX5_bring_44 : decode cX5_bring 44 = .ok (.iload_n 1, 1) := by decide +kernel
theorem dX5_bring_45 : decode cX5_bring 45 = .ok (.iastore, 1) := by decide +kernel
theorem dX5_bring_46 : decode cX5_bring 46 = .ok (.aload_n 0, 1) := by decide +kernel
theorem dX5_bring_47 : decode cX5_bring 47 = .ok (.getfield 15, 3) := by decide +kernel
theorem dX5_bring_50 : decode cX5_bring 50 = .ok (.aload_n 0, 1) := by decide +kernel
theorem dX5_bring_51 : decode cX5_bring 51 = .ok (.getfield 41, 3) := by decide +kernel
theorem dX5_bring_54 : decode cX5_bring 54 = .ok (.iload_n 2, 1) := by decide +kernel
theorem dX5_bring_55 : decode cX5_bring 55 = .ok (.iastore, 1) := by decide +kernel
theorem dX5_bring_56 : decode cX5_bring 56 = .ok (.aload_n 0, 1) := by decide +kernel
theorem dX5_bring_57 : decode cX5_bring 57 = .ok (.getfield 18, 3) := by decide +kernel
theorem dX5_bring_60 : decode cX5_bring 60 = .ok (.aload_n 0, 1) := by decide +kernel
theorem dX5_bring_61 : decode cX5_bring 61 = .ok (.getfield 41, 3) := by decide +kernel
theorem dX5_bring_64 : decode cX5_bring 64 = .ok (.iload_n 3, 1) := by decide +kernel
theorem dX5_bring_65 : decode cX5_bring 65 = .ok (.iload 4, 2) := by decide +kernel
theorem dX5_bring_67 : decode cX5_bring 67 = .ok (.idiv, 1) := by decide +kernel
theorem dX5_bring_68 : decode cX5_bring 68 = .ok (.iastore, 1) := by decide +kernel
theorem dX5_bring_69 : decode cX5_bring 69 = .ok (.aload_n 0, 1) := by decide +kernel
theorem dX5_bring_70 : decode cX5_bring 70 = .ok (.dup, 1) := by decide +kernel
theorem dX5_bring_71 : decode cX5_bring 71 = .ok (.getfield 41, 3) := by decide +kernel
theorem dX5_bring_74 : decode cX5_bring 74 = .ok (.iconst 1, 1) := by decide +kernel
theorem dX5_bring_75 : decode cX5_bring 75 = .ok (.iadd, 1) := by decide +kernel
theorem dX5_bring_76 : decode cX5_bring 76 = .ok (.putfield 41, 3) := by decide +kernel
theorem dX5_bring_79 : decode cX5_bring 79 = .ok (.return_, 1) := by decide +kernel
theorem dX6_init_0 : decode cX6_init 0 = .ok (.aload_n 0, 1) := by decide +kernel
theorem dX6_init_1 : decode cX6_init 1 = .ok (.invokespecial 3, 3) := by decide +kernel
theorem dX6_init_4 : decode cX6_init 4 = .ok (.aload_n 0, 1) := by decide +kernel
theorem dX6_init_5 : decode cX6_init 5 = .ok (.aload_n 1, 1) := by decide +kernel
theorem dX6_init_6 : decode cX6_init 6 = .ok (.putfield 9, 3) := by decide +kernel
theorem dX6_init_9 : decode cX6_init 9 = .ok (.aload_n 0, 1) := by decide +kernel
theorem dX6_init_10 : decode cX6_init 10 = .ok (.bipush 9, 2) := by decide +kernel
theorem dX6_init_12 : decode cX6_init 12 = .ok (.newarray .int, 2) := by decide +kernel
theorem dX6_init_14 : decode cX6_init 14 = .ok (.putfield 15, 3) := by decide +kernel
theorem dX6_init_17 : decode cX6_init 17 = .ok (.return_, 1) := by decide +kernel
set_option maxRecDepth 20000 in
theorem ggX6_hasStrangeNode_X4_hasNode : GoodIn wsX6_hasStrangeNode wsX4_hasNode := goodIn_r _ [6, 7, 8, 9, 10, 13, 14, 15, 16, 17, 18, 19, 20] (by decide +kernel) (by decide +kernel)
set_option maxRecDepth 20000 in
theorem gX6_hasStrangeNode_X4_hasNode : GoodIn wsX6_hasStrangeNode (wsV RX6 19 RX4 yX4_hasNode wsX4_hasNode) := goodIn_app (goodIn_of _ (by decide +kernel)) ggX6_hasStrangeNode_X4_hasNode
theorem dX6_hasStrangeNode_0 : decode cX6_hasStrangeNode 0 = .ok (.iload_n 1, 1) := by decide +kernel
theorem dX6_hasStrangeNode_1 : decode cX6_hasStrangeNode 1 = .ok (.istore_n 2, 1) := by decide +kernel
theorem dX6_hasStrangeNode_2 : decode cX6_hasStrangeNode 2 = .ok (.iconst 0, 1) := by decide +kernel
theorem dX6_hasStrangeNode_3 : decode cX6_hasStrangeNode 3 = .ok (.istore_n 3, 1) := by decide +kernel
theorem dX6_hasStrangeNode_4 : decode cX6_hasStrangeNode 4 = .ok (.iload_n 3, 1) := by decide +kernel
theorem dX6_hasStrangeNode_5 : decode cX6_hasStrangeNode 5 = .ok (.bipush 10, 2) := by decide +kernel
theorem dX6_hasStrangeNode_7 : decode cX6_hasStrangeNode 7 = .ok (.if_icmp .ge 43, 3) := by decide +kernel
theorem dX6_hasStrangeNode_10 : decode cX6_hasStrangeNode 10 = .ok (.iload_n 2, 1) := by decide +kernel
theorem dX6_hasStrangeNode_11 : decode cX6_hasStrangeNode 11 = .ok (.ifCond .le 39, 3) := by decide +kernel
theorem dX6_hasStrangeNode_14 : decode cX6_hasStrangeNode 14 = .ok (.iload_n 2, 1) := by decide +kernel
theorem dX6_hasStrangeNode_15 : decode cX6_hasStrangeNode 15 = .ok (.bipush 10, 2) := by decide +kernel
theorem dX6_hasStrangeNode_17 : decode cX6_hasStrangeNode 17 = .ok (.irem, 1) := by decide +kernel
theorem dX6_hasStrangeNode_18 : decode cX6_hasStrangeNode 18 = .ok (.ifCond .eq 21, 3) := by decide +kernel
theorem dX6_hasStrangeNode_21 : decode cX6_hasStrangeNode 21 = .ok (.aload_n 0, 1) := by decide +kernel
theorem dX6_hasStrangeNode_22 : decode cX6_hasStrangeNode 22 = .ok (.getfield 9, 3) := by decide +kernel
theorem dX6_hasStrangeNode_25 : decode cX6_hasStrangeNode 25 = .ok (.iload_n 2, 1) := by decide +kernel
theorem dX6_hasStrangeNode_26 : decode cX6_hasStrangeNode 26 = .ok (.bipush 10, 2) := by decide +kernel
theorem dX6_hasStrangeNode_28 : decode cX6_hasStrangeNode 28 = .ok (.irem, 1) := by decide +kernel
theorem dX6_hasStrangeNode_29 : decode cX6_hasStrangeNode 29 = .ok (.iconst 1, 1) := by decide +kernel
theorem dX6_hasStrangeNode_30 : decode cX6_hasStrangeNode 30 = .ok (.isub, 1) := by decide +kernel
theorem dX6_hasStrangeNode_31 : decode cX6_hasStrangeNode 31 = .ok (.invokevirtual 19, 3) := by decide +kernel
theorem dX6_hasStrangeNode_34 : decode cX6_hasStrangeNode 34 = .ok (.ifCond .ne 5, 3) := by decide +kernel
theorem dX6_hasStrangeNode_37 : decode cX6_hasStrangeNode 37 = .ok (.iconst 1, 1) := by decide +kernel
theorem dX6_hasStrangeNode_38 : decode cX6_hasStrangeNode 38 = .ok (.ireturn, 1) := by decide +kernel
theorem dX6_hasStrangeNode_39 : decode cX6_hasStrangeNode 39 = .ok (.iload_n 2, 1) := by decide +kernel
theorem dX6_hasStrangeNode_40 : decode cX6_hasStrangeNode 40 = .ok (.bipush 10, 2) := by decide +kernel
theorem dX6_hasStrangeNode_42 : decode cX6_hasStrangeNode 42 = .ok (.idiv, 1) := by decide +kernel
theorem dX6_hasStrangeNode_43 : decode cX6_hasStrangeNode 43 = .ok (.istore_n 2, 1) := by decide +kernel
theorem dX6_hasStrangeNode_44 : decode cX6_hasStrangeNode 44 = .ok (.iinc 3 1, 3) := by decide +kernel
theorem dX6_hasStrangeNode_47 : decode cX6_hasStrangeNode 47 = .ok (.goto (-43), 3) := by decide +kernel
theorem dX6_hasStrangeNode_50 : decode cX6_hasStrangeNode 50 = .ok (.iconst 0, 1) := by decide +kernel
theorem dX6_hasStrangeNode_51 : decode cX6_hasStrangeNode 51 = .ok (.ireturn, 1) := by decide +kernel
set_option maxRecDepth 20000 in
theorem ggX6_isWritten_X6_hasZero : GoodIn wsX6_isWritten wsX6_hasZero := goodIn_r _ [5] (by decide +kernel) (by decide +kernel)
set_option maxRecDepth 20000 in
theorem gX6_isWritten_X6_hasZero : GoodIn wsX6_isWritten (va_wsS RX6 26 yX6_hasZero wsX6_hasZero) := goodIn_app (goodIn_of _ (by decide +kernel)) ggX6_isWritten_X6_hasZero
theorem dX6_isWritten_0 : decode cX6_isWritten 0 = .ok (.iload_n 1, 1) := by decide +kernel
theorem dX6_isWritten_1 : decode cX6_isWritten 1 = .ok (.iconst 1, 1) := by decide +kernel
theorem dX6_isWritten_2 : decode cX6_isWritten 2 = .ok (.if_icmp .lt 20, 3) := by decide +kernel
theorem dX6_isWritten_5 : decode cX6_isWritten 5 = .ok (.iload_n 1, 1) := by decide +kernel
theorem dX6_isWritten_6 : decode cX6_isWritten 6 = .ok (.ldc 25, 2) := by decide +kernel
theorem dX6_isWritten_8 : decode cX6_isWritten 8 = .ok (.if_icmp .gt 14, 3) := by decide +kernel
theorem dX6_isWritten_11 : decode cX6_isWritten 11 = .ok (.iload_n 1, 1) := by decide +kernel
theorem dX6_isWritten_12 : decode cX6_isWritten 12 = .ok (.invokestatic 26, 3) := by decide +kernel
theorem dX6_isWritten_15 : decode cX6_isWritten 15 = .ok (.ifCond .ne 7, 3) := by decide +kernel
theorem dX6_isWritten_18 : decode cX6_isWritten 18 = .ok (.iconst 1, 1) := by decide +kernel
theorem dX6_isWritten_19 : decode cX6_isWritten 19 = .ok (.goto 4, 3) := by decide +kernel
theorem dX6_isWritten_22 : decode cX6_isWritten 22 = .ok (.iconst 0, 1) := by decide +kernel
theorem dX6_isWritten_23 : decode cX6_isWritten 23 = .ok (.ireturn, 1) := by decide +kernel
theorem dX6_hasZero_0 : decode cX6_hasZero 0 = .ok (.iload_n 0, 1) := by decide +kernel
theorem dX6_hasZero_1 : decode cX6_hasZero 1 = .ok (.istore_n 1, 1) := by decide +kernel
theorem dX6_hasZero_2 : decode cX6_hasZero 2 = .ok (.iconst 0, 1) := by decide +kernel
theorem dX6_hasZero_3 : decode cX6_hasZero 3 = .ok (.istore_n 2, 1) := by decide +kernel
theorem dX6_hasZero_4 : decode cX6_hasZero 4 = .ok (.iload_n 2, 1) := by decide +kernel
theorem dX6_hasZero_5 : decode cX6_hasZero 5 = .ok (.bipush 10, 2) := by decide +kernel
theorem dX6_hasZero_7 : decode cX6_hasZero 7 = .ok (.if_icmp .ge 27, 3) := by decide +kernel
theorem dX6_hasZero_10 : decode cX6_hasZero 10 = .ok (.iload_n 1, 1) := by decide +kernel
theorem dX6_hasZero_11 : decode cX6_hasZero 11 = .ok (.ifCond .le 23, 3) := by decide +kernel
theorem dX6_hasZero_14 : decode cX6_hasZero 14 = .ok (.iload_n 1, 1) := by decide +kernel
theorem dX6_hasZero_15 : decode cX6_hasZero 15 = .ok (.bipush 10, 2) := by decide +kernel
theorem dX6_hasZero_17 : decode cX6_hasZero 17 = .ok (.irem, 1) := by decide +kernel
theorem dX6_hasZero_18 : decode cX6_hasZero 18 = .ok (.ifCond .ne 5, 3) := by decide +kernel
theorem dX6_hasZero_21 : decode cX6_hasZero 21 = .ok (.iconst 1, 1) := by decide +kernel
theorem dX6_hasZero_22 : decode cX6_hasZero 22 = .ok (.ireturn, 1) := by decide +kernel
theorem dX6_hasZero_23 : decode cX6_hasZero 23 = .ok (.iload_n 1, 1) := by decide +kernel
theorem dX6_hasZero_24 : decode cX6_hasZero 24 = .ok (.bipush 10, 2) := by decide +kernel
theorem dX6_hasZero_26 : decode cX6_hasZero 26 = .ok (.idiv, 1) := by decide +kernel
theorem dX6_hasZero_27 : decode cX6_hasZero 27 = .ok (.istore_n 1, 1) := by decide +kernel
theorem dX6_hasZero_28 : decode cX6_hasZero 28 = .ok (.iinc 2 1, 3) := by decide +kernel
theorem dX6_hasZero_31 : decode cX6_hasZero 31 = .ok (.goto (-27), 3) := by decide +kernel
theorem dX6_hasZero_34 : decode cX6_hasZero 34 = .ok (.iconst 0, 1) := by decide +kernel
theorem dX6_hasZero_35 : decode cX6_hasZero 35 = .ok (.ireturn, 1) := by decide +kernel
set_option maxRecDepth 20000 in
theorem ggX6_withoutLoops_X6_read : GoodIn wsX6_withoutLoops wsX6_read := goodIn_r _ [7, 2, 35, 36] (by decide +kernel) (by decide +kernel)
set_option maxRecDepth 20000 in
theorem gX6_withoutLoops_X6_read : GoodIn wsX6_withoutLoops (wsV RX6 29 RX6 yX6_read wsX6_read) := goodIn_app (goodIn_of _ (by decide +kernel)) ggX6_withoutLoops_X6_read
set_option maxRecDepth 20000 in
theorem ggX6_withoutLoops_X4_lowestBetween : GoodIn wsX6_withoutLoops wsX4_lowestBetween := goodIn_r _ [12, 13, 14, 15, 16, 17, 11, 18, 19, 20, 21, 22, 37, 38, 39, 40, 41, 42, 43, 44] (by decide +kernel) (by decide +kernel)
set_option maxRecDepth 20000 in
theorem gX6_withoutLoops_X4_lowestBetween : GoodIn wsX6_withoutLoops (wsV RX6 33 RX4 yX4_lowestBetween wsX4_lowestBetween) := goodIn_app (goodIn_of _ (by decide +kernel)) ggX6_withoutLoops_X4_lowestBetween
set_option maxRecDepth 20000 in
theorem ggX6_withoutLoops_X6_erase : GoodIn wsX6_withoutLoops wsX6_erase := goodIn_r _ [26, 2, 27, 28, 29, 6, 30, 35, 36] (by decide +kernel) (by decide +kernel)
set_option maxRecDepth 20000 in
theorem gX6_withoutLoops_X6_erase : GoodIn wsX6_withoutLoops (wsV RX6 37 RX6 yX6_erase wsX6_erase) := goodIn_app (goodIn_of _ (by decide +kernel)) ggX6_withoutLoops_X6_erase
set_option maxRecDepth 20000 in
theorem ggX6_withoutLoops_X6_write : GoodIn wsX6_withoutLoops wsX6_write := goodIn_r _ [34, 2, 35, 36] (by decide +kernel) (by decide +kernel)
set_option maxRecDepth 20000 in
theorem gX6_withoutLoops_X6_write : GoodIn wsX6_withoutLoops (wsV RX6 40 RX6 yX6_write wsX6_write) := goodIn_app (goodIn_of _ (by decide +kernel)) ggX6_withoutLoops_X6_write
theorem dX6_withoutLoops_0 : decode cX6_withoutLoops 0 = .ok (.aload_n 0, 1) := by decide +kernel
theorem dX6_withoutLoops_1 : decode cX6_withoutLoops 1 = .ok (.iload_n 1, 1) := by decide +kernel
theorem dX6_withoutLoops_2 : decode cX6_withoutLoops 2 = .ok (.invokevirtual 29, 3) := by decide +kernel
theorem dX6_withoutLoops_5 : decode cX6_withoutLoops 5 = .ok (.istore_n 2, 1) := by decide +kernel
theorem dX6_withoutLoops_6 : decode cX6_withoutLoops 6 = .ok (.iconst 1, 1) := by decide +kernel
theorem dX6_withoutLoops_7 : decode cX6_withoutLoops 7 = .ok (.istore_n 3, 1) := by decide +kernel
theorem dX6_withoutLoops_8 : decode cX6_withoutLoops 8 = .ok (.iload_n 3, 1) := by decide +kernel
theorem dX6_withoutLoops_9 : decode cX6_withoutLoops 9 = .ok (.iload_n 2, 1) := by decide +kernel
theorem dX6_withoutLoops_10 : decode cX6_withoutLoops 10 = .ok (.if_icmp .ge 43, 3) := by decide +kernel
theorem dX6_withoutLoops_13 : decode cX6_withoutLoops 13 = .ok (.iload_n 3, 1) := by decide +kernel
theorem dX6_withoutLoops_14 : decode cX6_withoutLoops 14 = .ok (.bipush 9, 2) := by decide +kernel
theorem dX6_withoutLoops_16 : decode cX6_withoutLoops 16 = .ok (.if_icmp .ge 37, 3) := by decide +kernel
theorem dX6_withoutLoops_19 : decode cX6_withoutLoops 19 = .ok (.aload_n 0, 1) := by decide +kernel
theorem dX6_withoutLoops_20 : decode cX6_withoutLoops 20 = .ok (.getfield 9, 3) := by decide +kernel
theorem dX6_withoutLoops_23 : decode cX6_withoutLoops 23 = .ok (.aload_n 0, 1) := by decide +kernel
theorem dX6_withoutLoops_24 : decode cX6_withoutLoops 24 = .ok (.getfield 15, 3) := by decide +kernel
theorem dX6_withoutLoops_27 : decode cX6_withoutLoops 27 = .ok (.iload_n 3, 1) := by decide +kernel
theorem dX6_withoutLoops_28 : decode cX6_withoutLoops 28 = .ok (.iconst 1, 1) := by decide +kernel
theorem dX6_withoutLoops_29 : decode cX6_withoutLoops 29 = .ok (.isub, 1) := by decide +kernel
theorem dX6_withoutLoops_30 : decode cX6_withoutLoops 30 = .ok (.iaload, 1) := by decide +kernel
theorem dX6_withoutLoops_31 : decode cX6_withoutLoops 31 = .ok (.aload_n 0, 1) := by decide +kernel
theorem dX6_withoutLoops_32 : decode cX6_withoutLoops 32 = .ok (.getfield 15, 3) := by decide +kernel
theorem dX6_withoutLoops_35 : decode cX6_withoutLoops 35 = .ok (.iload_n 3, 1) := by decide +kernel
theorem dX6_withoutLoops_36 : decode cX6_withoutLoops 36 = .ok (.iaload, 1) := by decide +kernel
theorem dX6_withoutLoops_37 : decode cX6_withoutLoops 37 = .ok (.iconst (-1), 1) := by decide +kernel
theorem dX6_withoutLoops_38 : decode cX6_withoutLoops 38 = .ok (.invokevirtual 33, 3) := by decide +kernel
theorem dX6_withoutLoops_41 : decode cX6_withoutLoops 41 = .ok (.iconst (-1), 1) := by decide +kernel
theorem dX6_withoutLoops_42 : decode cX6_withoutLoops 42 = .ok (.if_icmp .ne 5, 3) := by decide +kernel
theorem dX6_withoutLoops_45 : decode cX6_withoutLoops 45 = .ok (.iconst (-1), 1) := by decide +kernel
theorem dX6_withoutLoops_46 : decode cX6_withoutLoops 46 = .ok (.ireturn, 1) := by decide +kernel
theorem dX6_withoutLoops_47 : decode cX6_withoutLoops 47 = .ok (.iinc 3 1, 3) := by decide +kernel
theorem dX6_withoutLoops_50 : decode cX6_withoutLoops 50 = .ok (.goto (-42), 3) := by decide +kernel
theorem dX6_withoutLoops_53 : decode cX6_withoutLoops 53 = .ok (.aload_n 0, 1) := by decide +kernel
theorem dX6_withoutLoops_54 : decode cX6_withoutLoops 54 = .ok (.aload_n 0, 1) := by decide +kernel
theorem dX6_withoutLoops_55 : decode cX6_withoutLoops 55 = .ok (.iload_n 2, 1) := by decide +kernel
theorem dX6_withoutLoops_56 : decode cX6_withoutLoops 56 = .ok (.invokevirtual 37, 3) := by decide +kernel
theorem dX6_withoutLoops_59 : decode cX6_withoutLoops 59 = .ok (.invokevirtual 40, 3) := by decide +kernel
theorem dX6_withoutLoops_62 : decode cX6_withoutLoops 62 = .ok (.ireturn, 1) := by decide +kernel
theorem dX6_read_0 : decode cX6_read 0 = .ok (.iconst 0, 1) := by decide +kernel
theorem dX6_read_1 : decode cX6_read 1 = .ok (.istore_n 2, 1) := by decide +kernel
theorem dX6_read_2 : decode cX6_read 2 = .ok (.iload_n 1, 1) := by decide +kernel
theorem dX6_read_3 : decode cX6_read 3 = .ok (.istore_n 3, 1) := by decide +kernel
theorem dX6_read_4 : decode cX6_read 4 = .ok (.iload_n 2, 1) := by decide +kernel
theorem dX6_read_5 : decode cX6_read 5 = .ok (.bipush 9, 2) := by decide +kernel
theorem dX6_read_7 : decode cX6_read 7 = .ok (.if_icmp .ge 18, 3) := by decide +kernel
theorem dX6_read_10 : decode cX6_read 10 = .ok (.iload_n 3, 1) := by decide +kernel
theorem dX6_read_11 : decode cX6_read 11 = .ok (.ifCond .le 14, 3) := by decide +kernel
theorem dX6_read_14 : decode cX6_read 14 = .ok (.iinc 2 1, 3) := by decide +kernel
theorem dX6_read_17 : decode cX6_read 17 = .ok (.iload_n 3, 1) := by decide +kernel
theorem dX6_read_18 : decode cX6_read 18 = .ok (.bipush 10, 2) := by decide +kernel
theorem dX6_read_20 : decode cX6_read 20 = .ok (.idiv, 1) := by decide +kernel
theorem dX6_read_21 : decode cX6_read 21 = .ok (.istore_n 3, 1) := by decide +kernel
theorem dX6_read_22 : decode cX6_read 22 = .ok (.goto (-18), 3) := by decide +kernel
theorem dX6_read_25 : decode cX6_read 25 = .ok (.iload_n 1, 1) := by decide +kernel
theorem dX6_read_26 : decode cX6_read 26 = .ok (.istore_n 3, 1) := by decide +kernel
theorem dX6_read_27 : decode cX6_read 27 = .ok (.iload_n 2, 1) := by decide +kernel
theorem dX6_read_28 : decode cX6_read 28 = .ok (.iconst 1, 1) := by decide +kernel
theorem dX6_read_29 : decode cX6_read 29 = .ok (.isub, 1) := by decide +kernel
theorem dX6_read_30 : decode cX6_read 30 = .ok (.istore 4, 2) := by decide +kernel
theorem dX6_read_32 : decode cX6_read 32 = .ok (.iload 4, 2) := by decide +kernel
theorem dX6_read_34 : decode cX6_read 34 = .ok (.ifCond .lt 27, 3) := by decide +kernel
theorem dX6_read_37 : decode cX6_read 37 = .ok (.aload_n 0, 1) := by decide +kernel
theorem dX6_read_38 : decode cX6_read 38 = .ok (.getfield 15, 3) := by decide +kernel
theorem dX6_read_41 : decode cX6_read 41 = .ok (.iload 4, 2) := by decide +kernel
theorem dX6_read_43 : decode cX6_read 43 = .ok (.iload_n 3, 1) := by decide +kernel
theorem dX6_read_44 : decode cX6_read 44 = .ok (.bipush 10, 2) := by decide +kernel
theorem dX6_read_46 : decode cX6_read 46 = .ok (.irem, 1) := by decide +kernel
theorem dX6_read_47 : decode cX6_read 47 = .ok (.iconst 1, 1) := by decide +kernel
theorem dX6_read_48 : decode cX6_read 48 = .ok (.isub, 1) := by decide +kernel
theorem dX6_read_49 : decode cX6_read 49 = .ok (.iastore, 1) := by decide +kernel
theorem dX6_read_50 : decode cX6_read 50 = .ok (.iload_n 3, 1) := by decide +kernel
theorem dX6_read_51 : decode cX6_read 51 = .ok (.bipush 10, 2) := by decide +kernel
theorem dX6_read_53 : decode cX6_read 53 = .ok (.idiv, 1) := by decide +kernel
theorem dX6_read_54 : decode cX6_read 54 = .ok (.istore_n 3, 1) := by decide +kernel
theorem dX6_read_55 : decode cX6_read 55 = .ok (.iinc 4 (-1), 3) := by decide +kernel
theorem dX6_read_58 : decode cX6_read 58 = .ok (.goto (-26), 3) := by decide +kernel
theorem dX6_read_61 : decode cX6_read 61 = .ok (.iload_n 2, 1) := by decide +kernel
theorem dX6_read_62 : decode cX6_read 62 = .ok (.ireturn, 1) := by decide +kernel
set_option maxRecDepth 20000 in
theorem ggX6_erase_X6_firstComing : GoodIn wsX6_erase wsX6_firstComing := goodIn_r _ [6, 1, 7, 8] (by decide +kernel) (by decide +kernel)
set_option maxRecDepth 20000 in
theorem gX6_erase_X6_firstComing : GoodIn wsX6_erase (wsV RX6 43 RX6 yX6_firstComing wsX6_firstComing) := goodIn_app (goodIn_of _ (by decide +kernel)) ggX6_erase_X6_firstComing
theorem dX6_erase_0 : decode cX6_erase 0 = .ok (.iconst 0, 1) := by decide +kernel
theorem dX6_erase_1 : decode cX6_erase 1 = .ok (.istore_n 2, 1) := by decide +kernel
theorem dX6_erase_2 : decode cX6_erase 2 = .ok (.iconst 0, 1) := by decide +kernel
theorem dX6_erase_3 : decode cX6_erase 3 = .ok (.istore_n 3, 1) := by decide +kernel
theorem dX6_erase_4 : decode cX6_erase 4 = .ok (.iload_n 3, 1) := by decide +kernel
theorem dX6_erase_5 : decode cX6_erase 5 = .ok (.iload_n 1, 1) := by decide +kernel
theorem dX6_erase_6 : decode cX6_erase 6 = .ok (.if_icmp .ge 52, 3) := by decide +kernel
theorem dX6_erase_9 : decode cX6_erase 9 = .ok (.iload_n 3, 1) := by decide +kernel
theorem dX6_erase_10 : decode cX6_erase 10 = .ok (.bipush 9, 2) := by decide +kernel
theorem dX6_erase_12 : decode cX6_erase 12 = .ok (.if_icmp .ge 46, 3) := by decide +kernel
theorem dX6_erase_15 : decode cX6_erase 15 = .ok (.aload_n 0, 1) := by decide +kernel
theorem dX6_erase_16 : decode cX6_erase 16 = .ok (.getfield 15, 3) := by decide +kernel
theorem dX6_erase_19 : decode cX6_erase 19 = .ok (.iload_n 3, 1) := by decide +kernel
theorem dX6_erase_20 : decode cX6_erase 20 = .ok (.iaload, 1) := by decide +kernel
theorem dX6_erase_21 : decode cX6_erase 21 = .ok (.istore 4, 2) := by decide +kernel
theorem dX6_erase_23 : decode cX6_erase 23 = .ok (.aload_n 0, 1) := by decide +kernel
theorem dX6_erase_24 : decode cX6_erase 24 = .ok (.iload 4, 2) := by decide +kernel
theorem dX6_erase_26 : decode cX6_erase 26 = .ok (.iload_n 2, 1) := by decide +kernel
theorem dX6_erase_27 : decode cX6_erase 27 = .ok (.invokevirtual 43, 3) := by decide +kernel
theorem dX6_erase_30 : decode cX6_erase 30 = .ok (.istore_n 2, 1) := by decide +kernel
theorem dX6_erase_31 : decode cX6_erase 31 = .ok (.iload_n 2, 1) := by decide +kernel
theorem dX6_erase_32 : decode cX6_erase 32 = .ok (.ifCond .lt 20, 3) := by decide +kernel
theorem dX6_erase_35 : decode cX6_erase 35 = .ok (.iload_n 2, 1) := by decide +kernel
theorem dX6_erase_36 : decode cX6_erase 36 = .ok (.bipush 9, 2) := by decide +kernel
theorem dX6_erase_38 : decode cX6_erase 38 = .ok (.if_icmp .ge 14, 3) := by decide +kernel
theorem dX6_erase_41 : decode cX6_erase 41 = .ok (.aload_n 0, 1) := by decide +kernel
theorem dX6_erase_42 : decode cX6_erase 42 = .ok (.getfield 15, 3) := by decide +kernel
theorem dX6_erase_45 : decode cX6_erase 45 = .ok (.iload_n 2, 1) := by decide +kernel
theorem dX6_erase_46 : decode cX6_erase 46 = .ok (.iload 4, 2) := by decide +kernel
theorem dX6_erase_48 : decode cX6_erase 48 = .ok (.iastore, 1) := by decide +kernel
theorem dX6_erase_49 : decode cX6_erase 49 = .ok (.iinc 2 1, 3) := by decide +kernel
theorem dX6_erase_52 : decode cX6_erase 52 = .ok (.iinc 3 1, 3) := by decide +kernel
theorem dX6_erase_55 : decode cX6_erase 55 = .ok (.goto (-51), 3) := by decide +kernel
theorem dX6_erase_58 : decode cX6_erase 58 = .ok (.iload_n 2, 1) := by decide +kernel
theorem dX6_erase_59 : decode cX6_erase 59 = .ok (.ireturn, 1) := by decide +kernel
theorem dX6_firstComing_0 : decode cX6_firstComing 0 = .ok (.iconst 0, 1) := by decide +kernel
theorem dX6_firstComing_1 : decode cX6_firstComing 1 = .ok (.istore_n 3, 1) := by decide +kernel
theorem dX6_firstComing_2 : decode cX6_firstComing 2 = .ok (.iload_n 3, 1) := by decide +kernel
theorem dX6_firstComing_3 : decode cX6_firstComing 3 = .ok (.iload_n 2, 1) := by decide +kernel
theorem dX6_firstComing_4 : decode cX6_firstComing 4 = .ok (.if_icmp .ge 27, 3) := by decide +kernel
theorem dX6_firstComing_7 : decode cX6_firstComing 7 = .ok (.iload_n 3, 1) := by decide +kernel
theorem dX6_firstComing_8 : decode cX6_firstComing 8 = .ok (.bipush 9, 2) := by decide +kernel
theorem dX6_firstComing_10 : decode cX6_firstComing 10 = .ok (.if_icmp .ge 21, 3) := by decide +kernel
theorem dX6_firstComing_13 : decode cX6_firstComing 13 = .ok (.aload_n 0, 1) := by decide +kernel
theorem dX6_firstComing_14 : decode cX6_firstComing 14 = .ok (.getfield 15, 3) := by decide +kernel
theorem dX6_firstComing_17 : decode cX6_firstComing 17 = .ok (.iload_n 3, 1) := by decide +kernel
theorem dX6_firstComing_18 : decode cX6_firstComing 18 = .ok (.iaload, 1) := by decide +kernel
theorem dX6_firstComing_19 : decode cX6_firstComing 19 = .ok (.iload_n 1, 1) := by decide +kernel
theorem dX6_firstComing_20 : decode cX6_firstComing 20 = .ok (.if_icmp .ne 5, 3) := by decide +kernel
theorem dX6_firstComing_23 : decode cX6_firstComing 23 = .ok (.iload_n 3, 1) := by decide +kernel
theorem dX6_firstComing_24 : decode cX6_firstComing 24 = .ok (.ireturn, 1) := by decide +kernel
theorem dX6_firstComing_25 : decode cX6_firstComing 25 = .ok (.iinc 3 1, 3) := by decide +kernel
theorem dX6_firstComing_28 : decode cX6_firstComing 28 = .ok (.goto (-26), 3) := by decide +kernel
theorem dX6_firstComing_31 : decode cX6_firstComing 31 = .ok (.iload_n 2, 1) := by decide +kernel
theorem dX6_firstComing_32 : decode cX6_firstComing 32 = .ok (.ireturn, 1) := by decide +kernel
theorem dX6_write_0 : decode cX6_write 0 = .ok (.iconst 0, 1) := by decide +kernel
theorem dX6_write_1 : decode cX6_write 1 = .ok (.istore_n 2, 1) := by decide +kernel
theorem dX6_write_2 : decode cX6_write 2 = .ok (.iconst 0, 1) := by decide +kernel
theorem dX6_write_3 : decode cX6_write 3 = .ok (.istore_n 3, 1) := by decide +kernel
theorem dX6_write_4 : decode cX6_write 4 = .ok (.iload_n 3, 1) := by decide +kernel
theorem dX6_write_5 : decode cX6_write 5 = .ok (.iload_n 1, 1) := by decide +kernel
theorem dX6_write_6 : decode cX6_write 6 = .ok (.if_icmp .ge 29, 3) := by decide +kernel
theorem dX6_write_9 : decode cX6_write 9 = .ok (.iload_n 3, 1) := by decide +kernel
theorem dX6_write_10 : decode cX6_write 10 = .ok (.bipush 9, 2) := by decide +kernel
theorem dX6_write_12 : decode cX6_write 12 = .ok (.if_icmp .ge 23, 3) := by decide +kernel
theorem dX6_write_15 : decode cX6_write 15 = .ok (.iload_n 2, 1) := by decide +kernel
theorem dX6_write_16 : decode cX6_write 16 = .ok (.bipush 10, 2) := by decide +kernel
theorem dX6_write_18 : decode cX6_write 18 = .ok (.imul, 1) := by decide +kernel
theorem dX6_write_19 : decode cX6_write 19 = .ok (.aload_n 0, 1) := by decide +kernel
theorem dX6_write_20 : decode cX6_write 20 = .ok (.getfield 15, 3) := by decide +kernel
theorem dX6_write_23 : decode cX6_write 23 = .ok (.iload_n 3, 1) := by decide +kernel
theorem dX6_write_24 : decode cX6_write 24 = .ok (.iaload, 1) := by decide +kernel
theorem dX6_write_25 : decode cX6_write 25 = .ok (.iadd, 1) := by decide +kernel
theorem dX6_write_26 : decode cX6_write 26 = .ok (.iconst 1, 1) := by decide +kernel
theorem dX6_write_27 : decode cX6_write 27 = .ok (.iadd, 1) := by decide +kernel
theorem dX6_write_28 : decode cX6_write 28 = .ok (.istore_n 2, 1) := by decide +kernel
theorem dX6_write_29 : decode cX6_write 29 = .ok (.iinc 3 1, 3) := by decide +kernel
theorem dX6_write_32 : decode cX6_write 32 = .ok (.goto (-28), 3) := by decide +kernel
theorem dX6_write_35 : decode cX6_write 35 = .ok (.iload_n 2, 1) := by decide +kernel
theorem dX6_write_36 : decode cX6_write 36 = .ok (.ireturn, 1) := by decide +kernel
set_option maxRecDepth 20000 in
theorem ggX7_init_X4_init : GoodIn wsX7_init wsX4_init := goodIn_r _ [32, 33, 2, 3, 28, 34, 35, 36, 90, 91, 92, 93, 94, 95, 96, 97] (by decide +kernel) (by decide +kernel)
set_option maxRecDepth 20000 in
theorem gX7_init_X4_init : GoodIn wsX7_init (wsX4_init) := ggX7_init_X4_init
set_option maxRecDepth 20000 in
theorem ggX7_init_X0_init : GoodIn wsX7_init wsX0_init := goodIn_r _ [39, 40, 2, 3, 41, 28, 42, 43, 44, 105, 106, 107, 108, 109, 110, 111, 112, 113] (by decide +kernel) (by decide +kernel)
set_option maxRecDepth 20000 in
theorem gX7_init_X0_init : GoodIn wsX7_init (wsX0_init) := ggX7_init_X0_init
set_option maxRecDepth 20000 in
theorem ggX7_init_X2_init : GoodIn wsX7_init wsX2_init := goodIn_r _ [47, 48, 2, 3, 49, 28, 50, 51, 52, 53, 114, 115, 116] (by decide +kernel) (by decide +kernel)
set_option maxRecDepth 20000 in
theorem gX7_init_X2_init : GoodIn wsX7_init (wsX2_init) := ggX7_init_X2_init
set_option maxRecDepth 20000 in
theorem ggX7_init_X6_init : GoodIn wsX7_init wsX6_init := goodIn_r _ [56, 57, 2, 3, 58, 28, 59, 117, 118] (by decide +kernel) (by decide +kernel)
set_option maxRecDepth 20000 in
theorem gX7_init_X6_init : GoodIn wsX7_init (wsX6_init) := ggX7_init_X6_init
set_option maxRecDepth 20000 in
theorem ggX7_init_X3_init : GoodIn wsX7_init wsX3_init := goodIn_r _ [62, 63, 2, 3, 64, 65, 66, 67, 68, 28, 69, 70, 71, 72, 73, 74, 75, 76, 77, 78, 79, 80, 81, 82, 119, 120, 121, 122, 123, 124, 125, 126, 127, 128, 132, 133, 134, 135, 136, 137, 138, 139, 140, 141] (by decide +kernel) (by decide +kernel)
set_option maxRecDepth 20000 in
theorem gX7_init_X3_init : GoodIn wsX7_init (wsX3_init) := ggX7_init_X3_init
set_option maxRecDepth 20000 in
theorem ggX7_init_X1_init : GoodIn wsX7_init wsX1_init := goodIn_r _ [85, 86, 2, 3, 87, 52, 88, 89, 129, 130, 131] (by decide +kernel) (by decide +kernel)
set_option maxRecDepth 20000 in
theorem gX7_init_X1_init : GoodIn wsX7_init (wsX1_init) := ggX7_init_X1_init
theorem dX7_init_0 : decode cX7_init 0 = .ok (.aload_n 0, 1) := by decide +kernel
theorem dX7_init_1 : decode cX7_init 1 = .ok (.invokespecial 1, 3) := by decide +kernel
theorem dX7_init_4 : decode cX7_init 4 = .ok (.aload_n 0, 1) := by decide +kernel
theorem dX7_init_5 : decode cX7_init 5 = .ok (.new 7, 3) := by decide +kernel
theorem dX7_init_8 : decode cX7_init 8 = .ok (.dup, 1) := by decide +kernel
theorem dX7_init_9 : decode cX7_init 9 = .ok (.invokespecial 9, 3) := by decide +kernel
theorem dX7_init_12 : decode cX7_init 12 = .ok (.putfield 10, 3) := by decide +kernel
theorem dX7_init_15 : decode cX7_init 15 = .ok (.aload_n 0, 1) := by decide +kernel
theorem dX7_init_16 : decode cX7_init 16 = .ok (.new 16, 3) := by decide +kernel
theorem dX7_init_19 : decode cX7_init 19 = .ok (.dup, 1) := by decide +kernel
theorem dX7_init_20 : decode cX7_init 20 = .ok (.aload_n 0, 1) := by decide +kernel
theorem dX7_init_21 : decode cX7_init 21 = .ok (.getfield 10, 3) := by decide +kernel
theorem dX7_init_24 : decode cX7_init 24 = .ok (.invokespecial 18, 3) := by decide +kernel
theorem dX7_init_27 : decode cX7_init 27 = .ok (.putfield 21, 3) := by decide +kernel
theorem dX7_init_30 : decode cX7_init 30 = .ok (.aload_n 0, 1) := by decide +kernel
theorem dX7_init_31 : decode cX7_init 31 = .ok (.new 25, 3) := by decide +kernel
theorem dX7_init_34 : decode cX7_init 34 = .ok (.dup, 1) := by decide +kernel
theorem dX7_init_35 : decode cX7_init 35 = .ok (.aload_n 0, 1) := by decide +kernel
theorem dX7_init_36 : decode cX7_init 36 = .ok (.getfield 10, 3) := by decide +kernel
theorem dX7_init_39 : decode cX7_init 39 = .ok (.invokespecial 27, 3) := by decide +kernel
theorem dX7_init_42 : decode cX7_init 42 = .ok (.putfield 28, 3) := by decide +kernel
theorem dX7_init_45 : decode cX7_init 45 = .ok (.aload_n 0, 1) := by decide +kernel
theorem dX7_init_46 : decode cX7_init 46 = .ok (.new 32, 3) := by decide +kernel
theorem dX7_init_49 : decode cX7_init 49 = .ok (.dup, 1) := by decide +kernel
theorem dX7_init_50 : decode cX7_init 50 = .ok (.aload_n 0, 1) := by decide +kernel
theorem dX7_init_51 : decode cX7_init 51 = .ok (.getfield 10, 3) := by decide +kernel
theorem dX7_init_54 : decode cX7_init 54 = .ok (.invokespecial 34, 3) := by decide +kernel
theorem dX7_init_57 : decode cX7_init 57 = .ok (.putfield 35, 3) := by decide +kernel
theorem dX7_init_60 : decode cX7_init 60 = .ok (.aload_n 0, 1) := by decide +kernel
theorem dX7_init_61 : decode cX7_init 61 = .ok (.new 39, 3) := by decide +kernel
theorem dX7_init_64 : decode cX7_init 64 = .ok (.dup, 1) := by decide +kernel
theorem dX7_init_65 : decode cX7_init 65 = .ok (.aload_n 0, 1) := by decide +kernel
theorem dX7_init_66 : decode cX7_init 66 = .ok (.getfield 10, 3) := by decide +kernel
theorem dX7_init_69 : decode cX7_init 69 = .ok (.invokespecial 41, 3) := by decide +kernel
theorem dX7_init_72 : decode cX7_init 72 = .ok (.putfield 42, 3) := by decide +kernel
theorem dX7_init_75 : decode cX7_init 75 = .ok (.aload_n 0, 1) := by decide +kernel
theorem dX7_init_76 : decode cX7_init 76 = .ok (.new 46, 3) := by decide +kernel
theorem dX7_init_79 : decode cX7_init 79 = .ok (.dup, 1) := by decide +kernel
theorem dX7_init_80 : decode cX7_init 80 = .ok (.invokespecial 48, 3) := by decide +kernel
theorem dX7_init_83 : decode cX7_init 83 = .ok (.putfield 49, 3) := by decide +kernel
theorem dX7_init_86 : decode cX7_init 86 = .ok (.aload_n 0, 1) := by decide +kernel
theorem dX7_init_87 : decode cX7_init 87 = .ok (.bipush 7, 2) := by decide +kernel
theorem dX7_init_89 : decode cX7_init 89 = .ok (.newarray .int, 2) := by decide +kernel
theorem dX7_init_91 : decode cX7_init 91 = .ok (.putfield 53, 3) := by decide +kernel
theorem dX7_init_94 : decode cX7_init 94 = .ok (.return_, 1) := by decide +kernel
set_option maxRecDepth 20000 in
theorem ggX7_node_X4_hasRoom : GoodIn wsX7_node wsX4_hasRoom := goodIn_r _ [9, 10, 11, 34, 35, 36, 37, 38, 39, 40, 41] (by decide +kernel) (by decide +kernel)
set_option maxRecDepth 20000 in
theorem gX7_node_X4_hasRoom : GoodIn wsX7_node (wsV RX7 57 RX4 yX4_hasRoom wsX4_hasRoom) := goodIn_app (goodIn_of _ (by decide +kernel)) ggX7_node_X4_hasRoom
set_option maxRecDepth 20000 in
theorem ggX7_node_X3_forget : GoodIn wsX7_node wsX3_forget := goodIn_r _ [16, 17, 42, 43, 44, 45, 46, 47, 48, 49, 50, 51] (by decide +kernel) (by decide +kernel)
set_option maxRecDepth 20000 in
theorem gX7_node_X3_forget : GoodIn wsX7_node (wsV RX7 68 RX3 yX3_forget wsX3_forget) := goodIn_app (goodIn_of _ (by decide +kernel)) ggX7_node_X3_forget
set_option maxRecDepth 20000 in
theorem ggX7_node_X4_addNode : GoodIn wsX7_node wsX4_addNode := goodIn_r _ [21, 10, 22, 23, 24, 25, 26, 34, 35, 36, 37, 38, 39, 40, 41] (by decide +kernel) (by decide +kernel)
set_option maxRecDepth 20000 in
theorem gX7_node_X4_addNode : GoodIn wsX7_node (wsV RX7 71 RX4 yX4_addNode wsX4_addNode) := goodIn_app (goodIn_of _ (by decide +kernel)) ggX7_node_X4_addNode
theorem dX7_node_0 : decode cX7_node 0 = .ok (.aload_n 0, 1) := by decide +kernel
theorem dX7_node_1 : decode cX7_node 1 = .ok (.getfield 10, 3) := by decide +kernel
theorem dX7_node_4 : decode cX7_node 4 = .ok (.iconst 1, 1) := by decide +kernel
theorem dX7_node_5 : decode cX7_node 5 = .ok (.iconst 0, 1) := by decide +kernel
theorem dX7_node_6 : decode cX7_node 6 = .ok (.invokevirtual 57, 3) := by decide +kernel
theorem dX7_node_9 : decode cX7_node 9 = .ok (.ifCond .ne 13, 3) := by decide +kernel
theorem dX7_node_12 : decode cX7_node 12 = .ok (.new 61, 3) := by decide +kernel
theorem dX7_node_15 : decode cX7_node 15 = .ok (.dup, 1) := by decide +kernel
theorem dX7_node_16 : decode cX7_node 16 = .ok (.ldc 63, 2) := by decide +kernel
theorem dX7_node_18 : decode cX7_node 18 = .ok (.invokespecial 65, 3) := by decide +kernel
theorem dX7_node_21 : decode cX7_node 21 = .ok (.athrow, 1) := by decide +kernel
theorem dX7_node_22 : decode cX7_node 22 = .ok (.aload_n 0, 1) := by decide +kernel
theorem dX7_node_23 : decode cX7_node 23 = .ok (.getfield 42, 3) := by decide +kernel
theorem dX7_node_26 : decode cX7_node 26 = .ok (.invokevirtual 68, 3) := by decide +kernel
theorem dX7_node_29 : decode cX7_node 29 = .ok (.aload_n 0, 1) := by decide +kernel
theorem dX7_node_30 : decode cX7_node 30 = .ok (.getfield 10, 3) := by decide +kernel
theorem dX7_node_33 : decode cX7_node 33 = .ok (.iload_n 1, 1) := by decide +kernel
theorem dX7_node_34 : decode cX7_node 34 = .ok (.invokevirtual 71, 3) := by decide +kernel
theorem dX7_node_37 : decode cX7_node 37 = .ok (.ireturn, 1) := by decide +kernel
set_option maxRecDepth 20000 in
theorem ggX7_wire_X7_needNode : GoodIn wsX7_wire wsX7_needNode := goodIn_ca (goodIn_r _ [12, 13, 14, 5, 15, 16, 17, 18, 19, 20, 21, 11, 22, 55, 56, 57, 58, 59, 60, 61, 62, 63, 64, 65, 66, 67, 68, 69] (by decide +kernel) (by decide +kernel)) (goodIn_sub (fun _ h => List.mem_cons_of_mem _ (List.mem_append_right _ h)) (by decide +kernel))
set_option maxRecDepth 20000 in
theorem gX7_wire_X7_needNode : GoodIn wsX7_wire (wsV RX7 75 RX7 yX7_needNode wsX7_needNode) := goodIn_app (goodIn_of _ (by decide +kernel)) ggX7_wire_X7_needNode
set_option maxRecDepth 20000 in
theorem ggX7_wire_X7_isConductance : GoodIn wsX7_wire wsX7_isConductance := goodIn_r _ [25] (by decide +kernel) (by decide +kernel)
set_option maxRecDepth 20000 in
theorem gX7_wire_X7_isConductance : GoodIn wsX7_wire (va_wsS RX7 79 yX7_isConductance wsX7_isConductance) := goodIn_app (goodIn_of _ (by decide +kernel)) ggX7_wire_X7_isConductance
set_option maxRecDepth 20000 in
theorem ggX7_wire_X4_hasRoom : GoodIn wsX7_wire wsX4_hasRoom := goodIn_r _ [29, 30, 31, 62, 63, 64, 65, 66, 67, 68, 69] (by decide +kernel) (by decide +kernel)
set_option maxRecDepth 20000 in
theorem gX7_wire_X4_hasRoom : GoodIn wsX7_wire (wsV RX7 57 RX4 yX4_hasRoom wsX4_hasRoom) := goodIn_app (goodIn_of _ (by decide +kernel)) ggX7_wire_X4_hasRoom
set_option maxRecDepth 20000 in
theorem ggX7_wire_J6_bitCount_0f7a4 : GoodIn wsX7_wire wsJ6_bitCount_0f7a4 := goodIn_r _ [35, 36, 37, 38] (by decide +kernel) (by decide +kernel)
set_option maxRecDepth 20000 in
theorem gX7_wire_J6_bitCount_0f7a4 : GoodIn wsX7_wire (va_wsS RX7 92 yJ6_bitCount_0f7a4 wsJ6_bitCount_0f7a4) := goodIn_app (goodIn_of _ (by decide +kernel)) ggX7_wire_J6_bitCount_0f7a4
set_option maxRecDepth 20000 in
theorem ggX7_wire_X3_forget : GoodIn wsX7_wire wsX3_forget := goodIn_r _ [43, 44, 70, 71, 72, 73, 74, 75, 76, 77, 78, 79] (by decide +kernel) (by decide +kernel)
set_option maxRecDepth 20000 in
theorem gX7_wire_X3_forget : GoodIn wsX7_wire (wsV RX7 68 RX3 yX3_forget wsX3_forget) := goodIn_app (goodIn_of _ (by decide +kernel)) ggX7_wire_X3_forget
set_option maxRecDepth 20000 in
theorem ggX7_wire_X4_addWire : GoodIn wsX7_wire wsX4_addWire := goodIn_r _ [48, 31, 49, 50, 51, 52, 53, 11, 54, 62, 63, 64, 65, 66, 67, 68, 69] (by decide +kernel) (by decide +kernel)
set_option maxRecDepth 20000 in
theorem gX7_wire_X4_addWire : GoodIn wsX7_wire (wsV RX7 100 RX4 yX4_addWire wsX4_addWire) := goodIn_app (goodIn_of _ (by decide +kernel)) ggX7_wire_X4_addWire
theorem dX7_wire_0 : decode cX7_wire 0 = .ok (.aload_n 0, 1) := by decide +kernel
theorem dX7_wire_1 : decode cX7_wire 1 = .ok (.iload_n 1, 1) := by decide +kernel
theorem dX7_wire_2 : decode cX7_wire 2 = .ok (.invokevirtual 75, 3) := by decide +kernel
theorem dX7_wire_5 : decode cX7_wire 5 = .ok (.aload_n 0, 1) := by decide +kernel
theorem dX7_wire_6 : decode cX7_wire 6 = .ok (.iload_n 2, 1) := by decide +kernel
theorem dX7_wire_7 : decode cX7_wire 7 = .ok (.invokevirtual 75, 3) := by decide +kernel
theorem dX7_wire_10 : decode cX7_wire 10 = .ok (.iload_n 3, 1) := by decide +kernel
theorem dX7_wire_11 : decode cX7_wire 11 = .ok (.invokestatic 79, 3) := by decide +kernel
theorem dX7_wire_14 : decode cX7_wire 14 = .ok (.ifCond .ne 13, 3) := by decide +kernel
theorem dX7_wire_17 : decode cX7_wire 17 = .ok (.new 83, 3) := by decide +kernel
theorem dX7_wire_20 : decode cX7_wire 20 = .ok (.dup, 1) := by decide +kernel
theorem dX7_wire_21 : decode cX7_wire 21 = .ok (.ldc 85, 2) := by decide +kernel
theorem dX7_wire_23 : decode cX7_wire 23 = .ok (.invokespecial 87, 3) := by decide +kernel
theorem dX7_wire_26 : decode cX7_wire 26 = .ok (.athrow, 1) := by decide +kernel
theorem dX7_wire_27 : decode cX7_wire 27 = .ok (.aload_n 0, 1) := by decide +kernel
theorem dX7_wire_28 : decode cX7_wire 28 = .ok (.getfield 10, 3) := by decide +kernel
theorem dX7_wire_31 : decode cX7_wire 31 = .ok (.iconst 0, 1) := by decide +kernel
theorem dX7_wire_32 : decode cX7_wire 32 = .ok (.iconst 1, 1) := by decide +kernel
theorem dX7_wire_33 : decode cX7_wire 33 = .ok (.invokevirtual 57, 3) := by decide +kernel
theorem dX7_wire_36 : decode cX7_wire 36 = .ok (.ifCond .eq 18, 3) := by decide +kernel
theorem dX7_wire_39 : decode cX7_wire 39 = .ok (.aload_n 0, 1) := by decide +kernel
theorem dX7_wire_40 : decode cX7_wire 40 = .ok (.getfield 10, 3) := by decide +kernel
theorem dX7_wire_43 : decode cX7_wire 43 = .ok (.getfield 88, 3) := by decide +kernel
theorem dX7_wire_46 : decode cX7_wire 46 = .ok (.invokestatic 92, 3) := by decide +kernel
theorem dX7_wire_49 : decode cX7_wire 49 = .ok (.bipush 12, 2) := by decide +kernel
theorem dX7_wire_51 : decode cX7_wire 51 = .ok (.if_icmp .lt 13, 3) := by decide +kernel
theorem dX7_wire_54 : decode cX7_wire 54 = .ok (.new 61, 3) := by decide +kernel
theorem dX7_wire_57 : decode cX7_wire 57 = .ok (.dup, 1) := by decide +kernel
theorem dX7_wire_58 : decode cX7_wire 58 = .ok (.ldc 98, 2) := by decide +kernel
theorem dX7_wire_60 : decode cX7_wire 60 = .ok (.invokespecial 65, 3) := by decide +kernel
theorem dX7_wire_63 : decode cX7_wire 63 = .ok (.athrow, 1) := by decide +kernel
theorem dX7_wire_64 : decode cX7_wire 64 = .ok (.aload_n 0, 1) := by decide +kernel
theorem dX7_wire_65 : decode cX7_wire 65 = .ok (.getfield 42, 3) := by decide +kernel
theorem dX7_wire_68 : decode cX7_wire 68 = .ok (.invokevirtual 68, 3) := by decide +kernel
theorem dX7_wire_71 : decode cX7_wire 71 = .ok (.aload_n 0, 1) := by decide +kernel
theorem dX7_wire_72 : decode cX7_wire 72 = .ok (.getfield 10, 3) := by decide +kernel
theorem dX7_wire_75 : decode cX7_wire 75 = .ok (.iload_n 1, 1) := by decide +kernel
theorem dX7_wire_76 : decode cX7_wire 76 = .ok (.iload_n 2, 1) := by decide +kernel
theorem dX7_wire_77 : decode cX7_wire 77 = .ok (.iload_n 3, 1) := by decide +kernel
theorem dX7_wire_78 : decode cX7_wire 78 = .ok (.invokevirtual 100, 3) := by decide +kernel
theorem dX7_wire_81 : decode cX7_wire 81 = .ok (.ireturn, 1) := by decide +kernel
set_option maxRecDepth 20000 in
theorem ggX7_wireIs_X7_needWire : GoodIn wsX7_wireIs wsX7_needWire := goodIn_ca (goodIn_r _ [8, 9, 10, 3, 11, 12, 13, 14, 15, 16, 17, 7, 18, 34, 35, 36, 37, 38, 39, 40, 41, 42, 43, 44, 45, 46, 47, 48] (by decide +kernel) (by decide +kernel)) (goodIn_sub (fun _ h => List.mem_cons_of_mem _ (List.mem_append_right _ h)) (by decide +kernel))
set_option maxRecDepth 20000 in
theorem gX7_wireIs_X7_needWire : GoodIn wsX7_wireIs (wsV RX7 104 RX7 yX7_needWire wsX7_needWire) := goodIn_app (goodIn_of _ (by decide +kernel)) ggX7_wireIs_X7_needWire
set_option maxRecDepth 20000 in
theorem ggX7_wireIs_X4_firstOf : GoodIn wsX7_wireIs wsX4_firstOf := goodIn_r _ [22, 23, 41, 42, 43, 44, 45, 46, 47, 48] (by decide +kernel) (by decide +kernel)
set_option maxRecDepth 20000 in
theorem gX7_wireIs_X4_firstOf : GoodIn wsX7_wireIs (wsV RX7 109 RX4 yX4_firstOf wsX4_firstOf) := goodIn_app (goodIn_of _ (by decide +kernel)) ggX7_wireIs_X4_firstOf
set_option maxRecDepth 20000 in
theorem ggX7_wireIs_X4_secondOf : GoodIn wsX7_wireIs wsX4_secondOf := goodIn_r _ [27, 28, 41, 42, 43, 44, 45, 46, 47, 48] (by decide +kernel) (by decide +kernel)
set_option maxRecDepth 20000 in
theorem gX7_wireIs_X4_secondOf : GoodIn wsX7_wireIs (wsV RX7 112 RX4 yX4_secondOf wsX4_secondOf) := goodIn_app (goodIn_of _ (by decide +kernel)) ggX7_wireIs_X4_secondOf
set_option maxRecDepth 20000 in
theorem ggX7_wireIs_X4_conductanceOf : GoodIn wsX7_wireIs wsX4_conductanceOf := goodIn_r _ [32, 33, 41, 42, 43, 44, 45, 46, 47, 48] (by decide +kernel) (by decide +kernel)
set_option maxRecDepth 20000 in
theorem gX7_wireIs_X4_conductanceOf : GoodIn wsX7_wireIs (wsV RX7 115 RX4 yX4_conductanceOf wsX4_conductanceOf) := goodIn_app (goodIn_of _ (by decide +kernel)) ggX7_wireIs_X4_conductanceOf
theorem dX7_wireIs_0 : decode cX7_wireIs 0 = .ok (.aload_n 0, 1) := by decide +kernel
theorem dX7_wireIs_1 : decode cX7_wireIs 1 = .ok (.iload_n 1, 1) := by decide +kernel
theorem dX7_wireIs_2 : decode cX7_wireIs 2 = .ok (.invokevirtual 104, 3) := by decide +kernel
theorem dX7_wireIs_5 : decode cX7_wireIs 5 = .ok (.iload_n 2, 1) := by decide +kernel
theorem dX7_wireIs_6 : decode cX7_wireIs 6 = .ok (.ifCond .lt 8, 3) := by decide +kernel
theorem dX7_wireIs_9 : decode cX7_wireIs 9 = .ok (.iload_n 2, 1) := by decide +kernel
theorem dX7_wireIs_10 : decode cX7_wireIs 10 = .ok (.iconst 2, 1) := by decide +kernel
theorem dX7_wireIs_11 : decode cX7_wireIs 11 = .ok (.if_icmp .le 13, 3) := by decide +kernel
theorem dX7_wireIs_14 : decode cX7_wireIs 14 = .ok (.new 83, 3) := by decide +kernel
theorem dX7_wireIs_17 : decode cX7_wireIs 17 = .ok (.dup, 1) := by decide +kernel
theorem dX7_wireIs_18 : decode cX7_wireIs 18 = .ok (.ldc 107, 2) := by decide +kernel
theorem dX7_wireIs_20 : decode cX7_wireIs 20 = .ok (.invokespecial 87, 3) := by decide +kernel
theorem dX7_wireIs_23 : decode cX7_wireIs 23 = .ok (.athrow, 1) := by decide +kernel
theorem dX7_wireIs_24 : decode cX7_wireIs 24 = .ok (.iload_n 2, 1) := by decide +kernel
theorem dX7_wireIs_25 : decode cX7_wireIs 25 = .ok (.ifCond .ne 12, 3) := by decide +kernel
theorem dX7_wireIs_28 : decode cX7_wireIs 28 = .ok (.aload_n 0, 1) := by decide +kernel
theorem dX7_wireIs_29 : decode cX7_wireIs 29 = .ok (.getfield 10, 3) := by decide +kernel
theorem dX7_wireIs_32 : decode cX7_wireIs 32 = .ok (.iload_n 1, 1) := by decide +kernel
theorem dX7_wireIs_33 : decode cX7_wireIs 33 = .ok (.invokevirtual 109, 3) := by decide +kernel
theorem dX7_wireIs_36 : decode cX7_wireIs 36 = .ok (.ireturn, 1) := by decide +kernel
theorem dX7_wireIs_37 : decode cX7_wireIs 37 = .ok (.iload_n 2, 1) := by decide +kernel
theorem dX7_wireIs_38 : decode cX7_wireIs 38 = .ok (.iconst 1, 1) := by decide +kernel
theorem dX7_wireIs_39 : decode cX7_wireIs 39 = .ok (.if_icmp .ne 14, 3) := by decide +kernel
theorem dX7_wireIs_42 : decode cX7_wireIs 42 = .ok (.aload_n 0, 1) := by decide +kernel
theorem dX7_wireIs_43 : decode cX7_wireIs 43 = .ok (.getfield 10, 3) := by decide +kernel
theorem dX7_wireIs_46 : decode cX7_wireIs 46 = .ok (.iload_n 1, 1) := by decide +kernel
theorem dX7_wireIs_47 : decode cX7_wireIs 47 = .ok (.invokevirtual 112, 3) := by decide +kernel
theorem dX7_wireIs_50 : decode cX7_wireIs 50 = .ok (.goto 11, 3) := by decide +kernel
theorem dX7_wireIs_53 : decode cX7_wireIs 53 = .ok (.aload_n 0, 1) := by decide +kernel
theorem dX7_wireIs_54 : decode cX7_wireIs 54 = .ok (.getfield 10, 3) := by decide +kernel
theorem dX7_wireIs_57 : decode cX7_wireIs 57 = .ok (.iload_n 1, 1) := by decide +kernel
theorem dX7_wireIs_58 : decode cX7_wireIs 58 = .ok (.invokevirtual 115, 3) := by decide +kernel
theorem dX7_wireIs_61 : decode cX7_wireIs 61 = .ok (.ireturn, 1) := by decide +kernel
theorem dX7_nodes_0 : decode cX7_nodes 0 = .ok (.aload_n 0, 1) := by decide +kernel
theorem dX7_nodes_1 : decode cX7_nodes 1 = .ok (.getfield 10, 3) := by decide +kernel
theorem dX7_nodes_4 : decode cX7_nodes 4 = .ok (.getfield 118, 3) := by decide +kernel
theorem dX7_nodes_7 : decode cX7_nodes 7 = .ok (.ireturn, 1) := by decide +kernel
theorem dX7_wires_0 : decode cX7_wires 0 = .ok (.aload_n 0, 1) := by decide +kernel
theorem dX7_wires_1 : decode cX7_wires 1 = .ok (.getfield 10, 3) := by decide +kernel
theorem dX7_wires_4 : decode cX7_wires 4 = .ok (.getfield 88, 3) := by decide +kernel
theorem dX7_wires_7 : decode cX7_wires 7 = .ok (.ireturn, 1) := by decide +kernel
set_option maxRecDepth 20000 in
theorem ggX7_trees_X7_countTrees : GoodIn wsX7_trees wsX7_countTrees := goodIn_r _ [5, 6, 7, 8, 9, 10, 11, 12, 13, 14, 15, 16, 17, 18, 4, 19, 20, 21, 22, 23, 24, 25, 26, 27, 28, 29, 30, 31, 32, 33, 34, 35, 36, 37, 38, 39, 40, 41, 42, 43, 44, 45, 46, 47, 48, 49, 50, 51, 52, 53, 54, 55, 56, 57, 58, 59, 60, 61, 62, 63, 64, 65, 66, 67, 68, 69, 70, 71, 72, 73, 74, 75, 76, 77, 78, 79, 80, 81, 82, 83, 84, 85, 86, 87, 88, 89, 90, 91, 92, 93, 94, 95, 96, 97, 98, 99, 100, 101, 102, 103, 104, 105, 106, 107, 108, 109, 110, 111, 112, 113, 114, 115, 116, 117, 118, 119, 120] (by decide +kernel) (by decide +kernel)
set_option maxRecDepth 20000 in
theorem gX7_trees_X7_countTrees : GoodIn wsX7_trees (wsV RX7 121 RX7 yX7_countTrees wsX7_countTrees) := goodIn_app (goodIn_of _ (by decide +kernel)) ggX7_trees_X7_countTrees
theorem dX7_trees_0 : decode cX7_trees 0 = .ok (.aload_n 0, 1) := by decide +kernel
theorem dX7_trees_1 : decode cX7_trees 1 = .ok (.invokevirtual 121, 3) := by decide +kernel
theorem dX7_trees_4 : decode cX7_trees 4 = .ok (.lreturn, 1) := by decide +kernel
set_option maxRecDepth 20000 in
theorem ggX7_treesAnew_X2_countTreesAgain : GoodIn wsX7_treesAnew wsX2_countTreesAgain := goodIn_r _ [6, 7, 8, 9, 10, 11, 12, 13, 14, 15, 16, 17, 18, 19, 20, 21, 22, 23, 24, 5, 25, 26, 27, 28, 29, 30, 31, 32, 33, 34, 35, 36, 37, 38, 39, 40, 41, 42, 43, 44, 45, 46, 47, 48, 49, 50, 51, 52, 53, 54, 55, 56, 57, 58, 59, 60, 61, 62, 63, 64, 65, 66, 67, 68, 69, 70, 71, 72, 73, 74, 82, 83, 84, 85, 86, 87, 88, 89, 90, 91, 92] (by decide +kernel) (by decide +kernel)
set_option maxRecDepth 20000 in
theorem gX7_treesAnew_X2_countTreesAgain : GoodIn wsX7_treesAnew (wsV RX7 125 RX2 yX2_countTreesAgain wsX2_countTreesAgain) := goodIn_app (goodIn_of _ (by decide +kernel)) ggX7_treesAnew_X2_countTreesAgain
theorem dX7_treesAnew_0 : decode cX7_treesAnew 0 = .ok (.aload_n 0, 1) := by decide +kernel
theorem dX7_treesAnew_1 : decode cX7_treesAnew 1 = .ok (.getfield 28, 3) := by decide +kernel
theorem dX7_treesAnew_4 : decode cX7_treesAnew 4 = .ok (.invokevirtual 125, 3) := by decide +kernel
theorem dX7_treesAnew_7 : decode cX7_treesAnew 7 = .ok (.lreturn, 1) := by decide +kernel
set_option maxRecDepth 20000 in
theorem ggX7_tree_X0_treeAt : GoodIn wsX7_tree wsX0_treeAt := goodIn_r _ [8, 9, 10, 11, 12, 13, 14, 15, 16, 17, 18, 19, 20, 21, 22, 23, 24, 25, 26, 27, 28, 29, 7, 30, 31, 32, 33, 34, 35, 36, 37, 38, 39, 40, 41, 42, 43, 44, 45, 46, 47, 48, 49, 50, 51, 52, 53, 54, 55, 56, 57, 58, 59, 60, 61, 62, 63, 64, 65, 66, 67, 68, 69, 70, 71, 72, 73, 74, 75, 76, 77, 78, 86, 87, 88, 89, 90, 91, 92, 93, 94, 95, 96, 97, 98, 99, 100, 101, 102] (by decide +kernel) (by decide +kernel)
set_option maxRecDepth 20000 in
theorem gX7_tree_X0_treeAt : GoodIn wsX7_tree (wsV RX7 130 RX0 yX0_treeAt wsX0_treeAt) := goodIn_app (goodIn_of _ (by decide +kernel)) ggX7_tree_X0_treeAt
theorem dX7_tree_0 : decode cX7_tree 0 = .ok (.iload_n 1, 1) := by decide +kernel
theorem dX7_tree_1 : decode cX7_tree 1 = .ok (.ifCond .ge 13, 3) := by decide +kernel
theorem dX7_tree_4 : decode cX7_tree 4 = .ok (.new 83, 3) := by decide +kernel
theorem dX7_tree_7 : decode cX7_tree 7 = .ok (.dup, 1) := by decide +kernel
theorem dX7_tree_8 : decode cX7_tree 8 = .ok (.ldc 128, 2) := by decide +kernel
theorem dX7_tree_10 : decode cX7_tree 10 = .ok (.invokespecial 87, 3) := by decide +kernel
theorem dX7_tree_13 : decode cX7_tree 13 = .ok (.athrow, 1) := by decide +kernel
theorem dX7_tree_14 : decode cX7_tree 14 = .ok (.aload_n 0, 1) := by decide +kernel
theorem dX7_tree_15 : decode cX7_tree 15 = .ok (.getfield 21, 3) := by decide +kernel
theorem dX7_tree_18 : decode cX7_tree 18 = .ok (.iload_n 1, 1) := by decide +kernel
theorem dX7_tree_19 : decode cX7_tree 19 = .ok (.invokevirtual 130, 3) := by decide +kernel
theorem dX7_tree_22 : decode cX7_tree 22 = .ok (.ireturn, 1) := by decide +kernel
set_option maxRecDepth 20000 in
theorem ggX7_rest_X7_countRest : GoodIn wsX7_rest wsX7_countRest := goodIn_r _ [5, 6, 7, 8, 9, 10, 11, 12, 13, 14, 15, 16, 17, 18, 19, 20, 21, 22, 23, 24, 25, 26, 27, 28, 29, 30, 31, 32, 33, 34, 35, 36, 37, 38, 39, 40, 41, 42, 43, 44, 4, 45, 46, 47, 48, 49, 50, 51, 52, 53, 54, 55, 56, 57, 58, 59, 60, 61, 62, 63, 64, 65, 66, 67, 68, 69, 70, 71, 72, 73, 74, 75, 76, 77, 78, 79, 80, 81, 82, 83, 84, 85, 86, 87, 88, 89, 90, 91, 92, 93, 94, 95, 96, 97, 98, 99, 100, 101, 102, 103, 104, 105, 106, 107, 108, 109, 110, 111] (by decide +kernel) (by decide +kernel)
set_option maxRecDepth 20000 in
theorem gX7_rest_X7_countRest : GoodIn wsX7_rest (wsV RX7 133 RX7 yX7_countRest wsX7_countRest) := goodIn_app (goodIn_of _ (by decide +kernel)) ggX7_rest_X7_countRest
theorem dX7_rest_0 : decode cX7_rest 0 = .ok (.aload_n 0, 1) := by decide +kernel
theorem dX7_rest_1 : decode cX7_rest 1 = .ok (.invokevirtual 133, 3) := by decide +kernel
theorem dX7_rest_4 : decode cX7_rest 4 = .ok (.lreturn, 1) := by decide +kernel
set_option maxRecDepth 20000 in
theorem ggX7_answer_X7_needEdge : GoodIn wsX7_answer wsX7_needEdge := goodIn_ca (goodIn_r _ [7, 8, 9, 10, 11, 12, 13, 14, 15, 16, 17, 18, 19, 20, 21, 22, 6, 23, 122, 123, 124, 125, 126, 127, 128, 129, 130, 131, 132, 133, 134, 135, 136] (by decide +kernel) (by decide +kernel)) (goodIn_sub (fun _ h => List.mem_cons_of_mem _ (List.mem_append_right _ h)) (by decide +kernel))
set_option maxRecDepth 20000 in
theorem gX7_answer_X7_needEdge : GoodIn wsX7_answer (wsV RX7 136 RX7 yX7_needEdge wsX7_needEdge) := goodIn_app (goodIn_of _ (by decide +kernel)) ggX7_answer_X7_needEdge
set_option maxRecDepth 20000 in
theorem ggX7_answer_X7_upperOfAnswer : GoodIn wsX7_answer wsX7_upperOfAnswer := goodIn_r _ [27, 28, 10, 29, 30, 31, 6, 32, 33, 34, 35, 36, 37, 38, 39, 40, 41, 42, 43, 44, 45, 46, 47, 48, 49, 50, 51, 52, 53, 54, 55, 56, 57, 58, 59, 60, 14, 61, 62, 22, 23, 63, 64, 65, 66, 67, 68, 69, 70, 71, 72, 73, 74, 75, 76, 77, 78, 79, 80, 81, 82, 83, 84, 85, 86, 87, 88, 89, 90, 91, 92, 93, 94, 95, 96, 97, 98, 99, 100, 101, 102, 122, 123, 124, 125, 126, 127, 128, 129, 130, 131, 132, 133, 134, 135, 136, 137, 138, 139, 140, 141, 142, 143, 144, 145] (by decide +kernel) (by decide +kernel)
set_option maxRecDepth 20000 in
theorem gX7_answer_X7_upperOfAnswer : GoodIn wsX7_answer (wsV RX7 141 RX7 yX7_upperOfAnswer wsX7_upperOfAnswer) := goodIn_app (goodIn_of _ (by decide +kernel)) ggX7_answer_X7_upperOfAnswer
set_option maxRecDepth 20000 in
theorem ggX7_answer_X7_countRest : GoodIn wsX7_answer wsX7_countRest := goodIn_r _ [106, 28, 10, 29, 107, 108, 109, 36, 110, 111, 34, 35, 37, 38, 39, 40, 41, 42, 43, 44, 45, 46, 47, 48, 49, 50, 51, 52, 53, 54, 55, 56, 57, 58, 59, 60, 14, 61, 62, 22, 6, 23, 63, 64, 65, 66, 67, 68, 69, 70, 71, 72, 73, 74, 75, 76, 31, 32, 77, 78, 79, 80, 81, 82, 83, 84, 85, 86, 87, 88, 89, 90, 91, 92, 93, 94, 95, 96, 97, 98, 99, 100, 101, 102, 122, 123, 124, 125, 126, 127, 128, 129, 130, 131, 132, 133, 134, 135, 136, 137, 138, 139, 140, 141, 142, 143, 144, 145] (by decide +kernel) (by decide +kernel)
set_option maxRecDepth 20000 in
theorem gX7_answer_X7_countRest : GoodIn wsX7_answer (wsV RX7 133 RX7 yX7_countRest wsX7_countRest) := goodIn_app (goodIn_of _ (by decide +kernel)) ggX7_answer_X7_countRest
set_option maxRecDepth 20000 in
theorem ggX7_answer_X7_partOf : GoodIn wsX7_answer wsX7_partOf := goodIn_r _ [114, 115, 116, 117, 118, 119, 120, 6, 121] (by decide +kernel) (by decide +kernel)
set_option maxRecDepth 20000 in
theorem gX7_answer_X7_partOf : GoodIn wsX7_answer (va_wsS RX7 145 yX7_partOf wsX7_partOf) := goodIn_app (goodIn_of _ (by decide +kernel)) ggX7_answer_X7_partOf
theorem dX7_answer_0 : decode cX7_answer 0 = .ok (.aload_n 0, 1) := by decide +kernel
theorem dX7_answer_1 : decode cX7_answer 1 = .ok (.iload_n 1, 1) := by decide +kernel
theorem dX7_answer_2 : decode cX7_answer 2 = .ok (.invokevirtual 136, 3) := by decide +kernel
theorem dX7_answer_5 : decode cX7_answer 5 = .ok (.aload_n 0, 1) := by decide +kernel
theorem dX7_answer_6 : decode cX7_answer 6 = .ok (.iload_n 2, 1) := by decide +kernel
theorem dX7_answer_7 : decode cX7_answer 7 = .ok (.invokevirtual 136, 3) := by decide +kernel
theorem dX7_answer_10 : decode cX7_answer 10 = .ok (.iload_n 1, 1) := by decide +kernel
theorem dX7_answer_11 : decode cX7_answer 11 = .ok (.iload_n 2, 1) := by decide +kernel
theorem dX7_answer_12 : decode cX7_answer 12 = .ok (.if_icmp .ne 13, 3) := by decide +kernel
theorem dX7_answer_15 : decode cX7_answer 15 = .ok (.new 83, 3) := by decide +kernel
theorem dX7_answer_18 : decode cX7_answer 18 = .ok (.dup, 1) := by decide +kernel
theorem dX7_answer_19 : decode cX7_answer 19 = .ok (.ldc 139, 2) := by decide +kernel
theorem dX7_answer_21 : decode cX7_answer 21 = .ok (.invokespecial 87, 3) := by decide +kernel
theorem dX7_answer_24 : decode cX7_answer 24 = .ok (.athrow, 1) := by decide +kernel
theorem dX7_answer_25 : decode cX7_answer 25 = .ok (.aload_n 0, 1) := by decide +kernel
theorem dX7_answer_26 : decode cX7_answer 26 = .ok (.iload_n 1, 1) := by decide +kernel
theorem dX7_answer_27 : decode cX7_answer 27 = .ok (.iload_n 2, 1) := by decide +kernel
theorem dX7_answer_28 : decode cX7_answer 28 = .ok (.invokevirtual 141, 3) := by decide +kernel
theorem dX7_answer_31 : decode cX7_answer 31 = .ok (.aload_n 0, 1) := by decide +kernel
theorem dX7_answer_32 : decode cX7_answer 32 = .ok (.invokevirtual 133, 3) := by decide +kernel
theorem dX7_answer_35 : decode cX7_answer 35 = .ok (.iload_n 3, 1) := by decide +kernel
theorem dX7_answer_36 : decode cX7_answer 36 = .ok (.invokestatic 145, 3) := by decide +kernel
theorem dX7_answer_39 : decode cX7_answer 39 = .ok (.lreturn, 1) := by decide +kernel
set_option maxRecDepth 20000 in
theorem ggX7_value_X7_needEdge : GoodIn wsX7_value wsX7_needEdge := goodIn_ca (goodIn_r _ [7, 8, 9, 10, 11, 12, 13, 14, 15, 16, 17, 18, 19, 20, 21, 22, 6, 23, 29, 30, 31, 32, 33, 34, 35, 36, 37, 38, 39, 40, 41, 42, 43] (by decide +kernel) (by decide +kernel)) (goodIn_sub (fun _ h => List.mem_cons_of_mem _ (List.mem_append_right _ h)) (by decide +kernel))
set_option maxRecDepth 20000 in
theorem gX7_value_X7_needEdge : GoodIn wsX7_value (wsV RX7 136 RX7 yX7_needEdge wsX7_needEdge) := goodIn_app (goodIn_of _ (by decide +kernel)) ggX7_value_X7_needEdge
set_option maxRecDepth 20000 in
theorem ggX7_value_X7_setValue : GoodIn wsX7_value wsX7_setValue := goodIn_r _ [27, 28, 29, 30, 31, 32, 33, 34, 35] (by decide +kernel) (by decide +kernel)
set_option maxRecDepth 20000 in
theorem gX7_value_X7_setValue : GoodIn wsX7_value (wsV RX7 151 RX7 yX7_setValue wsX7_setValue) := goodIn_app (goodIn_of _ (by decide +kernel)) ggX7_value_X7_setValue
theorem dX7_value_0 : decode cX7_value 0 = .ok (.aload_n 0, 1) := by decide +kernel
theorem dX7_value_1 : decode cX7_value 1 = .ok (.iload_n 1, 1) := by decide +kernel
theorem dX7_value_2 : decode cX7_value 2 = .ok (.invokevirtual 136, 3) := by decide +kernel
theorem dX7_value_5 : decode cX7_value 5 = .ok (.iload_n 2, 1) := by decide +kernel
theorem dX7_value_6 : decode cX7_value 6 = .ok (.bipush (-99), 2) := by decide +kernel
theorem dX7_value_8 : decode cX7_value 8 = .ok (.if_icmp .lt 9, 3) := by decide +kernel
theorem dX7_value_11 : decode cX7_value 11 = .ok (.iload_n 2, 1) := by decide +kernel
theorem dX7_value_12 : decode cX7_value 12 = .ok (.bipush 99, 2) := by decide +kernel
theorem dX7_value_14 : decode cX7_value 14 = .ok (.if_icmp .le 13, 3) := by decide +kernel
theorem dX7_value_17 : decode cX7_value 17 = .ok (.new 83, 3) := by decide +kernel
theorem dX7_value_20 : decode cX7_value 20 = .ok (.dup, 1) := by decide +kernel
theorem dX7_value_21 : decode cX7_value 21 = .ok (.ldc 149, 2) := by decide +kernel
theorem dX7_value_23 : decode cX7_value 23 = .ok (.invokespecial 87, 3) := by decide +kernel
theorem dX7_value_26 : decode cX7_value 26 = .ok (.athrow, 1) := by decide +kernel
theorem dX7_value_27 : decode cX7_value 27 = .ok (.aload_n 0, 1) := by decide +kernel
theorem dX7_value_28 : decode cX7_value 28 = .ok (.iload_n 1, 1) := by decide +kernel
theorem dX7_value_29 : decode cX7_value 29 = .ok (.iload_n 2, 1) := by decide +kernel
theorem dX7_value_30 : decode cX7_value 30 = .ok (.invokevirtual 151, 3) := by decide +kernel
theorem dX7_value_33 : decode cX7_value 33 = .ok (.return_, 1) := by decide +kernel
set_option maxRecDepth 20000 in
theorem ggX7_potential_X7_needNode : GoodIn wsX7_potential wsX7_needNode := goodIn_ca (goodIn_r _ [6, 7, 8, 1, 9, 10, 11, 12, 13, 14, 15, 5, 16, 125, 126, 127, 128, 129, 130, 131, 132, 133, 134, 135, 136, 137, 138, 139] (by decide +kernel) (by decide +kernel)) (goodIn_sub (fun _ h => List.mem_cons_of_mem _ (List.mem_append_right _ h)) (by decide +kernel))
set_option maxRecDepth 20000 in
theorem gX7_potential_X7_needNode : GoodIn wsX7_potential (wsV RX7 75 RX7 yX7_needNode wsX7_needNode) := goodIn_app (goodIn_of _ (by decide +kernel)) ggX7_potential_X7_needNode
set_option maxRecDepth 20000 in
theorem ggX7_potential_X4_hasEdge : GoodIn wsX7_potential wsX4_hasEdge := goodIn_r _ [20, 21, 22, 10, 11, 12, 13, 14, 15, 5, 16, 132, 133, 134, 135, 136, 137, 138, 139] (by decide +kernel) (by decide +kernel)
set_option maxRecDepth 20000 in
theorem gX7_potential_X4_hasEdge : GoodIn wsX7_potential (wsV RX7 155 RX4 yX4_hasEdge wsX4_hasEdge) := goodIn_app (goodIn_of _ (by decide +kernel)) ggX7_potential_X4_hasEdge
set_option maxRecDepth 20000 in
theorem ggX7_potential_X7_valueOf : GoodIn wsX7_potential wsX7_valueOf := goodIn_r _ [26, 27, 125, 126, 127, 128, 129, 130, 131] (by decide +kernel) (by decide +kernel)
set_option maxRecDepth 20000 in
theorem gX7_potential_X7_valueOf : GoodIn wsX7_potential (wsV RX7 158 RX7 yX7_valueOf wsX7_valueOf) := goodIn_app (goodIn_of _ (by decide +kernel)) ggX7_potential_X7_valueOf
set_option maxRecDepth 20000 in
theorem ggX7_potential_X7_partOf : GoodIn wsX7_potential wsX7_partOf := goodIn_r _ [30, 31, 32, 33, 34, 35, 36, 5, 37] (by decide +kernel) (by decide +kernel)
set_option maxRecDepth 20000 in
theorem gX7_potential_X7_partOf : GoodIn wsX7_potential (va_wsS RX7 145 yX7_partOf wsX7_partOf) := goodIn_app (goodIn_of _ (by decide +kernel)) ggX7_potential_X7_partOf
set_option maxRecDepth 20000 in
theorem ggX7_potential_X7_upperOfPotential : GoodIn wsX7_potential wsX7_upperOfPotential := goodIn_r _ [41, 1, 42, 43, 17, 18, 19, 12, 20, 21, 22, 10, 11, 13, 14, 15, 5, 16, 23, 24, 25, 26, 27, 44, 45, 46, 47, 48, 49, 50, 51, 52, 53, 54, 55, 56, 57, 58, 59, 60, 61, 62, 63, 64, 65, 66, 67, 68, 69, 70, 71, 72, 73, 74, 75, 76, 77, 78, 79, 80, 81, 82, 83, 84, 85, 86, 87, 88, 89, 90, 91, 92, 93, 94, 95, 96, 97, 98, 99, 100, 101, 102, 103, 104, 105, 106, 107, 108, 109, 110, 111, 112, 113, 114, 115, 125, 126, 127, 128, 129, 130, 131, 132, 133, 134, 135, 136, 137, 138, 139, 140, 141, 142, 143, 144, 145, 146, 147, 148] (by decide +kernel) (by decide +kernel)
set_option maxRecDepth 20000 in
theorem gX7_potential_X7_upperOfPotential : GoodIn wsX7_potential (wsV RX7 162 RX7 yX7_upperOfPotential wsX7_upperOfPotential) := goodIn_app (goodIn_of _ (by decide +kernel)) ggX7_potential_X7_upperOfPotential
set_option maxRecDepth 20000 in
theorem ggX7_potential_X7_countRest : GoodIn wsX7_potential wsX7_countRest := goodIn_r _ [119, 42, 1, 43, 120, 121, 122, 47, 123, 124, 45, 46, 48, 49, 50, 51, 52, 53, 54, 55, 56, 57, 58, 59, 60, 61, 62, 63, 64, 65, 66, 67, 68, 69, 70, 71, 12, 72, 73, 15, 5, 16, 74, 75, 76, 77, 78, 79, 80, 81, 82, 83, 84, 85, 86, 87, 88, 89, 90, 91, 92, 93, 94, 95, 96, 97, 98, 99, 100, 101, 102, 103, 104, 105, 106, 107, 108, 109, 110, 111, 112, 113, 114, 115, 125, 126, 127, 128, 129, 130, 131, 132, 133, 134, 135, 136, 137, 138, 139, 140, 141, 142, 143, 144, 145, 146, 147, 148] (by decide +kernel) (by decide +kernel)
set_option maxRecDepth 20000 in
theorem gX7_potential_X7_countRest : GoodIn wsX7_potential (wsV RX7 133 RX7 yX7_countRest wsX7_countRest) := goodIn_app (goodIn_of _ (by decide +kernel)) ggX7_potential_X7_countRest
theorem dX7_potential_0 : decode cX7_potential 0 = .ok (.aload_n 0, 1) := by decide +kernel
theorem dX7_potential_1 : decode cX7_potential 1 = .ok (.iload_n 1, 1) := by decide +kernel
theorem dX7_potential_2 : decode cX7_potential 2 = .ok (.invokevirtual 75, 3) := by decide +kernel
theorem dX7_potential_5 : decode cX7_potential 5 = .ok (.aload_n 0, 1) := by decide +kernel
theorem dX7_potential_6 : decode cX7_potential 6 = .ok (.getfield 10, 3) := by decide +kernel
theorem dX7_potential_9 : decode cX7_potential 9 = .ok (.iload_n 1, 1) := by decide +kernel
theorem dX7_potential_10 : decode cX7_potential 10 = .ok (.invokevirtual 155, 3) := by decide +kernel
theorem dX7_potential_13 : decode cX7_potential 13 = .ok (.ifCond .eq 14, 3) := by decide +kernel
theorem dX7_potential_16 : decode cX7_potential 16 = .ok (.aload_n 0, 1) := by decide +kernel
theorem dX7_potential_17 : decode cX7_potential 17 = .ok (.iload_n 1, 1) := by decide +kernel
theorem dX7_potential_18 : decode cX7_potential 18 = .ok (.invokevirtual 158, 3) := by decide +kernel
theorem dX7_potential_21 : decode cX7_potential 21 = .ok (.lconst 1, 1) := by decide +kernel
theorem dX7_potential_22 : decode cX7_potential 22 = .ok (.iload_n 2, 1) := by decide +kernel
theorem dX7_potential_23 : decode cX7_potential 23 = .ok (.invokestatic 145, 3) := by decide +kernel
theorem dX7_potential_26 : decode cX7_potential 26 = .ok (.lreturn, 1) := by decide +kernel
theorem dX7_potential_27 : decode cX7_potential 27 = .ok (.aload_n 0, 1) := by decide +kernel
theorem dX7_potential_28 : decode cX7_potential 28 = .ok (.iload_n 1, 1) := by decide +kernel
theorem dX7_potential_29 : decode cX7_potential 29 = .ok (.invokevirtual 162, 3) := by decide +kernel
theorem dX7_potential_32 : decode cX7_potential 32 = .ok (.aload_n 0, 1) := by decide +kernel
theorem dX7_potential_33 : decode cX7_potential 33 = .ok (.invokevirtual 133, 3) := by decide +kernel
theorem dX7_potential_36 : decode cX7_potential 36 = .ok (.iload_n 2, 1) := by decide +kernel
theorem dX7_potential_37 : decode cX7_potential 37 = .ok (.invokestatic 145, 3) := by decide +kernel
theorem dX7_potential_40 : decode cX7_potential 40 = .ok (.lreturn, 1) := by decide +kernel
set_option maxRecDepth 20000 in
theorem ggX7_current_X7_needEdge : GoodIn wsX7_current wsX7_needEdge := goodIn_ca (goodIn_r _ [5, 6, 7, 8, 9, 10, 11, 12, 13, 14, 15, 16, 17, 18, 19, 20, 4, 21, 129, 130, 131, 132, 133, 134, 135, 136, 137, 138, 139, 140, 141, 142, 143] (by decide +kernel) (by decide +kernel)) (goodIn_sub (fun _ h => List.mem_cons_of_mem _ (List.mem_append_right _ h)) (by decide +kernel))
set_option maxRecDepth 20000 in
theorem gX7_current_X7_needEdge : GoodIn wsX7_current (wsV RX7 136 RX7 yX7_needEdge wsX7_needEdge) := goodIn_app (goodIn_of _ (by decide +kernel)) ggX7_current_X7_needEdge
set_option maxRecDepth 20000 in
theorem ggX7_current_X7_upperOfCurrent : GoodIn wsX7_current wsX7_upperOfCurrent := goodIn_r _ [25, 8, 9, 10, 11, 12, 13, 14, 15, 16, 17, 18, 19, 20, 4, 21, 26, 27, 28, 29, 30, 31, 32, 33, 34, 35, 36, 37, 38, 39, 40, 41, 42, 43, 44, 45, 46, 47, 48, 49, 50, 51, 52, 53, 54, 55, 56, 57, 58, 59, 60, 61, 62, 63, 64, 65, 66, 67, 68, 69, 70, 71, 72, 73, 74, 75, 76, 77, 78, 79, 80, 81, 82, 83, 84, 85, 86, 87, 88, 89, 90, 91, 92, 93, 94, 95, 96, 97, 98, 99, 100, 101, 102, 103, 104, 105, 106, 107, 108, 109, 129, 130, 131, 132, 133, 134, 135, 136, 137, 138, 139, 140, 141, 142, 143, 144, 145, 146, 147, 148, 149, 150, 151, 152] (by decide +kernel) (by decide +kernel)
set_option maxRecDepth 20000 in
theorem gX7_current_X7_upperOfCurrent : GoodIn wsX7_current (wsV RX7 165 RX7 yX7_upperOfCurrent wsX7_upperOfCurrent) := goodIn_app (goodIn_of _ (by decide +kernel)) ggX7_current_X7_upperOfCurrent
set_option maxRecDepth 20000 in
theorem ggX7_current_X7_countRest : GoodIn wsX7_current wsX7_countRest := goodIn_r _ [113, 35, 8, 36, 114, 115, 116, 43, 117, 118, 41, 42, 44, 45, 46, 47, 48, 49, 50, 51, 52, 53, 54, 55, 56, 57, 58, 59, 60, 61, 62, 63, 64, 65, 66, 67, 12, 68, 69, 20, 4, 21, 70, 71, 72, 73, 74, 75, 76, 77, 78, 79, 80, 81, 82, 83, 38, 39, 84, 85, 86, 87, 88, 89, 90, 91, 92, 93, 94, 95, 96, 97, 98, 99, 100, 101, 102, 103, 104, 105, 106, 107, 108, 109, 129, 130, 131, 132, 133, 134, 135, 136, 137, 138, 139, 140, 141, 142, 143, 144, 145, 146, 147, 148, 149, 150, 151, 152] (by decide +kernel) (by decide +kernel)
set_option maxRecDepth 20000 in
theorem gX7_current_X7_countRest : GoodIn wsX7_current (wsV RX7 133 RX7 yX7_countRest wsX7_countRest) := goodIn_app (goodIn_of _ (by decide +kernel)) ggX7_current_X7_countRest
set_option maxRecDepth 20000 in
theorem ggX7_current_X7_partOf : GoodIn wsX7_current wsX7_partOf := goodIn_r _ [121, 122, 123, 124, 125, 126, 127, 4, 128] (by decide +kernel) (by decide +kernel)
set_option maxRecDepth 20000 in
theorem gX7_current_X7_partOf : GoodIn wsX7_current (va_wsS RX7 145 yX7_partOf wsX7_partOf) := goodIn_app (goodIn_of _ (by decide +kernel)) ggX7_current_X7_partOf
theorem dX7_current_0 : decode cX7_current 0 = .ok (.aload_n 0, 1) := by decide +kernel
theorem dX7_current_1 : decode cX7_current 1 = .ok (.iload_n 1, 1) := by decide +kernel
theorem dX7_current_2 : decode cX7_current 2 = .ok (.invokevirtual 136, 3) := by decide +kernel
theorem dX7_current_5 : decode cX7_current 5 = .ok (.aload_n 0, 1) := by decide +kernel
theorem dX7_current_6 : decode cX7_current 6 = .ok (.iload_n 1, 1) := by decide +kernel
theorem dX7_current_7 : decode cX7_current 7 = .ok (.invokevirtual 165, 3) := by decide +kernel
theorem dX7_current_10 : decode cX7_current 10 = .ok (.aload_n 0, 1) := by decide +kernel
theorem dX7_current_11 : decode cX7_current 11 = .ok (.invokevirtual 133, 3) := by decide +kernel
theorem dX7_current_14 : decode cX7_current 14 = .ok (.iload_n 2, 1) := by decide +kernel
theorem dX7_current_15 : decode cX7_current 15 = .ok (.invokestatic 145, 3) := by decide +kernel
theorem dX7_current_18 : decode cX7_current 18 = .ok (.lreturn, 1) := by decide +kernel
set_option maxRecDepth 20000 in
theorem ggX7_power_X4_hasEdge : GoodIn wsX7_power wsX4_hasEdge := goodIn_r _ [6, 7, 8, 9, 10, 5, 11, 12, 13, 14, 15, 130, 131, 132, 133, 134, 135, 136, 137] (by decide +kernel) (by decide +kernel)
set_option maxRecDepth 20000 in
theorem gX7_power_X4_hasEdge : GoodIn wsX7_power (wsV RX7 155 RX4 yX4_hasEdge wsX4_hasEdge) := goodIn_app (goodIn_of _ (by decide +kernel)) ggX7_power_X4_hasEdge
set_option maxRecDepth 20000 in
theorem ggX7_power_X7_valueOf : GoodIn wsX7_power wsX7_valueOf := goodIn_r _ [19, 20, 123, 124, 125, 126, 127, 128, 129] (by decide +kernel) (by decide +kernel)
set_option maxRecDepth 20000 in
theorem gX7_power_X7_valueOf : GoodIn wsX7_power (wsV RX7 158 RX7 yX7_valueOf wsX7_valueOf) := goodIn_app (goodIn_of _ (by decide +kernel)) ggX7_power_X7_valueOf
set_option maxRecDepth 20000 in
theorem ggX7_power_X7_upperOfCurrent : GoodIn wsX7_power wsX7_upperOfCurrent := goodIn_r _ [24, 1, 2, 3, 4, 5, 6, 7, 8, 9, 10, 11, 12, 13, 14, 15, 16, 17, 18, 19, 20, 25, 26, 27, 28, 29, 30, 31, 32, 33, 34, 35, 36, 37, 38, 39, 40, 41, 42, 43, 44, 45, 46, 47, 48, 49, 50, 51, 52, 53, 54, 55, 56, 57, 58, 59, 60, 61, 62, 63, 64, 65, 66, 67, 68, 69, 70, 71, 72, 73, 74, 75, 76, 77, 78, 79, 80, 81, 82, 83, 84, 85, 86, 87, 88, 89, 90, 91, 92, 93, 94, 95, 96, 97, 98, 99, 100, 101, 102, 103, 123, 124, 125, 126, 127, 128, 129, 130, 131, 132, 133, 134, 135, 136, 137, 138, 139, 140, 141, 142, 143, 144, 145, 146] (by decide +kernel) (by decide +kernel)
set_option maxRecDepth 20000 in
theorem gX7_power_X7_upperOfCurrent : GoodIn wsX7_power (wsV RX7 165 RX7 yX7_upperOfCurrent wsX7_upperOfCurrent) := goodIn_app (goodIn_of _ (by decide +kernel)) ggX7_power_X7_upperOfCurrent
set_option maxRecDepth 20000 in
theorem ggX7_power_X7_countRest : GoodIn wsX7_power wsX7_countRest := goodIn_r _ [107, 29, 1, 30, 108, 109, 110, 37, 111, 112, 35, 36, 38, 39, 40, 41, 42, 43, 44, 45, 46, 47, 48, 49, 50, 51, 52, 53, 54, 55, 56, 57, 58, 59, 60, 61, 5, 62, 63, 13, 14, 15, 64, 65, 66, 67, 68, 69, 70, 71, 72, 73, 74, 75, 76, 77, 32, 33, 78, 79, 80, 81, 82, 83, 84, 85, 86, 87, 88, 89, 90, 91, 92, 93, 94, 95, 96, 97, 98, 99, 100, 101, 102, 103, 123, 124, 125, 126, 127, 128, 129, 130, 131, 132, 133, 134, 135, 136, 137, 138, 139, 140, 141, 142, 143, 144, 145, 146] (by decide +kernel) (by decide +kernel)
set_option maxRecDepth 20000 in
theorem gX7_power_X7_countRest : GoodIn wsX7_power (wsV RX7 133 RX7 yX7_countRest wsX7_countRest) := goodIn_app (goodIn_of _ (by decide +kernel)) ggX7_power_X7_countRest
set_option maxRecDepth 20000 in
theorem ggX7_power_X7_partOf : GoodIn wsX7_power wsX7_partOf := goodIn_r _ [115, 116, 117, 118, 119, 120, 121, 14, 122] (by decide +kernel) (by decide +kernel)
set_option maxRecDepth 20000 in
theorem gX7_power_X7_partOf : GoodIn wsX7_power (va_wsS RX7 145 yX7_partOf wsX7_partOf) := goodIn_app (goodIn_of _ (by decide +kernel)) ggX7_power_X7_partOf
theorem dX7_power_0 : decode cX7_power 0 = .ok (.lconst 0, 1) := by decide +kernel
theorem dX7_power_1 : decode cX7_power 1 = .ok (.lstore_n 2, 1) := by decide +kernel
theorem dX7_power_2 : decode cX7_power 2 = .ok (.iconst 0, 1) := by decide +kernel
theorem dX7_power_3 : decode cX7_power 3 = .ok (.istore 4, 2) := by decide +kernel
theorem dX7_power_5 : decode cX7_power 5 = .ok (.iload 4, 2) := by decide +kernel
theorem dX7_power_7 : decode cX7_power 7 = .ok (.bipush 7, 2) := by decide +kernel
theorem dX7_power_9 : decode cX7_power 9 = .ok (.if_icmp .ge 37, 3) := by decide +kernel
theorem dX7_power_12 : decode cX7_power 12 = .ok (.aload_n 0, 1) := by decide +kernel
theorem dX7_power_13 : decode cX7_power 13 = .ok (.getfield 10, 3) := by decide +kernel
theorem dX7_power_16 : decode cX7_power 16 = .ok (.iload 4, 2) := by decide +kernel
theorem dX7_power_18 : decode cX7_power 18 = .ok (.invokevirtual 155, 3) := by decide +kernel
theorem dX7_power_21 : decode cX7_power 21 = .ok (.ifCond .eq 19, 3) := by decide +kernel
theorem dX7_power_24 : decode cX7_power 24 = .ok (.lload_n 2, 1) := by decide +kernel
theorem dX7_power_25 : decode cX7_power 25 = .ok (.aload_n 0, 1) := by decide +kernel
theorem dX7_power_26 : decode cX7_power 26 = .ok (.iload 4, 2) := by decide +kernel
theorem dX7_power_28 : decode cX7_power 28 = .ok (.invokevirtual 158, 3) := by decide +kernel
theorem dX7_power_31 : decode cX7_power 31 = .ok (.aload_n 0, 1) := by decide +kernel
theorem dX7_power_32 : decode cX7_power 32 = .ok (.iload 4, 2) := by decide +kernel
theorem dX7_power_34 : decode cX7_power 34 = .ok (.invokevirtual 165, 3) := by decide +kernel
theorem dX7_power_37 : decode cX7_power 37 = .ok (.lmul, 1) := by decide +kernel
theorem dX7_power_38 : decode cX7_power 38 = .ok (.ladd, 1) := by decide +kernel
theorem dX7_power_39 : decode cX7_power 39 = .ok (.lstore_n 2, 1) := by decide +kernel
theorem dX7_power_40 : decode cX7_power 40 = .ok (.iinc 4 1, 3) := by decide +kernel
theorem dX7_power_43 : decode cX7_power 43 = .ok (.goto (-38), 3) := by decide +kernel
theorem dX7_power_46 : decode cX7_power 46 = .ok (.lload_n 2, 1) := by decide +kernel
theorem dX7_power_47 : decode cX7_power 47 = .ok (.aload_n 0, 1) := by decide +kernel
theorem dX7_power_48 : decode cX7_power 48 = .ok (.invokevirtual 133, 3) := by decide +kernel
theorem dX7_power_51 : decode cX7_power 51 = .ok (.iload_n 1, 1) := by decide +kernel
theorem dX7_power_52 : decode cX7_power 52 = .ok (.invokestatic 145, 3) := by decide +kernel
theorem dX7_power_55 : decode cX7_power 55 = .ok (.lreturn, 1) := by decide +kernel
set_option maxRecDepth 20000 in
theorem ggX7_distance_X7_needNode : GoodIn wsX7_distance wsX7_needNode := goodIn_ca (goodIn_r _ [6, 7, 8, 9, 10, 11, 12, 13, 14, 15, 16, 5, 17, 114, 115, 116, 117, 118, 119, 120, 121, 122, 123, 124, 125, 126, 127, 128] (by decide +kernel) (by decide +kernel)) (goodIn_sub (fun _ h => List.mem_cons_of_mem _ (List.mem_append_right _ h)) (by decide +kernel))
set_option maxRecDepth 20000 in
theorem gX7_distance_X7_needNode : GoodIn wsX7_distance (wsV RX7 75 RX7 yX7_needNode wsX7_needNode) := goodIn_app (goodIn_of _ (by decide +kernel)) ggX7_distance_X7_needNode
set_option maxRecDepth 20000 in
theorem ggX7_distance_X7_partOf : GoodIn wsX7_distance wsX7_partOf := goodIn_r _ [20, 21, 22, 23, 24, 25, 26, 5, 27] (by decide +kernel) (by decide +kernel)
set_option maxRecDepth 20000 in
theorem gX7_distance_X7_partOf : GoodIn wsX7_distance (va_wsS RX7 145 yX7_partOf wsX7_partOf) := goodIn_app (goodIn_of _ (by decide +kernel)) ggX7_distance_X7_partOf
set_option maxRecDepth 20000 in
theorem ggX7_distance_X7_setOf : GoodIn wsX7_distance wsX7_setOf := goodIn_r _ [30] (by decide +kernel) (by decide +kernel)
set_option maxRecDepth 20000 in
theorem gX7_distance_X7_setOf : GoodIn wsX7_distance (va_wsS RX7 168 yX7_setOf wsX7_setOf) := goodIn_app (goodIn_of _ (by decide +kernel)) ggX7_distance_X7_setOf
set_option maxRecDepth 20000 in
theorem ggX7_distance_X0_count : GoodIn wsX7_distance wsX0_count := goodIn_r _ [35, 36, 37, 38, 34, 39, 40, 41, 42, 43, 44, 45, 46, 47, 48, 49, 50, 51, 52, 53, 54, 55, 56, 57, 58, 59, 60, 61, 62, 13, 63, 64, 16, 5, 17, 65, 66, 67, 68, 69, 70, 71, 72, 73, 74, 75, 76, 77, 78, 29, 30, 79, 80, 81, 82, 83, 84, 85, 86, 87, 88, 89, 90, 91, 92, 93, 94, 95, 96, 97, 98, 99, 100, 101, 102, 103, 104, 129, 130, 131, 132, 133, 134, 135, 136, 137, 121, 122, 123, 124, 125, 126, 127, 128] (by decide +kernel) (by decide +kernel)
set_option maxRecDepth 20000 in
theorem gX7_distance_X0_count : GoodIn wsX7_distance (wsV RX7 171 RX0 yX0_count wsX0_count) := goodIn_app (goodIn_of _ (by decide +kernel)) ggX7_distance_X0_count
set_option maxRecDepth 20000 in
theorem ggX7_distance_X7_countTrees : GoodIn wsX7_distance wsX7_countTrees := goodIn_r _ [108, 9, 1, 109, 110, 111, 13, 112, 113, 11, 12, 14, 15, 16, 5, 17, 28, 29, 30, 31, 32, 33, 34, 35, 36, 37, 38, 39, 40, 41, 42, 43, 44, 45, 46, 47, 48, 49, 50, 51, 52, 53, 54, 55, 56, 57, 58, 59, 60, 61, 62, 63, 64, 65, 66, 67, 68, 69, 70, 71, 72, 73, 74, 75, 76, 77, 78, 79, 80, 81, 82, 83, 84, 85, 86, 87, 88, 89, 90, 91, 92, 93, 94, 95, 96, 97, 98, 99, 100, 101, 102, 103, 104, 114, 115, 116, 117, 118, 119, 120, 121, 122, 123, 124, 125, 126, 127, 128, 129, 130, 131, 132, 133, 134, 135, 136, 137] (by decide +kernel) (by decide +kernel)
set_option maxRecDepth 20000 in
theorem gX7_distance_X7_countTrees : GoodIn wsX7_distance (wsV RX7 121 RX7 yX7_countTrees wsX7_countTrees) := goodIn_app (goodIn_of _ (by decide +kernel)) ggX7_distance_X7_countTrees
theorem dX7_distance_0 : decode cX7_distance 0 = .ok (.aload_n 0, 1) := by decide +kernel
theorem dX7_distance_1 : decode cX7_distance 1 = .ok (.iload_n 1, 1) := by decide +kernel
theorem dX7_distance_2 : decode cX7_distance 2 = .ok (.invokevirtual 75, 3) := by decide +kernel
theorem dX7_distance_5 : decode cX7_distance 5 = .ok (.aload_n 0, 1) := by decide +kernel
theorem dX7_distance_6 : decode cX7_distance 6 = .ok (.iload_n 2, 1) := by decide +kernel
theorem dX7_distance_7 : decode cX7_distance 7 = .ok (.invokevirtual 75, 3) := by decide +kernel
theorem dX7_distance_10 : decode cX7_distance 10 = .ok (.iload_n 1, 1) := by decide +kernel
theorem dX7_distance_11 : decode cX7_distance 11 = .ok (.iload_n 2, 1) := by decide +kernel
theorem dX7_distance_12 : decode cX7_distance 12 = .ok (.if_icmp .ne 10, 3) := by decide +kernel
theorem dX7_distance_15 : decode cX7_distance 15 = .ok (.lconst 0, 1) := by decide +kernel
theorem dX7_distance_16 : decode cX7_distance 16 = .ok (.lconst 1, 1) := by decide +kernel
theorem dX7_distance_17 : decode cX7_distance 17 = .ok (.iload_n 3, 1) := by decide +kernel
theorem dX7_distance_18 : decode cX7_distance 18 = .ok (.invokestatic 145, 3) := by decide +kernel
theorem dX7_distance_21 : decode cX7_distance 21 = .ok (.lreturn, 1) := by decide +kernel
theorem dX7_distance_22 : decode cX7_distance 22 = .ok (.aload_n 0, 1) := by decide +kernel
theorem dX7_distance_23 : decode cX7_distance 23 = .ok (.getfield 21, 3) := by decide +kernel
theorem dX7_distance_26 : decode cX7_distance 26 = .ok (.iload_n 1, 1) := by decide +kernel
theorem dX7_distance_27 : decode cX7_distance 27 = .ok (.invokestatic 168, 3) := by decide +kernel
theorem dX7_distance_30 : decode cX7_distance 30 = .ok (.iload_n 2, 1) := by decide +kernel
theorem dX7_distance_31 : decode cX7_distance 31 = .ok (.invokestatic 168, 3) := by decide +kernel
theorem dX7_distance_34 : decode cX7_distance 34 = .ok (.ior, 1) := by decide +kernel
theorem dX7_distance_35 : decode cX7_distance 35 = .ok (.invokevirtual 171, 3) := by decide +kernel
theorem dX7_distance_38 : decode cX7_distance 38 = .ok (.aload_n 0, 1) := by decide +kernel
theorem dX7_distance_39 : decode cX7_distance 39 = .ok (.invokevirtual 121, 3) := by decide +kernel
theorem dX7_distance_42 : decode cX7_distance 42 = .ok (.iload_n 3, 1) := by decide +kernel
theorem dX7_distance_43 : decode cX7_distance 43 = .ok (.invokestatic 145, 3) := by decide +kernel
theorem dX7_distance_46 : decode cX7_distance 46 = .ok (.lreturn, 1) := by decide +kernel
set_option maxRecDepth 20000 in
theorem ggX7_chance_X7_needNode : GoodIn wsX7_chance wsX7_needNode := goodIn_ca (goodIn_r _ [8, 9, 10, 11, 12, 13, 14, 15, 16, 17, 18, 7, 19, 108, 109, 110, 111, 112, 113, 114, 115, 116, 117, 118, 119, 120, 121, 122] (by decide +kernel) (by decide +kernel)) (goodIn_sub (fun _ h => List.mem_cons_of_mem _ (List.mem_append_right _ h)) (by decide +kernel))
set_option maxRecDepth 20000 in
theorem gX7_chance_X7_needNode : GoodIn wsX7_chance (wsV RX7 75 RX7 yX7_needNode wsX7_needNode) := goodIn_app (goodIn_of _ (by decide +kernel)) ggX7_chance_X7_needNode
set_option maxRecDepth 20000 in
theorem ggX7_chance_X7_setOf : GoodIn wsX7_chance wsX7_setOf := goodIn_r _ [22] (by decide +kernel) (by decide +kernel)
set_option maxRecDepth 20000 in
theorem gX7_chance_X7_setOf : GoodIn wsX7_chance (va_wsS RX7 168 yX7_setOf wsX7_setOf) := goodIn_app (goodIn_of _ (by decide +kernel)) ggX7_chance_X7_setOf
set_option maxRecDepth 20000 in
theorem ggX7_chance_X0_countWith : GoodIn wsX7_chance wsX0_countWith := goodIn_r _ [27, 28, 29, 30, 31, 32, 33, 26, 34, 35, 36, 37, 38, 39, 40, 41, 42, 43, 44, 45, 46, 47, 48, 49, 50, 15, 51, 52, 18, 7, 19, 53, 54, 55, 56, 57, 58, 59, 60, 61, 62, 63, 64, 65, 66, 21, 22, 67, 68, 69, 70, 71, 72, 73, 74, 75, 76, 77, 78, 79, 80, 81, 82, 83, 84, 85, 86, 87, 88, 89, 90, 91, 92, 123, 124, 125, 126, 127, 128, 129, 130, 131, 115, 116, 117, 118, 119, 120, 121, 122] (by decide +kernel) (by decide +kernel)
set_option maxRecDepth 20000 in
theorem gX7_chance_X0_countWith : GoodIn wsX7_chance (wsV RX7 176 RX0 yX0_countWith wsX0_countWith) := goodIn_app (goodIn_of _ (by decide +kernel)) ggX7_chance_X0_countWith
set_option maxRecDepth 20000 in
theorem ggX7_chance_X0_count : GoodIn wsX7_chance wsX0_count := goodIn_r _ [96, 97, 24, 25, 26, 27, 28, 29, 30, 31, 32, 33, 34, 35, 36, 37, 38, 39, 40, 41, 42, 43, 44, 45, 46, 47, 48, 49, 50, 15, 51, 52, 18, 7, 19, 53, 54, 55, 56, 57, 58, 59, 60, 61, 62, 63, 64, 65, 66, 21, 22, 67, 68, 69, 70, 71, 72, 73, 74, 75, 76, 77, 78, 79, 80, 81, 82, 83, 84, 85, 86, 87, 88, 89, 90, 91, 92, 123, 124, 125, 126, 127, 128, 129, 130, 131, 115, 116, 117, 118, 119, 120, 121, 122] (by decide +kernel) (by decide +kernel)
set_option maxRecDepth 20000 in
theorem gX7_chance_X0_count : GoodIn wsX7_chance (wsV RX7 171 RX0 yX0_count wsX0_count) := goodIn_app (goodIn_of _ (by decide +kernel)) ggX7_chance_X0_count
set_option maxRecDepth 20000 in
theorem ggX7_chance_X7_partOf : GoodIn wsX7_chance wsX7_partOf := goodIn_r _ [100, 101, 102, 103, 104, 105, 106, 7, 107] (by decide +kernel) (by decide +kernel)
set_option maxRecDepth 20000 in
theorem gX7_chance_X7_partOf : GoodIn wsX7_chance (va_wsS RX7 145 yX7_partOf wsX7_partOf) := goodIn_app (goodIn_of _ (by decide +kernel)) ggX7_chance_X7_partOf
theorem dX7_chance_0 : decode cX7_chance 0 = .ok (.aload_n 0, 1) := by decide +kernel
theorem dX7_chance_1 : decode cX7_chance 1 = .ok (.iload_n 1, 1) := by decide +kernel
theorem dX7_chance_2 : decode cX7_chance 2 = .ok (.invokevirtual 75, 3) := by decide +kernel
theorem dX7_chance_5 : decode cX7_chance 5 = .ok (.aload_n 0, 1) := by decide +kernel
theorem dX7_chance_6 : decode cX7_chance 6 = .ok (.iload_n 2, 1) := by decide +kernel
theorem dX7_chance_7 : decode cX7_chance 7 = .ok (.invokevirtual 75, 3) := by decide +kernel
theorem dX7_chance_10 : decode cX7_chance 10 = .ok (.aload_n 0, 1) := by decide +kernel
theorem dX7_chance_11 : decode cX7_chance 11 = .ok (.iload_n 3, 1) := by decide +kernel
theorem dX7_chance_12 : decode cX7_chance 12 = .ok (.invokevirtual 75, 3) := by decide +kernel
theorem dX7_chance_15 : decode cX7_chance 15 = .ok (.iload_n 2, 1) := by decide +kernel
theorem dX7_chance_16 : decode cX7_chance 16 = .ok (.iload_n 3, 1) := by decide +kernel
theorem dX7_chance_17 : decode cX7_chance 17 = .ok (.if_icmp .ne 13, 3) := by decide +kernel
theorem dX7_chance_20 : decode cX7_chance 20 = .ok (.new 83, 3) := by decide +kernel
theorem dX7_chance_23 : decode cX7_chance 23 = .ok (.dup, 1) := by decide +kernel
theorem dX7_chance_24 : decode cX7_chance 24 = .ok (.ldc 174, 2) := by decide +kernel
theorem dX7_chance_26 : decode cX7_chance 26 = .ok (.invokespecial 87, 3) := by decide +kernel
theorem dX7_chance_29 : decode cX7_chance 29 = .ok (.athrow, 1) := by decide +kernel
theorem dX7_chance_30 : decode cX7_chance 30 = .ok (.iload_n 2, 1) := by decide +kernel
theorem dX7_chance_31 : decode cX7_chance 31 = .ok (.invokestatic 168, 3) := by decide +kernel
theorem dX7_chance_34 : decode cX7_chance 34 = .ok (.iload_n 3, 1) := by decide +kernel
theorem dX7_chance_35 : decode cX7_chance 35 = .ok (.invokestatic 168, 3) := by decide +kernel
theorem dX7_chance_38 : decode cX7_chance 38 = .ok (.ior, 1) := by decide +kernel
theorem dX7_chance_39 : decode cX7_chance 39 = .ok (.istore 5, 2) := by decide +kernel
theorem dX7_chance_41 : decode cX7_chance 41 = .ok (.aload_n 0, 1) := by decide +kernel
theorem dX7_chance_42 : decode cX7_chance 42 = .ok (.getfield 21, 3) := by decide +kernel
theorem dX7_chance_45 : decode cX7_chance 45 = .ok (.iload 5, 2) := by decide +kernel
theorem dX7_chance_47 : decode cX7_chance 47 = .ok (.iload_n 1, 1) := by decide +kernel
theorem dX7_chance_48 : decode cX7_chance 48 = .ok (.iload_n 2, 1) := by decide +kernel
theorem dX7_chance_49 : decode cX7_chance 49 = .ok (.invokevirtual 176, 3) := by decide +kernel
theorem dX7_chance_52 : decode cX7_chance 52 = .ok (.aload_n 0, 1) := by decide +kernel
theorem dX7_chance_53 : decode cX7_chance 53 = .ok (.getfield 21, 3) := by decide +kernel
theorem dX7_chance_56 : decode cX7_chance 56 = .ok (.iload 5, 2) := by decide +kernel
theorem dX7_chance_58 : decode cX7_chance 58 = .ok (.invokevirtual 171, 3) := by decide +kernel
theorem dX7_chance_61 : decode cX7_chance 61 = .ok (.iload 4, 2) := by decide +kernel
theorem dX7_chance_63 : decode cX7_chance 63 = .ok (.invokestatic 145, 3) := by decide +kernel
theorem dX7_chance_66 : decode cX7_chance 66 = .ok (.lreturn, 1) := by decide +kernel
set_option maxRecDepth 20000 in
theorem ggX7_erased_X6_hasStrangeNode : GoodIn wsX7_erased wsX6_hasStrangeNode := goodIn_r _ [10, 11, 12, 13, 14, 15, 16, 17, 18, 19, 20, 68, 69, 70, 71, 72, 73, 74, 75, 76, 77] (by decide +kernel) (by decide +kernel)
set_option maxRecDepth 20000 in
theorem gX7_erased_X6_hasStrangeNode : GoodIn wsX7_erased (wsV RX7 180 RX6 yX6_hasStrangeNode wsX6_hasStrangeNode) := goodIn_app (goodIn_of _ (by decide +kernel)) ggX7_erased_X6_hasStrangeNode
set_option maxRecDepth 20000 in
theorem ggX7_erased_X6_isWritten : GoodIn wsX7_erased wsX6_isWritten := goodIn_r _ [24, 25, 26, 27, 9, 28] (by decide +kernel) (by decide +kernel)
set_option maxRecDepth 20000 in
theorem gX7_erased_X6_isWritten : GoodIn wsX7_erased (wsV RX7 188 RX6 yX6_isWritten wsX6_isWritten) := goodIn_app (goodIn_of _ (by decide +kernel)) ggX7_erased_X6_isWritten
set_option maxRecDepth 20000 in
theorem ggX7_erased_X6_withoutLoops : GoodIn wsX7_erased wsX6_withoutLoops := goodIn_r _ [32, 11, 33, 34, 35, 36, 9, 37, 38, 39, 40, 15, 41, 42, 43, 44, 45, 46, 47, 48, 18, 19, 20, 49, 50, 51, 52, 53, 54, 55, 56, 57, 58, 59, 60, 68, 69, 70, 71, 72, 73, 74, 75, 76, 77] (by decide +kernel) (by decide +kernel)
set_option maxRecDepth 20000 in
theorem gX7_erased_X6_withoutLoops : GoodIn wsX7_erased (wsV RX7 193 RX6 yX6_withoutLoops wsX6_withoutLoops) := goodIn_app (goodIn_of _ (by decide +kernel)) ggX7_erased_X6_withoutLoops
theorem dX7_erased_0 : decode cX7_erased 0 = .ok (.aload_n 0, 1) := by decide +kernel
theorem dX7_erased_1 : decode cX7_erased 1 = .ok (.getfield 35, 3) := by decide +kernel
theorem dX7_erased_4 : decode cX7_erased 4 = .ok (.iload_n 1, 1) := by decide +kernel
theorem dX7_erased_5 : decode cX7_erased 5 = .ok (.invokevirtual 180, 3) := by decide +kernel
theorem dX7_erased_8 : decode cX7_erased 8 = .ok (.ifCond .eq 13, 3) := by decide +kernel
theorem dX7_erased_11 : decode cX7_erased 11 = .ok (.new 183, 3) := by decide +kernel
theorem dX7_erased_14 : decode cX7_erased 14 = .ok (.dup, 1) := by decide +kernel
theorem dX7_erased_15 : decode cX7_erased 15 = .ok (.ldc 185, 2) := by decide +kernel
theorem dX7_erased_17 : decode cX7_erased 17 = .ok (.invokespecial 187, 3) := by decide +kernel
theorem dX7_erased_20 : decode cX7_erased 20 = .ok (.athrow, 1) := by decide +kernel
theorem dX7_erased_21 : decode cX7_erased 21 = .ok (.aload_n 0, 1) := by decide +kernel
theorem dX7_erased_22 : decode cX7_erased 22 = .ok (.getfield 35, 3) := by decide +kernel
theorem dX7_erased_25 : decode cX7_erased 25 = .ok (.iload_n 1, 1) := by decide +kernel
theorem dX7_erased_26 : decode cX7_erased 26 = .ok (.invokevirtual 188, 3) := by decide +kernel
theorem dX7_erased_29 : decode cX7_erased 29 = .ok (.ifCond .ne 13, 3) := by decide +kernel
theorem dX7_erased_32 : decode cX7_erased 32 = .ok (.new 83, 3) := by decide +kernel
theorem dX7_erased_35 : decode cX7_erased 35 = .ok (.dup, 1) := by decide +kernel
theorem dX7_erased_36 : decode cX7_erased 36 = .ok (.ldc 191, 2) := by decide +kernel
theorem dX7_erased_38 : decode cX7_erased 38 = .ok (.invokespecial 87, 3) := by decide +kernel
theorem dX7_erased_41 : decode cX7_erased 41 = .ok (.athrow, 1) := by decide +kernel
theorem dX7_erased_42 : decode cX7_erased 42 = .ok (.aload_n 0, 1) := by decide +kernel
theorem dX7_erased_43 : decode cX7_erased 43 = .ok (.getfield 35, 3) := by decide +kernel
theorem dX7_erased_46 : decode cX7_erased 46 = .ok (.iload_n 1, 1) := by decide +kernel
theorem dX7_erased_47 : decode cX7_erased 47 = .ok (.invokevirtual 193, 3) := by decide +kernel
theorem dX7_erased_50 : decode cX7_erased 50 = .ok (.ireturn, 1) := by decide +kernel
set_option maxRecDepth 20000 in
theorem ggX7_starred_X7_needEdge : GoodIn wsX7_starred wsX7_needEdge := goodIn_ca (goodIn_r _ [7, 8, 9, 1, 10, 11, 12, 13, 14, 15, 16, 17, 18, 19, 20, 21, 6, 22, 129, 130, 131, 132, 133, 134, 135, 136, 137, 138, 139, 140, 141, 142, 143] (by decide +kernel) (by decide +kernel)) (goodIn_sub (fun _ h => List.mem_cons_of_mem _ (List.mem_append_right _ h)) (by decide +kernel))
set_option maxRecDepth 20000 in
theorem gX7_starred_X7_needEdge : GoodIn wsX7_starred (wsV RX7 136 RX7 yX7_needEdge wsX7_needEdge) := goodIn_app (goodIn_of _ (by decide +kernel)) ggX7_starred_X7_needEdge
set_option maxRecDepth 20000 in
theorem ggX7_starred_J6_bitCount_0f7a4 : GoodIn wsX7_starred wsJ6_bitCount_0f7a4 := goodIn_r _ [26, 27, 28, 29] (by decide +kernel) (by decide +kernel)
set_option maxRecDepth 20000 in
theorem gX7_starred_J6_bitCount_0f7a4 : GoodIn wsX7_starred (va_wsS RX7 92 yJ6_bitCount_0f7a4 wsJ6_bitCount_0f7a4) := goodIn_app (goodIn_of _ (by decide +kernel)) ggX7_starred_J6_bitCount_0f7a4
set_option maxRecDepth 20000 in
theorem ggX7_starred_X4_hasEdge : GoodIn wsX7_starred wsX4_hasEdge := goodIn_r _ [14, 15, 16, 17, 18, 13, 19, 20, 21, 6, 22, 136, 137, 138, 139, 140, 141, 142, 143] (by decide +kernel) (by decide +kernel)
set_option maxRecDepth 20000 in
theorem gX7_starred_X4_hasEdge : GoodIn wsX7_starred (wsV RX7 155 RX4 yX4_hasEdge wsX4_hasEdge) := goodIn_app (goodIn_of _ (by decide +kernel)) ggX7_starred_X4_hasEdge
set_option maxRecDepth 20000 in
theorem ggX7_starred_X7_upperOfOppositeAnswer : GoodIn wsX7_starred wsX7_upperOfOppositeAnswer := goodIn_r _ [33, 1, 10, 11, 12, 13, 14, 15, 16, 17, 18, 19, 20, 21, 6, 22, 34, 35, 36, 37, 38, 2, 39, 40, 41, 42, 43, 44, 45, 46, 47, 48, 49, 50, 51, 52, 53, 54, 55, 56, 57, 58, 59, 60, 24, 25, 26, 27, 28, 29, 61, 62, 63, 64, 65, 66, 67, 68, 69, 70, 71, 72, 73, 74, 75, 76, 77, 78, 79, 80, 81, 82, 83, 84, 85, 86, 87, 88, 89, 90, 91, 92, 93, 94, 95, 96, 97, 98, 99, 100, 101, 102, 103, 104, 105, 129, 130, 131, 132, 133, 134, 135, 136, 137, 138, 139, 140, 141, 142, 143, 144, 145, 146, 147, 148, 149, 150, 151, 152] (by decide +kernel) (by decide +kernel)
set_option maxRecDepth 20000 in
theorem gX7_starred_X7_upperOfOppositeAnswer : GoodIn wsX7_starred (wsV RX7 199 RX7 yX7_upperOfOppositeAnswer wsX7_upperOfOppositeAnswer) := goodIn_app (goodIn_of _ (by decide +kernel)) ggX7_starred_X7_upperOfOppositeAnswer
set_option maxRecDepth 20000 in
theorem ggX7_starred_X7_countTrees : GoodIn wsX7_starred wsX7_countTrees := goodIn_r _ [109, 1, 38, 110, 111, 112, 13, 113, 16, 17, 18, 19, 20, 21, 6, 22, 39, 40, 41, 114, 115, 116, 45, 117, 118, 43, 44, 46, 47, 48, 49, 50, 51, 52, 53, 54, 55, 56, 57, 58, 59, 60, 24, 25, 26, 27, 28, 29, 61, 62, 63, 64, 65, 66, 67, 68, 69, 70, 71, 72, 73, 74, 75, 76, 77, 78, 79, 80, 81, 82, 83, 84, 85, 86, 87, 88, 89, 90, 91, 92, 93, 94, 95, 96, 97, 98, 99, 100, 101, 102, 103, 104, 105, 129, 130, 131, 132, 133, 134, 135, 136, 137, 138, 139, 140, 141, 142, 143, 144, 145, 146, 147, 148, 149, 150, 151, 152] (by decide +kernel) (by decide +kernel)
set_option maxRecDepth 20000 in
theorem gX7_starred_X7_countTrees : GoodIn wsX7_starred (wsV RX7 121 RX7 yX7_countTrees wsX7_countTrees) := goodIn_app (goodIn_of _ (by decide +kernel)) ggX7_starred_X7_countTrees
set_option maxRecDepth 20000 in
theorem ggX7_starred_X7_partOf : GoodIn wsX7_starred wsX7_partOf := goodIn_r _ [121, 122, 123, 124, 125, 126, 127, 6, 128] (by decide +kernel) (by decide +kernel)
set_option maxRecDepth 20000 in
theorem gX7_starred_X7_partOf : GoodIn wsX7_starred (va_wsS RX7 145 yX7_partOf wsX7_partOf) := goodIn_app (goodIn_of _ (by decide +kernel)) ggX7_starred_X7_partOf
theorem dX7_starred_0 : decode cX7_starred 0 = .ok (.aload_n 0, 1) := by decide +kernel
theorem dX7_starred_1 : decode cX7_starred 1 = .ok (.iload_n 1, 1) := by decide +kernel
theorem dX7_starred_2 : decode cX7_starred 2 = .ok (.invokevirtual 136, 3) := by decide +kernel
theorem dX7_starred_5 : decode cX7_starred 5 = .ok (.aload_n 0, 1) := by decide +kernel
theorem dX7_starred_6 : decode cX7_starred 6 = .ok (.getfield 10, 3) := by decide +kernel
theorem dX7_starred_9 : decode cX7_starred 9 = .ok (.getfield 196, 3) := by decide +kernel
theorem dX7_starred_12 : decode cX7_starred 12 = .ok (.invokestatic 92, 3) := by decide +kernel
theorem dX7_starred_15 : decode cX7_starred 15 = .ok (.iconst 3, 1) := by decide +kernel
theorem dX7_starred_16 : decode cX7_starred 16 = .ok (.if_icmp .eq 5, 3) := by decide +kernel
theorem dX7_starred_19 : decode cX7_starred 19 = .ok (.lconst 0, 1) := by decide +kernel
theorem dX7_starred_20 : decode cX7_starred 20 = .ok (.lreturn, 1) := by decide +kernel
theorem dX7_starred_21 : decode cX7_starred 21 = .ok (.iconst 0, 1) := by decide +kernel
theorem dX7_starred_22 : decode cX7_starred 22 = .ok (.istore_n 3, 1) := by decide +kernel
theorem dX7_starred_23 : decode cX7_starred 23 = .ok (.iload_n 3, 1) := by decide +kernel
theorem dX7_starred_24 : decode cX7_starred 24 = .ok (.bipush 7, 2) := by decide +kernel
theorem dX7_starred_26 : decode cX7_starred 26 = .ok (.if_icmp .ge 32, 3) := by decide +kernel
theorem dX7_starred_29 : decode cX7_starred 29 = .ok (.aload_n 0, 1) := by decide +kernel
theorem dX7_starred_30 : decode cX7_starred 30 = .ok (.getfield 10, 3) := by decide +kernel
theorem dX7_starred_33 : decode cX7_starred 33 = .ok (.iload_n 3, 1) := by decide +kernel
theorem dX7_starred_34 : decode cX7_starred 34 = .ok (.invokevirtual 155, 3) := by decide +kernel
theorem dX7_starred_37 : decode cX7_starred 37 = .ok (.ifCond .eq 15, 3) := by decide +kernel
theorem dX7_starred_40 : decode cX7_starred 40 = .ok (.aload_n 0, 1) := by decide +kernel
theorem dX7_starred_41 : decode cX7_starred 41 = .ok (.iload_n 3, 1) := by decide +kernel
theorem dX7_starred_42 : decode cX7_starred 42 = .ok (.invokevirtual 199, 3) := by decide +kernel
theorem dX7_starred_45 : decode cX7_starred 45 = .ok (.lconst 0, 1) := by decide +kernel
theorem dX7_starred_46 : decode cX7_starred 46 = .ok (.lcmp, 1) := by decide +kernel
theorem dX7_starred_47 : decode cX7_starred 47 = .ok (.ifCond .ne 5, 3) := by decide +kernel
theorem dX7_starred_50 : decode cX7_starred 50 = .ok (.lconst 0, 1) := by decide +kernel
theorem dX7_starred_51 : decode cX7_starred 51 = .ok (.lreturn, 1) := by decide +kernel
theorem dX7_starred_52 : decode cX7_starred 52 = .ok (.iinc 3 1, 3) := by decide +kernel
theorem dX7_starred_55 : decode cX7_starred 55 = .ok (.goto (-32), 3) := by decide +kernel
theorem dX7_starred_58 : decode cX7_starred 58 = .ok (.aload_n 0, 1) := by decide +kernel
theorem dX7_starred_59 : decode cX7_starred 59 = .ok (.invokevirtual 121, 3) := by decide +kernel
theorem dX7_starred_62 : decode cX7_starred 62 = .ok (.aload_n 0, 1) := by decide +kernel
theorem dX7_starred_63 : decode cX7_starred 63 = .ok (.iload_n 1, 1) := by decide +kernel
theorem dX7_starred_64 : decode cX7_starred 64 = .ok (.invokevirtual 199, 3) := by decide +kernel
theorem dX7_starred_67 : decode cX7_starred 67 = .ok (.iload_n 2, 1) := by decide +kernel
theorem dX7_starred_68 : decode cX7_starred 68 = .ok (.invokestatic 145, 3) := by decide +kernel
theorem dX7_starred_71 : decode cX7_starred 71 = .ok (.lreturn, 1) := by decide +kernel
set_option maxRecDepth 20000 in
theorem ggX7_move_X7_needWireOrNode : GoodIn wsX7_move wsX7_needWireOrNode := goodIn_ca (goodIn_r _ [10, 11, 12, 9, 13, 14, 15, 16, 17, 18, 19, 20, 21, 22, 23, 24, 25, 26, 27, 28, 29, 30, 31, 32, 33, 34, 35, 36, 37, 212, 213, 214, 215, 216, 217, 218, 219, 220, 221, 222, 223, 224, 225, 226] (by decide +kernel) (by decide +kernel)) (goodIn_sub (fun _ h => List.mem_cons_of_mem _ (List.mem_append_right _ h)) (by decide +kernel))
set_option maxRecDepth 20000 in
theorem gX7_move_X7_needWireOrNode : GoodIn wsX7_move (wsV RX7 202 RX7 yX7_needWireOrNode wsX7_needWireOrNode) := goodIn_app (goodIn_of _ (by decide +kernel)) ggX7_move_X7_needWireOrNode
set_option maxRecDepth 20000 in
theorem ggX7_move_X3_doIfPossible : GoodIn wsX7_move wsX3_doIfPossible := goodIn_r _ [42, 43, 44, 45, 46, 47, 48, 49, 50, 51, 52, 53, 54, 55, 56, 57, 58, 59, 60, 61, 62, 41, 63, 64, 65, 66, 67, 24, 68, 69, 70, 71, 72, 73, 74, 75, 76, 77, 78, 79, 9, 80, 81, 82, 83, 84, 85, 86, 87, 88, 89, 90, 91, 92, 93, 22, 23, 25, 26, 27, 28, 94, 95, 96, 97, 98, 99, 100, 101, 102, 103, 104, 105, 106, 107, 108, 109, 110, 111, 112, 113, 114, 115, 116, 117, 118, 119, 120, 34, 35, 36, 37, 121, 122, 123, 124, 125, 126, 127, 128, 129, 130, 131, 132, 133, 134, 135, 136, 137, 138, 139, 140, 141, 142, 143, 144, 145, 146, 147, 148, 149, 150, 151, 152, 153, 154, 155, 156, 157, 158, 159, 160, 161, 162, 163, 164, 165, 166, 167, 168, 169, 170, 171, 172, 173, 174, 175, 176, 177, 178, 179, 180, 181, 182, 183, 184, 185, 186, 187, 188, 189, 190, 191, 192, 193, 194, 195, 196, 197, 198, 199, 200, 201, 202, 203, 204, 205, 206, 207, 208, 209, 210, 211, 227, 228, 229, 230, 231, 232, 233, 234, 235, 236, 237, 238, 239, 240, 241, 242, 243, 244, 245, 246, 219, 220, 221, 222, 223, 224, 225, 226] (by decide +kernel) (by decide +kernel)
set_option maxRecDepth 20000 in
theorem gX7_move_X3_doIfPossible : GoodIn wsX7_move (wsV RX7 207 RX3 yX3_doIfPossible wsX3_doIfPossible) := goodIn_app (goodIn_of _ (by decide +kernel)) ggX7_move_X3_doIfPossible
theorem dX7_move_0 : decode cX7_move 0 = .ok (.iload_n 1, 1) := by decide +kernel
theorem dX7_move_1 : decode cX7_move 1 = .ok (.ifCond .lt 17, 3) := by decide +kernel
theorem dX7_move_4 : decode cX7_move 4 = .ok (.iload_n 1, 1) := by decide +kernel
theorem dX7_move_5 : decode cX7_move 5 = .ok (.iconst 5, 1) := by decide +kernel
theorem dX7_move_6 : decode cX7_move 6 = .ok (.if_icmp .gt 12, 3) := by decide +kernel
theorem dX7_move_9 : decode cX7_move 9 = .ok (.aload_n 0, 1) := by decide +kernel
theorem dX7_move_10 : decode cX7_move 10 = .ok (.iload_n 1, 1) := by decide +kernel
theorem dX7_move_11 : decode cX7_move 11 = .ok (.iload_n 2, 1) := by decide +kernel
theorem dX7_move_12 : decode cX7_move 12 = .ok (.invokevirtual 202, 3) := by decide +kernel
theorem dX7_move_15 : decode cX7_move 15 = .ok (.goto 13, 3) := by decide +kernel
theorem dX7_move_18 : decode cX7_move 18 = .ok (.new 83, 3) := by decide +kernel
theorem dX7_move_21 : decode cX7_move 21 = .ok (.dup, 1) := by decide +kernel
theorem dX7_move_22 : decode cX7_move 22 = .ok (.ldc 205, 2) := by decide +kernel
theorem dX7_move_24 : decode cX7_move 24 = .ok (.invokespecial 87, 3) := by decide +kernel
theorem dX7_move_27 : decode cX7_move 27 = .ok (.athrow, 1) := by decide +kernel
theorem dX7_move_28 : decode cX7_move 28 = .ok (.aload_n 0, 1) := by decide +kernel
theorem dX7_move_29 : decode cX7_move 29 = .ok (.getfield 42, 3) := by decide +kernel
theorem dX7_move_32 : decode cX7_move 32 = .ok (.iload_n 1, 1) := by decide +kernel
theorem dX7_move_33 : decode cX7_move 33 = .ok (.iload_n 2, 1) := by decide +kernel
theorem dX7_move_34 : decode cX7_move 34 = .ok (.invokevirtual 207, 3) := by decide +kernel
theorem dX7_move_37 : decode cX7_move 37 = .ok (.ifCond .ne 13, 3) := by decide +kernel
theorem dX7_move_40 : decode cX7_move 40 = .ok (.new 61, 3) := by decide +kernel
theorem dX7_move_43 : decode cX7_move 43 = .ok (.dup, 1) := by decide +kernel
theorem dX7_move_44 : decode cX7_move 44 = .ok (.ldc 210, 2) := by decide +kernel
theorem dX7_move_46 : decode cX7_move 46 = .ok (.invokespecial 65, 3) := by decide +kernel
theorem dX7_move_49 : decode cX7_move 49 = .ok (.athrow, 1) := by decide +kernel
theorem dX7_move_50 : decode cX7_move 50 = .ok (.return_, 1) := by decide +kernel
set_option maxRecDepth 20000 in
theorem ggX7_undo_X3_howMany : GoodIn wsX7_undo wsX3_howMany := goodIn_r _ [8, 9, 38, 39, 40, 41, 42, 43, 44, 45, 46, 47] (by decide +kernel) (by decide +kernel)
set_option maxRecDepth 20000 in
theorem gX7_undo_X3_howMany : GoodIn wsX7_undo (wsV RX7 212 RX3 yX3_howMany wsX3_howMany) := goodIn_app (goodIn_of _ (by decide +kernel)) ggX7_undo_X3_howMany
set_option maxRecDepth 20000 in
theorem ggX7_undo_X3_takeBack : GoodIn wsX7_undo wsX3_takeBack := goodIn_r _ [13, 9, 14, 15, 16, 17, 18, 19, 20, 21, 22, 23, 24, 25, 26, 27, 28, 29, 30, 38, 39, 40, 41, 42, 43, 44, 45, 46, 47, 48, 49, 50, 51, 52, 53, 54, 55] (by decide +kernel) (by decide +kernel)
set_option maxRecDepth 20000 in
theorem gX7_undo_X3_takeBack : GoodIn wsX7_undo (wsV RX7 218 RX3 yX3_takeBack wsX3_takeBack) := goodIn_app (goodIn_of _ (by decide +kernel)) ggX7_undo_X3_takeBack
theorem dX7_undo_0 : decode cX7_undo 0 = .ok (.aload_n 0, 1) := by decide +kernel
theorem dX7_undo_1 : decode cX7_undo 1 = .ok (.getfield 42, 3) := by decide +kernel
theorem dX7_undo_4 : decode cX7_undo 4 = .ok (.invokevirtual 212, 3) := by decide +kernel
theorem dX7_undo_7 : decode cX7_undo 7 = .ok (.ifCond .ne 13, 3) := by decide +kernel
theorem dX7_undo_10 : decode cX7_undo 10 = .ok (.new 61, 3) := by decide +kernel
theorem dX7_undo_13 : decode cX7_undo 13 = .ok (.dup, 1) := by decide +kernel
theorem dX7_undo_14 : decode cX7_undo 14 = .ok (.ldc 216, 2) := by decide +kernel
theorem dX7_undo_16 : decode cX7_undo 16 = .ok (.invokespecial 65, 3) := by decide +kernel
theorem dX7_undo_19 : decode cX7_undo 19 = .ok (.athrow, 1) := by decide +kernel
theorem dX7_undo_20 : decode cX7_undo 20 = .ok (.aload_n 0, 1) := by decide +kernel
theorem dX7_undo_21 : decode cX7_undo 21 = .ok (.getfield 42, 3) := by decide +kernel
theorem dX7_undo_24 : decode cX7_undo 24 = .ok (.invokevirtual 218, 3) := by decide +kernel
theorem dX7_undo_27 : decode cX7_undo 27 = .ok (.aload_n 0, 1) := by decide +kernel
theorem dX7_undo_28 : decode cX7_undo 28 = .ok (.getfield 42, 3) := by decide +kernel
theorem dX7_undo_31 : decode cX7_undo 31 = .ok (.invokevirtual 212, 3) := by decide +kernel
theorem dX7_undo_34 : decode cX7_undo 34 = .ok (.ireturn, 1) := by decide +kernel
set_option maxRecDepth 20000 in
theorem ggX7_simplify_X3_doFirstSimple : GoodIn wsX7_simplify wsX3_doFirstSimple := goodIn_r _ [6, 7, 8, 9, 10, 11, 12, 13, 14, 15, 16, 17, 18, 19, 20, 21, 22, 23, 24, 25, 26, 5, 27, 28, 29, 30, 31, 32, 33, 34, 35, 36, 37, 38, 39, 40, 41, 42, 43, 44, 45, 46, 47, 48, 49, 50, 51, 52, 53, 54, 55, 56, 57, 58, 59, 60, 61, 62, 63, 64, 65, 66, 67, 68, 69, 70, 71, 72, 73, 74, 75, 76, 77, 78, 79, 80, 81, 82, 83, 84, 85, 86, 87, 88, 89, 90, 91, 92, 93, 94, 95, 96, 97, 98, 99, 100, 101, 102, 103, 104, 105, 106, 107, 108, 109, 110, 111, 112, 113, 114, 115, 116, 117, 118, 119, 120, 121, 122, 123, 124, 125, 126, 127, 128, 129, 130, 131, 132, 133, 134, 135, 136, 137, 138, 139, 140, 141, 142, 143, 144, 145, 146, 147, 148, 149, 150, 151, 152, 153, 154, 155, 156, 157, 158, 159, 160, 161, 162, 163, 164, 165, 166, 167, 168, 169, 170, 171, 172, 173, 174, 175, 176, 177, 178, 179, 180, 181, 182, 183, 184, 185, 186, 187, 188, 189, 190, 191, 192, 193, 194, 202, 203, 204, 205, 206, 207, 208, 209, 210, 211, 212, 213, 214, 215, 216, 217, 218, 219, 220, 221, 222, 223, 224, 225, 226, 227, 228, 229] (by decide +kernel) (by decide +kernel)
set_option maxRecDepth 20000 in
theorem gX7_simplify_X3_doFirstSimple : GoodIn wsX7_simplify (wsV RX7 221 RX3 yX3_doFirstSimple wsX3_doFirstSimple) := goodIn_app (goodIn_of _ (by decide +kernel)) ggX7_simplify_X3_doFirstSimple
theorem dX7_simplify_0 : decode cX7_simplify 0 = .ok (.iconst 0, 1) := by decide +kernel
theorem dX7_simplify_1 : decode cX7_simplify 1 = .ok (.istore_n 1, 1) := by decide +kernel
theorem dX7_simplify_2 : decode cX7_simplify 2 = .ok (.iload_n 1, 1) := by decide +kernel
theorem dX7_simplify_3 : decode cX7_simplify 3 = .ok (.bipush 20, 2) := by decide +kernel
theorem dX7_simplify_5 : decode cX7_simplify 5 = .ok (.if_icmp .ge 19, 3) := by decide +kernel
theorem dX7_simplify_8 : decode cX7_simplify 8 = .ok (.aload_n 0, 1) := by decide +kernel
theorem dX7_simplify_9 : decode cX7_simplify 9 = .ok (.getfield 42, 3) := by decide +kernel
theorem dX7_simplify_12 : decode cX7_simplify 12 = .ok (.invokevirtual 221, 3) := by decide +kernel
theorem dX7_simplify_15 : decode cX7_simplify 15 = .ok (.ifCond .eq 9, 3) := by decide +kernel
theorem dX7_simplify_18 : decode cX7_simplify 18 = .ok (.iinc 1 1, 3) := by decide +kernel
theorem dX7_simplify_21 : decode cX7_simplify 21 = .ok (.goto (-19), 3) := by decide +kernel
theorem dX7_simplify_24 : decode cX7_simplify 24 = .ok (.iload_n 1, 1) := by decide +kernel
theorem dX7_simplify_25 : decode cX7_simplify 25 = .ok (.ireturn, 1) := by decide +kernel
set_option maxRecDepth 20000 in
theorem ggX7_mark_X1_begin : GoodIn wsX7_mark wsX1_begin := goodIn_r _ [8, 9, 139, 140, 141] (by decide +kernel) (by decide +kernel)
set_option maxRecDepth 20000 in
theorem gX7_mark_X1_begin : GoodIn wsX7_mark (wsV RX7 225 RX1 yX1_begin wsX1_begin) := goodIn_app (goodIn_of _ (by decide +kernel)) ggX7_mark_X1_begin
set_option maxRecDepth 20000 in
theorem ggX7_mark_X7_countRest : GoodIn wsX7_mark wsX7_countRest := goodIn_r _ [14, 15, 2, 3, 16, 17, 18, 19, 20, 21, 22, 23, 24, 25, 26, 27, 28, 29, 30, 31, 32, 33, 34, 35, 36, 37, 38, 39, 40, 41, 42, 43, 44, 45, 46, 47, 48, 49, 50, 51, 13, 52, 53, 54, 55, 56, 57, 58, 59, 60, 61, 62, 63, 64, 65, 66, 67, 68, 69, 70, 71, 72, 73, 74, 75, 76, 77, 78, 79, 80, 81, 82, 83, 84, 85, 86, 87, 88, 89, 90, 91, 92, 93, 94, 124, 125, 126, 127, 128, 129, 130, 131, 132, 133, 134, 135, 136, 137, 138, 142, 143, 144, 145, 146, 147, 148, 149, 150] (by decide +kernel) (by decide +kernel)
set_option maxRecDepth 20000 in
theorem gX7_mark_X7_countRest : GoodIn wsX7_mark (wsV RX7 133 RX7 yX7_countRest wsX7_countRest) := goodIn_app (goodIn_of _ (by decide +kernel)) ggX7_mark_X7_countRest
set_option maxRecDepth 20000 in
theorem ggX7_mark_X1_hasPair : GoodIn wsX7_mark wsX1_hasPair := goodIn_r _ [98, 9, 99, 100, 7, 101, 51, 13, 52, 139, 140, 141] (by decide +kernel) (by decide +kernel)
set_option maxRecDepth 20000 in
theorem gX7_mark_X1_hasPair : GoodIn wsX7_mark (wsV RX7 228 RX1 yX1_hasPair wsX1_hasPair) := goodIn_app (goodIn_of _ (by decide +kernel)) ggX7_mark_X1_hasPair
set_option maxRecDepth 20000 in
theorem ggX7_mark_X7_upperOfAnswer : GoodIn wsX7_mark wsX7_upperOfAnswer := goodIn_r _ [105, 15, 2, 3, 106, 67, 13, 68, 107, 22, 23, 19, 24, 25, 26, 27, 28, 29, 30, 31, 32, 33, 34, 35, 36, 37, 38, 39, 40, 41, 42, 43, 44, 45, 46, 47, 48, 49, 50, 51, 52, 53, 54, 55, 56, 57, 58, 59, 60, 61, 62, 63, 64, 65, 66, 69, 70, 71, 72, 73, 74, 75, 76, 77, 78, 79, 80, 81, 82, 83, 84, 85, 86, 87, 88, 89, 90, 91, 92, 93, 94, 124, 125, 126, 127, 128, 129, 130, 131, 132, 133, 134, 135, 136, 137, 138, 142, 143, 144, 145, 146, 147, 148, 149, 150] (by decide +kernel) (by decide +kernel)
set_option maxRecDepth 20000 in
theorem gX7_mark_X7_upperOfAnswer : GoodIn wsX7_mark (wsV RX7 141 RX7 yX7_upperOfAnswer wsX7_upperOfAnswer) := goodIn_app (goodIn_of _ (by decide +kernel)) ggX7_mark_X7_upperOfAnswer
set_option maxRecDepth 20000 in
theorem ggX7_mark_X7_partOf : GoodIn wsX7_mark wsX7_partOf := goodIn_r _ [110, 111, 112, 113, 114, 115, 116, 13, 117] (by decide +kernel) (by decide +kernel)
set_option maxRecDepth 20000 in
theorem gX7_mark_X7_partOf : GoodIn wsX7_mark (va_wsS RX7 145 yX7_partOf wsX7_partOf) := goodIn_app (goodIn_of _ (by decide +kernel)) ggX7_mark_X7_partOf
set_option maxRecDepth 20000 in
theorem ggX7_mark_X1_keep : GoodIn wsX7_mark wsX1_keep := goodIn_r _ [121, 122, 123, 99, 100, 7, 101, 139, 140, 141] (by decide +kernel) (by decide +kernel)
set_option maxRecDepth 20000 in
theorem gX7_mark_X1_keep : GoodIn wsX7_mark (wsV RX7 231 RX1 yX1_keep wsX1_keep) := goodIn_app (goodIn_of _ (by decide +kernel)) ggX7_mark_X1_keep
theorem dX7_mark_0 : decode cX7_mark 0 = .ok (.aload_n 0, 1) := by decide +kernel
theorem dX7_mark_1 : decode cX7_mark 1 = .ok (.getfield 49, 3) := by decide +kernel
theorem dX7_mark_4 : decode cX7_mark 4 = .ok (.aload_n 0, 1) := by decide +kernel
theorem dX7_mark_5 : decode cX7_mark 5 = .ok (.getfield 10, 3) := by decide +kernel
theorem dX7_mark_8 : decode cX7_mark 8 = .ok (.getfield 196, 3) := by decide +kernel
theorem dX7_mark_11 : decode cX7_mark 11 = .ok (.invokevirtual 225, 3) := by decide +kernel
theorem dX7_mark_14 : decode cX7_mark 14 = .ok (.aload_n 0, 1) := by decide +kernel
theorem dX7_mark_15 : decode cX7_mark 15 = .ok (.invokevirtual 133, 3) := by decide +kernel
theorem dX7_mark_18 : decode cX7_mark 18 = .ok (.lstore_n 1, 1) := by decide +kernel
theorem dX7_mark_19 : decode cX7_mark 19 = .ok (.iconst 0, 1) := by decide +kernel
theorem dX7_mark_20 : decode cX7_mark 20 = .ok (.istore_n 3, 1) := by decide +kernel
theorem dX7_mark_21 : decode cX7_mark 21 = .ok (.iload_n 3, 1) := by decide +kernel
theorem dX7_mark_22 : decode cX7_mark 22 = .ok (.bipush 7, 2) := by decide +kernel
theorem dX7_mark_24 : decode cX7_mark 24 = .ok (.if_icmp .ge 73, 3) := by decide +kernel
theorem dX7_mark_27 : decode cX7_mark 27 = .ok (.iload_n 3, 1) := by decide +kernel
theorem dX7_mark_28 : decode cX7_mark 28 = .ok (.iconst 1, 1) := by decide +kernel
theorem dX7_mark_29 : decode cX7_mark 29 = .ok (.iadd, 1) := by decide +kernel
theorem dX7_mark_30 : decode cX7_mark 30 = .ok (.istore 4, 2) := by decide +kernel
theorem dX7_mark_32 : decode cX7_mark 32 = .ok (.iload 4, 2) := by decide +kernel
theorem dX7_mark_34 : decode cX7_mark 34 = .ok (.bipush 7, 2) := by decide +kernel
theorem dX7_mark_36 : decode cX7_mark 36 = .ok (.if_icmp .ge 55, 3) := by decide +kernel
theorem dX7_mark_39 : decode cX7_mark 39 = .ok (.aload_n 0, 1) := by decide +kernel
theorem dX7_mark_40 : decode cX7_mark 40 = .ok (.getfield 49, 3) := by decide +kernel
theorem dX7_mark_43 : decode cX7_mark 43 = .ok (.iload_n 3, 1) := by decide +kernel
theorem dX7_mark_44 : decode cX7_mark 44 = .ok (.iload 4, 2) := by decide +kernel
theorem dX7_mark_46 : decode cX7_mark 46 = .ok (.invokevirtual 228, 3) := by decide +kernel
theorem dX7_mark_49 : decode cX7_mark 49 = .ok (.ifCond .eq 36, 3) := by decide +kernel
theorem dX7_mark_52 : decode cX7_mark 52 = .ok (.aload_n 0, 1) := by decide +kernel
theorem dX7_mark_53 : decode cX7_mark 53 = .ok (.iload_n 3, 1) := by decide +kernel
theorem dX7_mark_54 : decode cX7_mark 54 = .ok (.iload 4, 2) := by decide +kernel
theorem dX7_mark_56 : decode cX7_mark 56 = .ok (.invokevirtual 141, 3) := by decide +kernel
theorem dX7_mark_59 : decode cX7_mark 59 = .ok (.lstore 5, 2) := by decide +kernel
theorem dX7_mark_61 : decode cX7_mark 61 = .ok (.aload_n 0, 1) := by decide +kernel
theorem dX7_mark_62 : decode cX7_mark 62 = .ok (.getfield 49, 3) := by decide +kernel
theorem dX7_mark_65 : decode cX7_mark 65 = .ok (.iload_n 3, 1) := by decide +kernel
theorem dX7_mark_66 : decode cX7_mark 66 = .ok (.iload 4, 2) := by decide +kernel
theorem dX7_mark_68 : decode cX7_mark 68 = .ok (.lload 5, 2) := by decide +kernel
theorem dX7_mark_70 : decode cX7_mark 70 = .ok (.lload_n 1, 1) := by decide +kernel
theorem dX7_mark_71 : decode cX7_mark 71 = .ok (.iconst 0, 1) := by decide +kernel
theorem dX7_mark_72 : decode cX7_mark 72 = .ok (.invokestatic 145, 3) := by decide +kernel
theorem dX7_mark_75 : decode cX7_mark 75 = .ok (.lload 5, 2) := by decide +kernel
theorem dX7_mark_77 : decode cX7_mark 77 = .ok (.lload_n 1, 1) := by decide +kernel
theorem dX7_mark_78 : decode cX7_mark 78 = .ok (.iconst 1, 1) := by decide +kernel
theorem dX7_mark_79 : decode cX7_mark 79 = .ok (.invokestatic 145, 3) := by decide +kernel
theorem dX7_mark_82 : decode cX7_mark 82 = .ok (.invokevirtual 231, 3) := by decide +kernel
theorem dX7_mark_85 : decode cX7_mark 85 = .ok (.iinc 4 1, 3) := by decide +kernel
theorem dX7_mark_88 : decode cX7_mark 88 = .ok (.goto (-56), 3) := by decide +kernel
theorem dX7_mark_91 : decode cX7_mark 91 = .ok (.iinc 3 1, 3) := by decide +kernel
theorem dX7_mark_94 : decode cX7_mark 94 = .ok (.goto (-73), 3) := by decide +kernel
theorem dX7_mark_97 : decode cX7_mark 97 = .ok (.return_, 1) := by decide +kernel
set_option maxRecDepth 20000 in
theorem ggX7_keeps_X7_countRest : GoodIn wsX7_keeps wsX7_countRest := goodIn_r _ [6, 7, 8, 9, 10, 11, 12, 13, 14, 15, 16, 17, 18, 19, 20, 21, 22, 23, 24, 25, 26, 27, 28, 29, 30, 31, 32, 33, 34, 35, 36, 37, 38, 39, 40, 41, 42, 43, 44, 45, 5, 46, 47, 48, 49, 50, 51, 52, 53, 54, 55, 56, 57, 58, 59, 60, 61, 62, 63, 64, 65, 66, 67, 68, 69, 70, 71, 72, 73, 74, 75, 76, 77, 78, 79, 80, 81, 82, 83, 84, 85, 86, 87, 88, 120, 121, 122, 123, 124, 125, 126, 127, 128, 129, 130, 131, 132, 133, 134, 135, 136, 137, 138, 139, 140, 141, 142, 143] (by decide +kernel) (by decide +kernel)
set_option maxRecDepth 20000 in
theorem gX7_keeps_X7_countRest : GoodIn wsX7_keeps (wsV RX7 133 RX7 yX7_countRest wsX7_countRest) := goodIn_app (goodIn_of _ (by decide +kernel)) ggX7_keeps_X7_countRest
set_option maxRecDepth 20000 in
theorem ggX7_keeps_X1_hasPair : GoodIn wsX7_keeps wsX1_hasPair := goodIn_r _ [93, 94, 95, 96, 92, 97, 45, 5, 46, 144, 145, 146] (by decide +kernel) (by decide +kernel)
set_option maxRecDepth 20000 in
theorem gX7_keeps_X1_hasPair : GoodIn wsX7_keeps (wsV RX7 228 RX1 yX1_hasPair wsX1_hasPair) := goodIn_app (goodIn_of _ (by decide +kernel)) ggX7_keeps_X1_hasPair
set_option maxRecDepth 20000 in
theorem ggX7_keeps_X7_upperOfAnswer : GoodIn wsX7_keeps wsX7_upperOfAnswer := goodIn_r _ [101, 7, 8, 9, 102, 61, 5, 62, 103, 16, 17, 13, 18, 19, 20, 21, 22, 23, 24, 25, 26, 27, 28, 29, 30, 31, 32, 33, 34, 35, 36, 37, 38, 39, 40, 41, 42, 43, 44, 45, 46, 47, 48, 49, 50, 51, 52, 53, 54, 55, 56, 57, 58, 59, 60, 63, 64, 65, 66, 67, 68, 69, 70, 71, 72, 73, 74, 75, 76, 77, 78, 79, 80, 81, 82, 83, 84, 85, 86, 87, 88, 120, 121, 122, 123, 124, 125, 126, 127, 128, 129, 130, 131, 132, 133, 134, 135, 136, 137, 138, 139, 140, 141, 142, 143] (by decide +kernel) (by decide +kernel)
set_option maxRecDepth 20000 in
theorem gX7_keeps_X7_upperOfAnswer : GoodIn wsX7_keeps (wsV RX7 141 RX7 yX7_upperOfAnswer wsX7_upperOfAnswer) := goodIn_app (goodIn_of _ (by decide +kernel)) ggX7_keeps_X7_upperOfAnswer
set_option maxRecDepth 20000 in
theorem ggX7_keeps_X7_partOf : GoodIn wsX7_keeps wsX7_partOf := goodIn_r _ [106, 107, 108, 109, 110, 111, 112, 5, 113] (by decide +kernel) (by decide +kernel)
set_option maxRecDepth 20000 in
theorem gX7_keeps_X7_partOf : GoodIn wsX7_keeps (va_wsS RX7 145 yX7_partOf wsX7_partOf) := goodIn_app (goodIn_of _ (by decide +kernel)) ggX7_keeps_X7_partOf
set_option maxRecDepth 20000 in
theorem ggX7_keeps_X1_isKept : GoodIn wsX7_keeps wsX1_isKept := goodIn_r _ [117, 118, 119, 95, 96, 92, 97, 144, 145, 146] (by decide +kernel) (by decide +kernel)
set_option maxRecDepth 20000 in
theorem gX7_keeps_X1_isKept : GoodIn wsX7_keeps (wsV RX7 235 RX1 yX1_isKept wsX1_isKept) := goodIn_app (goodIn_of _ (by decide +kernel)) ggX7_keeps_X1_isKept
theorem dX7_keeps_0 : decode cX7_keeps 0 = .ok (.aload_n 0, 1) := by decide +kernel
theorem dX7_keeps_1 : decode cX7_keeps 1 = .ok (.invokevirtual 133, 3) := by decide +kernel
theorem dX7_keeps_4 : decode cX7_keeps 4 = .ok (.lstore_n 1, 1) := by decide +kernel
theorem dX7_keeps_5 : decode cX7_keeps 5 = .ok (.iconst 0, 1) := by decide +kernel
theorem dX7_keeps_6 : decode cX7_keeps 6 = .ok (.istore_n 3, 1) := by decide +kernel
theorem dX7_keeps_7 : decode cX7_keeps 7 = .ok (.iload_n 3, 1) := by decide +kernel
theorem dX7_keeps_8 : decode cX7_keeps 8 = .ok (.bipush 7, 2) := by decide +kernel
theorem dX7_keeps_10 : decode cX7_keeps 10 = .ok (.if_icmp .ge 78, 3) := by decide +kernel
theorem dX7_keeps_13 : decode cX7_keeps 13 = .ok (.iload_n 3, 1) := by decide +kernel
theorem dX7_keeps_14 : decode cX7_keeps 14 = .ok (.iconst 1, 1) := by decide +kernel
theorem dX7_keeps_15 : decode cX7_keeps 15 = .ok (.iadd, 1) := by decide +kernel
theorem dX7_keeps_16 : decode cX7_keeps 16 = .ok (.istore 4, 2) := by decide +kernel
theorem dX7_keeps_18 : decode cX7_keeps 18 = .ok (.iload 4, 2) := by decide +kernel
theorem dX7_keeps_20 : decode cX7_keeps 20 = .ok (.bipush 7, 2) := by decide +kernel
theorem dX7_keeps_22 : decode cX7_keeps 22 = .ok (.if_icmp .ge 60, 3) := by decide +kernel
theorem dX7_keeps_25 : decode cX7_keeps 25 = .ok (.aload_n 0, 1) := by decide +kernel
theorem dX7_keeps_26 : decode cX7_keeps 26 = .ok (.getfield 49, 3) := by decide +kernel
theorem dX7_keeps_29 : decode cX7_keeps 29 = .ok (.iload_n 3, 1) := by decide +kernel
theorem dX7_keeps_30 : decode cX7_keeps 30 = .ok (.iload 4, 2) := by decide +kernel
theorem dX7_keeps_32 : decode cX7_keeps 32 = .ok (.invokevirtual 228, 3) := by decide +kernel
theorem dX7_keeps_35 : decode cX7_keeps 35 = .ok (.ifCond .eq 41, 3) := by decide +kernel
theorem dX7_keeps_38 : decode cX7_keeps 38 = .ok (.aload_n 0, 1) := by decide +kernel
theorem dX7_keeps_39 : decode cX7_keeps 39 = .ok (.iload_n 3, 1) := by decide +kernel
theorem dX7_keeps_40 : decode cX7_keeps 40 = .ok (.iload 4, 2) := by decide +kernel
theorem dX7_keeps_42 : decode cX7_keeps 42 = .ok (.invokevirtual 141, 3) := by decide +kernel
theorem dX7_keeps_45 : decode cX7_keeps 45 = .ok (.lstore 5, 2) := by decide +kernel
theorem dX7_keeps_47 : decode cX7_keeps 47 = .ok (.aload_n 0, 1) := by decide +kernel
theorem dX7_keeps_48 : decode cX7_keeps 48 = .ok (.getfield 49, 3) := by decide +kernel
theorem dX7_keeps_51 : decode cX7_keeps 51 = .ok (.iload_n 3, 1) := by decide +kernel
theorem dX7_keeps_52 : decode cX7_keeps 52 = .ok (.iload 4, 2) := by decide +kernel
theorem dX7_keeps_54 : decode cX7_keeps 54 = .ok (.lload 5, 2) := by decide +kernel
theorem dX7_keeps_56 : decode cX7_keeps 56 = .ok (.lload_n 1, 1) := by decide +kernel
theorem dX7_keeps_57 : decode cX7_keeps 57 = .ok (.iconst 0, 1) := by decide +kernel
theorem dX7_keeps_58 : decode cX7_keeps 58 = .ok (.invokestatic 145, 3) := by decide +kernel
theorem dX7_keeps_61 : decode cX7_keeps 61 = .ok (.lload 5, 2) := by decide +kernel
theorem dX7_keeps_63 : decode cX7_keeps 63 = .ok (.lload_n 1, 1) := by decide +kernel
theorem dX7_keeps_64 : decode cX7_keeps 64 = .ok (.iconst 1, 1) := by decide +kernel
theorem dX7_keeps_65 : decode cX7_keeps 65 = .ok (.invokestatic 145, 3) := by decide +kernel
theorem dX7_keeps_68 : decode cX7_keeps 68 = .ok (.invokevirtual 235, 3) := by decide +kernel
theorem dX7_keeps_71 : decode cX7_keeps 71 = .ok (.ifCond .ne 5, 3) := by decide +kernel
theorem dX7_keeps_74 : decode cX7_keeps 74 = .ok (.iconst 0, 1) := by decide +kernel
theorem dX7_keeps_75 : decode cX7_keeps 75 = .ok (.ireturn, 1) := by decide +kernel
theorem dX7_keeps_76 : decode cX7_keeps 76 = .ok (.iinc 4 1, 3) := by decide +kernel
theorem dX7_keeps_79 : decode cX7_keeps 79 = .ok (.goto (-61), 3) := by decide +kernel
theorem dX7_keeps_82 : decode cX7_keeps 82 = .ok (.iinc 3 1, 3) := by decide +kernel
theorem dX7_keeps_85 : decode cX7_keeps 85 = .ok (.goto (-78), 3) := by decide +kernel
theorem dX7_keeps_88 : decode cX7_keeps 88 = .ok (.iconst 1, 1) := by decide +kernel
theorem dX7_keeps_89 : decode cX7_keeps 89 = .ok (.ireturn, 1) := by decide +kernel
set_option maxRecDepth 20000 in
theorem ggX7_needNode_X4_hasNode : GoodIn wsX7_needNode wsX4_hasNode := goodIn_r _ [8, 9, 10, 11, 12, 20, 21, 22, 23, 24, 25, 26, 27] (by decide +kernel) (by decide +kernel)
set_option maxRecDepth 20000 in
theorem gX7_needNode_X4_hasNode : GoodIn wsX7_needNode (wsV RX7 239 RX4 yX4_hasNode wsX4_hasNode) := goodIn_app (goodIn_of _ (by decide +kernel)) ggX7_needNode_X4_hasNode
theorem dX7_needNode_0 : decode cX7_needNode 0 = .ok (.aload_n 0, 1) := by decide +kernel
theorem dX7_needNode_1 : decode cX7_needNode 1 = .ok (.getfield 10, 3) := by decide +kernel
theorem dX7_needNode_4 : decode cX7_needNode 4 = .ok (.iload_n 1, 1) := by decide +kernel
theorem dX7_needNode_5 : decode cX7_needNode 5 = .ok (.invokevirtual 239, 3) := by decide +kernel
theorem dX7_needNode_8 : decode cX7_needNode 8 = .ok (.ifCond .ne 13, 3) := by decide +kernel
theorem dX7_needNode_11 : decode cX7_needNode 11 = .ok (.new 183, 3) := by decide +kernel
theorem dX7_needNode_14 : decode cX7_needNode 14 = .ok (.dup, 1) := by decide +kernel
theorem dX7_needNode_15 : decode cX7_needNode 15 = .ok (.ldc 185, 2) := by decide +kernel
theorem dX7_needNode_17 : decode cX7_needNode 17 = .ok (.invokespecial 187, 3) := by decide +kernel
theorem dX7_needNode_20 : decode cX7_needNode 20 = .ok (.athrow, 1) := by decide +kernel
theorem dX7_needNode_21 : decode cX7_needNode 21 = .ok (.return_, 1) := by decide +kernel
set_option maxRecDepth 20000 in
theorem ggX7_needEdge_X4_hasEdge : GoodIn wsX7_needEdge wsX4_hasEdge := goodIn_r _ [8, 9, 10, 11, 12, 7, 13, 14, 15, 16, 17, 25, 26, 27, 28, 29, 30, 31, 32] (by decide +kernel) (by decide +kernel)
set_option maxRecDepth 20000 in
theorem gX7_needEdge_X4_hasEdge : GoodIn wsX7_needEdge (wsV RX7 155 RX4 yX4_hasEdge wsX4_hasEdge) := goodIn_app (goodIn_of _ (by decide +kernel)) ggX7_needEdge_X4_hasEdge
theorem dX7_needEdge_0 : decode cX7_needEdge 0 = .ok (.aload_n 0, 1) := by decide +kernel
theorem dX7_needEdge_1 : decode cX7_needEdge 1 = .ok (.getfield 10, 3) := by decide +kernel
theorem dX7_needEdge_4 : decode cX7_needEdge 4 = .ok (.iload_n 1, 1) := by decide +kernel
theorem dX7_needEdge_5 : decode cX7_needEdge 5 = .ok (.invokevirtual 155, 3) := by decide +kernel
theorem dX7_needEdge_8 : decode cX7_needEdge 8 = .ok (.ifCond .ne 13, 3) := by decide +kernel
theorem dX7_needEdge_11 : decode cX7_needEdge 11 = .ok (.new 183, 3) := by decide +kernel
theorem dX7_needEdge_14 : decode cX7_needEdge 14 = .ok (.dup, 1) := by decide +kernel
theorem dX7_needEdge_15 : decode cX7_needEdge 15 = .ok (.ldc 242, 2) := by decide +kernel
theorem dX7_needEdge_17 : decode cX7_needEdge 17 = .ok (.invokespecial 187, 3) := by decide +kernel
theorem dX7_needEdge_20 : decode cX7_needEdge 20 = .ok (.athrow, 1) := by decide +kernel
theorem dX7_needEdge_21 : decode cX7_needEdge 21 = .ok (.return_, 1) := by decide +kernel
set_option maxRecDepth 20000 in
theorem ggX7_needWire_X4_hasWire : GoodIn wsX7_needWire wsX4_hasWire := goodIn_r _ [8, 9, 10, 11, 12, 20, 21, 22, 23, 24, 25, 26, 27] (by decide +kernel) (by decide +kernel)
set_option maxRecDepth 20000 in
theorem gX7_needWire_X4_hasWire : GoodIn wsX7_needWire (wsV RX7 244 RX4 yX4_hasWire wsX4_hasWire) := goodIn_app (goodIn_of _ (by decide +kernel)) ggX7_needWire_X4_hasWire
theorem dX7_needWire_0 : decode cX7_needWire 0 = .ok (.aload_n 0, 1) := by decide +kernel
theorem dX7_needWire_1 : decode cX7_needWire 1 = .ok (.getfield 10, 3) := by decide +kernel
theorem dX7_needWire_4 : decode cX7_needWire 4 = .ok (.iload_n 1, 1) := by decide +kernel
theorem dX7_needWire_5 : decode cX7_needWire 5 = .ok (.invokevirtual 244, 3) := by decide +kernel
theorem dX7_needWire_8 : decode cX7_needWire 8 = .ok (.ifCond .ne 13, 3) := by decide +kernel
theorem dX7_needWire_11 : decode cX7_needWire 11 = .ok (.new 183, 3) := by decide +kernel
theorem dX7_needWire_14 : decode cX7_needWire 14 = .ok (.dup, 1) := by decide +kernel
theorem dX7_needWire_15 : decode cX7_needWire 15 = .ok (.ldc 247, 2) := by decide +kernel
theorem dX7_needWire_17 : decode cX7_needWire 17 = .ok (.invokespecial 187, 3) := by decide +kernel
theorem dX7_needWire_20 : decode cX7_needWire 20 = .ok (.athrow, 1) := by decide +kernel
theorem dX7_needWire_21 : decode cX7_needWire 21 = .ok (.return_, 1) := by decide +kernel
set_option maxRecDepth 20000 in
theorem ggX7_needWireOrNode_X7_isOfWire : GoodIn wsX7_needWireOrNode wsX7_isOfWire := goodIn_r _ [4] (by decide +kernel) (by decide +kernel)
set_option maxRecDepth 20000 in
theorem gX7_needWireOrNode_X7_isOfWire : GoodIn wsX7_needWireOrNode (va_wsS RX7 249 yX7_isOfWire wsX7_isOfWire) := goodIn_app (goodIn_of _ (by decide +kernel)) ggX7_needWireOrNode_X7_isOfWire
set_option maxRecDepth 20000 in
theorem ggX7_needWireOrNode_X7_needWire : GoodIn wsX7_needWireOrNode wsX7_needWire := goodIn_ca (goodIn_r _ [8, 9, 10, 11, 12, 13, 14, 15, 16, 17, 18, 3, 19, 29, 30, 31, 32, 33, 34, 35, 36, 37, 38, 39, 40, 41, 42, 43] (by decide +kernel) (by decide +kernel)) (goodIn_sub (fun _ h => List.mem_cons_of_mem _ (List.mem_append_right _ h)) (by decide +kernel))
set_option maxRecDepth 20000 in
theorem gX7_needWireOrNode_X7_needWire : GoodIn wsX7_needWireOrNode (wsV RX7 104 RX7 yX7_needWire wsX7_needWire) := goodIn_app (goodIn_of _ (by decide +kernel)) ggX7_needWireOrNode_X7_needWire
set_option maxRecDepth 20000 in
theorem ggX7_needWireOrNode_X7_needNode : GoodIn wsX7_needWireOrNode wsX7_needNode := goodIn_ca (goodIn_r _ [23, 9, 10, 11, 24, 25, 26, 15, 27, 28, 18, 3, 19, 29, 30, 31, 32, 33, 34, 35, 36, 37, 38, 39, 40, 41, 42, 43] (by decide +kernel) (by decide +kernel)) (goodIn_sub (fun _ h => List.mem_cons_of_mem _ (List.mem_append_right _ h)) (by decide +kernel))
set_option maxRecDepth 20000 in
theorem gX7_needWireOrNode_X7_needNode : GoodIn wsX7_needWireOrNode (wsV RX7 75 RX7 yX7_needNode wsX7_needNode) := goodIn_app (goodIn_of _ (by decide +kernel)) ggX7_needWireOrNode_X7_needNode
theorem dX7_needWireOrNode_0 : decode cX7_needWireOrNode 0 = .ok (.iload_n 1, 1) := by decide +kernel
theorem dX7_needWireOrNode_1 : decode cX7_needWireOrNode 1 = .ok (.invokestatic 249, 3) := by decide +kernel
theorem dX7_needWireOrNode_4 : decode cX7_needWireOrNode 4 = .ok (.ifCond .eq 11, 3) := by decide +kernel
theorem dX7_needWireOrNode_7 : decode cX7_needWireOrNode 7 = .ok (.aload_n 0, 1) := by decide +kernel
theorem dX7_needWireOrNode_8 : decode cX7_needWireOrNode 8 = .ok (.iload_n 2, 1) := by decide +kernel
theorem dX7_needWireOrNode_9 : decode cX7_needWireOrNode 9 = .ok (.invokevirtual 104, 3) := by decide +kernel
theorem dX7_needWireOrNode_12 : decode cX7_needWireOrNode 12 = .ok (.goto 8, 3) := by decide +kernel
theorem dX7_needWireOrNode_15 : decode cX7_needWireOrNode 15 = .ok (.aload_n 0, 1) := by decide +kernel
theorem dX7_needWireOrNode_16 : decode cX7_needWireOrNode 16 = .ok (.iload_n 2, 1) := by decide +kernel
theorem dX7_needWireOrNode_17 : decode cX7_needWireOrNode 17 = .ok (.invokevirtual 75, 3) := by decide +kernel
theorem dX7_needWireOrNode_20 : decode cX7_needWireOrNode 20 = .ok (.return_, 1) := by decide +kernel
theorem dX7_isOfWire_0 : decode cX7_isOfWire 0 = .ok (.iload_n 0, 1) := by decide +kernel
theorem dX7_isOfWire_1 : decode cX7_isOfWire 1 = .ok (.ifCond .eq 13, 3) := by decide +kernel
theorem dX7_isOfWire_4 : decode cX7_isOfWire 4 = .ok (.iload_n 0, 1) := by decide +kernel
theorem dX7_isOfWire_5 : decode cX7_isOfWire 5 = .ok (.iconst 1, 1) := by decide +kernel
theorem dX7_isOfWire_6 : decode cX7_isOfWire 6 = .ok (.if_icmp .eq 8, 3) := by decide +kernel
theorem dX7_isOfWire_9 : decode cX7_isOfWire 9 = .ok (.iload_n 0, 1) := by decide +kernel
theorem dX7_isOfWire_10 : decode cX7_isOfWire 10 = .ok (.iconst 5, 1) := by decide +kernel
theorem dX7_isOfWire_11 : decode cX7_isOfWire 11 = .ok (.if_icmp .ne 7, 3) := by decide +kernel
theorem dX7_isOfWire_14 : decode cX7_isOfWire 14 = .ok (.iconst 1, 1) := by decide +kernel
theorem dX7_isOfWire_15 : decode cX7_isOfWire 15 = .ok (.goto 4, 3) := by decide +kernel
theorem dX7_isOfWire_18 : decode cX7_isOfWire 18 = .ok (.iconst 0, 1) := by decide +kernel
theorem dX7_isOfWire_19 : decode cX7_isOfWire 19 = .ok (.ireturn, 1) := by decide +kernel
theorem dX7_isConductance_0 : decode cX7_isConductance 0 = .ok (.iload_n 0, 1) := by decide +kernel
theorem dX7_isConductance_1 : decode cX7_isConductance 1 = .ok (.iconst 1, 1) := by decide +kernel
theorem dX7_isConductance_2 : decode cX7_isConductance 2 = .ok (.if_icmp .lt 13, 3) := by decide +kernel
theorem dX7_isConductance_5 : decode cX7_isConductance 5 = .ok (.iload_n 0, 1) := by decide +kernel
theorem dX7_isConductance_6 : decode cX7_isConductance 6 = .ok (.bipush 60, 2) := by decide +kernel
theorem dX7_isConductance_8 : decode cX7_isConductance 8 = .ok (.if_icmp .gt 7, 3) := by decide +kernel
theorem dX7_isConductance_11 : decode cX7_isConductance 11 = .ok (.iconst 1, 1) := by decide +kernel
theorem dX7_isConductance_12 : decode cX7_isConductance 12 = .ok (.goto 4, 3) := by decide +kernel
theorem dX7_isConductance_15 : decode cX7_isConductance 15 = .ok (.iconst 0, 1) := by decide +kernel
theorem dX7_isConductance_16 : decode cX7_isConductance 16 = .ok (.ireturn, 1) := by decide +kernel
theorem dX7_setOf_0 : decode cX7_setOf 0 = .ok (.iconst 1, 1) := by decide +kernel
theorem dX7_setOf_1 : decode cX7_setOf 1 = .ok (.iload_n 0, 1) := by decide +kernel
theorem dX7_setOf_2 : decode cX7_setOf 2 = .ok (.ishl, 1) := by decide +kernel
theorem dX7_setOf_3 : decode cX7_setOf 3 = .ok (.ireturn, 1) := by decide +kernel
theorem dX7_isIn_0 : decode cX7_isIn 0 = .ok (.iload_n 0, 1) := by decide +kernel
theorem dX7_isIn_1 : decode cX7_isIn 1 = .ok (.iload_n 1, 1) := by decide +kernel
theorem dX7_isIn_2 : decode cX7_isIn 2 = .ok (.ishr, 1) := by decide +kernel
theorem dX7_isIn_3 : decode cX7_isIn 3 = .ok (.iconst 1, 1) := by decide +kernel
theorem dX7_isIn_4 : decode cX7_isIn 4 = .ok (.iand, 1) := by decide +kernel
theorem dX7_isIn_5 : decode cX7_isIn 5 = .ok (.ifCond .eq 7, 3) := by decide +kernel
theorem dX7_isIn_8 : decode cX7_isIn 8 = .ok (.iconst 1, 1) := by decide +kernel
theorem dX7_isIn_9 : decode cX7_isIn 9 = .ok (.goto 4, 3) := by decide +kernel
theorem dX7_isIn_12 : decode cX7_isIn 12 = .ok (.iconst 0, 1) := by decide +kernel
theorem dX7_isIn_13 : decode cX7_isIn 13 = .ok (.ireturn, 1) := by decide +kernel
set_option maxRecDepth 20000 in
theorem ggX7_partOf_X7_greatestDivisor : GoodIn wsX7_partOf wsX7_greatestDivisor := goodIn_r _ [8] (by decide +kernel) (by decide +kernel)
set_option maxRecDepth 20000 in
theorem gX7_partOf_X7_greatestDivisor : GoodIn wsX7_partOf (va_wsS RX7 258 yX7_greatestDivisor wsX7_greatestDivisor) := goodIn_app (goodIn_of _ (by decide +kernel)) ggX7_partOf_X7_greatestDivisor
theorem dX7_partOf_0 : decode cX7_partOf 0 = .ok (.lload_n 2, 1) := by decide +kernel
theorem dX7_partOf_1 : decode cX7_partOf 1 = .ok (.lload_n 0, 1) := by decide +kernel
theorem dX7_partOf_2 : decode cX7_partOf 2 = .ok (.invokestatic 252, 3) := by decide +kernel
theorem dX7_partOf_5 : decode cX7_partOf 5 = .ok (.invokestatic 258, 3) := by decide +kernel
theorem dX7_partOf_8 : decode cX7_partOf 8 = .ok (.lstore 5, 2) := by decide +kernel
theorem dX7_partOf_10 : decode cX7_partOf 10 = .ok (.lload_n 2, 1) := by decide +kernel
theorem dX7_partOf_11 : decode cX7_partOf 11 = .ok (.lconst 0, 1) := by decide +kernel
theorem dX7_partOf_12 : decode cX7_partOf 12 = .ok (.lcmp, 1) := by decide +kernel
theorem dX7_partOf_13 : decode cX7_partOf 13 = .ok (.ifCond .eq 10, 3) := by decide +kernel
theorem dX7_partOf_16 : decode cX7_partOf 16 = .ok (.lload 5, 2) := by decide +kernel
theorem dX7_partOf_18 : decode cX7_partOf 18 = .ok (.lconst 0, 1) := by decide +kernel
theorem dX7_partOf_19 : decode cX7_partOf 19 = .ok (.lcmp, 1) := by decide +kernel
theorem dX7_partOf_20 : decode cX7_partOf 20 = .ok (.ifCond .ne 5, 3) := by decide +kernel
theorem dX7_partOf_23 : decode cX7_partOf 23 = .ok (.lconst 0, 1) := by decide +kernel
theorem dX7_partOf_24 : decode cX7_partOf 24 = .ok (.lreturn, 1) := by decide +kernel
theorem dX7_partOf_25 : decode cX7_partOf 25 = .ok (.iload 4, 2) := by decide +kernel
theorem dX7_partOf_27 : decode cX7_partOf 27 = .ok (.ifCond .eq 7, 3) := by decide +kernel
theorem dX7_partOf_30 : decode cX7_partOf 30 = .ok (.lload_n 2, 1) := by decide +kernel
theorem dX7_partOf_31 : decode cX7_partOf 31 = .ok (.goto 4, 3) := by decide +kernel
theorem dX7_partOf_34 : decode cX7_partOf 34 = .ok (.lload_n 0, 1) := by decide +kernel
theorem dX7_partOf_35 : decode cX7_partOf 35 = .ok (.lload 5, 2) := by decide +kernel
theorem dX7_partOf_37 : decode cX7_partOf 37 = .ok (.ldiv, 1) := by decide +kernel
theorem dX7_partOf_38 : decode cX7_partOf 38 = .ok (.lreturn, 1) := by decide +kernel
theorem dX7_greatestDivisor_0 : decode cX7_greatestDivisor 0 = .ok (.lload_n 0, 1) := by decide +kernel
theorem dX7_greatestDivisor_1 : decode cX7_greatestDivisor 1 = .ok (.lstore 4, 2) := by decide +kernel
theorem dX7_greatestDivisor_3 : decode cX7_greatestDivisor 3 = .ok (.lload_n 2, 1) := by decide +kernel
theorem dX7_greatestDivisor_4 : decode cX7_greatestDivisor 4 = .ok (.lstore 6, 2) := by decide +kernel
theorem dX7_greatestDivisor_6 : decode cX7_greatestDivisor 6 = .ok (.iconst 0, 1) := by decide +kernel
theorem dX7_greatestDivisor_7 : decode cX7_greatestDivisor 7 = .ok (.istore 8, 2) := by decide +kernel
theorem dX7_greatestDivisor_9 : decode cX7_greatestDivisor 9 = .ok (.iload 8, 2) := by decide +kernel
theorem dX7_greatestDivisor_11 : decode cX7_greatestDivisor 11 = .ok (.sipush 1000, 3) := by decide +kernel
theorem dX7_greatestDivisor_14 : decode cX7_greatestDivisor 14 = .ok (.if_icmp .ge 31, 3) := by decide +kernel
theorem dX7_greatestDivisor_17 : decode cX7_greatestDivisor 17 = .ok (.lload 6, 2) := by decide +kernel
theorem dX7_greatestDivisor_19 : decode cX7_greatestDivisor 19 = .ok (.lconst 0, 1) := by decide +kernel
theorem dX7_greatestDivisor_20 : decode cX7_greatestDivisor 20 = .ok (.lcmp, 1) := by decide +kernel
theorem dX7_greatestDivisor_21 : decode cX7_greatestDivisor 21 = .ok (.ifCond .eq 24, 3) := by decide +kernel
theorem dX7_greatestDivisor_24 : decode cX7_greatestDivisor 24 = .ok (.lload 4, 2) := by decide +kernel
theorem dX7_greatestDivisor_26 : decode cX7_greatestDivisor 26 = .ok (.lload 6, 2) := by decide +kernel
theorem dX7_greatestDivisor_28 : decode cX7_greatestDivisor 28 = .ok (.lrem, 1) := by decide +kernel
theorem dX7_greatestDivisor_29 : decode cX7_greatestDivisor 29 = .ok (.lstore 9, 2) := by decide +kernel
theorem dX7_greatestDivisor_31 : decode cX7_greatestDivisor 31 = .ok (.lload 6, 2) := by decide +kernel
theorem dX7_greatestDivisor_33 : decode cX7_greatestDivisor 33 = .ok (.lstore 4, 2) := by decide +kernel
theorem dX7_greatestDivisor_35 : decode cX7_greatestDivisor 35 = .ok (.lload 9, 2) := by decide +kernel
theorem dX7_greatestDivisor_37 : decode cX7_greatestDivisor 37 = .ok (.lstore 6, 2) := by decide +kernel
theorem dX7_greatestDivisor_39 : decode cX7_greatestDivisor 39 = .ok (.iinc 8 1, 3) := by decide +kernel
theorem dX7_greatestDivisor_42 : decode cX7_greatestDivisor 42 = .ok (.goto (-33), 3) := by decide +kernel
theorem dX7_greatestDivisor_45 : decode cX7_greatestDivisor 45 = .ok (.lload 4, 2) := by decide +kernel
theorem dX7_greatestDivisor_47 : decode cX7_greatestDivisor 47 = .ok (.lreturn, 1) := by decide +kernel
set_option maxRecDepth 20000 in
theorem ggX7_countTrees_X4_lowestNode : GoodIn wsX7_countTrees wsX4_lowestNode := goodIn_r _ [7, 8, 9, 10, 6, 11, 12, 13, 14, 15, 100, 101, 102, 103, 104, 105, 106, 107] (by decide +kernel) (by decide +kernel)
set_option maxRecDepth 20000 in
theorem gX7_countTrees_X4_lowestNode : GoodIn wsX7_countTrees (wsV RX7 262 RX4 yX4_lowestNode wsX4_lowestNode) := goodIn_app (goodIn_of _ (by decide +kernel)) ggX7_countTrees_X4_lowestNode
set_option maxRecDepth 20000 in
theorem ggX7_countTrees_X7_setOf : GoodIn wsX7_countTrees wsX7_setOf := goodIn_r _ [18] (by decide +kernel) (by decide +kernel)
set_option maxRecDepth 20000 in
theorem gX7_countTrees_X7_setOf : GoodIn wsX7_countTrees (va_wsS RX7 168 yX7_setOf wsX7_setOf) := goodIn_app (goodIn_of _ (by decide +kernel)) ggX7_countTrees_X7_setOf
set_option maxRecDepth 20000 in
theorem ggX7_countTrees_X0_count : GoodIn wsX7_countTrees wsX0_count := goodIn_r _ [23, 24, 25, 26, 22, 27, 28, 29, 30, 31, 32, 33, 34, 35, 36, 37, 38, 39, 40, 41, 42, 43, 44, 45, 46, 47, 48, 49, 50, 6, 51, 52, 13, 14, 15, 53, 54, 55, 56, 57, 58, 59, 60, 61, 62, 63, 64, 65, 66, 17, 18, 67, 68, 69, 70, 71, 72, 73, 74, 75, 76, 77, 78, 79, 80, 81, 82, 83, 84, 85, 86, 87, 88, 89, 90, 91, 92, 108, 109, 110, 111, 112, 113, 114, 115, 116, 100, 101, 102, 103, 104, 105, 106, 107] (by decide +kernel) (by decide +kernel)
set_option maxRecDepth 20000 in
theorem gX7_countTrees_X0_count : GoodIn wsX7_countTrees (wsV RX7 171 RX0 yX0_count wsX0_count) := goodIn_app (goodIn_of _ (by decide +kernel)) ggX7_countTrees_X0_count
theorem dX7_countTrees_0 : decode cX7_countTrees 0 = .ok (.aload_n 0, 1) := by decide +kernel
theorem dX7_countTrees_1 : decode cX7_countTrees 1 = .ok (.getfield 10, 3) := by decide +kernel
theorem dX7_countTrees_4 : decode cX7_countTrees 4 = .ok (.invokevirtual 262, 3) := by decide +kernel
theorem dX7_countTrees_7 : decode cX7_countTrees 7 = .ok (.istore_n 1, 1) := by decide +kernel
theorem dX7_countTrees_8 : decode cX7_countTrees 8 = .ok (.iload_n 1, 1) := by decide +kernel
theorem dX7_countTrees_9 : decode cX7_countTrees 9 = .ok (.iconst (-1), 1) := by decide +kernel
theorem dX7_countTrees_10 : decode cX7_countTrees 10 = .ok (.if_icmp .ne 7, 3) := by decide +kernel
theorem dX7_countTrees_13 : decode cX7_countTrees 13 = .ok (.lconst 0, 1) := by decide +kernel
theorem dX7_countTrees_14 : decode cX7_countTrees 14 = .ok (.goto 14, 3) := by decide +kernel
theorem dX7_countTrees_17 : decode cX7_countTrees 17 = .ok (.aload_n 0, 1) := by decide +kernel
theorem dX7_countTrees_18 : decode cX7_countTrees 18 = .ok (.getfield 21, 3) := by decide +kernel
theorem dX7_countTrees_21 : decode cX7_countTrees 21 = .ok (.iload_n 1, 1) := by decide +kernel
theorem dX7_countTrees_22 : decode cX7_countTrees 22 = .ok (.invokestatic 168, 3) := by decide +kernel
theorem dX7_countTrees_25 : decode cX7_countTrees 25 = .ok (.invokevirtual 171, 3) := by decide +kernel
theorem dX7_countTrees_28 : decode cX7_countTrees 28 = .ok (.lreturn, 1) := by decide +kernel
set_option maxRecDepth 20000 in
theorem ggX7_countRest_X0_count : GoodIn wsX7_countRest wsX0_count := goodIn_r _ [8, 9, 10, 11, 7, 12, 13, 14, 15, 16, 17, 18, 19, 20, 21, 22, 23, 24, 25, 26, 27, 28, 29, 30, 31, 32, 33, 34, 35, 36, 37, 38, 39, 40, 41, 42, 43, 44, 45, 46, 47, 48, 49, 50, 51, 52, 53, 54, 55, 56, 57, 58, 59, 60, 61, 62, 63, 64, 65, 66, 67, 68, 69, 70, 71, 72, 73, 74, 75, 76, 77, 78, 79, 80, 81, 82, 83, 99, 100, 101, 102, 103, 104, 105, 106, 107, 91, 92, 93, 94, 95, 96, 97, 98] (by decide +kernel) (by decide +kernel)
set_option maxRecDepth 20000 in
theorem gX7_countRest_X0_count : GoodIn wsX7_countRest (wsV RX7 171 RX0 yX0_count wsX0_count) := goodIn_app (goodIn_of _ (by decide +kernel)) ggX7_countRest_X0_count
theorem dX7_countRest_0 : decode cX7_countRest 0 = .ok (.aload_n 0, 1) := by decide +kernel
theorem dX7_countRest_1 : decode cX7_countRest 1 = .ok (.getfield 21, 3) := by decide +kernel
theorem dX7_countRest_4 : decode cX7_countRest 4 = .ok (.aload_n 0, 1) := by decide +kernel
theorem dX7_countRest_5 : decode cX7_countRest 5 = .ok (.getfield 10, 3) := by decide +kernel
theorem dX7_countRest_8 : decode cX7_countRest 8 = .ok (.getfield 196, 3) := by decide +kernel
theorem dX7_countRest_11 : decode cX7_countRest 11 = .ok (.invokevirtual 171, 3) := by decide +kernel
theorem dX7_countRest_14 : decode cX7_countRest 14 = .ok (.lreturn, 1) := by decide +kernel
set_option maxRecDepth 20000 in
theorem ggX7_upperOfAnswer_X7_setOf : GoodIn wsX7_upperOfAnswer wsX7_setOf := goodIn_r _ [7] (by decide +kernel) (by decide +kernel)
set_option maxRecDepth 20000 in
theorem gX7_upperOfAnswer_X7_setOf : GoodIn wsX7_upperOfAnswer (va_wsS RX7 168 yX7_setOf wsX7_setOf) := goodIn_app (goodIn_of _ (by decide +kernel)) ggX7_upperOfAnswer_X7_setOf
set_option maxRecDepth 20000 in
theorem ggX7_upperOfAnswer_X0_countWith : GoodIn wsX7_upperOfAnswer wsX0_countWith := goodIn_r _ [12, 13, 14, 15, 16, 17, 18, 11, 19, 20, 21, 22, 23, 24, 25, 26, 27, 28, 29, 30, 31, 32, 33, 34, 35, 36, 37, 38, 39, 6, 40, 41, 42, 43, 44, 45, 46, 47, 48, 49, 50, 51, 52, 53, 54, 5, 7, 55, 56, 57, 58, 59, 60, 61, 62, 63, 64, 65, 66, 67, 68, 69, 70, 71, 72, 73, 74, 75, 76, 77, 78, 79, 80, 96, 97, 98, 99, 100, 101, 102, 103, 104, 88, 89, 90, 91, 92, 93, 94, 95] (by decide +kernel) (by decide +kernel)
set_option maxRecDepth 20000 in
theorem gX7_upperOfAnswer_X0_countWith : GoodIn wsX7_upperOfAnswer (wsV RX7 176 RX0 yX0_countWith wsX0_countWith) := goodIn_app (goodIn_of _ (by decide +kernel)) ggX7_upperOfAnswer_X0_countWith
theorem dX7_upperOfAnswer_0 : decode cX7_upperOfAnswer 0 = .ok (.aload_n 0, 1) := by decide +kernel
theorem dX7_upperOfAnswer_1 : decode cX7_upperOfAnswer 1 = .ok (.getfield 21, 3) := by decide +kernel
theorem dX7_upperOfAnswer_4 : decode cX7_upperOfAnswer 4 = .ok (.aload_n 0, 1) := by decide +kernel
theorem dX7_upperOfAnswer_5 : decode cX7_upperOfAnswer 5 = .ok (.getfield 10, 3) := by decide +kernel
theorem dX7_upperOfAnswer_8 : decode cX7_upperOfAnswer 8 = .ok (.getfield 196, 3) := by decide +kernel
theorem dX7_upperOfAnswer_11 : decode cX7_upperOfAnswer 11 = .ok (.iload_n 1, 1) := by decide +kernel
theorem dX7_upperOfAnswer_12 : decode cX7_upperOfAnswer 12 = .ok (.invokestatic 168, 3) := by decide +kernel
theorem dX7_upperOfAnswer_15 : decode cX7_upperOfAnswer 15 = .ok (.iconst (-1), 1) := by decide +kernel
theorem dX7_upperOfAnswer_16 : decode cX7_upperOfAnswer 16 = .ok (.ixor, 1) := by decide +kernel
theorem dX7_upperOfAnswer_17 : decode cX7_upperOfAnswer 17 = .ok (.iand, 1) := by decide +kernel
theorem dX7_upperOfAnswer_18 : decode cX7_upperOfAnswer 18 = .ok (.iload_n 1, 1) := by decide +kernel
theorem dX7_upperOfAnswer_19 : decode cX7_upperOfAnswer 19 = .ok (.iload_n 2, 1) := by decide +kernel
theorem dX7_upperOfAnswer_20 : decode cX7_upperOfAnswer 20 = .ok (.invokevirtual 176, 3) := by decide +kernel
theorem dX7_upperOfAnswer_23 : decode cX7_upperOfAnswer 23 = .ok (.lreturn, 1) := by decide +kernel
set_option maxRecDepth 20000 in
theorem ggX7_upperOfPotential_X4_hasEdge : GoodIn wsX7_upperOfPotential wsX4_hasEdge := goodIn_r _ [8, 9, 10, 11, 12, 7, 13, 14, 15, 16, 17, 102, 103, 104, 105, 106, 107, 108, 109] (by decide +kernel) (by decide +kernel)
set_option maxRecDepth 20000 in
theorem gX7_upperOfPotential_X4_hasEdge : GoodIn wsX7_upperOfPotential (wsV RX7 155 RX4 yX4_hasEdge wsX4_hasEdge) := goodIn_app (goodIn_of _ (by decide +kernel)) ggX7_upperOfPotential_X4_hasEdge
set_option maxRecDepth 20000 in
theorem ggX7_upperOfPotential_X7_valueOf : GoodIn wsX7_upperOfPotential wsX7_valueOf := goodIn_r _ [21, 22, 95, 96, 97, 98, 99, 100, 101] (by decide +kernel) (by decide +kernel)
set_option maxRecDepth 20000 in
theorem gX7_upperOfPotential_X7_valueOf : GoodIn wsX7_upperOfPotential (wsV RX7 158 RX7 yX7_valueOf wsX7_valueOf) := goodIn_app (goodIn_of _ (by decide +kernel)) ggX7_upperOfPotential_X7_valueOf
set_option maxRecDepth 20000 in
theorem ggX7_upperOfPotential_X0_countWith : GoodIn wsX7_upperOfPotential wsX0_countWith := goodIn_r _ [27, 28, 29, 30, 31, 32, 33, 26, 34, 35, 36, 37, 38, 39, 40, 41, 42, 43, 44, 45, 46, 47, 48, 49, 50, 7, 51, 52, 15, 16, 17, 53, 54, 55, 56, 57, 58, 59, 60, 61, 62, 63, 64, 65, 66, 67, 68, 69, 70, 71, 72, 73, 74, 75, 76, 77, 78, 79, 80, 81, 82, 83, 84, 85, 86, 87, 88, 89, 90, 91, 92, 93, 94, 110, 111, 112, 113, 114, 115, 116, 117, 118, 102, 103, 104, 105, 106, 107, 108, 109] (by decide +kernel) (by decide +kernel)
set_option maxRecDepth 20000 in
theorem gX7_upperOfPotential_X0_countWith : GoodIn wsX7_upperOfPotential (wsV RX7 176 RX0 yX0_countWith wsX0_countWith) := goodIn_app (goodIn_of _ (by decide +kernel)) ggX7_upperOfPotential_X0_countWith
theorem dX7_upperOfPotential_0 : decode cX7_upperOfPotential 0 = .ok (.lconst 0, 1) := by decide +kernel
theorem dX7_upperOfPotential_1 : decode cX7_upperOfPotential 1 = .ok (.lstore_n 2, 1) := by decide +kernel
theorem dX7_upperOfPotential_2 : decode cX7_upperOfPotential 2 = .ok (.iconst 0, 1) := by decide +kernel
theorem dX7_upperOfPotential_3 : decode cX7_upperOfPotential 3 = .ok (.istore 4, 2) := by decide +kernel
theorem dX7_upperOfPotential_5 : decode cX7_upperOfPotential 5 = .ok (.iload 4, 2) := by decide +kernel
theorem dX7_upperOfPotential_7 : decode cX7_upperOfPotential 7 = .ok (.bipush 7, 2) := by decide +kernel
theorem dX7_upperOfPotential_9 : decode cX7_upperOfPotential 9 = .ok (.if_icmp .ge 48, 3) := by decide +kernel
theorem dX7_upperOfPotential_12 : decode cX7_upperOfPotential 12 = .ok (.aload_n 0, 1) := by decide +kernel
theorem dX7_upperOfPotential_13 : decode cX7_upperOfPotential 13 = .ok (.getfield 10, 3) := by decide +kernel
theorem dX7_upperOfPotential_16 : decode cX7_upperOfPotential 16 = .ok (.iload 4, 2) := by decide +kernel
theorem dX7_upperOfPotential_18 : decode cX7_upperOfPotential 18 = .ok (.invokevirtual 155, 3) := by decide +kernel
theorem dX7_upperOfPotential_21 : decode cX7_upperOfPotential 21 = .ok (.ifCond .eq 30, 3) := by decide +kernel
theorem dX7_upperOfPotential_24 : decode cX7_upperOfPotential 24 = .ok (.lload_n 2, 1) := by decide +kernel
theorem dX7_upperOfPotential_25 : decode cX7_upperOfPotential 25 = .ok (.aload_n 0, 1) := by decide +kernel
theorem dX7_upperOfPotential_26 : decode cX7_upperOfPotential 26 = .ok (.iload 4, 2) := by decide +kernel
theorem dX7_upperOfPotential_28 : decode cX7_upperOfPotential 28 = .ok (.invokevirtual 158, 3) := by decide +kernel
theorem dX7_upperOfPotential_31 : decode cX7_upperOfPotential 31 = .ok (.aload_n 0, 1) := by decide +kernel
theorem dX7_upperOfPotential_32 : decode cX7_upperOfPotential 32 = .ok (.getfield 21, 3) := by decide +kernel
theorem dX7_upperOfPotential_35 : decode cX7_upperOfPotential 35 = .ok (.aload_n 0, 1) := by decide +kernel
theorem dX7_upperOfPotential_36 : decode cX7_upperOfPotential 36 = .ok (.getfield 10, 3) := by decide +kernel
theorem dX7_upperOfPotential_39 : decode cX7_upperOfPotential 39 = .ok (.getfield 196, 3) := by decide +kernel
theorem dX7_upperOfPotential_42 : decode cX7_upperOfPotential 42 = .ok (.iload_n 1, 1) := by decide +kernel
theorem dX7_upperOfPotential_43 : decode cX7_upperOfPotential 43 = .ok (.iload 4, 2) := by decide +kernel
theorem dX7_upperOfPotential_45 : decode cX7_upperOfPotential 45 = .ok (.invokevirtual 176, 3) := by decide +kernel
theorem dX7_upperOfPotential_48 : decode cX7_upperOfPotential 48 = .ok (.lmul, 1) := by decide +kernel
theorem dX7_upperOfPotential_49 : decode cX7_upperOfPotential 49 = .ok (.ladd, 1) := by decide +kernel
theorem dX7_upperOfPotential_50 : decode cX7_upperOfPotential 50 = .ok (.lstore_n 2, 1) := by decide +kernel
theorem dX7_upperOfPotential_51 : decode cX7_upperOfPotential 51 = .ok (.iinc 4 1, 3) := by decide +kernel
theorem dX7_upperOfPotential_54 : decode cX7_upperOfPotential 54 = .ok (.goto (-49), 3) := by decide +kernel
theorem dX7_upperOfPotential_57 : decode cX7_upperOfPotential 57 = .ok (.lload_n 2, 1) := by decide +kernel
theorem dX7_upperOfPotential_58 : decode cX7_upperOfPotential 58 = .ok (.lreturn, 1) := by decide +kernel
set_option maxRecDepth 20000 in
theorem ggX7_upperOfCurrent_X4_hasEdge : GoodIn wsX7_upperOfCurrent wsX4_hasEdge := goodIn_r _ [6, 7, 8, 9, 10, 5, 11, 12, 13, 14, 15, 107, 108, 109, 110, 111, 112, 113, 114] (by decide +kernel) (by decide +kernel)
set_option maxRecDepth 20000 in
theorem gX7_upperOfCurrent_X4_hasEdge : GoodIn wsX7_upperOfCurrent (wsV RX7 155 RX4 yX4_hasEdge wsX4_hasEdge) := goodIn_app (goodIn_of _ (by decide +kernel)) ggX7_upperOfCurrent_X4_hasEdge
set_option maxRecDepth 20000 in
theorem ggX7_upperOfCurrent_X7_valueOf : GoodIn wsX7_upperOfCurrent wsX7_valueOf := goodIn_r _ [19, 20, 100, 101, 102, 103, 104, 105, 106] (by decide +kernel) (by decide +kernel)
set_option maxRecDepth 20000 in
theorem gX7_upperOfCurrent_X7_valueOf : GoodIn wsX7_upperOfCurrent (wsV RX7 158 RX7 yX7_valueOf wsX7_valueOf) := goodIn_app (goodIn_of _ (by decide +kernel)) ggX7_upperOfCurrent_X7_valueOf
set_option maxRecDepth 20000 in
theorem ggX7_upperOfCurrent_X7_upperOfAnswer : GoodIn wsX7_upperOfCurrent wsX7_upperOfAnswer := goodIn_r _ [24, 25, 1, 26, 27, 28, 14, 29, 30, 31, 32, 33, 34, 35, 36, 37, 38, 39, 40, 41, 42, 43, 44, 45, 46, 47, 48, 49, 50, 51, 52, 53, 54, 55, 56, 57, 5, 58, 59, 13, 15, 60, 61, 62, 63, 64, 65, 66, 67, 68, 69, 70, 71, 72, 73, 74, 75, 76, 77, 78, 79, 80, 81, 82, 83, 84, 85, 86, 87, 88, 89, 90, 91, 92, 93, 94, 95, 96, 97, 98, 99, 100, 101, 102, 103, 104, 105, 106, 107, 108, 109, 110, 111, 112, 113, 114, 115, 116, 117, 118, 119, 120, 121, 122, 123] (by decide +kernel) (by decide +kernel)
set_option maxRecDepth 20000 in
theorem gX7_upperOfCurrent_X7_upperOfAnswer : GoodIn wsX7_upperOfCurrent (wsV RX7 141 RX7 yX7_upperOfAnswer wsX7_upperOfAnswer) := goodIn_app (goodIn_of _ (by decide +kernel)) ggX7_upperOfCurrent_X7_upperOfAnswer
theorem dX7_upperOfCurrent_0 : decode cX7_upperOfCurrent 0 = .ok (.lconst 0, 1) := by decide +kernel
theorem dX7_upperOfCurrent_1 : decode cX7_upperOfCurrent 1 = .ok (.lstore_n 2, 1) := by decide +kernel
theorem dX7_upperOfCurrent_2 : decode cX7_upperOfCurrent 2 = .ok (.iconst 0, 1) := by decide +kernel
theorem dX7_upperOfCurrent_3 : decode cX7_upperOfCurrent 3 = .ok (.istore 4, 2) := by decide +kernel
theorem dX7_upperOfCurrent_5 : decode cX7_upperOfCurrent 5 = .ok (.iload 4, 2) := by decide +kernel
theorem dX7_upperOfCurrent_7 : decode cX7_upperOfCurrent 7 = .ok (.bipush 7, 2) := by decide +kernel
theorem dX7_upperOfCurrent_9 : decode cX7_upperOfCurrent 9 = .ok (.if_icmp .ge 50, 3) := by decide +kernel
theorem dX7_upperOfCurrent_12 : decode cX7_upperOfCurrent 12 = .ok (.iload 4, 2) := by decide +kernel
theorem dX7_upperOfCurrent_14 : decode cX7_upperOfCurrent 14 = .ok (.iload_n 1, 1) := by decide +kernel
theorem dX7_upperOfCurrent_15 : decode cX7_upperOfCurrent 15 = .ok (.if_icmp .eq 38, 3) := by decide +kernel
theorem dX7_upperOfCurrent_18 : decode cX7_upperOfCurrent 18 = .ok (.aload_n 0, 1) := by decide +kernel
theorem dX7_upperOfCurrent_19 : decode cX7_upperOfCurrent 19 = .ok (.getfield 10, 3) := by decide +kernel
theorem dX7_upperOfCurrent_22 : decode cX7_upperOfCurrent 22 = .ok (.iload 4, 2) := by decide +kernel
theorem dX7_upperOfCurrent_24 : decode cX7_upperOfCurrent 24 = .ok (.invokevirtual 155, 3) := by decide +kernel
theorem dX7_upperOfCurrent_27 : decode cX7_upperOfCurrent 27 = .ok (.ifCond .eq 26, 3) := by decide +kernel
theorem dX7_upperOfCurrent_30 : decode cX7_upperOfCurrent 30 = .ok (.lload_n 2, 1) := by decide +kernel
theorem dX7_upperOfCurrent_31 : decode cX7_upperOfCurrent 31 = .ok (.aload_n 0, 1) := by decide +kernel
theorem dX7_upperOfCurrent_32 : decode cX7_upperOfCurrent 32 = .ok (.iload_n 1, 1) := by decide +kernel
theorem dX7_upperOfCurrent_33 : decode cX7_upperOfCurrent 33 = .ok (.invokevirtual 158, 3) := by decide +kernel
theorem dX7_upperOfCurrent_36 : decode cX7_upperOfCurrent 36 = .ok (.aload_n 0, 1) := by decide +kernel
theorem dX7_upperOfCurrent_37 : decode cX7_upperOfCurrent 37 = .ok (.iload 4, 2) := by decide +kernel
theorem dX7_upperOfCurrent_39 : decode cX7_upperOfCurrent 39 = .ok (.invokevirtual 158, 3) := by decide +kernel
theorem dX7_upperOfCurrent_42 : decode cX7_upperOfCurrent 42 = .ok (.lsub, 1) := by decide +kernel
theorem dX7_upperOfCurrent_43 : decode cX7_upperOfCurrent 43 = .ok (.aload_n 0, 1) := by decide +kernel
theorem dX7_upperOfCurrent_44 : decode cX7_upperOfCurrent 44 = .ok (.iload_n 1, 1) := by decide +kernel
theorem dX7_upperOfCurrent_45 : decode cX7_upperOfCurrent 45 = .ok (.iload 4, 2) := by decide +kernel
theorem dX7_upperOfCurrent_47 : decode cX7_upperOfCurrent 47 = .ok (.invokevirtual 141, 3) := by decide +kernel
theorem dX7_upperOfCurrent_50 : decode cX7_upperOfCurrent 50 = .ok (.lmul, 1) := by decide +kernel
theorem dX7_upperOfCurrent_51 : decode cX7_upperOfCurrent 51 = .ok (.ladd, 1) := by decide +kernel
theorem dX7_upperOfCurrent_52 : decode cX7_upperOfCurrent 52 = .ok (.lstore_n 2, 1) := by decide +kernel
theorem dX7_upperOfCurrent_53 : decode cX7_upperOfCurrent 53 = .ok (.iinc 4 1, 3) := by decide +kernel
theorem dX7_upperOfCurrent_56 : decode cX7_upperOfCurrent 56 = .ok (.goto (-51), 3) := by decide +kernel
theorem dX7_upperOfCurrent_59 : decode cX7_upperOfCurrent 59 = .ok (.lload_n 2, 1) := by decide +kernel
theorem dX7_upperOfCurrent_60 : decode cX7_upperOfCurrent 60 = .ok (.lreturn, 1) := by decide +kernel
theorem dX7_valueOf_0 : decode cX7_valueOf 0 = .ok (.iload_n 1, 1) := by decide +kernel
theorem dX7_valueOf_1 : decode cX7_valueOf 1 = .ok (.ifCond .lt 22, 3) := by decide +kernel
theorem dX7_valueOf_4 : decode cX7_valueOf 4 = .ok (.iload_n 1, 1) := by decide +kernel
theorem dX7_valueOf_5 : decode cX7_valueOf 5 = .ok (.aload_n 0, 1) := by decide +kernel
theorem dX7_valueOf_6 : decode cX7_valueOf 6 = .ok (.getfield 53, 3) := by decide +kernel
theorem dX7_valueOf_9 : decode cX7_valueOf 9 = .ok (.arraylength, 1) := by decide +kernel
theorem dX7_valueOf_10 : decode cX7_valueOf 10 = .ok (.if_icmp .ge 13, 3) := by decide +kernel
theorem dX7_valueOf_13 : decode cX7_valueOf 13 = .ok (.aload_n 0, 1) := by decide +kernel
theorem dX7_valueOf_14 : decode cX7_valueOf 14 = .ok (.getfield 53, 3) := by decide +kernel
theorem dX7_valueOf_17 : decode cX7_valueOf 17 = .ok (.iload_n 1, 1) := by decide +kernel
theorem dX7_valueOf_18 : decode cX7_valueOf 18 = .ok (.iaload, 1) := by decide +kernel
theorem dX7_valueOf_19 : decode cX7_valueOf 19 = .ok (.i2l, 1) := by decide +kernel
theorem dX7_valueOf_20 : decode cX7_valueOf 20 = .ok (.goto 4, 3) := by decide +kernel
theorem dX7_valueOf_23 : decode cX7_valueOf 23 = .ok (.lconst 0, 1) := by decide +kernel
theorem dX7_valueOf_24 : decode cX7_valueOf 24 = .ok (.lreturn, 1) := by decide +kernel
theorem dX7_setValue_0 : decode cX7_setValue 0 = .ok (.iload_n 1, 1) := by decide +kernel
theorem dX7_setValue_1 : decode cX7_setValue 1 = .ok (.ifCond .lt 19, 3) := by decide +kernel
theorem dX7_setValue_4 : decode cX7_setValue 4 = .ok (.iload_n 1, 1) := by decide +kernel
theorem dX7_setValue_5 : decode cX7_setValue 5 = .ok (.aload_n 0, 1) := by decide +kernel
theorem dX7_setValue_6 : decode cX7_setValue 6 = .ok (.getfield 53, 3) := by decide +kernel
theorem dX7_setValue_9 : decode cX7_setValue 9 = .ok (.arraylength, 1) := by decide +kernel
theorem dX7_setValue_10 : decode cX7_setValue 10 = .ok (.if_icmp .ge 10, 3) := by decide +kernel
theorem dX7_setValue_13 : decode cX7_setValue 13 = .ok (.aload_n 0, 1) := by decide +kernel
theorem dX7_setValue_14 : decode cX7_setValue 14 = .ok (.getfield 53, 3) := by decide +kernel
theorem dX7_setValue_17 : decode cX7_setValue 17 = .ok (.iload_n 1, 1) := by decide +kernel
theorem dX7_setValue_18 : decode cX7_setValue 18 = .ok (.iload_n 2, 1) := by decide +kernel
theorem dX7_setValue_19 : decode cX7_setValue 19 = .ok (.iastore, 1) := by decide +kernel
theorem dX7_setValue_20 : decode cX7_setValue 20 = .ok (.return_, 1) := by decide +kernel
set_option maxRecDepth 20000 in
theorem ggX7_upperOfOppositeAnswer_X4_hasEdge : GoodIn wsX7_upperOfOppositeAnswer wsX4_hasEdge := goodIn_r _ [6, 7, 8, 9, 10, 5, 11, 12, 13, 14, 15, 102, 103, 104, 105, 106, 107, 108, 109] (by decide +kernel) (by decide +kernel)
set_option maxRecDepth 20000 in
theorem gX7_upperOfOppositeAnswer_X4_hasEdge : GoodIn wsX7_upperOfOppositeAnswer (wsV RX7 155 RX4 yX4_hasEdge wsX4_hasEdge) := goodIn_app (goodIn_of _ (by decide +kernel)) ggX7_upperOfOppositeAnswer_X4_hasEdge
set_option maxRecDepth 20000 in
theorem ggX7_upperOfOppositeAnswer_X7_upperOfAnswer : GoodIn wsX7_upperOfOppositeAnswer wsX7_upperOfAnswer := goodIn_r _ [19, 20, 1, 21, 22, 23, 14, 24, 25, 26, 27, 28, 29, 30, 31, 32, 33, 34, 35, 36, 37, 38, 39, 40, 41, 42, 43, 44, 45, 46, 47, 48, 49, 50, 51, 52, 5, 53, 54, 13, 15, 55, 56, 57, 58, 59, 60, 61, 62, 63, 64, 65, 66, 67, 68, 69, 70, 71, 72, 73, 74, 75, 76, 77, 78, 79, 80, 81, 82, 83, 84, 85, 86, 87, 88, 89, 90, 91, 92, 93, 94, 95, 96, 97, 98, 99, 100, 101, 102, 103, 104, 105, 106, 107, 108, 109, 110, 111, 112, 113, 114, 115, 116, 117, 118] (by decide +kernel) (by decide +kernel)
set_option maxRecDepth 20000 in
theorem gX7_upperOfOppositeAnswer_X7_upperOfAnswer : GoodIn wsX7_upperOfOppositeAnswer (wsV RX7 141 RX7 yX7_upperOfAnswer wsX7_upperOfAnswer) := goodIn_app (goodIn_of _ (by decide +kernel)) ggX7_upperOfOppositeAnswer_X7_upperOfAnswer
theorem dX7_upperOfOppositeAnswer_0 : decode cX7_upperOfOppositeAnswer 0 = .ok (.iconst (-1), 1) := by decide +kernel
theorem dX7_upperOfOppositeAnswer_1 : decode cX7_upperOfOppositeAnswer 1 = .ok (.istore_n 2, 1) := by decide +kernel
theorem dX7_upperOfOppositeAnswer_2 : decode cX7_upperOfOppositeAnswer 2 = .ok (.iconst 0, 1) := by decide +kernel
theorem dX7_upperOfOppositeAnswer_3 : decode cX7_upperOfOppositeAnswer 3 = .ok (.istore_n 3, 1) := by decide +kernel
theorem dX7_upperOfOppositeAnswer_4 : decode cX7_upperOfOppositeAnswer 4 = .ok (.iload_n 3, 1) := by decide +kernel
theorem dX7_upperOfOppositeAnswer_5 : decode cX7_upperOfOppositeAnswer 5 = .ok (.bipush 7, 2) := by decide +kernel
theorem dX7_upperOfOppositeAnswer_7 : decode cX7_upperOfOppositeAnswer 7 = .ok (.if_icmp .ge 39, 3) := by decide +kernel
theorem dX7_upperOfOppositeAnswer_10 : decode cX7_upperOfOppositeAnswer 10 = .ok (.iload_n 3, 1) := by decide +kernel
theorem dX7_upperOfOppositeAnswer_11 : decode cX7_upperOfOppositeAnswer 11 = .ok (.iload_n 1, 1) := by decide +kernel
theorem dX7_upperOfOppositeAnswer_12 : decode cX7_upperOfOppositeAnswer 12 = .ok (.if_icmp .eq 28, 3) := by decide +kernel
theorem dX7_upperOfOppositeAnswer_15 : decode cX7_upperOfOppositeAnswer 15 = .ok (.aload_n 0, 1) := by decide +kernel
theorem dX7_upperOfOppositeAnswer_16 : decode cX7_upperOfOppositeAnswer 16 = .ok (.getfield 10, 3) := by decide +kernel
theorem dX7_upperOfOppositeAnswer_19 : decode cX7_upperOfOppositeAnswer 19 = .ok (.iload_n 3, 1) := by decide +kernel
theorem dX7_upperOfOppositeAnswer_20 : decode cX7_upperOfOppositeAnswer 20 = .ok (.invokevirtual 155, 3) := by decide +kernel
theorem dX7_upperOfOppositeAnswer_23 : decode cX7_upperOfOppositeAnswer 23 = .ok (.ifCond .eq 17, 3) := by decide +kernel
theorem dX7_upperOfOppositeAnswer_26 : decode cX7_upperOfOppositeAnswer 26 = .ok (.iload_n 2, 1) := by decide +kernel
theorem dX7_upperOfOppositeAnswer_27 : decode cX7_upperOfOppositeAnswer 27 = .ok (.iconst (-1), 1) := by decide +kernel
theorem dX7_upperOfOppositeAnswer_28 : decode cX7_upperOfOppositeAnswer 28 = .ok (.if_icmp .eq 10, 3) := by decide +kernel
theorem dX7_upperOfOppositeAnswer_31 : decode cX7_upperOfOppositeAnswer 31 = .ok (.aload_n 0, 1) := by decide +kernel
theorem dX7_upperOfOppositeAnswer_32 : decode cX7_upperOfOppositeAnswer 32 = .ok (.iload_n 2, 1) := by decide +kernel
theorem dX7_upperOfOppositeAnswer_33 : decode cX7_upperOfOppositeAnswer 33 = .ok (.iload_n 3, 1) := by decide +kernel
theorem dX7_upperOfOppositeAnswer_34 : decode cX7_upperOfOppositeAnswer 34 = .ok (.invokevirtual 141, 3) := by decide +kernel
theorem dX7_upperOfOppositeAnswer_37 : decode cX7_upperOfOppositeAnswer 37 = .ok (.lreturn, 1) := by decide +kernel
theorem dX7_upperOfOppositeAnswer_38 : decode cX7_upperOfOppositeAnswer 38 = .ok (.iload_n 3, 1) := by decide +kernel
theorem dX7_upperOfOppositeAnswer_39 : decode cX7_upperOfOppositeAnswer 39 = .ok (.istore_n 2, 1) := by decide +kernel
theorem dX7_upperOfOppositeAnswer_40 : decode cX7_upperOfOppositeAnswer 40 = .ok (.iinc 3 1, 3) := by decide +kernel
theorem dX7_upperOfOppositeAnswer_43 : decode cX7_upperOfOppositeAnswer 43 = .ok (.goto (-39), 3) := by decide +kernel
theorem dX7_upperOfOppositeAnswer_46 : decode cX7_upperOfOppositeAnswer 46 = .ok (.lconst 0, 1) := by decide +kernel
theorem dX7_upperOfOppositeAnswer_47 : decode cX7_upperOfOppositeAnswer 47 = .ok (.lreturn, 1) := by decide +kernel
theorem dX8_init_0 : decode cX8_init 0 = .ok (.aload_n 0, 1) := by decide +kernel
theorem dX8_init_1 : decode cX8_init 1 = .ok (.invokespecial 1, 3) := by decide +kernel
theorem dX8_init_4 : decode cX8_init 4 = .ok (.aload_n 0, 1) := by decide +kernel
theorem dX8_init_5 : decode cX8_init 5 = .ok (.bipush 20, 2) := by decide +kernel
theorem dX8_init_7 : decode cX8_init 7 = .ok (.newarray .int, 2) := by decide +kernel
theorem dX8_init_9 : decode cX8_init 9 = .ok (.putfield 7, 3) := by decide +kernel
theorem dX8_init_12 : decode cX8_init 12 = .ok (.aload_n 0, 1) := by decide +kernel
theorem dX8_init_13 : decode cX8_init 13 = .ok (.bipush 20, 2) := by decide +kernel
theorem dX8_init_15 : decode cX8_init 15 = .ok (.newarray .int, 2) := by decide +kernel
theorem dX8_init_17 : decode cX8_init 17 = .ok (.putfield 13, 3) := by decide +kernel
theorem dX8_init_20 : decode cX8_init 20 = .ok (.aload_n 0, 1) := by decide +kernel
theorem dX8_init_21 : decode cX8_init 21 = .ok (.bipush 20, 2) := by decide +kernel
theorem dX8_init_23 : decode cX8_init 23 = .ok (.newarray .int, 2) := by decide +kernel
theorem dX8_init_25 : decode cX8_init 25 = .ok (.putfield 16, 3) := by decide +kernel
theorem dX8_init_28 : decode cX8_init 28 = .ok (.aload_n 0, 1) := by decide +kernel
theorem dX8_init_29 : decode cX8_init 29 = .ok (.bipush 7, 2) := by decide +kernel
theorem dX8_init_31 : decode cX8_init 31 = .ok (.newarray .int, 2) := by decide +kernel
theorem dX8_init_33 : decode cX8_init 33 = .ok (.putfield 19, 3) := by decide +kernel
theorem dX8_init_36 : decode cX8_init 36 = .ok (.aload_n 0, 1) := by decide +kernel
theorem dX8_init_37 : decode cX8_init 37 = .ok (.sipush 1500, 3) := by decide +kernel
theorem dX8_init_40 : decode cX8_init 40 = .ok (.newarray .int, 2) := by decide +kernel
theorem dX8_init_42 : decode cX8_init 42 = .ok (.putfield 22, 3) := by decide +kernel
theorem dX8_init_45 : decode cX8_init 45 = .ok (.aload_n 0, 1) := by decide +kernel
theorem dX8_init_46 : decode cX8_init 46 = .ok (.bipush 7, 2) := by decide +kernel
theorem dX8_init_48 : decode cX8_init 48 = .ok (.newarray .int, 2) := by decide +kernel
theorem dX8_init_50 : decode cX8_init 50 = .ok (.putfield 25, 3) := by decide +kernel
theorem dX8_init_53 : decode cX8_init 53 = .ok (.aload_n 0, 1) := by decide +kernel
theorem dX8_init_54 : decode cX8_init 54 = .ok (.bipush 7, 2) := by decide +kernel
theorem dX8_init_56 : decode cX8_init 56 = .ok (.newarray .int, 2) := by decide +kernel
theorem dX8_init_58 : decode cX8_init 58 = .ok (.putfield 28, 3) := by decide +kernel
theorem dX8_init_61 : decode cX8_init 61 = .ok (.aload_n 0, 1) := by decide +kernel
theorem dX8_init_62 : decode cX8_init 62 = .ok (.bipush 49, 2) := by decide +kernel
theorem dX8_init_64 : decode cX8_init 64 = .ok (.newarray .long, 2) := by decide +kernel
theorem dX8_init_66 : decode cX8_init 66 = .ok (.putfield 31, 3) := by decide +kernel
theorem dX8_init_69 : decode cX8_init 69 = .ok (.aload_n 0, 1) := by decide +kernel
theorem dX8_init_70 : decode cX8_init 70 = .ok (.bipush 49, 2) := by decide +kernel
theorem dX8_init_72 : decode cX8_init 72 = .ok (.newarray .long, 2) := by decide +kernel
theorem dX8_init_74 : decode cX8_init 74 = .ok (.putfield 35, 3) := by decide +kernel
theorem dX8_init_77 : decode cX8_init 77 = .ok (.aload_n 0, 1) := by decide +kernel
theorem dX8_init_78 : decode cX8_init 78 = .ok (.bipush 10, 2) := by decide +kernel
theorem dX8_init_80 : decode cX8_init 80 = .ok (.newarray .int, 2) := by decide +kernel
theorem dX8_init_82 : decode cX8_init 82 = .ok (.putfield 38, 3) := by decide +kernel
theorem dX8_init_85 : decode cX8_init 85 = .ok (.aload_n 0, 1) := by decide +kernel
theorem dX8_init_86 : decode cX8_init 86 = .ok (.iconst 3, 1) := by decide +kernel
theorem dX8_init_87 : decode cX8_init 87 = .ok (.newarray .int, 2) := by decide +kernel
theorem dX8_init_89 : decode cX8_init 89 = .ok (.putfield 41, 3) := by decide +kernel
theorem dX8_init_92 : decode cX8_init 92 = .ok (.aload_n 0, 1) := by decide +kernel
theorem dX8_init_93 : decode cX8_init 93 = .ok (.iconst 3, 1) := by decide +kernel
theorem dX8_init_94 : decode cX8_init 94 = .ok (.newarray .int, 2) := by decide +kernel
theorem dX8_init_96 : decode cX8_init 96 = .ok (.putfield 44, 3) := by decide +kernel
theorem dX8_init_99 : decode cX8_init 99 = .ok (.return_, 1) := by decide +kernel
theorem dX8_thrown_0 : decode cX8_thrown 0 = .ok (.aload_n 0, 1) := by decide +kernel
theorem dX8_thrown_1 : decode cX8_thrown 1 = .ok (.getfield 47, 3) := by decide +kernel
theorem dX8_thrown_4 : decode cX8_thrown 4 = .ok (.ireturn, 1) := by decide +kernel
theorem dX8_in_0 : decode cX8_in 0 = .ok (.iload_n 0, 1) := by decide +kernel
theorem dX8_in_1 : decode cX8_in 1 = .ok (.iload_n 1, 1) := by decide +kernel
theorem dX8_in_2 : decode cX8_in 2 = .ok (.if_icmp .lt 12, 3) := by decide +kernel
theorem dX8_in_5 : decode cX8_in 5 = .ok (.iload_n 0, 1) := by decide +kernel
theorem dX8_in_6 : decode cX8_in 6 = .ok (.iload_n 2, 1) := by decide +kernel
theorem dX8_in_7 : decode cX8_in 7 = .ok (.if_icmp .gt 7, 3) := by decide +kernel
theorem dX8_in_10 : decode cX8_in 10 = .ok (.iconst 1, 1) := by decide +kernel
theorem dX8_in_11 : decode cX8_in 11 = .ok (.goto 4, 3) := by decide +kernel
theorem dX8_in_14 : decode cX8_in 14 = .ok (.iconst 0, 1) := by decide +kernel
theorem dX8_in_15 : decode cX8_in 15 = .ok (.ireturn, 1) := by decide +kernel
theorem dX8_isIn_0 : decode cX8_isIn 0 = .ok (.iload_n 0, 1) := by decide +kernel
theorem dX8_isIn_1 : decode cX8_isIn 1 = .ok (.iload_n 1, 1) := by decide +kernel
theorem dX8_isIn_2 : decode cX8_isIn 2 = .ok (.ishr, 1) := by decide +kernel
theorem dX8_isIn_3 : decode cX8_isIn 3 = .ok (.iconst 1, 1) := by decide +kernel
theorem dX8_isIn_4 : decode cX8_isIn 4 = .ok (.iand, 1) := by decide +kernel
theorem dX8_isIn_5 : decode cX8_isIn 5 = .ok (.iconst 1, 1) := by decide +kernel
theorem dX8_isIn_6 : decode cX8_isIn 6 = .ok (.if_icmp .ne 7, 3) := by decide +kernel
theorem dX8_isIn_9 : decode cX8_isIn 9 = .ok (.iconst 1, 1) := by decide +kernel
theorem dX8_isIn_10 : decode cX8_isIn 10 = .ok (.goto 4, 3) := by decide +kernel
theorem dX8_isIn_13 : decode cX8_isIn 13 = .ok (.iconst 0, 1) := by decide +kernel
theorem dX8_isIn_14 : decode cX8_isIn 14 = .ok (.ireturn, 1) := by decide +kernel
set_option maxRecDepth 20000 in
theorem ggX8_isNode_X8_in : GoodIn wsX8_isNode wsX8_in := goodIn_r _ [5] (by decide +kernel) (by decide +kernel)
set_option maxRecDepth 20000 in
theorem gX8_isNode_X8_in : GoodIn wsX8_isNode (va_wsS RX8 51 yX8_in wsX8_in) := goodIn_app (goodIn_of _ (by decide +kernel)) ggX8_isNode_X8_in
set_option maxRecDepth 20000 in
theorem ggX8_isNode_X8_isIn : GoodIn wsX8_isNode wsX8_isIn := goodIn_r _ [8] (by decide +kernel) (by decide +kernel)
set_option maxRecDepth 20000 in
theorem gX8_isNode_X8_isIn : GoodIn wsX8_isNode (va_wsS RX8 58 yX8_isIn wsX8_isIn) := goodIn_app (goodIn_of _ (by decide +kernel)) ggX8_isNode_X8_isIn
theorem dX8_isNode_0 : decode cX8_isNode 0 = .ok (.iload_n 1, 1) := by decide +kernel
theorem dX8_isNode_1 : decode cX8_isNode 1 = .ok (.iconst 0, 1) := by decide +kernel
theorem dX8_isNode_2 : decode cX8_isNode 2 = .ok (.bipush 6, 2) := by decide +kernel
theorem dX8_isNode_4 : decode cX8_isNode 4 = .ok (.invokestatic 51, 3) := by decide +kernel
theorem dX8_isNode_7 : decode cX8_isNode 7 = .ok (.ifCond .eq 18, 3) := by decide +kernel
theorem dX8_isNode_10 : decode cX8_isNode 10 = .ok (.aload_n 0, 1) := by decide +kernel
theorem dX8_isNode_11 : decode cX8_isNode 11 = .ok (.getfield 55, 3) := by decide +kernel
theorem dX8_isNode_14 : decode cX8_isNode 14 = .ok (.iload_n 1, 1) := by decide +kernel
theorem dX8_isNode_15 : decode cX8_isNode 15 = .ok (.invokestatic 58, 3) := by decide +kernel
theorem dX8_isNode_18 : decode cX8_isNode 18 = .ok (.ifCond .eq 7, 3) := by decide +kernel
theorem dX8_isNode_21 : decode cX8_isNode 21 = .ok (.iconst 1, 1) := by decide +kernel
theorem dX8_isNode_22 : decode cX8_isNode 22 = .ok (.goto 4, 3) := by decide +kernel
theorem dX8_isNode_25 : decode cX8_isNode 25 = .ok (.iconst 0, 1) := by decide +kernel
theorem dX8_isNode_26 : decode cX8_isNode 26 = .ok (.ireturn, 1) := by decide +kernel
set_option maxRecDepth 20000 in
theorem ggX8_isEdge_X8_isNode : GoodIn wsX8_isEdge wsX8_isNode := goodIn_r _ [6, 7, 8, 9, 5, 10, 11, 12, 13, 14, 15, 16, 17, 18, 19, 20, 21, 22, 23, 24, 25, 26, 27, 28, 29, 30, 31, 32, 33, 34] (by decide +kernel) (by decide +kernel)
set_option maxRecDepth 20000 in
theorem gX8_isEdge_X8_isNode : GoodIn wsX8_isEdge (wsV RX8 62 RX8 yX8_isNode wsX8_isNode) := goodIn_app (goodIn_of _ (by decide +kernel)) ggX8_isEdge_X8_isNode
set_option maxRecDepth 20000 in
theorem ggX8_isEdge_X8_isIn : GoodIn wsX8_isEdge wsX8_isIn := goodIn_r _ [13] (by decide +kernel) (by decide +kernel)
set_option maxRecDepth 20000 in
theorem gX8_isEdge_X8_isIn : GoodIn wsX8_isEdge (va_wsS RX8 58 yX8_isIn wsX8_isIn) := goodIn_app (goodIn_of _ (by decide +kernel)) ggX8_isEdge_X8_isIn
theorem dX8_isEdge_0 : decode cX8_isEdge 0 = .ok (.aload_n 0, 1) := by decide +kernel
theorem dX8_isEdge_1 : decode cX8_isEdge 1 = .ok (.iload_n 1, 1) := by decide +kernel
theorem dX8_isEdge_2 : decode cX8_isEdge 2 = .ok (.invokevirtual 62, 3) := by decide +kernel
theorem dX8_isEdge_5 : decode cX8_isEdge 5 = .ok (.ifCond .eq 18, 3) := by decide +kernel
theorem dX8_isEdge_8 : decode cX8_isEdge 8 = .ok (.aload_n 0, 1) := by decide +kernel
theorem dX8_isEdge_9 : decode cX8_isEdge 9 = .ok (.getfield 66, 3) := by decide +kernel
theorem dX8_isEdge_12 : decode cX8_isEdge 12 = .ok (.iload_n 1, 1) := by decide +kernel
theorem dX8_isEdge_13 : decode cX8_isEdge 13 = .ok (.invokestatic 58, 3) := by decide +kernel
theorem dX8_isEdge_16 : decode cX8_isEdge 16 = .ok (.ifCond .eq 7, 3) := by decide +kernel
theorem dX8_isEdge_19 : decode cX8_isEdge 19 = .ok (.iconst 1, 1) := by decide +kernel
theorem dX8_isEdge_20 : decode cX8_isEdge 20 = .ok (.goto 4, 3) := by decide +kernel
theorem dX8_isEdge_23 : decode cX8_isEdge 23 = .ok (.iconst 0, 1) := by decide +kernel
theorem dX8_isEdge_24 : decode cX8_isEdge 24 = .ok (.ireturn, 1) := by decide +kernel
set_option maxRecDepth 20000 in
theorem ggX8_isWire_X8_in : GoodIn wsX8_isWire wsX8_in := goodIn_r _ [5] (by decide +kernel) (by decide +kernel)
set_option maxRecDepth 20000 in
theorem gX8_isWire_X8_in : GoodIn wsX8_isWire (va_wsS RX8 51 yX8_in wsX8_in) := goodIn_app (goodIn_of _ (by decide +kernel)) ggX8_isWire_X8_in
set_option maxRecDepth 20000 in
theorem ggX8_isWire_X8_isIn : GoodIn wsX8_isWire wsX8_isIn := goodIn_r _ [8] (by decide +kernel) (by decide +kernel)
set_option maxRecDepth 20000 in
theorem gX8_isWire_X8_isIn : GoodIn wsX8_isWire (va_wsS RX8 58 yX8_isIn wsX8_isIn) := goodIn_app (goodIn_of _ (by decide +kernel)) ggX8_isWire_X8_isIn
theorem dX8_isWire_0 : decode cX8_isWire 0 = .ok (.iload_n 1, 1) := by decide +kernel
theorem dX8_isWire_1 : decode cX8_isWire 1 = .ok (.iconst 0, 1) := by decide +kernel
theorem dX8_isWire_2 : decode cX8_isWire 2 = .ok (.bipush 19, 2) := by decide +kernel
theorem dX8_isWire_4 : decode cX8_isWire 4 = .ok (.invokestatic 51, 3) := by decide +kernel
theorem dX8_isWire_7 : decode cX8_isWire 7 = .ok (.ifCond .eq 18, 3) := by decide +kernel
theorem dX8_isWire_10 : decode cX8_isWire 10 = .ok (.aload_n 0, 1) := by decide +kernel
theorem dX8_isWire_11 : decode cX8_isWire 11 = .ok (.getfield 69, 3) := by decide +kernel
theorem dX8_isWire_14 : decode cX8_isWire 14 = .ok (.iload_n 1, 1) := by decide +kernel
theorem dX8_isWire_15 : decode cX8_isWire 15 = .ok (.invokestatic 58, 3) := by decide +kernel
theorem dX8_isWire_18 : decode cX8_isWire 18 = .ok (.ifCond .eq 7, 3) := by decide +kernel
theorem dX8_isWire_21 : decode cX8_isWire 21 = .ok (.iconst 1, 1) := by decide +kernel
theorem dX8_isWire_22 : decode cX8_isWire 22 = .ok (.goto 4, 3) := by decide +kernel
theorem dX8_isWire_25 : decode cX8_isWire 25 = .ok (.iconst 0, 1) := by decide +kernel
theorem dX8_isWire_26 : decode cX8_isWire 26 = .ok (.ireturn, 1) := by decide +kernel
theorem dX8_many_0 : decode cX8_many 0 = .ok (.iconst 0, 1) := by decide +kernel
theorem dX8_many_1 : decode cX8_many 1 = .ok (.istore_n 1, 1) := by decide +kernel
theorem dX8_many_2 : decode cX8_many 2 = .ok (.iconst 0, 1) := by decide +kernel
theorem dX8_many_3 : decode cX8_many 3 = .ok (.istore_n 2, 1) := by decide +kernel
theorem dX8_many_4 : decode cX8_many 4 = .ok (.iload_n 2, 1) := by decide +kernel
theorem dX8_many_5 : decode cX8_many 5 = .ok (.bipush 20, 2) := by decide +kernel
theorem dX8_many_7 : decode cX8_many 7 = .ok (.if_icmp .ge 17, 3) := by decide +kernel
theorem dX8_many_10 : decode cX8_many 10 = .ok (.iload_n 1, 1) := by decide +kernel
theorem dX8_many_11 : decode cX8_many 11 = .ok (.iload_n 0, 1) := by decide +kernel
theorem dX8_many_12 : decode cX8_many 12 = .ok (.iload_n 2, 1) := by decide +kernel
theorem dX8_many_13 : decode cX8_many 13 = .ok (.ishr, 1) := by decide +kernel
theorem dX8_many_14 : decode cX8_many 14 = .ok (.iconst 1, 1) := by decide +kernel
theorem dX8_many_15 : decode cX8_many 15 = .ok (.iand, 1) := by decide +kernel
theorem dX8_many_16 : decode cX8_many 16 = .ok (.iadd, 1) := by decide +kernel
theorem dX8_many_17 : decode cX8_many 17 = .ok (.istore_n 1, 1) := by decide +kernel
theorem dX8_many_18 : decode cX8_many 18 = .ok (.iinc 2 1, 3) := by decide +kernel
theorem dX8_many_21 : decode cX8_many 21 = .ok (.goto (-17), 3) := by decide +kernel
theorem dX8_many_24 : decode cX8_many 24 = .ok (.iload_n 1, 1) := by decide +kernel
theorem dX8_many_25 : decode cX8_many 25 = .ok (.ireturn, 1) := by decide +kernel
set_option maxRecDepth 20000 in
theorem ggX8_node_X8_addsNode : GoodIn wsX8_node wsX8_addsNode := goodIn_r _ [8, 1, 9, 10, 11, 12, 13, 14, 15, 16, 17, 18, 19, 20, 21, 22, 23, 24, 25, 26, 27, 28, 29, 30, 31, 32] (by decide +kernel) (by decide +kernel)
set_option maxRecDepth 20000 in
theorem gX8_node_X8_addsNode : GoodIn wsX8_node (wsV RX8 78 RX8 yX8_addsNode wsX8_addsNode) := goodIn_app (goodIn_of _ (by decide +kernel)) ggX8_node_X8_addsNode
theorem dX8_node_0 : decode cX8_node 0 = .ok (.aload_n 0, 1) := by decide +kernel
theorem dX8_node_1 : decode cX8_node 1 = .ok (.aload_n 0, 1) := by decide +kernel
theorem dX8_node_2 : decode cX8_node 2 = .ok (.getfield 72, 3) := by decide +kernel
theorem dX8_node_5 : decode cX8_node 5 = .ok (.bipush 7, 2) := by decide +kernel
theorem dX8_node_7 : decode cX8_node 7 = .ok (.if_icmp .ne 7, 3) := by decide +kernel
theorem dX8_node_10 : decode cX8_node 10 = .ok (.iconst 1, 1) := by decide +kernel
theorem dX8_node_11 : decode cX8_node 11 = .ok (.goto 4, 3) := by decide +kernel
theorem dX8_node_14 : decode cX8_node 14 = .ok (.iconst 0, 1) := by decide +kernel
theorem dX8_node_15 : decode cX8_node 15 = .ok (.putfield 47, 3) := by decide +kernel
theorem dX8_node_18 : decode cX8_node 18 = .ok (.aload_n 0, 1) := by decide +kernel
theorem dX8_node_19 : decode cX8_node 19 = .ok (.getfield 47, 3) := by decide +kernel
theorem dX8_node_22 : decode cX8_node 22 = .ok (.ifCond .le 5, 3) := by decide +kernel
theorem dX8_node_25 : decode cX8_node 25 = .ok (.iconst 0, 1) := by decide +kernel
theorem dX8_node_26 : decode cX8_node 26 = .ok (.ireturn, 1) := by decide +kernel
theorem dX8_node_27 : decode cX8_node 27 = .ok (.aload_n 0, 1) := by decide +kernel
theorem dX8_node_28 : decode cX8_node 28 = .ok (.iconst 0, 1) := by decide +kernel
theorem dX8_node_29 : decode cX8_node 29 = .ok (.putfield 75, 3) := by decide +kernel
theorem dX8_node_32 : decode cX8_node 32 = .ok (.aload_n 0, 1) := by decide +kernel
theorem dX8_node_33 : decode cX8_node 33 = .ok (.iload_n 1, 1) := by decide +kernel
theorem dX8_node_34 : decode cX8_node 34 = .ok (.invokevirtual 78, 3) := by decide +kernel
theorem dX8_node_37 : decode cX8_node 37 = .ok (.ireturn, 1) := by decide +kernel
theorem dX8_addsNode_0 : decode cX8_addsNode 0 = .ok (.aload_n 0, 1) := by decide +kernel
theorem dX8_addsNode_1 : decode cX8_addsNode 1 = .ok (.getfield 72, 3) := by decide +kernel
theorem dX8_addsNode_4 : decode cX8_addsNode 4 = .ok (.istore_n 2, 1) := by decide +kernel
theorem dX8_addsNode_5 : decode cX8_addsNode 5 = .ok (.aload_n 0, 1) := by decide +kernel
theorem dX8_addsNode_6 : decode cX8_addsNode 6 = .ok (.dup, 1) := by decide +kernel
theorem dX8_addsNode_7 : decode cX8_addsNode 7 = .ok (.getfield 55, 3) := by decide +kernel
theorem dX8_addsNode_10 : decode cX8_addsNode 10 = .ok (.iconst 1, 1) := by decide +kernel
theorem dX8_addsNode_11 : decode cX8_addsNode 11 = .ok (.iload_n 2, 1) := by decide +kernel
theorem dX8_addsNode_12 : decode cX8_addsNode 12 = .ok (.ishl, 1) := by decide +kernel
theorem dX8_addsNode_13 : decode cX8_addsNode 13 = .ok (.ior, 1) := by decide +kernel
theorem dX8_addsNode_14 : decode cX8_addsNode 14 = .ok (.putfield 55, 3) := by decide +kernel
theorem dX8_addsNode_17 : decode cX8_addsNode 17 = .ok (.aload_n 0, 1) := by decide +kernel
theorem dX8_addsNode_18 : decode cX8_addsNode 18 = .ok (.iload_n 1, 1) := by decide +kernel
theorem dX8_addsNode_19 : decode cX8_addsNode 19 = .ok (.ifCond .eq 14, 3) := by decide +kernel
theorem dX8_addsNode_22 : decode cX8_addsNode 22 = .ok (.aload_n 0, 1) := by decide +kernel
theorem dX8_addsNode_23 : decode cX8_addsNode 23 = .ok (.getfield 66, 3) := by decide +kernel
theorem dX8_addsNode_26 : decode cX8_addsNode 26 = .ok (.iconst 1, 1) := by decide +kernel
theorem dX8_addsNode_27 : decode cX8_addsNode 27 = .ok (.iload_n 2, 1) := by decide +kernel
theorem dX8_addsNode_28 : decode cX8_addsNode 28 = .ok (.ishl, 1) := by decide +kernel
theorem dX8_addsNode_29 : decode cX8_addsNode 29 = .ok (.ior, 1) := by decide +kernel
theorem dX8_addsNode_30 : decode cX8_addsNode 30 = .ok (.goto 13, 3) := by decide +kernel
theorem dX8_addsNode_33 : decode cX8_addsNode 33 = .ok (.aload_n 0, 1) := by decide +kernel
theorem dX8_addsNode_34 : decode cX8_addsNode 34 = .ok (.getfield 66, 3) := by decide +kernel
theorem dX8_addsNode_37 : decode cX8_addsNode 37 = .ok (.iconst 1, 1) := by decide +kernel
theorem dX8_addsNode_38 : decode cX8_addsNode 38 = .ok (.iload_n 2, 1) := by decide +kernel
theorem dX8_addsNode_39 : decode cX8_addsNode 39 = .ok (.ishl, 1) := by decide +kernel
theorem dX8_addsNode_40 : decode cX8_addsNode 40 = .ok (.iconst (-1), 1) := by decide +kernel
theorem dX8_addsNode_41 : decode cX8_addsNode 41 = .ok (.ixor, 1) := by decide +kernel
theorem dX8_addsNode_42 : decode cX8_addsNode 42 = .ok (.iand, 1) := by decide +kernel
theorem dX8_addsNode_43 : decode cX8_addsNode 43 = .ok (.putfield 66, 3) := by decide +kernel
theorem dX8_addsNode_46 : decode cX8_addsNode 46 = .ok (.aload_n 0, 1) := by decide +kernel
theorem dX8_addsNode_47 : decode cX8_addsNode 47 = .ok (.getfield 19, 3) := by decide +kernel
theorem dX8_addsNode_50 : decode cX8_addsNode 50 = .ok (.iload_n 2, 1) := by decide +kernel
theorem dX8_addsNode_51 : decode cX8_addsNode 51 = .ok (.iconst 0, 1) := by decide +kernel
theorem dX8_addsNode_52 : decode cX8_addsNode 52 = .ok (.iastore, 1) := by decide +kernel
theorem dX8_addsNode_53 : decode cX8_addsNode 53 = .ok (.aload_n 0, 1) := by decide +kernel
theorem dX8_addsNode_54 : decode cX8_addsNode 54 = .ok (.dup, 1) := by decide +kernel
theorem dX8_addsNode_55 : decode cX8_addsNode 55 = .ok (.getfield 72, 3) := by decide +kernel
theorem dX8_addsNode_58 : decode cX8_addsNode 58 = .ok (.iconst 1, 1) := by decide +kernel
theorem dX8_addsNode_59 : decode cX8_addsNode 59 = .ok (.iadd, 1) := by decide +kernel
theorem dX8_addsNode_60 : decode cX8_addsNode 60 = .ok (.putfield 72, 3) := by decide +kernel
theorem dX8_addsNode_63 : decode cX8_addsNode 63 = .ok (.iload_n 2, 1) := by decide +kernel
theorem dX8_addsNode_64 : decode cX8_addsNode 64 = .ok (.ireturn, 1) := by decide +kernel
theorem dX8_addsWire_0 : decode cX8_addsWire 0 = .ok (.aload_n 0, 1) := by decide +kernel
theorem dX8_addsWire_1 : decode cX8_addsWire 1 = .ok (.getfield 82, 3) := by decide +kernel
theorem dX8_addsWire_4 : decode cX8_addsWire 4 = .ok (.istore 4, 2) := by decide +kernel
theorem dX8_addsWire_6 : decode cX8_addsWire 6 = .ok (.aload_n 0, 1) := by decide +kernel
theorem dX8_addsWire_7 : decode cX8_addsWire 7 = .ok (.dup, 1) := by decide +kernel
theorem dX8_addsWire_8 : decode cX8_addsWire 8 = .ok (.getfield 69, 3) := by decide +kernel
theorem dX8_addsWire_11 : decode cX8_addsWire 11 = .ok (.iconst 1, 1) := by decide +kernel
theorem dX8_addsWire_12 : decode cX8_addsWire 12 = .ok (.iload 4, 2) := by decide +kernel
theorem dX8_addsWire_14 : decode cX8_addsWire 14 = .ok (.ishl, 1) := by decide +kernel
theorem dX8_addsWire_15 : decode cX8_addsWire 15 = .ok (.ior, 1) := by decide +kernel
theorem dX8_addsWire_16 : decode cX8_addsWire 16 = .ok (.putfield 69, 3) := by decide +kernel
theorem dX8_addsWire_19 : decode cX8_addsWire 19 = .ok (.aload_n 0, 1) := by decide +kernel
theorem dX8_addsWire_20 : decode cX8_addsWire 20 = .ok (.getfield 7, 3) := by decide +kernel
theorem dX8_addsWire_23 : decode cX8_addsWire 23 = .ok (.iload 4, 2) := by decide +kernel
theorem dX8_addsWire_25 : decode cX8_addsWire 25 = .ok (.iload_n 1, 1) := by decide +kernel
theorem dX8_addsWire_26 : decode cX8_addsWire 26 = .ok (.iastore, 1) := by decide +kernel
theorem dX8_addsWire_27 : decode cX8_addsWire 27 = .ok (.aload_n 0, 1) := by decide +kernel
theorem dX8_addsWire_28 : decode cX8_addsWire 28 = .ok (.getfield 13, 3) := by decide +kernel
theorem dX8_addsWire_31 : decode cX8_addsWire 31 = .ok (.iload 4, 2) := by decide +kernel
theorem dX8_addsWire_33 : decode cX8_addsWire 33 = .ok (.iload_n 2, 1) := by decide +kernel
theorem dX8_addsWire_34 : decode cX8_addsWire 34 = .ok (.iastore, 1) := by decide +kernel
theorem dX8_addsWire_35 : decode cX8_addsWire 35 = .ok (.aload_n 0, 1) := by decide +kernel
theorem dX8_addsWire_36 : decode cX8_addsWire 36 = .ok (.getfield 16, 3) := by decide +kernel
theorem dX8_addsWire_39 : decode cX8_addsWire 39 = .ok (.iload 4, 2) := by decide +kernel
theorem dX8_addsWire_41 : decode cX8_addsWire 41 = .ok (.iload_n 3, 1) := by decide +kernel
theorem dX8_addsWire_42 : decode cX8_addsWire 42 = .ok (.iastore, 1) := by decide +kernel
theorem dX8_addsWire_43 : decode cX8_addsWire 43 = .ok (.aload_n 0, 1) := by decide +kernel
theorem dX8_addsWire_44 : decode cX8_addsWire 44 = .ok (.dup, 1) := by decide +kernel
theorem dX8_addsWire_45 : decode cX8_addsWire 45 = .ok (.getfield 82, 3) := by decide +kernel
theorem dX8_addsWire_48 : decode cX8_addsWire 48 = .ok (.iconst 1, 1) := by decide +kernel
theorem dX8_addsWire_49 : decode cX8_addsWire 49 = .ok (.iadd, 1) := by decide +kernel
theorem dX8_addsWire_50 : decode cX8_addsWire 50 = .ok (.putfield 82, 3) := by decide +kernel
theorem dX8_addsWire_53 : decode cX8_addsWire 53 = .ok (.iload 4, 2) := by decide +kernel
theorem dX8_addsWire_55 : decode cX8_addsWire 55 = .ok (.ireturn, 1) := by decide +kernel
set_option maxRecDepth 20000 in
theorem ggX8_wire_X8_isNode : GoodIn wsX8_wire wsX8_isNode := goodIn_r _ [9, 10, 11, 12, 8, 13, 14, 15, 16, 27, 28, 29, 30, 31, 32, 33, 34, 35, 36, 37, 38, 39, 40, 41, 42, 43, 44, 45, 46, 47] (by decide +kernel) (by decide +kernel)
set_option maxRecDepth 20000 in
theorem gX8_wire_X8_isNode : GoodIn wsX8_wire (wsV RX8 62 RX8 yX8_isNode wsX8_isNode) := goodIn_app (goodIn_of _ (by decide +kernel)) ggX8_wire_X8_isNode
set_option maxRecDepth 20000 in
theorem ggX8_wire_X8_in : GoodIn wsX8_wire wsX8_in := goodIn_r _ [13] (by decide +kernel) (by decide +kernel)
set_option maxRecDepth 20000 in
theorem gX8_wire_X8_in : GoodIn wsX8_wire (va_wsS RX8 51 yX8_in wsX8_in) := goodIn_app (goodIn_of _ (by decide +kernel)) ggX8_wire_X8_in
set_option maxRecDepth 20000 in
theorem ggX8_wire_X8_many : GoodIn wsX8_wire wsX8_many := goodIn_r _ [19] (by decide +kernel) (by decide +kernel)
set_option maxRecDepth 20000 in
theorem gX8_wire_X8_many : GoodIn wsX8_wire (va_wsS RX8 85 yX8_many wsX8_many) := goodIn_app (goodIn_of _ (by decide +kernel)) ggX8_wire_X8_many
set_option maxRecDepth 20000 in
theorem ggX8_wire_X8_addsWire : GoodIn wsX8_wire wsX8_addsWire := goodIn_r _ [23, 1, 2, 24, 25, 26, 27, 28, 29, 30, 31, 32, 33, 34, 35, 36, 37, 38, 39, 40, 41, 42, 43, 44, 45, 46, 47] (by decide +kernel) (by decide +kernel)
set_option maxRecDepth 20000 in
theorem gX8_wire_X8_addsWire : GoodIn wsX8_wire (wsV RX8 89 RX8 yX8_addsWire wsX8_addsWire) := goodIn_app (goodIn_of _ (by decide +kernel)) ggX8_wire_X8_addsWire
theorem dX8_wire_0 : decode cX8_wire 0 = .ok (.aload_n 0, 1) := by decide +kernel
theorem dX8_wire_1 : decode cX8_wire 1 = .ok (.aload_n 0, 1) := by decide +kernel
theorem dX8_wire_2 : decode cX8_wire 2 = .ok (.iload_n 1, 1) := by decide +kernel
theorem dX8_wire_3 : decode cX8_wire 3 = .ok (.invokevirtual 62, 3) := by decide +kernel
theorem dX8_wire_6 : decode cX8_wire 6 = .ok (.ifCond .eq 11, 3) := by decide +kernel
theorem dX8_wire_9 : decode cX8_wire 9 = .ok (.aload_n 0, 1) := by decide +kernel
theorem dX8_wire_10 : decode cX8_wire 10 = .ok (.iload_n 2, 1) := by decide +kernel
theorem dX8_wire_11 : decode cX8_wire 11 = .ok (.invokevirtual 62, 3) := by decide +kernel
theorem dX8_wire_14 : decode cX8_wire 14 = .ok (.ifCond .ne 7, 3) := by decide +kernel
theorem dX8_wire_17 : decode cX8_wire 17 = .ok (.iconst 1, 1) := by decide +kernel
theorem dX8_wire_18 : decode cX8_wire 18 = .ok (.goto 43, 3) := by decide +kernel
theorem dX8_wire_21 : decode cX8_wire 21 = .ok (.iload_n 3, 1) := by decide +kernel
theorem dX8_wire_22 : decode cX8_wire 22 = .ok (.iconst 1, 1) := by decide +kernel
theorem dX8_wire_23 : decode cX8_wire 23 = .ok (.bipush 60, 2) := by decide +kernel
theorem dX8_wire_25 : decode cX8_wire 25 = .ok (.invokestatic 51, 3) := by decide +kernel
theorem dX8_wire_28 : decode cX8_wire 28 = .ok (.ifCond .ne 7, 3) := by decide +kernel
theorem dX8_wire_31 : decode cX8_wire 31 = .ok (.iconst 2, 1) := by decide +kernel
theorem dX8_wire_32 : decode cX8_wire 32 = .ok (.goto 29, 3) := by decide +kernel
theorem dX8_wire_35 : decode cX8_wire 35 = .ok (.aload_n 0, 1) := by decide +kernel
theorem dX8_wire_36 : decode cX8_wire 36 = .ok (.getfield 82, 3) := by decide +kernel
theorem dX8_wire_39 : decode cX8_wire 39 = .ok (.bipush 20, 2) := by decide +kernel
theorem dX8_wire_41 : decode cX8_wire 41 = .ok (.if_icmp .eq 15, 3) := by decide +kernel
theorem dX8_wire_44 : decode cX8_wire 44 = .ok (.aload_n 0, 1) := by decide +kernel
theorem dX8_wire_45 : decode cX8_wire 45 = .ok (.getfield 69, 3) := by decide +kernel
theorem dX8_wire_48 : decode cX8_wire 48 = .ok (.invokestatic 85, 3) := by decide +kernel
theorem dX8_wire_51 : decode cX8_wire 51 = .ok (.bipush 12, 2) := by decide +kernel
theorem dX8_wire_53 : decode cX8_wire 53 = .ok (.if_icmp .ne 7, 3) := by decide +kernel
theorem dX8_wire_56 : decode cX8_wire 56 = .ok (.iconst 3, 1) := by decide +kernel
theorem dX8_wire_57 : decode cX8_wire 57 = .ok (.goto 4, 3) := by decide +kernel
theorem dX8_wire_60 : decode cX8_wire 60 = .ok (.iconst 0, 1) := by decide +kernel
theorem dX8_wire_61 : decode cX8_wire 61 = .ok (.putfield 47, 3) := by decide +kernel
theorem dX8_wire_64 : decode cX8_wire 64 = .ok (.aload_n 0, 1) := by decide +kernel
theorem dX8_wire_65 : decode cX8_wire 65 = .ok (.getfield 47, 3) := by decide +kernel
theorem dX8_wire_68 : decode cX8_wire 68 = .ok (.ifCond .le 5, 3) := by decide +kernel
theorem dX8_wire_71 : decode cX8_wire 71 = .ok (.iconst 0, 1) := by decide +kernel
theorem dX8_wire_72 : decode cX8_wire 72 = .ok (.ireturn, 1) := by decide +kernel
theorem dX8_wire_73 : decode cX8_wire 73 = .ok (.aload_n 0, 1) := by decide +kernel
theorem dX8_wire_74 : decode cX8_wire 74 = .ok (.iconst 0, 1) := by decide +kernel
theorem dX8_wire_75 : decode cX8_wire 75 = .ok (.putfield 75, 3) := by decide +kernel
theorem dX8_wire_78 : decode cX8_wire 78 = .ok (.aload_n 0, 1) := by decide +kernel
theorem dX8_wire_79 : decode cX8_wire 79 = .ok (.iload_n 1, 1) := by decide +kernel
theorem dX8_wire_80 : decode cX8_wire 80 = .ok (.iload_n 2, 1) := by decide +kernel
theorem dX8_wire_81 : decode cX8_wire 81 = .ok (.iload_n 3, 1) := by decide +kernel
theorem dX8_wire_82 : decode cX8_wire 82 = .ok (.invokevirtual 89, 3) := by decide +kernel
theorem dX8_wire_85 : decode cX8_wire 85 = .ok (.ireturn, 1) := by decide +kernel
set_option maxRecDepth 20000 in
theorem ggX8_wireIs_X8_isWire : GoodIn wsX8_wireIs wsX8_isWire := goodIn_r _ [9, 10, 11, 12, 8, 13, 14, 15, 16, 17, 18, 19, 20, 21, 22, 23, 24, 25, 26, 27, 28, 29, 30, 31, 32, 33, 34, 35, 36, 37] (by decide +kernel) (by decide +kernel)
set_option maxRecDepth 20000 in
theorem gX8_wireIs_X8_isWire : GoodIn wsX8_wireIs (wsV RX8 93 RX8 yX8_isWire wsX8_isWire) := goodIn_app (goodIn_of _ (by decide +kernel)) ggX8_wireIs_X8_isWire
set_option maxRecDepth 20000 in
theorem ggX8_wireIs_X8_in : GoodIn wsX8_wireIs wsX8_in := goodIn_r _ [13] (by decide +kernel) (by decide +kernel)
set_option maxRecDepth 20000 in
theorem gX8_wireIs_X8_in : GoodIn wsX8_wireIs (va_wsS RX8 51 yX8_in wsX8_in) := goodIn_app (goodIn_of _ (by decide +kernel)) ggX8_wireIs_X8_in
theorem dX8_wireIs_0 : decode cX8_wireIs 0 = .ok (.aload_n 0, 1) := by decide +kernel
theorem dX8_wireIs_1 : decode cX8_wireIs 1 = .ok (.aload_n 0, 1) := by decide +kernel
theorem dX8_wireIs_2 : decode cX8_wireIs 2 = .ok (.iload_n 1, 1) := by decide +kernel
theorem dX8_wireIs_3 : decode cX8_wireIs 3 = .ok (.invokevirtual 93, 3) := by decide +kernel
theorem dX8_wireIs_6 : decode cX8_wireIs 6 = .ok (.ifCond .ne 7, 3) := by decide +kernel
theorem dX8_wireIs_9 : decode cX8_wireIs 9 = .ok (.iconst 1, 1) := by decide +kernel
theorem dX8_wireIs_10 : decode cX8_wireIs 10 = .ok (.goto 17, 3) := by decide +kernel
theorem dX8_wireIs_13 : decode cX8_wireIs 13 = .ok (.iload_n 2, 1) := by decide +kernel
theorem dX8_wireIs_14 : decode cX8_wireIs 14 = .ok (.iconst 0, 1) := by decide +kernel
theorem dX8_wireIs_15 : decode cX8_wireIs 15 = .ok (.iconst 2, 1) := by decide +kernel
theorem dX8_wireIs_16 : decode cX8_wireIs 16 = .ok (.invokestatic 51, 3) := by decide +kernel
theorem dX8_wireIs_19 : decode cX8_wireIs 19 = .ok (.ifCond .eq 7, 3) := by decide +kernel
theorem dX8_wireIs_22 : decode cX8_wireIs 22 = .ok (.iconst 0, 1) := by decide +kernel
theorem dX8_wireIs_23 : decode cX8_wireIs 23 = .ok (.goto 4, 3) := by decide +kernel
theorem dX8_wireIs_26 : decode cX8_wireIs 26 = .ok (.iconst 2, 1) := by decide +kernel
theorem dX8_wireIs_27 : decode cX8_wireIs 27 = .ok (.putfield 47, 3) := by decide +kernel
theorem dX8_wireIs_30 : decode cX8_wireIs 30 = .ok (.aload_n 0, 1) := by decide +kernel
theorem dX8_wireIs_31 : decode cX8_wireIs 31 = .ok (.getfield 47, 3) := by decide +kernel
theorem dX8_wireIs_34 : decode cX8_wireIs 34 = .ok (.ifCond .le 5, 3) := by decide +kernel
theorem dX8_wireIs_37 : decode cX8_wireIs 37 = .ok (.iconst 0, 1) := by decide +kernel
theorem dX8_wireIs_38 : decode cX8_wireIs 38 = .ok (.ireturn, 1) := by decide +kernel
theorem dX8_wireIs_39 : decode cX8_wireIs 39 = .ok (.iload_n 2, 1) := by decide +kernel
theorem dX8_wireIs_40 : decode cX8_wireIs 40 = .ok (.ifCond .ne 12, 3) := by decide +kernel
theorem dX8_wireIs_43 : decode cX8_wireIs 43 = .ok (.aload_n 0, 1) := by decide +kernel
theorem dX8_wireIs_44 : decode cX8_wireIs 44 = .ok (.getfield 7, 3) := by decide +kernel
theorem dX8_wireIs_47 : decode cX8_wireIs 47 = .ok (.iload_n 1, 1) := by decide +kernel
theorem dX8_wireIs_48 : decode cX8_wireIs 48 = .ok (.iaload, 1) := by decide +kernel
theorem dX8_wireIs_49 : decode cX8_wireIs 49 = .ok (.goto 23, 3) := by decide +kernel
theorem dX8_wireIs_52 : decode cX8_wireIs 52 = .ok (.iload_n 2, 1) := by decide +kernel
theorem dX8_wireIs_53 : decode cX8_wireIs 53 = .ok (.iconst 1, 1) := by decide +kernel
theorem dX8_wireIs_54 : decode cX8_wireIs 54 = .ok (.if_icmp .ne 12, 3) := by decide +kernel
theorem dX8_wireIs_57 : decode cX8_wireIs 57 = .ok (.aload_n 0, 1) := by decide +kernel
theorem dX8_wireIs_58 : decode cX8_wireIs 58 = .ok (.getfield 13, 3) := by decide +kernel
theorem dX8_wireIs_61 : decode cX8_wireIs 61 = .ok (.iload_n 1, 1) := by decide +kernel
theorem dX8_wireIs_62 : decode cX8_wireIs 62 = .ok (.iaload, 1) := by decide +kernel
theorem dX8_wireIs_63 : decode cX8_wireIs 63 = .ok (.goto 9, 3) := by decide +kernel
theorem dX8_wireIs_66 : decode cX8_wireIs 66 = .ok (.aload_n 0, 1) := by decide +kernel
theorem dX8_wireIs_67 : decode cX8_wireIs 67 = .ok (.getfield 16, 3) := by decide +kernel
theorem dX8_wireIs_70 : decode cX8_wireIs 70 = .ok (.iload_n 1, 1) := by decide +kernel
theorem dX8_wireIs_71 : decode cX8_wireIs 71 = .ok (.iaload, 1) := by decide +kernel
theorem dX8_wireIs_72 : decode cX8_wireIs 72 = .ok (.ireturn, 1) := by decide +kernel
theorem dX8_nodes_0 : decode cX8_nodes 0 = .ok (.aload_n 0, 1) := by decide +kernel
theorem dX8_nodes_1 : decode cX8_nodes 1 = .ok (.iconst 0, 1) := by decide +kernel
theorem dX8_nodes_2 : decode cX8_nodes 2 = .ok (.putfield 47, 3) := by decide +kernel
theorem dX8_nodes_5 : decode cX8_nodes 5 = .ok (.aload_n 0, 1) := by decide +kernel
theorem dX8_nodes_6 : decode cX8_nodes 6 = .ok (.getfield 55, 3) := by decide +kernel
theorem dX8_nodes_9 : decode cX8_nodes 9 = .ok (.ireturn, 1) := by decide +kernel
theorem dX8_wires_0 : decode cX8_wires 0 = .ok (.aload_n 0, 1) := by decide +kernel
theorem dX8_wires_1 : decode cX8_wires 1 = .ok (.iconst 0, 1) := by decide +kernel
theorem dX8_wires_2 : decode cX8_wires 2 = .ok (.putfield 47, 3) := by decide +kernel
theorem dX8_wires_5 : decode cX8_wires 5 = .ok (.aload_n 0, 1) := by decide +kernel
theorem dX8_wires_6 : decode cX8_wires 6 = .ok (.getfield 69, 3) := by decide +kernel
