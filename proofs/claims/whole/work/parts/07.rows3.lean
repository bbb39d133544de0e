theorem dX8_keepsNetwork_18 : decode cX8_keepsNetwork 18 = .ok (.aload_n 0, 1) := by decide +kernel
theorem dX8_keepsNetwork_19 : decode cX8_keepsNetwork 19 = .ok (.getfield 22, 3) := by decide +kernel
theorem dX8_keepsNetwork_22 : decode cX8_keepsNetwork 22 = .ok (.iload_n 1, 1) := by decide +kernel
theorem dX8_keepsNetwork_23 : decode cX8_keepsNetwork 23 = .ok (.iconst 1, 1) := by decide +kernel
theorem dX8_keepsNetwork_24 : decode cX8_keepsNetwork 24 = .ok (.iadd, 1) := by decide +kernel
theorem dX8_keepsNetwork_25 : decode cX8_keepsNetwork 25 = .ok (.aload_n 0, 1) := by decide +kernel
theorem dX8_keepsNetwork_26 : decode cX8_keepsNetwork 26 = .ok (.getfield 66, 3) := by decide +kernel
theorem dX8_keepsNetwork_29 : decode cX8_keepsNetwork 29 = .ok (.iastore, 1) := by decide +kernel
theorem dX8_keepsNetwork_30 : decode cX8_keepsNetwork 30 = .ok (.aload_n 0, 1) := by decide +kernel
theorem dX8_keepsNetwork_31 : decode cX8_keepsNetwork 31 = .ok (.getfield 22, 3) := by decide +kernel
theorem dX8_keepsNetwork_34 : decode cX8_keepsNetwork 34 = .ok (.iload_n 1, 1) := by decide +kernel
theorem dX8_keepsNetwork_35 : decode cX8_keepsNetwork 35 = .ok (.iconst 2, 1) := by decide +kernel
theorem dX8_keepsNetwork_36 : decode cX8_keepsNetwork 36 = .ok (.iadd, 1) := by decide +kernel
theorem dX8_keepsNetwork_37 : decode cX8_keepsNetwork 37 = .ok (.aload_n 0, 1) := by decide +kernel
theorem dX8_keepsNetwork_38 : decode cX8_keepsNetwork 38 = .ok (.getfield 72, 3) := by decide +kernel
theorem dX8_keepsNetwork_41 : decode cX8_keepsNetwork 41 = .ok (.iastore, 1) := by decide +kernel
theorem dX8_keepsNetwork_42 : decode cX8_keepsNetwork 42 = .ok (.aload_n 0, 1) := by decide +kernel
theorem dX8_keepsNetwork_43 : decode cX8_keepsNetwork 43 = .ok (.getfield 22, 3) := by decide +kernel
theorem dX8_keepsNetwork_46 : decode cX8_keepsNetwork 46 = .ok (.iload_n 1, 1) := by decide +kernel
theorem dX8_keepsNetwork_47 : decode cX8_keepsNetwork 47 = .ok (.iconst 3, 1) := by decide +kernel
theorem dX8_keepsNetwork_48 : decode cX8_keepsNetwork 48 = .ok (.iadd, 1) := by decide +kernel
theorem dX8_keepsNetwork_49 : decode cX8_keepsNetwork 49 = .ok (.aload_n 0, 1) := by decide +kernel
theorem dX8_keepsNetwork_50 : decode cX8_keepsNetwork 50 = .ok (.getfield 69, 3) := by decide +kernel
theorem dX8_keepsNetwork_53 : decode cX8_keepsNetwork 53 = .ok (.iastore, 1) := by decide +kernel
theorem dX8_keepsNetwork_54 : decode cX8_keepsNetwork 54 = .ok (.aload_n 0, 1) := by decide +kernel
theorem dX8_keepsNetwork_55 : decode cX8_keepsNetwork 55 = .ok (.getfield 22, 3) := by decide +kernel
theorem dX8_keepsNetwork_58 : decode cX8_keepsNetwork 58 = .ok (.iload_n 1, 1) := by decide +kernel
theorem dX8_keepsNetwork_59 : decode cX8_keepsNetwork 59 = .ok (.iconst 4, 1) := by decide +kernel
theorem dX8_keepsNetwork_60 : decode cX8_keepsNetwork 60 = .ok (.iadd, 1) := by decide +kernel
theorem dX8_keepsNetwork_61 : decode cX8_keepsNetwork 61 = .ok (.aload_n 0, 1) := by decide +kernel
theorem dX8_keepsNetwork_62 : decode cX8_keepsNetwork 62 = .ok (.getfield 82, 3) := by decide +kernel
theorem dX8_keepsNetwork_65 : decode cX8_keepsNetwork 65 = .ok (.iastore, 1) := by decide +kernel
theorem dX8_keepsNetwork_66 : decode cX8_keepsNetwork 66 = .ok (.iconst 0, 1) := by decide +kernel
theorem dX8_keepsNetwork_67 : decode cX8_keepsNetwork 67 = .ok (.istore_n 2, 1) := by decide +kernel
theorem dX8_keepsNetwork_68 : decode cX8_keepsNetwork 68 = .ok (.iload_n 2, 1) := by decide +kernel
theorem dX8_keepsNetwork_69 : decode cX8_keepsNetwork 69 = .ok (.bipush 20, 2) := by decide +kernel
theorem dX8_keepsNetwork_71 : decode cX8_keepsNetwork 71 = .ok (.if_icmp .ge 25, 3) := by decide +kernel
theorem dX8_keepsNetwork_74 : decode cX8_keepsNetwork 74 = .ok (.aload_n 0, 1) := by decide +kernel
theorem dX8_keepsNetwork_75 : decode cX8_keepsNetwork 75 = .ok (.getfield 22, 3) := by decide +kernel
theorem dX8_keepsNetwork_78 : decode cX8_keepsNetwork 78 = .ok (.iload_n 1, 1) := by decide +kernel
theorem dX8_keepsNetwork_79 : decode cX8_keepsNetwork 79 = .ok (.iconst 5, 1) := by decide +kernel
theorem dX8_keepsNetwork_80 : decode cX8_keepsNetwork 80 = .ok (.iadd, 1) := by decide +kernel
theorem dX8_keepsNetwork_81 : decode cX8_keepsNetwork 81 = .ok (.iload_n 2, 1) := by decide +kernel
theorem dX8_keepsNetwork_82 : decode cX8_keepsNetwork 82 = .ok (.iadd, 1) := by decide +kernel
theorem dX8_keepsNetwork_83 : decode cX8_keepsNetwork 83 = .ok (.aload_n 0, 1) := by decide +kernel
theorem dX8_keepsNetwork_84 : decode cX8_keepsNetwork 84 = .ok (.getfield 16, 3) := by decide +kernel
theorem dX8_keepsNetwork_87 : decode cX8_keepsNetwork 87 = .ok (.iload_n 2, 1) := by decide +kernel
theorem dX8_keepsNetwork_88 : decode cX8_keepsNetwork 88 = .ok (.iaload, 1) := by decide +kernel
theorem dX8_keepsNetwork_89 : decode cX8_keepsNetwork 89 = .ok (.iastore, 1) := by decide +kernel
theorem dX8_keepsNetwork_90 : decode cX8_keepsNetwork 90 = .ok (.iinc 2 1, 3) := by decide +kernel
theorem dX8_keepsNetwork_93 : decode cX8_keepsNetwork 93 = .ok (.goto (-25), 3) := by decide +kernel
theorem dX8_keepsNetwork_96 : decode cX8_keepsNetwork 96 = .ok (.aload_n 0, 1) := by decide +kernel
theorem dX8_keepsNetwork_97 : decode cX8_keepsNetwork 97 = .ok (.dup, 1) := by decide +kernel
theorem dX8_keepsNetwork_98 : decode cX8_keepsNetwork 98 = .ok (.getfield 75, 3) := by decide +kernel
theorem dX8_keepsNetwork_101 : decode cX8_keepsNetwork 101 = .ok (.iconst 1, 1) := by decide +kernel
theorem dX8_keepsNetwork_102 : decode cX8_keepsNetwork 102 = .ok (.iadd, 1) := by decide +kernel
theorem dX8_keepsNetwork_103 : decode cX8_keepsNetwork 103 = .ok (.putfield 75, 3) := by decide +kernel
theorem dX8_keepsNetwork_106 : decode cX8_keepsNetwork 106 = .ok (.return_, 1) := by decide +kernel
theorem dX8_goes_0 : decode cX8_goes 0 = .ok (.aload_n 0, 1) := by decide +kernel
theorem dX8_goes_1 : decode cX8_goes 1 = .ok (.dup, 1) := by decide +kernel
theorem dX8_goes_2 : decode cX8_goes 2 = .ok (.getfield 69, 3) := by decide +kernel
theorem dX8_goes_5 : decode cX8_goes 5 = .ok (.iconst 1, 1) := by decide +kernel
theorem dX8_goes_6 : decode cX8_goes 6 = .ok (.iload_n 1, 1) := by decide +kernel
theorem dX8_goes_7 : decode cX8_goes 7 = .ok (.ishl, 1) := by decide +kernel
theorem dX8_goes_8 : decode cX8_goes 8 = .ok (.iconst (-1), 1) := by decide +kernel
theorem dX8_goes_9 : decode cX8_goes 9 = .ok (.ixor, 1) := by decide +kernel
theorem dX8_goes_10 : decode cX8_goes 10 = .ok (.iand, 1) := by decide +kernel
theorem dX8_goes_11 : decode cX8_goes 11 = .ok (.putfield 69, 3) := by decide +kernel
theorem dX8_goes_14 : decode cX8_goes 14 = .ok (.return_, 1) := by decide +kernel
set_option maxRecDepth 20000 in
theorem ggX8_series_X8_goes : GoodIn wsX8_series wsX8_goes := goodIn_r _ [9, 10, 18, 19, 20, 21, 22, 23, 24, 25, 26, 27, 28, 29, 30, 31, 32, 33, 34, 35, 36, 37, 38] (by decide +kernel) (by decide +kernel)
set_option maxRecDepth 20000 in
theorem gX8_series_X8_goes : GoodIn wsX8_series (wsV RX8 187 RX8 yX8_goes wsX8_goes) := goodIn_app (goodIn_of _ (by decide +kernel)) ggX8_series_X8_goes
set_option maxRecDepth 20000 in
theorem ggX8_series_X8_addsWire : GoodIn wsX8_series wsX8_addsWire := goodIn_r _ [14, 15, 10, 16, 17, 1, 18, 19, 20, 21, 22, 23, 24, 25, 26, 27, 28, 29, 30, 31, 32, 33, 34, 35, 36, 37, 38] (by decide +kernel) (by decide +kernel)
set_option maxRecDepth 20000 in
theorem gX8_series_X8_addsWire : GoodIn wsX8_series (wsV RX8 89 RX8 yX8_addsWire wsX8_addsWire) := goodIn_app (goodIn_of _ (by decide +kernel)) ggX8_series_X8_addsWire
theorem dX8_series_0 : decode cX8_series 0 = .ok (.aload_n 0, 1) := by decide +kernel
theorem dX8_series_1 : decode cX8_series 1 = .ok (.getfield 16, 3) := by decide +kernel
theorem dX8_series_4 : decode cX8_series 4 = .ok (.aload_n 0, 1) := by decide +kernel
theorem dX8_series_5 : decode cX8_series 5 = .ok (.getfield 44, 3) := by decide +kernel
theorem dX8_series_8 : decode cX8_series 8 = .ok (.iconst 0, 1) := by decide +kernel
theorem dX8_series_9 : decode cX8_series 9 = .ok (.iaload, 1) := by decide +kernel
theorem dX8_series_10 : decode cX8_series 10 = .ok (.iaload, 1) := by decide +kernel
theorem dX8_series_11 : decode cX8_series 11 = .ok (.istore_n 2, 1) := by decide +kernel
theorem dX8_series_12 : decode cX8_series 12 = .ok (.aload_n 0, 1) := by decide +kernel
theorem dX8_series_13 : decode cX8_series 13 = .ok (.getfield 16, 3) := by decide +kernel
theorem dX8_series_16 : decode cX8_series 16 = .ok (.aload_n 0, 1) := by decide +kernel
theorem dX8_series_17 : decode cX8_series 17 = .ok (.getfield 44, 3) := by decide +kernel
theorem dX8_series_20 : decode cX8_series 20 = .ok (.iconst 1, 1) := by decide +kernel
theorem dX8_series_21 : decode cX8_series 21 = .ok (.iaload, 1) := by decide +kernel
theorem dX8_series_22 : decode cX8_series 22 = .ok (.iaload, 1) := by decide +kernel
theorem dX8_series_23 : decode cX8_series 23 = .ok (.istore_n 3, 1) := by decide +kernel
theorem dX8_series_24 : decode cX8_series 24 = .ok (.aload_n 0, 1) := by decide +kernel
theorem dX8_series_25 : decode cX8_series 25 = .ok (.aload_n 0, 1) := by decide +kernel
theorem dX8_series_26 : decode cX8_series 26 = .ok (.getfield 44, 3) := by decide +kernel
theorem dX8_series_29 : decode cX8_series 29 = .ok (.iconst 0, 1) := by decide +kernel
theorem dX8_series_30 : decode cX8_series 30 = .ok (.iaload, 1) := by decide +kernel
theorem dX8_series_31 : decode cX8_series 31 = .ok (.invokevirtual 187, 3) := by decide +kernel
theorem dX8_series_34 : decode cX8_series 34 = .ok (.aload_n 0, 1) := by decide +kernel
theorem dX8_series_35 : decode cX8_series 35 = .ok (.aload_n 0, 1) := by decide +kernel
theorem dX8_series_36 : decode cX8_series 36 = .ok (.getfield 44, 3) := by decide +kernel
theorem dX8_series_39 : decode cX8_series 39 = .ok (.iconst 1, 1) := by decide +kernel
theorem dX8_series_40 : decode cX8_series 40 = .ok (.iaload, 1) := by decide +kernel
theorem dX8_series_41 : decode cX8_series 41 = .ok (.invokevirtual 187, 3) := by decide +kernel
theorem dX8_series_44 : decode cX8_series 44 = .ok (.aload_n 0, 1) := by decide +kernel
theorem dX8_series_45 : decode cX8_series 45 = .ok (.dup, 1) := by decide +kernel
theorem dX8_series_46 : decode cX8_series 46 = .ok (.getfield 55, 3) := by decide +kernel
theorem dX8_series_49 : decode cX8_series 49 = .ok (.iconst 1, 1) := by decide +kernel
theorem dX8_series_50 : decode cX8_series 50 = .ok (.iload_n 1, 1) := by decide +kernel
theorem dX8_series_51 : decode cX8_series 51 = .ok (.ishl, 1) := by decide +kernel
theorem dX8_series_52 : decode cX8_series 52 = .ok (.iconst (-1), 1) := by decide +kernel
theorem dX8_series_53 : decode cX8_series 53 = .ok (.ixor, 1) := by decide +kernel
theorem dX8_series_54 : decode cX8_series 54 = .ok (.iand, 1) := by decide +kernel
theorem dX8_series_55 : decode cX8_series 55 = .ok (.putfield 55, 3) := by decide +kernel
theorem dX8_series_58 : decode cX8_series 58 = .ok (.aload_n 0, 1) := by decide +kernel
theorem dX8_series_59 : decode cX8_series 59 = .ok (.aload_n 0, 1) := by decide +kernel
theorem dX8_series_60 : decode cX8_series 60 = .ok (.getfield 41, 3) := by decide +kernel
theorem dX8_series_63 : decode cX8_series 63 = .ok (.iconst 0, 1) := by decide +kernel
theorem dX8_series_64 : decode cX8_series 64 = .ok (.iaload, 1) := by decide +kernel
theorem dX8_series_65 : decode cX8_series 65 = .ok (.aload_n 0, 1) := by decide +kernel
theorem dX8_series_66 : decode cX8_series 66 = .ok (.getfield 41, 3) := by decide +kernel
theorem dX8_series_69 : decode cX8_series 69 = .ok (.iconst 1, 1) := by decide +kernel
theorem dX8_series_70 : decode cX8_series 70 = .ok (.iaload, 1) := by decide +kernel
theorem dX8_series_71 : decode cX8_series 71 = .ok (.iload_n 2, 1) := by decide +kernel
theorem dX8_series_72 : decode cX8_series 72 = .ok (.iload_n 3, 1) := by decide +kernel
theorem dX8_series_73 : decode cX8_series 73 = .ok (.imul, 1) := by decide +kernel
theorem dX8_series_74 : decode cX8_series 74 = .ok (.iload_n 2, 1) := by decide +kernel
theorem dX8_series_75 : decode cX8_series 75 = .ok (.iload_n 3, 1) := by decide +kernel
theorem dX8_series_76 : decode cX8_series 76 = .ok (.iadd, 1) := by decide +kernel
theorem dX8_series_77 : decode cX8_series 77 = .ok (.idiv, 1) := by decide +kernel
theorem dX8_series_78 : decode cX8_series 78 = .ok (.invokevirtual 89, 3) := by decide +kernel
theorem dX8_series_81 : decode cX8_series 81 = .ok (.pop, 1) := by decide +kernel
theorem dX8_series_82 : decode cX8_series 82 = .ok (.return_, 1) := by decide +kernel
set_option maxRecDepth 20000 in
theorem ggX8_triangle_X8_goes : GoodIn wsX8_triangle wsX8_goes := goodIn_r _ [9, 10, 18, 19, 20, 21, 22, 23, 24, 25, 26, 27, 28, 29, 30, 31, 32, 33, 34, 35, 36, 37, 38] (by decide +kernel) (by decide +kernel)
set_option maxRecDepth 20000 in
theorem gX8_triangle_X8_goes : GoodIn wsX8_triangle (wsV RX8 187 RX8 yX8_goes wsX8_goes) := goodIn_app (goodIn_of _ (by decide +kernel)) ggX8_triangle_X8_goes
set_option maxRecDepth 20000 in
theorem ggX8_triangle_X8_addsWire : GoodIn wsX8_triangle wsX8_addsWire := goodIn_r _ [14, 15, 10, 16, 17, 1, 18, 19, 20, 21, 22, 23, 24, 25, 26, 27, 28, 29, 30, 31, 32, 33, 34, 35, 36, 37, 38] (by decide +kernel) (by decide +kernel)
set_option maxRecDepth 20000 in
theorem gX8_triangle_X8_addsWire : GoodIn wsX8_triangle (wsV RX8 89 RX8 yX8_addsWire wsX8_addsWire) := goodIn_app (goodIn_of _ (by decide +kernel)) ggX8_triangle_X8_addsWire
theorem dX8_triangle_0 : decode cX8_triangle 0 = .ok (.aload_n 0, 1) := by decide +kernel
theorem dX8_triangle_1 : decode cX8_triangle 1 = .ok (.getfield 16, 3) := by decide +kernel
theorem dX8_triangle_4 : decode cX8_triangle 4 = .ok (.aload_n 0, 1) := by decide +kernel
theorem dX8_triangle_5 : decode cX8_triangle 5 = .ok (.getfield 44, 3) := by decide +kernel
theorem dX8_triangle_8 : decode cX8_triangle 8 = .ok (.iconst 0, 1) := by decide +kernel
theorem dX8_triangle_9 : decode cX8_triangle 9 = .ok (.iaload, 1) := by decide +kernel
theorem dX8_triangle_10 : decode cX8_triangle 10 = .ok (.iaload, 1) := by decide +kernel
theorem dX8_triangle_11 : decode cX8_triangle 11 = .ok (.istore_n 2, 1) := by decide +kernel
theorem dX8_triangle_12 : decode cX8_triangle 12 = .ok (.aload_n 0, 1) := by decide +kernel
theorem dX8_triangle_13 : decode cX8_triangle 13 = .ok (.getfield 16, 3) := by decide +kernel
theorem dX8_triangle_16 : decode cX8_triangle 16 = .ok (.aload_n 0, 1) := by decide +kernel
theorem dX8_triangle_17 : decode cX8_triangle 17 = .ok (.getfield 44, 3) := by decide +kernel
theorem dX8_triangle_20 : decode cX8_triangle 20 = .ok (.iconst 1, 1) := by decide +kernel
theorem dX8_triangle_21 : decode cX8_triangle 21 = .ok (.iaload, 1) := by decide +kernel
theorem dX8_triangle_22 : decode cX8_triangle 22 = .ok (.iaload, 1) := by decide +kernel
theorem dX8_triangle_23 : decode cX8_triangle 23 = .ok (.istore_n 3, 1) := by decide +kernel
theorem dX8_triangle_24 : decode cX8_triangle 24 = .ok (.aload_n 0, 1) := by decide +kernel
theorem dX8_triangle_25 : decode cX8_triangle 25 = .ok (.getfield 16, 3) := by decide +kernel
theorem dX8_triangle_28 : decode cX8_triangle 28 = .ok (.aload_n 0, 1) := by decide +kernel
theorem dX8_triangle_29 : decode cX8_triangle 29 = .ok (.getfield 44, 3) := by decide +kernel
theorem dX8_triangle_32 : decode cX8_triangle 32 = .ok (.iconst 2, 1) := by decide +kernel
theorem dX8_triangle_33 : decode cX8_triangle 33 = .ok (.iaload, 1) := by decide +kernel
theorem dX8_triangle_34 : decode cX8_triangle 34 = .ok (.iaload, 1) := by decide +kernel
theorem dX8_triangle_35 : decode cX8_triangle 35 = .ok (.istore 4, 2) := by decide +kernel
theorem dX8_triangle_37 : decode cX8_triangle 37 = .ok (.iconst 0, 1) := by decide +kernel
theorem dX8_triangle_38 : decode cX8_triangle 38 = .ok (.istore 5, 2) := by decide +kernel
theorem dX8_triangle_40 : decode cX8_triangle 40 = .ok (.iload 5, 2) := by decide +kernel
theorem dX8_triangle_42 : decode cX8_triangle 42 = .ok (.iconst 3, 1) := by decide +kernel
theorem dX8_triangle_43 : decode cX8_triangle 43 = .ok (.if_icmp .ge 20, 3) := by decide +kernel
theorem dX8_triangle_46 : decode cX8_triangle 46 = .ok (.aload_n 0, 1) := by decide +kernel
theorem dX8_triangle_47 : decode cX8_triangle 47 = .ok (.aload_n 0, 1) := by decide +kernel
theorem dX8_triangle_48 : decode cX8_triangle 48 = .ok (.getfield 44, 3) := by decide +kernel
theorem dX8_triangle_51 : decode cX8_triangle 51 = .ok (.iload 5, 2) := by decide +kernel
theorem dX8_triangle_53 : decode cX8_triangle 53 = .ok (.iaload, 1) := by decide +kernel
theorem dX8_triangle_54 : decode cX8_triangle 54 = .ok (.invokevirtual 187, 3) := by decide +kernel
theorem dX8_triangle_57 : decode cX8_triangle 57 = .ok (.iinc 5 1, 3) := by decide +kernel
theorem dX8_triangle_60 : decode cX8_triangle 60 = .ok (.goto (-20), 3) := by decide +kernel
theorem dX8_triangle_63 : decode cX8_triangle 63 = .ok (.aload_n 0, 1) := by decide +kernel
theorem dX8_triangle_64 : decode cX8_triangle 64 = .ok (.dup, 1) := by decide +kernel
theorem dX8_triangle_65 : decode cX8_triangle 65 = .ok (.getfield 55, 3) := by decide +kernel
theorem dX8_triangle_68 : decode cX8_triangle 68 = .ok (.iconst 1, 1) := by decide +kernel
theorem dX8_triangle_69 : decode cX8_triangle 69 = .ok (.iload_n 1, 1) := by decide +kernel
theorem dX8_triangle_70 : decode cX8_triangle 70 = .ok (.ishl, 1) := by decide +kernel
theorem dX8_triangle_71 : decode cX8_triangle 71 = .ok (.iconst (-1), 1) := by decide +kernel
theorem dX8_triangle_72 : decode cX8_triangle 72 = .ok (.ixor, 1) := by decide +kernel
theorem dX8_triangle_73 : decode cX8_triangle 73 = .ok (.iand, 1) := by decide +kernel
theorem dX8_triangle_74 : decode cX8_triangle 74 = .ok (.putfield 55, 3) := by decide +kernel
theorem dX8_triangle_77 : decode cX8_triangle 77 = .ok (.aload_n 0, 1) := by decide +kernel
theorem dX8_triangle_78 : decode cX8_triangle 78 = .ok (.aload_n 0, 1) := by decide +kernel
theorem dX8_triangle_79 : decode cX8_triangle 79 = .ok (.getfield 41, 3) := by decide +kernel
theorem dX8_triangle_82 : decode cX8_triangle 82 = .ok (.iconst 0, 1) := by decide +kernel
theorem dX8_triangle_83 : decode cX8_triangle 83 = .ok (.iaload, 1) := by decide +kernel
theorem dX8_triangle_84 : decode cX8_triangle 84 = .ok (.aload_n 0, 1) := by decide +kernel
theorem dX8_triangle_85 : decode cX8_triangle 85 = .ok (.getfield 41, 3) := by decide +kernel
theorem dX8_triangle_88 : decode cX8_triangle 88 = .ok (.iconst 1, 1) := by decide +kernel
theorem dX8_triangle_89 : decode cX8_triangle 89 = .ok (.iaload, 1) := by decide +kernel
theorem dX8_triangle_90 : decode cX8_triangle 90 = .ok (.iload_n 2, 1) := by decide +kernel
theorem dX8_triangle_91 : decode cX8_triangle 91 = .ok (.iload_n 3, 1) := by decide +kernel
theorem dX8_triangle_92 : decode cX8_triangle 92 = .ok (.imul, 1) := by decide +kernel
theorem dX8_triangle_93 : decode cX8_triangle 93 = .ok (.iload_n 2, 1) := by decide +kernel
theorem dX8_triangle_94 : decode cX8_triangle 94 = .ok (.iload_n 3, 1) := by decide +kernel
theorem dX8_triangle_95 : decode cX8_triangle 95 = .ok (.iadd, 1) := by decide +kernel
theorem dX8_triangle_96 : decode cX8_triangle 96 = .ok (.iload 4, 2) := by decide +kernel
theorem dX8_triangle_98 : decode cX8_triangle 98 = .ok (.iadd, 1) := by decide +kernel
theorem dX8_triangle_99 : decode cX8_triangle 99 = .ok (.idiv, 1) := by decide +kernel
theorem dX8_triangle_100 : decode cX8_triangle 100 = .ok (.invokevirtual 89, 3) := by decide +kernel
theorem dX8_triangle_103 : decode cX8_triangle 103 = .ok (.pop, 1) := by decide +kernel
theorem dX8_triangle_104 : decode cX8_triangle 104 = .ok (.aload_n 0, 1) := by decide +kernel
theorem dX8_triangle_105 : decode cX8_triangle 105 = .ok (.aload_n 0, 1) := by decide +kernel
theorem dX8_triangle_106 : decode cX8_triangle 106 = .ok (.getfield 41, 3) := by decide +kernel
theorem dX8_triangle_109 : decode cX8_triangle 109 = .ok (.iconst 0, 1) := by decide +kernel
theorem dX8_triangle_110 : decode cX8_triangle 110 = .ok (.iaload, 1) := by decide +kernel
theorem dX8_triangle_111 : decode cX8_triangle 111 = .ok (.aload_n 0, 1) := by decide +kernel
theorem dX8_triangle_112 : decode cX8_triangle 112 = .ok (.getfield 41, 3) := by decide +kernel
theorem dX8_triangle_115 : decode cX8_triangle 115 = .ok (.iconst 2, 1) := by decide +kernel
theorem dX8_triangle_116 : decode cX8_triangle 116 = .ok (.iaload, 1) := by decide +kernel
theorem dX8_triangle_117 : decode cX8_triangle 117 = .ok (.iload_n 2, 1) := by decide +kernel
theorem dX8_triangle_118 : decode cX8_triangle 118 = .ok (.iload 4, 2) := by decide +kernel
theorem dX8_triangle_120 : decode cX8_triangle 120 = .ok (.imul, 1) := by decide +kernel
theorem dX8_triangle_121 : decode cX8_triangle 121 = .ok (.iload_n 2, 1) := by decide +kernel
theorem dX8_triangle_122 : decode cX8_triangle 122 = .ok (.iload_n 3, 1) := by decide +kernel
theorem dX8_triangle_123 : decode cX8_triangle 123 = .ok (.iadd, 1) := by decide +kernel
theorem dX8_triangle_124 : decode cX8_triangle 124 = .ok (.iload 4, 2) := by decide +kernel
theorem dX8_triangle_126 : decode cX8_triangle 126 = .ok (.iadd, 1) := by decide +kernel
theorem dX8_triangle_127 : decode cX8_triangle 127 = .ok (.idiv, 1) := by decide +kernel
theorem dX8_triangle_128 : decode cX8_triangle 128 = .ok (.invokevirtual 89, 3) := by decide +kernel
theorem dX8_triangle_131 : decode cX8_triangle 131 = .ok (.pop, 1) := by decide +kernel
theorem dX8_triangle_132 : decode cX8_triangle 132 = .ok (.aload_n 0, 1) := by decide +kernel
theorem dX8_triangle_133 : decode cX8_triangle 133 = .ok (.aload_n 0, 1) := by decide +kernel
theorem dX8_triangle_134 : decode cX8_triangle 134 = .ok (.getfield 41, 3) := by decide +kernel
theorem dX8_triangle_137 : decode cX8_triangle 137 = .ok (.iconst 1, 1) := by decide +kernel
theorem dX8_triangle_138 : decode cX8_triangle 138 = .ok (.iaload, 1) := by decide +kernel
theorem dX8_triangle_139 : decode cX8_triangle 139 = .ok (.aload_n 0, 1) := by decide +kernel
theorem dX8_triangle_140 : decode cX8_triangle 140 = .ok (.getfield 41, 3) := by decide +kernel
theorem dX8_triangle_143 : decode cX8_triangle 143 = .ok (.iconst 2, 1) := by decide +kernel
theorem dX8_triangle_144 : decode cX8_triangle 144 = .ok (.iaload, 1) := by decide +kernel
theorem dX8_triangle_145 : decode cX8_triangle 145 = .ok (.iload_n 3, 1) := by decide +kernel
theorem dX8_triangle_146 : decode cX8_triangle 146 = .ok (.iload 4, 2) := by decide +kernel
theorem dX8_triangle_148 : decode cX8_triangle 148 = .ok (.imul, 1) := by decide +kernel
theorem dX8_triangle_149 : decode cX8_triangle 149 = .ok (.iload_n 2, 1) := by decide +kernel
theorem dX8_triangle_150 : decode cX8_triangle 150 = .ok (.iload_n 3, 1) := by decide +kernel
theorem dX8_triangle_151 : decode cX8_triangle 151 = .ok (.iadd, 1) := by decide +kernel
theorem dX8_triangle_152 : decode cX8_triangle 152 = .ok (.iload 4, 2) := by decide +kernel
theorem dX8_triangle_154 : decode cX8_triangle 154 = .ok (.iadd, 1) := by decide +kernel
theorem dX8_triangle_155 : decode cX8_triangle 155 = .ok (.idiv, 1) := by decide +kernel
theorem dX8_triangle_156 : decode cX8_triangle 156 = .ok (.invokevirtual 89, 3) := by decide +kernel
theorem dX8_triangle_159 : decode cX8_triangle 159 = .ok (.pop, 1) := by decide +kernel
theorem dX8_triangle_160 : decode cX8_triangle 160 = .ok (.return_, 1) := by decide +kernel
set_option maxRecDepth 20000 in
theorem ggX8_star_X8_products : GoodIn wsX8_star wsX8_products := goodIn_r _ [9, 4, 2, 29, 30, 31, 32, 33, 34, 35, 36, 37, 38, 39, 40, 41, 42, 43, 44, 45, 46, 47, 48, 49] (by decide +kernel) (by decide +kernel)
set_option maxRecDepth 20000 in
theorem gX8_star_X8_products : GoodIn wsX8_star (wsV RX8 165 RX8 yX8_products wsX8_products) := goodIn_app (goodIn_of _ (by decide +kernel)) ggX8_star_X8_products
set_option maxRecDepth 20000 in
theorem ggX8_star_X8_goes : GoodIn wsX8_star wsX8_goes := goodIn_r _ [13, 14, 29, 30, 31, 32, 33, 34, 35, 36, 37, 38, 39, 40, 41, 42, 43, 44, 45, 46, 47, 48, 49] (by decide +kernel) (by decide +kernel)
set_option maxRecDepth 20000 in
theorem gX8_star_X8_goes : GoodIn wsX8_star (wsV RX8 187 RX8 yX8_goes wsX8_goes) := goodIn_app (goodIn_of _ (by decide +kernel)) ggX8_star_X8_goes
set_option maxRecDepth 20000 in
theorem ggX8_star_X8_addsNode : GoodIn wsX8_star wsX8_addsNode := goodIn_r _ [18, 1, 19, 20, 21, 29, 30, 31, 32, 33, 34, 35, 36, 37, 38, 39, 40, 41, 42, 43, 44, 45, 46, 47, 48, 49] (by decide +kernel) (by decide +kernel)
set_option maxRecDepth 20000 in
theorem gX8_star_X8_addsNode : GoodIn wsX8_star (wsV RX8 78 RX8 yX8_addsNode wsX8_addsNode) := goodIn_app (goodIn_of _ (by decide +kernel)) ggX8_star_X8_addsNode
set_option maxRecDepth 20000 in
theorem ggX8_star_X8_addsWire : GoodIn wsX8_star wsX8_addsWire := goodIn_r _ [25, 26, 14, 27, 28, 4, 29, 30, 31, 32, 33, 34, 35, 36, 37, 38, 39, 40, 41, 42, 43, 44, 45, 46, 47, 48, 49] (by decide +kernel) (by decide +kernel)
set_option maxRecDepth 20000 in
theorem gX8_star_X8_addsWire : GoodIn wsX8_star (wsV RX8 89 RX8 yX8_addsWire wsX8_addsWire) := goodIn_app (goodIn_of _ (by decide +kernel)) ggX8_star_X8_addsWire
theorem dX8_star_0 : decode cX8_star 0 = .ok (.aload_n 0, 1) := by decide +kernel
theorem dX8_star_1 : decode cX8_star 1 = .ok (.invokevirtual 165, 3) := by decide +kernel
theorem dX8_star_4 : decode cX8_star 4 = .ok (.istore_n 1, 1) := by decide +kernel
theorem dX8_star_5 : decode cX8_star 5 = .ok (.aload_n 0, 1) := by decide +kernel
theorem dX8_star_6 : decode cX8_star 6 = .ok (.getfield 72, 3) := by decide +kernel
theorem dX8_star_9 : decode cX8_star 9 = .ok (.istore_n 2, 1) := by decide +kernel
theorem dX8_star_10 : decode cX8_star 10 = .ok (.iconst 0, 1) := by decide +kernel
theorem dX8_star_11 : decode cX8_star 11 = .ok (.istore_n 3, 1) := by decide +kernel
theorem dX8_star_12 : decode cX8_star 12 = .ok (.iload_n 3, 1) := by decide +kernel
theorem dX8_star_13 : decode cX8_star 13 = .ok (.iconst 3, 1) := by decide +kernel
theorem dX8_star_14 : decode cX8_star 14 = .ok (.if_icmp .ge 19, 3) := by decide +kernel
theorem dX8_star_17 : decode cX8_star 17 = .ok (.aload_n 0, 1) := by decide +kernel
theorem dX8_star_18 : decode cX8_star 18 = .ok (.aload_n 0, 1) := by decide +kernel
theorem dX8_star_19 : decode cX8_star 19 = .ok (.getfield 44, 3) := by decide +kernel
theorem dX8_star_22 : decode cX8_star 22 = .ok (.iload_n 3, 1) := by decide +kernel
theorem dX8_star_23 : decode cX8_star 23 = .ok (.iaload, 1) := by decide +kernel
theorem dX8_star_24 : decode cX8_star 24 = .ok (.invokevirtual 187, 3) := by decide +kernel
theorem dX8_star_27 : decode cX8_star 27 = .ok (.iinc 3 1, 3) := by decide +kernel
theorem dX8_star_30 : decode cX8_star 30 = .ok (.goto (-18), 3) := by decide +kernel
theorem dX8_star_33 : decode cX8_star 33 = .ok (.aload_n 0, 1) := by decide +kernel
theorem dX8_star_34 : decode cX8_star 34 = .ok (.iconst 0, 1) := by decide +kernel
theorem dX8_star_35 : decode cX8_star 35 = .ok (.invokevirtual 78, 3) := by decide +kernel
theorem dX8_star_38 : decode cX8_star 38 = .ok (.pop, 1) := by decide +kernel
theorem dX8_star_39 : decode cX8_star 39 = .ok (.aload_n 0, 1) := by decide +kernel
theorem dX8_star_40 : decode cX8_star 40 = .ok (.aload_n 0, 1) := by decide +kernel
theorem dX8_star_41 : decode cX8_star 41 = .ok (.getfield 41, 3) := by decide +kernel
theorem dX8_star_44 : decode cX8_star 44 = .ok (.iconst 0, 1) := by decide +kernel
theorem dX8_star_45 : decode cX8_star 45 = .ok (.iaload, 1) := by decide +kernel
theorem dX8_star_46 : decode cX8_star 46 = .ok (.iload_n 2, 1) := by decide +kernel
theorem dX8_star_47 : decode cX8_star 47 = .ok (.iload_n 1, 1) := by decide +kernel
theorem dX8_star_48 : decode cX8_star 48 = .ok (.aload_n 0, 1) := by decide +kernel
theorem dX8_star_49 : decode cX8_star 49 = .ok (.getfield 16, 3) := by decide +kernel
theorem dX8_star_52 : decode cX8_star 52 = .ok (.aload_n 0, 1) := by decide +kernel
theorem dX8_star_53 : decode cX8_star 53 = .ok (.getfield 44, 3) := by decide +kernel
theorem dX8_star_56 : decode cX8_star 56 = .ok (.iconst 2, 1) := by decide +kernel
theorem dX8_star_57 : decode cX8_star 57 = .ok (.iaload, 1) := by decide +kernel
theorem dX8_star_58 : decode cX8_star 58 = .ok (.iaload, 1) := by decide +kernel
theorem dX8_star_59 : decode cX8_star 59 = .ok (.idiv, 1) := by decide +kernel
theorem dX8_star_60 : decode cX8_star 60 = .ok (.invokevirtual 89, 3) := by decide +kernel
theorem dX8_star_63 : decode cX8_star 63 = .ok (.pop, 1) := by decide +kernel
theorem dX8_star_64 : decode cX8_star 64 = .ok (.aload_n 0, 1) := by decide +kernel
theorem dX8_star_65 : decode cX8_star 65 = .ok (.aload_n 0, 1) := by decide +kernel
theorem dX8_star_66 : decode cX8_star 66 = .ok (.getfield 41, 3) := by decide +kernel
theorem dX8_star_69 : decode cX8_star 69 = .ok (.iconst 1, 1) := by decide +kernel
theorem dX8_star_70 : decode cX8_star 70 = .ok (.iaload, 1) := by decide +kernel
theorem dX8_star_71 : decode cX8_star 71 = .ok (.iload_n 2, 1) := by decide +kernel
theorem dX8_star_72 : decode cX8_star 72 = .ok (.iload_n 1, 1) := by decide +kernel
theorem dX8_star_73 : decode cX8_star 73 = .ok (.aload_n 0, 1) := by decide +kernel
theorem dX8_star_74 : decode cX8_star 74 = .ok (.getfield 16, 3) := by decide +kernel
theorem dX8_star_77 : decode cX8_star 77 = .ok (.aload_n 0, 1) := by decide +kernel
theorem dX8_star_78 : decode cX8_star 78 = .ok (.getfield 44, 3) := by decide +kernel
theorem dX8_star_81 : decode cX8_star 81 = .ok (.iconst 1, 1) := by decide +kernel
theorem dX8_star_82 : decode cX8_star 82 = .ok (.iaload, 1) := by decide +kernel
theorem dX8_star_83 : decode cX8_star 83 = .ok (.iaload, 1) := by decide +kernel
theorem dX8_star_84 : decode cX8_star 84 = .ok (.idiv, 1) := by decide +kernel
theorem dX8_star_85 : decode cX8_star 85 = .ok (.invokevirtual 89, 3) := by decide +kernel
theorem dX8_star_88 : decode cX8_star 88 = .ok (.pop, 1) := by decide +kernel
theorem dX8_star_89 : decode cX8_star 89 = .ok (.aload_n 0, 1) := by decide +kernel
theorem dX8_star_90 : decode cX8_star 90 = .ok (.aload_n 0, 1) := by decide +kernel
theorem dX8_star_91 : decode cX8_star 91 = .ok (.getfield 41, 3) := by decide +kernel
theorem dX8_star_94 : decode cX8_star 94 = .ok (.iconst 2, 1) := by decide +kernel
theorem dX8_star_95 : decode cX8_star 95 = .ok (.iaload, 1) := by decide +kernel
theorem dX8_star_96 : decode cX8_star 96 = .ok (.iload_n 2, 1) := by decide +kernel
theorem dX8_star_97 : decode cX8_star 97 = .ok (.iload_n 1, 1) := by decide +kernel
theorem dX8_star_98 : decode cX8_star 98 = .ok (.aload_n 0, 1) := by decide +kernel
theorem dX8_star_99 : decode cX8_star 99 = .ok (.getfield 16, 3) := by decide +kernel
theorem dX8_star_102 : decode cX8_star 102 = .ok (.aload_n 0, 1) := by decide +kernel
theorem dX8_star_103 : decode cX8_star 103 = .ok (.getfield 44, 3) := by decide +kernel
theorem dX8_star_106 : decode cX8_star 106 = .ok (.iconst 0, 1) := by decide +kernel
theorem dX8_star_107 : decode cX8_star 107 = .ok (.iaload, 1) := by decide +kernel
theorem dX8_star_108 : decode cX8_star 108 = .ok (.iaload, 1) := by decide +kernel
theorem dX8_star_109 : decode cX8_star 109 = .ok (.idiv, 1) := by decide +kernel
theorem dX8_star_110 : decode cX8_star 110 = .ok (.invokevirtual 89, 3) := by decide +kernel
theorem dX8_star_113 : decode cX8_star 113 = .ok (.pop, 1) := by decide +kernel
theorem dX8_star_114 : decode cX8_star 114 = .ok (.return_, 1) := by decide +kernel
set_option maxRecDepth 20000 in
theorem ggX8_does_X8_keepsNetwork : GoodIn wsX8_does wsX8_keepsNetwork := goodIn_r _ [8, 9, 10, 3, 11, 12, 13, 14, 1, 54, 55, 56, 57, 58, 59, 60, 61, 62, 63, 64, 65, 66, 67, 68, 69, 70, 71, 72, 73, 74] (by decide +kernel) (by decide +kernel)
set_option maxRecDepth 20000 in
theorem gX8_does_X8_keepsNetwork : GoodIn wsX8_does (wsV RX8 191 RX8 yX8_keepsNetwork wsX8_keepsNetwork) := goodIn_app (goodIn_of _ (by decide +kernel)) ggX8_does_X8_keepsNetwork
set_option maxRecDepth 20000 in
theorem ggX8_does_X8_goes : GoodIn wsX8_does wsX8_goes := goodIn_r _ [18, 13, 54, 55, 56, 57, 58, 59, 60, 61, 62, 63, 64, 65, 66, 67, 68, 69, 70, 71, 72, 73, 74] (by decide +kernel) (by decide +kernel)
set_option maxRecDepth 20000 in
theorem gX8_does_X8_goes : GoodIn wsX8_does (wsV RX8 187 RX8 yX8_goes wsX8_goes) := goodIn_app (goodIn_of _ (by decide +kernel)) ggX8_does_X8_goes
set_option maxRecDepth 20000 in
theorem ggX8_does_X8_alike : GoodIn wsX8_does wsX8_alike := goodIn_r _ [22, 13, 23, 24, 25, 26, 7, 27, 54, 55, 56, 57, 58, 59, 60, 61, 62, 63, 64, 65, 66, 67, 68, 69, 70, 71, 72, 73, 74] (by decide +kernel) (by decide +kernel)
set_option maxRecDepth 20000 in
theorem gX8_does_X8_alike : GoodIn wsX8_does (wsV RX8 175 RX8 yX8_alike wsX8_alike) := goodIn_app (goodIn_of _ (by decide +kernel)) ggX8_does_X8_alike
set_option maxRecDepth 20000 in
theorem ggX8_does_X8_series : GoodIn wsX8_does wsX8_series := goodIn_r _ [31, 1, 2, 3, 32, 15, 16, 17, 7, 18, 13, 33, 34, 35, 36, 14, 23, 24, 54, 55, 56, 57, 58, 59, 60, 61, 62, 63, 64, 65, 66, 67, 68, 69, 70, 71, 72, 73, 74] (by decide +kernel) (by decide +kernel)
set_option maxRecDepth 20000 in
theorem gX8_does_X8_series : GoodIn wsX8_does (wsV RX8 194 RX8 yX8_series wsX8_series) := goodIn_app (goodIn_of _ (by decide +kernel)) ggX8_does_X8_series
set_option maxRecDepth 20000 in
theorem ggX8_does_X8_triangle : GoodIn wsX8_does wsX8_triangle := goodIn_r _ [40, 1, 2, 3, 32, 15, 16, 17, 7, 18, 13, 33, 34, 35, 36, 14, 23, 24, 54, 55, 56, 57, 58, 59, 60, 61, 62, 63, 64, 65, 66, 67, 68, 69, 70, 71, 72, 73, 74] (by decide +kernel) (by decide +kernel)
set_option maxRecDepth 20000 in
theorem gX8_does_X8_triangle : GoodIn wsX8_does (wsV RX8 197 RX8 yX8_triangle wsX8_triangle) := goodIn_app (goodIn_of _ (by decide +kernel)) ggX8_does_X8_triangle
set_option maxRecDepth 20000 in
theorem ggX8_does_X8_star : GoodIn wsX8_does wsX8_star := goodIn_r _ [44, 12, 2, 32, 1, 45, 46, 47, 7, 48, 15, 16, 17, 18, 13, 49, 50, 51, 52, 3, 11, 53, 33, 34, 35, 36, 14, 23, 24, 54, 55, 56, 57, 58, 59, 60, 61, 62, 63, 64, 65, 66, 67, 68, 69, 70, 71, 72, 73, 74] (by decide +kernel) (by decide +kernel)
set_option maxRecDepth 20000 in
theorem gX8_does_X8_star : GoodIn wsX8_does (wsV RX8 200 RX8 yX8_star wsX8_star) := goodIn_app (goodIn_of _ (by decide +kernel)) ggX8_does_X8_star
theorem dX8_does_0 : decode cX8_does 0 = .ok (.aload_n 0, 1) := by decide +kernel
theorem dX8_does_1 : decode cX8_does 1 = .ok (.invokevirtual 191, 3) := by decide +kernel
theorem dX8_does_4 : decode cX8_does 4 = .ok (.iload_n 1, 1) := by decide +kernel
theorem dX8_does_5 : decode cX8_does 5 = .ok (.tableswitch 115 0 4 #[35, 43, 72, 99, 107], 35) := by decide +kernel
theorem dX8_does_40 : decode cX8_does 40 = .ok (.aload_n 0, 1) := by decide +kernel
theorem dX8_does_41 : decode cX8_does 41 = .ok (.iload_n 2, 1) := by decide +kernel
theorem dX8_does_42 : decode cX8_does 42 = .ok (.invokevirtual 187, 3) := by decide +kernel
theorem dX8_does_45 : decode cX8_does 45 = .ok (.goto 79, 3) := by decide +kernel
theorem dX8_does_48 : decode cX8_does 48 = .ok (.aload_n 0, 1) := by decide +kernel
theorem dX8_does_49 : decode cX8_does 49 = .ok (.iload_n 2, 1) := by decide +kernel
theorem dX8_does_50 : decode cX8_does 50 = .ok (.invokevirtual 175, 3) := by decide +kernel
theorem dX8_does_53 : decode cX8_does 53 = .ok (.istore_n 3, 1) := by decide +kernel
theorem dX8_does_54 : decode cX8_does 54 = .ok (.aload_n 0, 1) := by decide +kernel
theorem dX8_does_55 : decode cX8_does 55 = .ok (.getfield 16, 3) := by decide +kernel
theorem dX8_does_58 : decode cX8_does 58 = .ok (.iload_n 2, 1) := by decide +kernel
theorem dX8_does_59 : decode cX8_does 59 = .ok (.dup2, 1) := by decide +kernel
theorem dX8_does_60 : decode cX8_does 60 = .ok (.iaload, 1) := by decide +kernel
theorem dX8_does_61 : decode cX8_does 61 = .ok (.aload_n 0, 1) := by decide +kernel
theorem dX8_does_62 : decode cX8_does 62 = .ok (.getfield 16, 3) := by decide +kernel
theorem dX8_does_65 : decode cX8_does 65 = .ok (.iload_n 3, 1) := by decide +kernel
theorem dX8_does_66 : decode cX8_does 66 = .ok (.iaload, 1) := by decide +kernel
theorem dX8_does_67 : decode cX8_does 67 = .ok (.iadd, 1) := by decide +kernel
theorem dX8_does_68 : decode cX8_does 68 = .ok (.iastore, 1) := by decide +kernel
theorem dX8_does_69 : decode cX8_does 69 = .ok (.aload_n 0, 1) := by decide +kernel
theorem dX8_does_70 : decode cX8_does 70 = .ok (.iload_n 3, 1) := by decide +kernel
theorem dX8_does_71 : decode cX8_does 71 = .ok (.invokevirtual 187, 3) := by decide +kernel
theorem dX8_does_74 : decode cX8_does 74 = .ok (.goto 50, 3) := by decide +kernel
theorem dX8_does_77 : decode cX8_does 77 = .ok (.aload_n 0, 1) := by decide +kernel
theorem dX8_does_78 : decode cX8_does 78 = .ok (.aload_n 0, 1) := by decide +kernel
theorem dX8_does_79 : decode cX8_does 79 = .ok (.getfield 44, 3) := by decide +kernel
theorem dX8_does_82 : decode cX8_does 82 = .ok (.iconst 0, 1) := by decide +kernel
theorem dX8_does_83 : decode cX8_does 83 = .ok (.iaload, 1) := by decide +kernel
theorem dX8_does_84 : decode cX8_does 84 = .ok (.invokevirtual 187, 3) := by decide +kernel
theorem dX8_does_87 : decode cX8_does 87 = .ok (.aload_n 0, 1) := by decide +kernel
theorem dX8_does_88 : decode cX8_does 88 = .ok (.dup, 1) := by decide +kernel
theorem dX8_does_89 : decode cX8_does 89 = .ok (.getfield 55, 3) := by decide +kernel
theorem dX8_does_92 : decode cX8_does 92 = .ok (.iconst 1, 1) := by decide +kernel
theorem dX8_does_93 : decode cX8_does 93 = .ok (.iload_n 2, 1) := by decide +kernel
theorem dX8_does_94 : decode cX8_does 94 = .ok (.ishl, 1) := by decide +kernel
theorem dX8_does_95 : decode cX8_does 95 = .ok (.iconst (-1), 1) := by decide +kernel
theorem dX8_does_96 : decode cX8_does 96 = .ok (.ixor, 1) := by decide +kernel
theorem dX8_does_97 : decode cX8_does 97 = .ok (.iand, 1) := by decide +kernel
theorem dX8_does_98 : decode cX8_does 98 = .ok (.putfield 55, 3) := by decide +kernel
theorem dX8_does_101 : decode cX8_does 101 = .ok (.goto 23, 3) := by decide +kernel
theorem dX8_does_104 : decode cX8_does 104 = .ok (.aload_n 0, 1) := by decide +kernel
theorem dX8_does_105 : decode cX8_does 105 = .ok (.iload_n 2, 1) := by decide +kernel
theorem dX8_does_106 : decode cX8_does 106 = .ok (.invokevirtual 194, 3) := by decide +kernel
theorem dX8_does_109 : decode cX8_does 109 = .ok (.goto 15, 3) := by decide +kernel
theorem dX8_does_112 : decode cX8_does 112 = .ok (.aload_n 0, 1) := by decide +kernel
theorem dX8_does_113 : decode cX8_does 113 = .ok (.iload_n 2, 1) := by decide +kernel
theorem dX8_does_114 : decode cX8_does 114 = .ok (.invokevirtual 197, 3) := by decide +kernel
theorem dX8_does_117 : decode cX8_does 117 = .ok (.goto 7, 3) := by decide +kernel
theorem dX8_does_120 : decode cX8_does 120 = .ok (.aload_n 0, 1) := by decide +kernel
theorem dX8_does_121 : decode cX8_does 121 = .ok (.invokevirtual 200, 3) := by decide +kernel
theorem dX8_does_124 : decode cX8_does 124 = .ok (.return_, 1) := by decide +kernel
theorem dX8_isOfWire_0 : decode cX8_isOfWire 0 = .ok (.iload_n 0, 1) := by decide +kernel
theorem dX8_isOfWire_1 : decode cX8_isOfWire 1 = .ok (.ifCond .eq 13, 3) := by decide +kernel
theorem dX8_isOfWire_4 : decode cX8_isOfWire 4 = .ok (.iload_n 0, 1) := by decide +kernel
theorem dX8_isOfWire_5 : decode cX8_isOfWire 5 = .ok (.iconst 1, 1) := by decide +kernel
theorem dX8_isOfWire_6 : decode cX8_isOfWire 6 = .ok (.if_icmp .eq 8, 3) := by decide +kernel
theorem dX8_isOfWire_9 : decode cX8_isOfWire 9 = .ok (.iload_n 0, 1) := by decide +kernel
theorem dX8_isOfWire_10 : decode cX8_isOfWire 10 = .ok (.iconst 5, 1) := by decide +kernel
theorem dX8_isOfWire_11 : decode cX8_isOfWire 11 = .ok (.if_icmp .ne 7, 3) := by decide +kernel
theorem dX8_isOfWire_14 : decode cX8_isOfWire 14 = .ok (.iconst 1, 1) := by decide +kernel
theorem dX8_isOfWire_15 : decode cX8_isOfWire 15 = .ok (.goto 4, 3) := by decide +kernel
theorem dX8_isOfWire_18 : decode cX8_isOfWire 18 = .ok (.iconst 0, 1) := by decide +kernel
theorem dX8_isOfWire_19 : decode cX8_isOfWire 19 = .ok (.ireturn, 1) := by decide +kernel
set_option maxRecDepth 20000 in
theorem ggX8_move_X8_in : GoodIn wsX8_move wsX8_in := goodIn_r _ [5] (by decide +kernel) (by decide +kernel)
set_option maxRecDepth 20000 in
theorem gX8_move_X8_in : GoodIn wsX8_move (va_wsS RX8 51 yX8_in wsX8_in) := goodIn_app (goodIn_of _ (by decide +kernel)) ggX8_move_X8_in
set_option maxRecDepth 20000 in
theorem ggX8_move_X8_isOfWire : GoodIn wsX8_move wsX8_isOfWire := goodIn_r _ [8] (by decide +kernel) (by decide +kernel)
set_option maxRecDepth 20000 in
theorem gX8_move_X8_isOfWire : GoodIn wsX8_move (va_wsS RX8 203 yX8_isOfWire wsX8_isOfWire) := goodIn_app (goodIn_of _ (by decide +kernel)) ggX8_move_X8_isOfWire
set_option maxRecDepth 20000 in
theorem ggX8_move_X8_isWire : GoodIn wsX8_move wsX8_isWire := goodIn_r _ [12, 13, 2, 3, 4, 5, 14, 15, 16, 115, 116, 117, 118, 119, 120, 121, 122, 123, 124, 125, 126, 127, 128, 129, 130, 131, 132, 133, 134, 135] (by decide +kernel) (by decide +kernel)
set_option maxRecDepth 20000 in
theorem gX8_move_X8_isWire : GoodIn wsX8_move (wsV RX8 93 RX8 yX8_isWire wsX8_isWire) := goodIn_app (goodIn_of _ (by decide +kernel)) ggX8_move_X8_isWire
set_option maxRecDepth 20000 in
theorem ggX8_move_X8_isNode : GoodIn wsX8_move wsX8_isNode := goodIn_r _ [20, 21, 2, 3, 4, 5, 14, 15, 16, 115, 116, 117, 118, 119, 120, 121, 122, 123, 124, 125, 126, 127, 128, 129, 130, 131, 132, 133, 134, 135] (by decide +kernel) (by decide +kernel)
set_option maxRecDepth 20000 in
theorem gX8_move_X8_isNode : GoodIn wsX8_move (wsV RX8 62 RX8 yX8_isNode wsX8_isNode) := goodIn_app (goodIn_of _ (by decide +kernel)) ggX8_move_X8_isNode
set_option maxRecDepth 20000 in
theorem ggX8_move_X8_isPossible : GoodIn wsX8_move wsX8_isPossible := goodIn_r _ [25, 26, 27, 28, 29, 30, 31, 4, 32, 13, 14, 15, 16, 33, 34, 35, 36, 37, 38, 39, 40, 41, 42, 43, 44, 45, 46, 47, 48, 49, 50, 51, 52, 53, 54, 55, 56, 57, 58, 2, 3, 5, 59, 60, 61, 62, 63, 64, 65, 66, 67, 68, 69, 70, 71, 72, 73, 74, 75, 76, 77, 78, 79, 115, 116, 117, 118, 119, 120, 121, 122, 123, 124, 125, 126, 127, 128, 129, 130, 131, 132, 133, 134, 135] (by decide +kernel) (by decide +kernel)
set_option maxRecDepth 20000 in
theorem gX8_move_X8_isPossible : GoodIn wsX8_move (wsV RX8 206 RX8 yX8_isPossible wsX8_isPossible) := goodIn_app (goodIn_of _ (by decide +kernel)) ggX8_move_X8_isPossible
set_option maxRecDepth 20000 in
theorem ggX8_move_X8_does : GoodIn wsX8_move wsX8_does := goodIn_r _ [83, 28, 46, 21, 84, 85, 86, 4, 87, 88, 89, 37, 67, 13, 55, 90, 91, 92, 93, 29, 30, 31, 32, 26, 27, 14, 15, 16, 94, 95, 96, 97, 47, 98, 99, 100, 101, 102, 103, 104, 105, 106, 107, 108, 109, 76, 77, 78, 79, 110, 111, 112, 113, 114, 115, 116, 117, 118, 119, 120, 121, 122, 123, 124, 125, 126, 127, 128, 129, 130, 131, 132, 133, 134, 135] (by decide +kernel) (by decide +kernel)
set_option maxRecDepth 20000 in
theorem gX8_move_X8_does : GoodIn wsX8_move (wsV RX8 209 RX8 yX8_does wsX8_does) := goodIn_app (goodIn_of _ (by decide +kernel)) ggX8_move_X8_does
theorem dX8_move_0 : decode cX8_move 0 = .ok (.iload_n 1, 1) := by decide +kernel
theorem dX8_move_1 : decode cX8_move 1 = .ok (.iconst 0, 1) := by decide +kernel
theorem dX8_move_2 : decode cX8_move 2 = .ok (.iconst 5, 1) := by decide +kernel
theorem dX8_move_3 : decode cX8_move 3 = .ok (.invokestatic 51, 3) := by decide +kernel
theorem dX8_move_6 : decode cX8_move 6 = .ok (.istore_n 3, 1) := by decide +kernel
theorem dX8_move_7 : decode cX8_move 7 = .ok (.aload_n 0, 1) := by decide +kernel
theorem dX8_move_8 : decode cX8_move 8 = .ok (.iload_n 3, 1) := by decide +kernel
theorem dX8_move_9 : decode cX8_move 9 = .ok (.ifCond .ne 7, 3) := by decide +kernel
theorem dX8_move_12 : decode cX8_move 12 = .ok (.iconst 2, 1) := by decide +kernel
theorem dX8_move_13 : decode cX8_move 13 = .ok (.goto 34, 3) := by decide +kernel
theorem dX8_move_16 : decode cX8_move 16 = .ok (.iload_n 1, 1) := by decide +kernel
theorem dX8_move_17 : decode cX8_move 17 = .ok (.invokestatic 203, 3) := by decide +kernel
theorem dX8_move_20 : decode cX8_move 20 = .ok (.ifCond .eq 14, 3) := by decide +kernel
theorem dX8_move_23 : decode cX8_move 23 = .ok (.aload_n 0, 1) := by decide +kernel
theorem dX8_move_24 : decode cX8_move 24 = .ok (.iload_n 2, 1) := by decide +kernel
theorem dX8_move_25 : decode cX8_move 25 = .ok (.invokevirtual 93, 3) := by decide +kernel
theorem dX8_move_28 : decode cX8_move 28 = .ok (.ifCond .eq 18, 3) := by decide +kernel
theorem dX8_move_31 : decode cX8_move 31 = .ok (.goto 11, 3) := by decide +kernel
theorem dX8_move_34 : decode cX8_move 34 = .ok (.aload_n 0, 1) := by decide +kernel
theorem dX8_move_35 : decode cX8_move 35 = .ok (.iload_n 2, 1) := by decide +kernel
theorem dX8_move_36 : decode cX8_move 36 = .ok (.invokevirtual 62, 3) := by decide +kernel
theorem dX8_move_39 : decode cX8_move 39 = .ok (.ifCond .eq 7, 3) := by decide +kernel
theorem dX8_move_42 : decode cX8_move 42 = .ok (.iconst 0, 1) := by decide +kernel
theorem dX8_move_43 : decode cX8_move 43 = .ok (.goto 4, 3) := by decide +kernel
theorem dX8_move_46 : decode cX8_move 46 = .ok (.iconst 1, 1) := by decide +kernel
theorem dX8_move_47 : decode cX8_move 47 = .ok (.putfield 47, 3) := by decide +kernel
theorem dX8_move_50 : decode cX8_move 50 = .ok (.aload_n 0, 1) := by decide +kernel
theorem dX8_move_51 : decode cX8_move 51 = .ok (.getfield 47, 3) := by decide +kernel
theorem dX8_move_54 : decode cX8_move 54 = .ok (.ifCond .ne 21, 3) := by decide +kernel
theorem dX8_move_57 : decode cX8_move 57 = .ok (.aload_n 0, 1) := by decide +kernel
theorem dX8_move_58 : decode cX8_move 58 = .ok (.aload_n 0, 1) := by decide +kernel
theorem dX8_move_59 : decode cX8_move 59 = .ok (.iload_n 1, 1) := by decide +kernel
theorem dX8_move_60 : decode cX8_move 60 = .ok (.iload_n 2, 1) := by decide +kernel
theorem dX8_move_61 : decode cX8_move 61 = .ok (.invokevirtual 206, 3) := by decide +kernel
theorem dX8_move_64 : decode cX8_move 64 = .ok (.ifCond .eq 7, 3) := by decide +kernel
theorem dX8_move_67 : decode cX8_move 67 = .ok (.iconst 0, 1) := by decide +kernel
theorem dX8_move_68 : decode cX8_move 68 = .ok (.goto 4, 3) := by decide +kernel
theorem dX8_move_71 : decode cX8_move 71 = .ok (.iconst 3, 1) := by decide +kernel
theorem dX8_move_72 : decode cX8_move 72 = .ok (.putfield 47, 3) := by decide +kernel
theorem dX8_move_75 : decode cX8_move 75 = .ok (.aload_n 0, 1) := by decide +kernel
theorem dX8_move_76 : decode cX8_move 76 = .ok (.getfield 47, 3) := by decide +kernel
theorem dX8_move_79 : decode cX8_move 79 = .ok (.ifCond .ne 9, 3) := by decide +kernel
theorem dX8_move_82 : decode cX8_move 82 = .ok (.aload_n 0, 1) := by decide +kernel
theorem dX8_move_83 : decode cX8_move 83 = .ok (.iload_n 1, 1) := by decide +kernel
theorem dX8_move_84 : decode cX8_move 84 = .ok (.iload_n 2, 1) := by decide +kernel
theorem dX8_move_85 : decode cX8_move 85 = .ok (.invokevirtual 209, 3) := by decide +kernel
theorem dX8_move_88 : decode cX8_move 88 = .ok (.return_, 1) := by decide +kernel
theorem dX8_undo_0 : decode cX8_undo 0 = .ok (.aload_n 0, 1) := by decide +kernel
theorem dX8_undo_1 : decode cX8_undo 1 = .ok (.aload_n 0, 1) := by decide +kernel
theorem dX8_undo_2 : decode cX8_undo 2 = .ok (.getfield 75, 3) := by decide +kernel
theorem dX8_undo_5 : decode cX8_undo 5 = .ok (.ifCond .ne 7, 3) := by decide +kernel
theorem dX8_undo_8 : decode cX8_undo 8 = .ok (.iconst 1, 1) := by decide +kernel
theorem dX8_undo_9 : decode cX8_undo 9 = .ok (.goto 4, 3) := by decide +kernel
theorem dX8_undo_12 : decode cX8_undo 12 = .ok (.iconst 0, 1) := by decide +kernel
theorem dX8_undo_13 : decode cX8_undo 13 = .ok (.putfield 47, 3) := by decide +kernel
theorem dX8_undo_16 : decode cX8_undo 16 = .ok (.aload_n 0, 1) := by decide +kernel
theorem dX8_undo_17 : decode cX8_undo 17 = .ok (.getfield 47, 3) := by decide +kernel
theorem dX8_undo_20 : decode cX8_undo 20 = .ok (.ifCond .le 5, 3) := by decide +kernel
theorem dX8_undo_23 : decode cX8_undo 23 = .ok (.iconst 0, 1) := by decide +kernel
theorem dX8_undo_24 : decode cX8_undo 24 = .ok (.ireturn, 1) := by decide +kernel
theorem dX8_undo_25 : decode cX8_undo 25 = .ok (.aload_n 0, 1) := by decide +kernel
theorem dX8_undo_26 : decode cX8_undo 26 = .ok (.dup, 1) := by decide +kernel
theorem dX8_undo_27 : decode cX8_undo 27 = .ok (.getfield 75, 3) := by decide +kernel
theorem dX8_undo_30 : decode cX8_undo 30 = .ok (.iconst 1, 1) := by decide +kernel
theorem dX8_undo_31 : decode cX8_undo 31 = .ok (.isub, 1) := by decide +kernel
theorem dX8_undo_32 : decode cX8_undo 32 = .ok (.putfield 75, 3) := by decide +kernel
theorem dX8_undo_35 : decode cX8_undo 35 = .ok (.bipush 25, 2) := by decide +kernel
theorem dX8_undo_37 : decode cX8_undo 37 = .ok (.aload_n 0, 1) := by decide +kernel
theorem dX8_undo_38 : decode cX8_undo 38 = .ok (.getfield 75, 3) := by decide +kernel
theorem dX8_undo_41 : decode cX8_undo 41 = .ok (.imul, 1) := by decide +kernel
theorem dX8_undo_42 : decode cX8_undo 42 = .ok (.istore_n 1, 1) := by decide +kernel
theorem dX8_undo_43 : decode cX8_undo 43 = .ok (.aload_n 0, 1) := by decide +kernel
theorem dX8_undo_44 : decode cX8_undo 44 = .ok (.aload_n 0, 1) := by decide +kernel
theorem dX8_undo_45 : decode cX8_undo 45 = .ok (.getfield 22, 3) := by decide +kernel
theorem dX8_undo_48 : decode cX8_undo 48 = .ok (.iload_n 1, 1) := by decide +kernel
theorem dX8_undo_49 : decode cX8_undo 49 = .ok (.iaload, 1) := by decide +kernel
theorem dX8_undo_50 : decode cX8_undo 50 = .ok (.putfield 55, 3) := by decide +kernel
theorem dX8_undo_53 : decode cX8_undo 53 = .ok (.aload_n 0, 1) := by decide +kernel
theorem dX8_undo_54 : decode cX8_undo 54 = .ok (.aload_n 0, 1) := by decide +kernel
theorem dX8_undo_55 : decode cX8_undo 55 = .ok (.getfield 22, 3) := by decide +kernel
theorem dX8_undo_58 : decode cX8_undo 58 = .ok (.iload_n 1, 1) := by decide +kernel
theorem dX8_undo_59 : decode cX8_undo 59 = .ok (.iconst 1, 1) := by decide +kernel
theorem dX8_undo_60 : decode cX8_undo 60 = .ok (.iadd, 1) := by decide +kernel
theorem dX8_undo_61 : decode cX8_undo 61 = .ok (.iaload, 1) := by decide +kernel
theorem dX8_undo_62 : decode cX8_undo 62 = .ok (.putfield 66, 3) := by decide +kernel
theorem dX8_undo_65 : decode cX8_undo 65 = .ok (.aload_n 0, 1) := by decide +kernel
theorem dX8_undo_66 : decode cX8_undo 66 = .ok (.aload_n 0, 1) := by decide +kernel
theorem dX8_undo_67 : decode cX8_undo 67 = .ok (.getfield 22, 3) := by decide +kernel
theorem dX8_undo_70 : decode cX8_undo 70 = .ok (.iload_n 1, 1) := by decide +kernel
theorem dX8_undo_71 : decode cX8_undo 71 = .ok (.iconst 2, 1) := by decide +kernel
theorem dX8_undo_72 : decode cX8_undo 72 = .ok (.iadd, 1) := by decide +kernel
theorem dX8_undo_73 : decode cX8_undo 73 = .ok (.iaload, 1) := by decide +kernel
theorem dX8_undo_74 : decode cX8_undo 74 = .ok (.putfield 72, 3) := by decide +kernel
theorem dX8_undo_77 : decode cX8_undo 77 = .ok (.aload_n 0, 1) := by decide +kernel
theorem dX8_undo_78 : decode cX8_undo 78 = .ok (.aload_n 0, 1) := by decide +kernel
theorem dX8_undo_79 : decode cX8_undo 79 = .ok (.getfield 22, 3) := by decide +kernel
theorem dX8_undo_82 : decode cX8_undo 82 = .ok (.iload_n 1, 1) := by decide +kernel
theorem dX8_undo_83 : decode cX8_undo 83 = .ok (.iconst 3, 1) := by decide +kernel
theorem dX8_undo_84 : decode cX8_undo 84 = .ok (.iadd, 1) := by decide +kernel
theorem dX8_undo_85 : decode cX8_undo 85 = .ok (.iaload, 1) := by decide +kernel
theorem dX8_undo_86 : decode cX8_undo 86 = .ok (.putfield 69, 3) := by decide +kernel
theorem dX8_undo_89 : decode cX8_undo 89 = .ok (.aload_n 0, 1) := by decide +kernel
theorem dX8_undo_90 : decode cX8_undo 90 = .ok (.aload_n 0, 1) := by decide +kernel
theorem dX8_undo_91 : decode cX8_undo 91 = .ok (.getfield 22, 3) := by decide +kernel
theorem dX8_undo_94 : decode cX8_undo 94 = .ok (.iload_n 1, 1) := by decide +kernel
theorem dX8_undo_95 : decode cX8_undo 95 = .ok (.iconst 4, 1) := by decide +kernel
theorem dX8_undo_96 : decode cX8_undo 96 = .ok (.iadd, 1) := by decide +kernel
theorem dX8_undo_97 : decode cX8_undo 97 = .ok (.iaload, 1) := by decide +kernel
theorem dX8_undo_98 : decode cX8_undo 98 = .ok (.putfield 82, 3) := by decide +kernel
theorem dX8_undo_101 : decode cX8_undo 101 = .ok (.iconst 0, 1) := by decide +kernel
theorem dX8_undo_102 : decode cX8_undo 102 = .ok (.istore_n 2, 1) := by decide +kernel
theorem dX8_undo_103 : decode cX8_undo 103 = .ok (.iload_n 2, 1) := by decide +kernel
theorem dX8_undo_104 : decode cX8_undo 104 = .ok (.bipush 20, 2) := by decide +kernel
theorem dX8_undo_106 : decode cX8_undo 106 = .ok (.if_icmp .ge 25, 3) := by decide +kernel
theorem dX8_undo_109 : decode cX8_undo 109 = .ok (.aload_n 0, 1) := by decide +kernel
theorem dX8_undo_110 : decode cX8_undo 110 = .ok (.getfield 16, 3) := by decide +kernel
theorem dX8_undo_113 : decode cX8_undo 113 = .ok (.iload_n 2, 1) := by decide +kernel
theorem dX8_undo_114 : decode cX8_undo 114 = .ok (.aload_n 0, 1) := by decide +kernel
theorem dX8_undo_115 : decode cX8_undo 115 = .ok (.getfield 22, 3) := by decide +kernel
theorem dX8_undo_118 : decode cX8_undo 118 = .ok (.iload_n 1, 1) := by decide +kernel
theorem dX8_undo_119 : decode cX8_undo 119 = .ok (.iconst 5, 1) := by decide +kernel
theorem dX8_undo_120 : decode cX8_undo 120 = .ok (.iadd, 1) := by decide +kernel
theorem dX8_undo_121 : decode cX8_undo 121 = .ok (.iload_n 2, 1) := by decide +kernel
theorem dX8_undo_122 : decode cX8_undo 122 = .ok (.iadd, 1) := by decide +kernel
theorem dX8_undo_123 : decode cX8_undo 123 = .ok (.iaload, 1) := by decide +kernel
theorem dX8_undo_124 : decode cX8_undo 124 = .ok (.iastore, 1) := by decide +kernel
theorem dX8_undo_125 : decode cX8_undo 125 = .ok (.iinc 2 1, 3) := by decide +kernel
theorem dX8_undo_128 : decode cX8_undo 128 = .ok (.goto (-25), 3) := by decide +kernel
theorem dX8_undo_131 : decode cX8_undo 131 = .ok (.aload_n 0, 1) := by decide +kernel
theorem dX8_undo_132 : decode cX8_undo 132 = .ok (.getfield 75, 3) := by decide +kernel
theorem dX8_undo_135 : decode cX8_undo 135 = .ok (.ireturn, 1) := by decide +kernel
set_option maxRecDepth 20000 in
theorem ggX8_simplifies_X8_isOfWire : GoodIn wsX8_simplifies wsX8_isOfWire := goodIn_r _ [4] (by decide +kernel) (by decide +kernel)
set_option maxRecDepth 20000 in
theorem gX8_simplifies_X8_isOfWire : GoodIn wsX8_simplifies (va_wsS RX8 203 yX8_isOfWire wsX8_isOfWire) := goodIn_app (goodIn_of _ (by decide +kernel)) ggX8_simplifies_X8_isOfWire
set_option maxRecDepth 20000 in
theorem ggX8_simplifies_X8_isWire : GoodIn wsX8_simplifies wsX8_isWire := goodIn_r _ [8, 9, 10, 11, 3, 12, 13, 14, 15, 114, 115, 116, 117, 118, 119, 120, 121, 122, 123, 124, 125, 126, 127, 128, 129, 130, 131, 132, 133, 134] (by decide +kernel) (by decide +kernel)
set_option maxRecDepth 20000 in
theorem gX8_simplifies_X8_isWire : GoodIn wsX8_simplifies (wsV RX8 93 RX8 yX8_isWire wsX8_isWire) := goodIn_app (goodIn_of _ (by decide +kernel)) ggX8_simplifies_X8_isWire
set_option maxRecDepth 20000 in
theorem ggX8_simplifies_X8_isNode : GoodIn wsX8_simplifies wsX8_isNode := goodIn_r _ [19, 20, 10, 11, 3, 12, 13, 14, 15, 114, 115, 116, 117, 118, 119, 120, 121, 122, 123, 124, 125, 126, 127, 128, 129, 130, 131, 132, 133, 134] (by decide +kernel) (by decide +kernel)
set_option maxRecDepth 20000 in
theorem gX8_simplifies_X8_isNode : GoodIn wsX8_simplifies (wsV RX8 62 RX8 yX8_isNode wsX8_isNode) := goodIn_app (goodIn_of _ (by decide +kernel)) ggX8_simplifies_X8_isNode
set_option maxRecDepth 20000 in
theorem ggX8_simplifies_X8_isPossible : GoodIn wsX8_simplifies wsX8_isPossible := goodIn_r _ [24, 25, 26, 27, 28, 29, 30, 3, 31, 9, 13, 14, 15, 32, 33, 34, 35, 36, 37, 38, 39, 40, 41, 42, 43, 44, 45, 46, 47, 48, 49, 50, 51, 52, 53, 54, 55, 56, 57, 10, 11, 12, 58, 59, 60, 61, 62, 63, 64, 65, 66, 67, 68, 69, 70, 71, 72, 73, 74, 75, 76, 77, 78, 114, 115, 116, 117, 118, 119, 120, 121, 122, 123, 124, 125, 126, 127, 128, 129, 130, 131, 132, 133, 134] (by decide +kernel) (by decide +kernel)
set_option maxRecDepth 20000 in
theorem gX8_simplifies_X8_isPossible : GoodIn wsX8_simplifies (wsV RX8 206 RX8 yX8_isPossible wsX8_isPossible) := goodIn_app (goodIn_of _ (by decide +kernel)) ggX8_simplifies_X8_isPossible
set_option maxRecDepth 20000 in
theorem ggX8_simplifies_X8_does : GoodIn wsX8_simplifies wsX8_does := goodIn_r _ [82, 27, 45, 20, 83, 84, 85, 3, 86, 87, 88, 36, 66, 9, 54, 89, 90, 91, 92, 28, 29, 30, 31, 25, 26, 13, 14, 15, 93, 94, 95, 96, 46, 97, 98, 99, 100, 101, 102, 103, 104, 105, 106, 107, 108, 75, 76, 77, 78, 109, 110, 111, 112, 113, 114, 115, 116, 117, 118, 119, 120, 121, 122, 123, 124, 125, 126, 127, 128, 129, 130, 131, 132, 133, 134] (by decide +kernel) (by decide +kernel)
set_option maxRecDepth 20000 in
theorem gX8_simplifies_X8_does : GoodIn wsX8_simplifies (wsV RX8 209 RX8 yX8_does wsX8_does) := goodIn_app (goodIn_of _ (by decide +kernel)) ggX8_simplifies_X8_does
theorem dX8_simplifies_0 : decode cX8_simplifies 0 = .ok (.iconst 0, 1) := by decide +kernel
theorem dX8_simplifies_1 : decode cX8_simplifies 1 = .ok (.istore_n 1, 1) := by decide +kernel
theorem dX8_simplifies_2 : decode cX8_simplifies 2 = .ok (.iload_n 1, 1) := by decide +kernel
theorem dX8_simplifies_3 : decode cX8_simplifies 3 = .ok (.iconst 3, 1) := by decide +kernel
theorem dX8_simplifies_4 : decode cX8_simplifies 4 = .ok (.if_icmp .gt 65, 3) := by decide +kernel
theorem dX8_simplifies_7 : decode cX8_simplifies 7 = .ok (.iconst 0, 1) := by decide +kernel
theorem dX8_simplifies_8 : decode cX8_simplifies 8 = .ok (.istore_n 2, 1) := by decide +kernel
theorem dX8_simplifies_9 : decode cX8_simplifies 9 = .ok (.iload_n 2, 1) := by decide +kernel
theorem dX8_simplifies_10 : decode cX8_simplifies 10 = .ok (.bipush 20, 2) := by decide +kernel
theorem dX8_simplifies_12 : decode cX8_simplifies 12 = .ok (.if_icmp .ge 51, 3) := by decide +kernel
theorem dX8_simplifies_15 : decode cX8_simplifies 15 = .ok (.iload_n 1, 1) := by decide +kernel
theorem dX8_simplifies_16 : decode cX8_simplifies 16 = .ok (.invokestatic 203, 3) := by decide +kernel
theorem dX8_simplifies_19 : decode cX8_simplifies 19 = .ok (.ifCond .eq 11, 3) := by decide +kernel
theorem dX8_simplifies_22 : decode cX8_simplifies 22 = .ok (.aload_n 0, 1) := by decide +kernel
theorem dX8_simplifies_23 : decode cX8_simplifies 23 = .ok (.iload_n 2, 1) := by decide +kernel
theorem dX8_simplifies_24 : decode cX8_simplifies 24 = .ok (.invokevirtual 93, 3) := by decide +kernel
theorem dX8_simplifies_27 : decode cX8_simplifies 27 = .ok (.goto 8, 3) := by decide +kernel
theorem dX8_simplifies_30 : decode cX8_simplifies 30 = .ok (.aload_n 0, 1) := by decide +kernel
theorem dX8_simplifies_31 : decode cX8_simplifies 31 = .ok (.iload_n 2, 1) := by decide +kernel
theorem dX8_simplifies_32 : decode cX8_simplifies 32 = .ok (.invokevirtual 62, 3) := by decide +kernel
theorem dX8_simplifies_35 : decode cX8_simplifies 35 = .ok (.istore_n 3, 1) := by decide +kernel
theorem dX8_simplifies_36 : decode cX8_simplifies 36 = .ok (.iload_n 3, 1) := by decide +kernel
theorem dX8_simplifies_37 : decode cX8_simplifies 37 = .ok (.ifCond .eq 20, 3) := by decide +kernel
theorem dX8_simplifies_40 : decode cX8_simplifies 40 = .ok (.aload_n 0, 1) := by decide +kernel
theorem dX8_simplifies_41 : decode cX8_simplifies 41 = .ok (.iload_n 1, 1) := by decide +kernel
theorem dX8_simplifies_42 : decode cX8_simplifies 42 = .ok (.iload_n 2, 1) := by decide +kernel
theorem dX8_simplifies_43 : decode cX8_simplifies 43 = .ok (.invokevirtual 206, 3) := by decide +kernel
theorem dX8_simplifies_46 : decode cX8_simplifies 46 = .ok (.ifCond .eq 11, 3) := by decide +kernel
theorem dX8_simplifies_49 : decode cX8_simplifies 49 = .ok (.aload_n 0, 1) := by decide +kernel
theorem dX8_simplifies_50 : decode cX8_simplifies 50 = .ok (.iload_n 1, 1) := by decide +kernel
theorem dX8_simplifies_51 : decode cX8_simplifies 51 = .ok (.iload_n 2, 1) := by decide +kernel
theorem dX8_simplifies_52 : decode cX8_simplifies 52 = .ok (.invokevirtual 209, 3) := by decide +kernel
theorem dX8_simplifies_55 : decode cX8_simplifies 55 = .ok (.iconst 1, 1) := by decide +kernel
theorem dX8_simplifies_56 : decode cX8_simplifies 56 = .ok (.ireturn, 1) := by decide +kernel
theorem dX8_simplifies_57 : decode cX8_simplifies 57 = .ok (.iinc 2 1, 3) := by decide +kernel
theorem dX8_simplifies_60 : decode cX8_simplifies 60 = .ok (.goto (-51), 3) := by decide +kernel
theorem dX8_simplifies_63 : decode cX8_simplifies 63 = .ok (.iinc 1 1, 3) := by decide +kernel
theorem dX8_simplifies_66 : decode cX8_simplifies 66 = .ok (.goto (-64), 3) := by decide +kernel
theorem dX8_simplifies_69 : decode cX8_simplifies 69 = .ok (.iconst 0, 1) := by decide +kernel
theorem dX8_simplifies_70 : decode cX8_simplifies 70 = .ok (.ireturn, 1) := by decide +kernel
set_option maxRecDepth 20000 in
theorem ggX8_simplify_X8_simplifies : GoodIn wsX8_simplify wsX8_simplifies := goodIn_r _ [6, 7, 8, 5, 9, 10, 11, 12, 13, 14, 15, 16, 17, 18, 19, 20, 21, 22, 23, 24, 25, 26, 27, 28, 29, 30, 31, 32, 33, 34, 35, 36, 37, 38, 39, 40, 41, 42, 43, 44, 45, 46, 47, 48, 49, 50, 51, 52, 53, 54, 55, 56, 57, 58, 59, 60, 61, 62, 63, 64, 65, 66, 67, 68, 69, 70, 71, 72, 73, 74, 75, 76, 77, 78, 79, 80, 81, 82, 83, 84, 85, 86, 87, 88, 89, 90, 91, 92, 93, 94, 95, 96, 97, 98, 99, 100, 101, 102, 103, 104, 105, 106, 107, 108, 109, 110, 111, 112, 113, 114, 115, 116, 117, 118, 119, 120, 121, 122, 123, 124, 125, 126, 127, 128, 129, 130, 131, 132, 133, 134, 135, 136, 137, 138, 139] (by decide +kernel) (by decide +kernel)
set_option maxRecDepth 20000 in
theorem gX8_simplify_X8_simplifies : GoodIn wsX8_simplify (wsV RX8 212 RX8 yX8_simplifies wsX8_simplifies) := goodIn_app (goodIn_of _ (by decide +kernel)) ggX8_simplify_X8_simplifies
theorem dX8_simplify_0 : decode cX8_simplify 0 = .ok (.aload_n 0, 1) := by decide +kernel
theorem dX8_simplify_1 : decode cX8_simplify 1 = .ok (.iconst 0, 1) := by decide +kernel
theorem dX8_simplify_2 : decode cX8_simplify 2 = .ok (.putfield 47, 3) := by decide +kernel
theorem dX8_simplify_5 : decode cX8_simplify 5 = .ok (.iconst 0, 1) := by decide +kernel
theorem dX8_simplify_6 : decode cX8_simplify 6 = .ok (.istore_n 1, 1) := by decide +kernel
theorem dX8_simplify_7 : decode cX8_simplify 7 = .ok (.aload_n 0, 1) := by decide +kernel
theorem dX8_simplify_8 : decode cX8_simplify 8 = .ok (.invokevirtual 212, 3) := by decide +kernel
theorem dX8_simplify_11 : decode cX8_simplify 11 = .ok (.ifCond .eq 9, 3) := by decide +kernel
theorem dX8_simplify_14 : decode cX8_simplify 14 = .ok (.iinc 1 1, 3) := by decide +kernel
theorem dX8_simplify_17 : decode cX8_simplify 17 = .ok (.goto (-10), 3) := by decide +kernel
theorem dX8_simplify_20 : decode cX8_simplify 20 = .ok (.iload_n 1, 1) := by decide +kernel
theorem dX8_simplify_21 : decode cX8_simplify 21 = .ok (.ireturn, 1) := by decide +kernel
set_option maxRecDepth 20000 in
theorem ggX8_mark_X8_counts : GoodIn wsX8_mark wsX8_counts := goodIn_r _ [12, 4, 13, 14, 15, 11, 16, 17, 18, 19, 20, 21, 22, 23, 24, 25, 26, 27, 28, 29, 30, 31, 32, 33, 34, 35, 36, 37, 38, 39, 40, 41, 42, 43, 44, 3, 45, 46, 47, 48, 49, 56, 57, 58, 59, 60, 61, 62, 63, 64, 65, 66, 67, 68, 69, 70, 71, 72, 73, 74, 75, 76] (by decide +kernel) (by decide +kernel)
set_option maxRecDepth 20000 in
theorem gX8_mark_X8_counts : GoodIn wsX8_mark (wsV RX8 117 RX8 yX8_counts wsX8_counts) := goodIn_app (goodIn_of _ (by decide +kernel)) ggX8_mark_X8_counts
set_option maxRecDepth 20000 in
theorem ggX8_mark_X8_isIn : GoodIn wsX8_mark wsX8_isIn := goodIn_r _ [24] (by decide +kernel) (by decide +kernel)
set_option maxRecDepth 20000 in
theorem gX8_mark_X8_isIn : GoodIn wsX8_mark (va_wsS RX8 58 yX8_isIn wsX8_isIn) := goodIn_app (goodIn_of _ (by decide +kernel)) ggX8_mark_X8_isIn
set_option maxRecDepth 20000 in
theorem ggX8_mark_X8_part : GoodIn wsX8_mark wsX8_part := goodIn_r _ [52, 53, 54, 11, 55] (by decide +kernel) (by decide +kernel)
set_option maxRecDepth 20000 in
theorem gX8_mark_X8_part : GoodIn wsX8_mark (va_wsS RX8 132 yX8_part wsX8_part) := goodIn_app (goodIn_of _ (by decide +kernel)) ggX8_mark_X8_part
theorem dX8_mark_0 : decode cX8_mark 0 = .ok (.aload_n 0, 1) := by decide +kernel
theorem dX8_mark_1 : decode cX8_mark 1 = .ok (.iconst 0, 1) := by decide +kernel
theorem dX8_mark_2 : decode cX8_mark 2 = .ok (.putfield 47, 3) := by decide +kernel
theorem dX8_mark_5 : decode cX8_mark 5 = .ok (.aload_n 0, 1) := by decide +kernel
theorem dX8_mark_6 : decode cX8_mark 6 = .ok (.iconst 1, 1) := by decide +kernel
theorem dX8_mark_7 : decode cX8_mark 7 = .ok (.putfield 216, 3) := by decide +kernel
theorem dX8_mark_10 : decode cX8_mark 10 = .ok (.aload_n 0, 1) := by decide +kernel
theorem dX8_mark_11 : decode cX8_mark 11 = .ok (.aload_n 0, 1) := by decide +kernel
theorem dX8_mark_12 : decode cX8_mark 12 = .ok (.getfield 66, 3) := by decide +kernel
theorem dX8_mark_15 : decode cX8_mark 15 = .ok (.aload_n 0, 1) := by decide +kernel
theorem dX8_mark_16 : decode cX8_mark 16 = .ok (.getfield 55, 3) := by decide +kernel
theorem dX8_mark_19 : decode cX8_mark 19 = .ok (.iand, 1) := by decide +kernel
theorem dX8_mark_20 : decode cX8_mark 20 = .ok (.putfield 220, 3) := by decide +kernel
theorem dX8_mark_23 : decode cX8_mark 23 = .ok (.aload_n 0, 1) := by decide +kernel
theorem dX8_mark_24 : decode cX8_mark 24 = .ok (.iconst 1, 1) := by decide +kernel
theorem dX8_mark_25 : decode cX8_mark 25 = .ok (.iconst 0, 1) := by decide +kernel
theorem dX8_mark_26 : decode cX8_mark 26 = .ok (.iconst 0, 1) := by decide +kernel
theorem dX8_mark_27 : decode cX8_mark 27 = .ok (.iconst 0, 1) := by decide +kernel
theorem dX8_mark_28 : decode cX8_mark 28 = .ok (.invokevirtual 117, 3) := by decide +kernel
theorem dX8_mark_31 : decode cX8_mark 31 = .ok (.lstore_n 1, 1) := by decide +kernel
theorem dX8_mark_32 : decode cX8_mark 32 = .ok (.iconst 0, 1) := by decide +kernel
theorem dX8_mark_33 : decode cX8_mark 33 = .ok (.istore_n 3, 1) := by decide +kernel
theorem dX8_mark_34 : decode cX8_mark 34 = .ok (.iload_n 3, 1) := by decide +kernel
theorem dX8_mark_35 : decode cX8_mark 35 = .ok (.bipush 7, 2) := by decide +kernel
theorem dX8_mark_37 : decode cX8_mark 37 = .ok (.if_icmp .ge 96, 3) := by decide +kernel
theorem dX8_mark_40 : decode cX8_mark 40 = .ok (.iconst 0, 1) := by decide +kernel
theorem dX8_mark_41 : decode cX8_mark 41 = .ok (.istore 4, 2) := by decide +kernel
theorem dX8_mark_43 : decode cX8_mark 43 = .ok (.iload 4, 2) := by decide +kernel
theorem dX8_mark_45 : decode cX8_mark 45 = .ok (.iload_n 3, 1) := by decide +kernel
theorem dX8_mark_46 : decode cX8_mark 46 = .ok (.if_icmp .ge 81, 3) := by decide +kernel
theorem dX8_mark_49 : decode cX8_mark 49 = .ok (.aload_n 0, 1) := by decide +kernel
theorem dX8_mark_50 : decode cX8_mark 50 = .ok (.getfield 220, 3) := by decide +kernel
theorem dX8_mark_53 : decode cX8_mark 53 = .ok (.iload_n 3, 1) := by decide +kernel
theorem dX8_mark_54 : decode cX8_mark 54 = .ok (.invokestatic 58, 3) := by decide +kernel
theorem dX8_mark_57 : decode cX8_mark 57 = .ok (.ifCond .eq 64, 3) := by decide +kernel
theorem dX8_mark_60 : decode cX8_mark 60 = .ok (.aload_n 0, 1) := by decide +kernel
theorem dX8_mark_61 : decode cX8_mark 61 = .ok (.getfield 220, 3) := by decide +kernel
theorem dX8_mark_64 : decode cX8_mark 64 = .ok (.iload 4, 2) := by decide +kernel
theorem dX8_mark_66 : decode cX8_mark 66 = .ok (.invokestatic 58, 3) := by decide +kernel
theorem dX8_mark_69 : decode cX8_mark 69 = .ok (.ifCond .eq 52, 3) := by decide +kernel
theorem dX8_mark_72 : decode cX8_mark 72 = .ok (.aload_n 0, 1) := by decide +kernel
theorem dX8_mark_73 : decode cX8_mark 73 = .ok (.iconst 2, 1) := by decide +kernel
theorem dX8_mark_74 : decode cX8_mark 74 = .ok (.iload_n 3, 1) := by decide +kernel
theorem dX8_mark_75 : decode cX8_mark 75 = .ok (.iload 4, 2) := by decide +kernel
theorem dX8_mark_77 : decode cX8_mark 77 = .ok (.iconst 0, 1) := by decide +kernel
theorem dX8_mark_78 : decode cX8_mark 78 = .ok (.invokevirtual 117, 3) := by decide +kernel
theorem dX8_mark_81 : decode cX8_mark 81 = .ok (.lstore 5, 2) := by decide +kernel
theorem dX8_mark_83 : decode cX8_mark 83 = .ok (.aload_n 0, 1) := by decide +kernel
theorem dX8_mark_84 : decode cX8_mark 84 = .ok (.getfield 31, 3) := by decide +kernel
theorem dX8_mark_87 : decode cX8_mark 87 = .ok (.bipush 7, 2) := by decide +kernel
theorem dX8_mark_89 : decode cX8_mark 89 = .ok (.iload_n 3, 1) := by decide +kernel
theorem dX8_mark_90 : decode cX8_mark 90 = .ok (.imul, 1) := by decide +kernel
theorem dX8_mark_91 : decode cX8_mark 91 = .ok (.iload 4, 2) := by decide +kernel
theorem dX8_mark_93 : decode cX8_mark 93 = .ok (.iadd, 1) := by decide +kernel
theorem dX8_mark_94 : decode cX8_mark 94 = .ok (.lload 5, 2) := by decide +kernel
theorem dX8_mark_96 : decode cX8_mark 96 = .ok (.lload_n 1, 1) := by decide +kernel
theorem dX8_mark_97 : decode cX8_mark 97 = .ok (.iconst 0, 1) := by decide +kernel
theorem dX8_mark_98 : decode cX8_mark 98 = .ok (.invokestatic 132, 3) := by decide +kernel
theorem dX8_mark_101 : decode cX8_mark 101 = .ok (.lastore, 1) := by decide +kernel
theorem dX8_mark_102 : decode cX8_mark 102 = .ok (.aload_n 0, 1) := by decide +kernel
theorem dX8_mark_103 : decode cX8_mark 103 = .ok (.getfield 35, 3) := by decide +kernel
theorem dX8_mark_106 : decode cX8_mark 106 = .ok (.bipush 7, 2) := by decide +kernel
theorem dX8_mark_108 : decode cX8_mark 108 = .ok (.iload_n 3, 1) := by decide +kernel
theorem dX8_mark_109 : decode cX8_mark 109 = .ok (.imul, 1) := by decide +kernel
theorem dX8_mark_110 : decode cX8_mark 110 = .ok (.iload 4, 2) := by decide +kernel
theorem dX8_mark_112 : decode cX8_mark 112 = .ok (.iadd, 1) := by decide +kernel
theorem dX8_mark_113 : decode cX8_mark 113 = .ok (.lload 5, 2) := by decide +kernel
theorem dX8_mark_115 : decode cX8_mark 115 = .ok (.lload_n 1, 1) := by decide +kernel
theorem dX8_mark_116 : decode cX8_mark 116 = .ok (.iconst 1, 1) := by decide +kernel
theorem dX8_mark_117 : decode cX8_mark 117 = .ok (.invokestatic 132, 3) := by decide +kernel
theorem dX8_mark_120 : decode cX8_mark 120 = .ok (.lastore, 1) := by decide +kernel
theorem dX8_mark_121 : decode cX8_mark 121 = .ok (.iinc 4 1, 3) := by decide +kernel
theorem dX8_mark_124 : decode cX8_mark 124 = .ok (.goto (-81), 3) := by decide +kernel
theorem dX8_mark_127 : decode cX8_mark 127 = .ok (.iinc 3 1, 3) := by decide +kernel
theorem dX8_mark_130 : decode cX8_mark 130 = .ok (.goto (-96), 3) := by decide +kernel
theorem dX8_mark_133 : decode cX8_mark 133 = .ok (.return_, 1) := by decide +kernel
set_option maxRecDepth 20000 in
theorem ggX8_keeps_X8_counts : GoodIn wsX8_keeps wsX8_counts := goodIn_r _ [10, 11, 12, 13, 14, 9, 15, 16, 17, 18, 19, 20, 21, 22, 23, 24, 25, 26, 27, 28, 29, 30, 31, 32, 33, 34, 35, 36, 37, 38, 39, 40, 41, 42, 43, 44, 45, 46, 47, 48, 49, 56, 57, 58, 59, 60, 61, 62, 63, 64, 65, 66, 67, 68, 69, 70, 71, 72, 73, 74, 75, 76] (by decide +kernel) (by decide +kernel)
set_option maxRecDepth 20000 in
theorem gX8_keeps_X8_counts : GoodIn wsX8_keeps (wsV RX8 117 RX8 yX8_counts wsX8_counts) := goodIn_app (goodIn_of _ (by decide +kernel)) ggX8_keeps_X8_counts
set_option maxRecDepth 20000 in
theorem ggX8_keeps_X8_isIn : GoodIn wsX8_keeps wsX8_isIn := goodIn_r _ [23] (by decide +kernel) (by decide +kernel)
set_option maxRecDepth 20000 in
theorem gX8_keeps_X8_isIn : GoodIn wsX8_keeps (va_wsS RX8 58 yX8_isIn wsX8_isIn) := goodIn_app (goodIn_of _ (by decide +kernel)) ggX8_keeps_X8_isIn
set_option maxRecDepth 20000 in
theorem ggX8_keeps_X8_part : GoodIn wsX8_keeps wsX8_part := goodIn_r _ [52, 53, 54, 9, 55] (by decide +kernel) (by decide +kernel)
set_option maxRecDepth 20000 in
theorem gX8_keeps_X8_part : GoodIn wsX8_keeps (va_wsS RX8 132 yX8_part wsX8_part) := goodIn_app (goodIn_of _ (by decide +kernel)) ggX8_keeps_X8_part
theorem dX8_keeps_0 : decode cX8_keeps 0 = .ok (.aload_n 0, 1) := by decide +kernel
theorem dX8_keeps_1 : decode cX8_keeps 1 = .ok (.iconst 0, 1) := by decide +kernel
theorem dX8_keeps_2 : decode cX8_keeps 2 = .ok (.putfield 47, 3) := by decide +kernel
theorem dX8_keeps_5 : decode cX8_keeps 5 = .ok (.iconst 1, 1) := by decide +kernel
theorem dX8_keeps_6 : decode cX8_keeps 6 = .ok (.istore_n 1, 1) := by decide +kernel
theorem dX8_keeps_7 : decode cX8_keeps 7 = .ok (.aload_n 0, 1) := by decide +kernel
theorem dX8_keeps_8 : decode cX8_keeps 8 = .ok (.iconst 1, 1) := by decide +kernel
theorem dX8_keeps_9 : decode cX8_keeps 9 = .ok (.iconst 0, 1) := by decide +kernel
theorem dX8_keeps_10 : decode cX8_keeps 10 = .ok (.iconst 0, 1) := by decide +kernel
theorem dX8_keeps_11 : decode cX8_keeps 11 = .ok (.iconst 0, 1) := by decide +kernel
theorem dX8_keeps_12 : decode cX8_keeps 12 = .ok (.invokevirtual 117, 3) := by decide +kernel
theorem dX8_keeps_15 : decode cX8_keeps 15 = .ok (.lstore_n 2, 1) := by decide +kernel
theorem dX8_keeps_16 : decode cX8_keeps 16 = .ok (.iconst 0, 1) := by decide +kernel
theorem dX8_keeps_17 : decode cX8_keeps 17 = .ok (.istore 4, 2) := by decide +kernel
theorem dX8_keeps_19 : decode cX8_keeps 19 = .ok (.iload 4, 2) := by decide +kernel
theorem dX8_keeps_21 : decode cX8_keeps 21 = .ok (.bipush 7, 2) := by decide +kernel
theorem dX8_keeps_23 : decode cX8_keeps 23 = .ok (.if_icmp .ge 126, 3) := by decide +kernel
theorem dX8_keeps_26 : decode cX8_keeps 26 = .ok (.aload_n 0, 1) := by decide +kernel
theorem dX8_keeps_27 : decode cX8_keeps 27 = .ok (.getfield 216, 3) := by decide +kernel
theorem dX8_keeps_30 : decode cX8_keeps 30 = .ok (.ifCond .eq 119, 3) := by decide +kernel
theorem dX8_keeps_33 : decode cX8_keeps 33 = .ok (.iconst 0, 1) := by decide +kernel
theorem dX8_keeps_34 : decode cX8_keeps 34 = .ok (.istore 5, 2) := by decide +kernel
theorem dX8_keeps_36 : decode cX8_keeps 36 = .ok (.iload 5, 2) := by decide +kernel
theorem dX8_keeps_38 : decode cX8_keeps 38 = .ok (.iload 4, 2) := by decide +kernel
theorem dX8_keeps_40 : decode cX8_keeps 40 = .ok (.if_icmp .ge 103, 3) := by decide +kernel
theorem dX8_keeps_43 : decode cX8_keeps 43 = .ok (.aload_n 0, 1) := by decide +kernel
theorem dX8_keeps_44 : decode cX8_keeps 44 = .ok (.getfield 220, 3) := by decide +kernel
theorem dX8_keeps_47 : decode cX8_keeps 47 = .ok (.iload 4, 2) := by decide +kernel
theorem dX8_keeps_49 : decode cX8_keeps 49 = .ok (.invokestatic 58, 3) := by decide +kernel
theorem dX8_keeps_52 : decode cX8_keeps 52 = .ok (.ifCond .eq 85, 3) := by decide +kernel
theorem dX8_keeps_55 : decode cX8_keeps 55 = .ok (.aload_n 0, 1) := by decide +kernel
theorem dX8_keeps_56 : decode cX8_keeps 56 = .ok (.getfield 220, 3) := by decide +kernel
theorem dX8_keeps_59 : decode cX8_keeps 59 = .ok (.iload 5, 2) := by decide +kernel
theorem dX8_keeps_61 : decode cX8_keeps 61 = .ok (.invokestatic 58, 3) := by decide +kernel
theorem dX8_keeps_64 : decode cX8_keeps 64 = .ok (.ifCond .eq 73, 3) := by decide +kernel
theorem dX8_keeps_67 : decode cX8_keeps 67 = .ok (.aload_n 0, 1) := by decide +kernel
theorem dX8_keeps_68 : decode cX8_keeps 68 = .ok (.iconst 2, 1) := by decide +kernel
theorem dX8_keeps_69 : decode cX8_keeps 69 = .ok (.iload 4, 2) := by decide +kernel
theorem dX8_keeps_71 : decode cX8_keeps 71 = .ok (.iload 5, 2) := by decide +kernel
theorem dX8_keeps_73 : decode cX8_keeps 73 = .ok (.iconst 0, 1) := by decide +kernel
theorem dX8_keeps_74 : decode cX8_keeps 74 = .ok (.invokevirtual 117, 3) := by decide +kernel
theorem dX8_keeps_77 : decode cX8_keeps 77 = .ok (.lstore 6, 2) := by decide +kernel
theorem dX8_keeps_79 : decode cX8_keeps 79 = .ok (.iload_n 1, 1) := by decide +kernel
theorem dX8_keeps_80 : decode cX8_keeps 80 = .ok (.ifCond .eq 55, 3) := by decide +kernel
theorem dX8_keeps_83 : decode cX8_keeps 83 = .ok (.aload_n 0, 1) := by decide +kernel
theorem dX8_keeps_84 : decode cX8_keeps 84 = .ok (.getfield 31, 3) := by decide +kernel
theorem dX8_keeps_87 : decode cX8_keeps 87 = .ok (.bipush 7, 2) := by decide +kernel
theorem dX8_keeps_89 : decode cX8_keeps 89 = .ok (.iload 4, 2) := by decide +kernel
theorem dX8_keeps_91 : decode cX8_keeps 91 = .ok (.imul, 1) := by decide +kernel
theorem dX8_keeps_92 : decode cX8_keeps 92 = .ok (.iload 5, 2) := by decide +kernel
theorem dX8_keeps_94 : decode cX8_keeps 94 = .ok (.iadd, 1) := by decide +kernel
theorem dX8_keeps_95 : decode cX8_keeps 95 = .ok (.laload, 1) := by decide +kernel
theorem dX8_keeps_96 : decode cX8_keeps 96 = .ok (.lload 6, 2) := by decide +kernel
theorem dX8_keeps_98 : decode cX8_keeps 98 = .ok (.lload_n 2, 1) := by decide +kernel
theorem dX8_keeps_99 : decode cX8_keeps 99 = .ok (.iconst 0, 1) := by decide +kernel
theorem dX8_keeps_100 : decode cX8_keeps 100 = .ok (.invokestatic 132, 3) := by decide +kernel
theorem dX8_keeps_103 : decode cX8_keeps 103 = .ok (.lcmp, 1) := by decide +kernel
theorem dX8_keeps_104 : decode cX8_keeps 104 = .ok (.ifCond .ne 31, 3) := by decide +kernel
theorem dX8_keeps_107 : decode cX8_keeps 107 = .ok (.aload_n 0, 1) := by decide +kernel
theorem dX8_keeps_108 : decode cX8_keeps 108 = .ok (.getfield 35, 3) := by decide +kernel
theorem dX8_keeps_111 : decode cX8_keeps 111 = .ok (.bipush 7, 2) := by decide +kernel
theorem dX8_keeps_113 : decode cX8_keeps 113 = .ok (.iload 4, 2) := by decide +kernel
theorem dX8_keeps_115 : decode cX8_keeps 115 = .ok (.imul, 1) := by decide +kernel
theorem dX8_keeps_116 : decode cX8_keeps 116 = .ok (.iload 5, 2) := by decide +kernel
theorem dX8_keeps_118 : decode cX8_keeps 118 = .ok (.iadd, 1) := by decide +kernel
theorem dX8_keeps_119 : decode cX8_keeps 119 = .ok (.laload, 1) := by decide +kernel
theorem dX8_keeps_120 : decode cX8_keeps 120 = .ok (.lload 6, 2) := by decide +kernel
theorem dX8_keeps_122 : decode cX8_keeps 122 = .ok (.lload_n 2, 1) := by decide +kernel
theorem dX8_keeps_123 : decode cX8_keeps 123 = .ok (.iconst 1, 1) := by decide +kernel
theorem dX8_keeps_124 : decode cX8_keeps 124 = .ok (.invokestatic 132, 3) := by decide +kernel
theorem dX8_keeps_127 : decode cX8_keeps 127 = .ok (.lcmp, 1) := by decide +kernel
theorem dX8_keeps_128 : decode cX8_keeps 128 = .ok (.ifCond .ne 7, 3) := by decide +kernel
theorem dX8_keeps_131 : decode cX8_keeps 131 = .ok (.iconst 1, 1) := by decide +kernel
theorem dX8_keeps_132 : decode cX8_keeps 132 = .ok (.goto 4, 3) := by decide +kernel
theorem dX8_keeps_135 : decode cX8_keeps 135 = .ok (.iconst 0, 1) := by decide +kernel
theorem dX8_keeps_136 : decode cX8_keeps 136 = .ok (.istore_n 1, 1) := by decide +kernel
theorem dX8_keeps_137 : decode cX8_keeps 137 = .ok (.iinc 5 1, 3) := by decide +kernel
theorem dX8_keeps_140 : decode cX8_keeps 140 = .ok (.goto (-104), 3) := by decide +kernel
theorem dX8_keeps_143 : decode cX8_keeps 143 = .ok (.iinc 4 1, 3) := by decide +kernel
theorem dX8_keeps_146 : decode cX8_keeps 146 = .ok (.goto (-127), 3) := by decide +kernel
theorem dX8_keeps_149 : decode cX8_keeps 149 = .ok (.iload_n 1, 1) := by decide +kernel
theorem dX8_keeps_150 : decode cX8_keeps 150 = .ok (.ireturn, 1) := by decide +kernel
theorem dJ6_bitCount_0f7a4_0 : decode cJ6_bitCount_0f7a4 0 = .ok (.iload_n 0, 1) := by decide +kernel
theorem dJ6_bitCount_0f7a4_1 : decode cJ6_bitCount_0f7a4 1 = .ok (.iload_n 0, 1) := by decide +kernel
theorem dJ6_bitCount_0f7a4_2 : decode cJ6_bitCount_0f7a4 2 = .ok (.iconst 1, 1) := by decide +kernel
theorem dJ6_bitCount_0f7a4_3 : decode cJ6_bitCount_0f7a4 3 = .ok (.iushr, 1) := by decide +kernel
theorem dJ6_bitCount_0f7a4_4 : decode cJ6_bitCount_0f7a4 4 = .ok (.ldc_w 265, 3) := by decide +kernel
theorem dJ6_bitCount_0f7a4_7 : decode cJ6_bitCount_0f7a4 7 = .ok (.iand, 1) := by decide +kernel
theorem dJ6_bitCount_0f7a4_8 : decode cJ6_bitCount_0f7a4 8 = .ok (.isub, 1) := by decide +kernel
theorem dJ6_bitCount_0f7a4_9 : decode cJ6_bitCount_0f7a4 9 = .ok (.istore_n 0, 1) := by decide +kernel
theorem dJ6_bitCount_0f7a4_10 : decode cJ6_bitCount_0f7a4 10 = .ok (.iload_n 0, 1) := by decide +kernel
theorem dJ6_bitCount_0f7a4_11 : decode cJ6_bitCount_0f7a4 11 = .ok (.ldc_w 266, 3) := by decide +kernel
theorem dJ6_bitCount_0f7a4_14 : decode cJ6_bitCount_0f7a4 14 = .ok (.iand, 1) := by decide +kernel
theorem dJ6_bitCount_0f7a4_15 : decode cJ6_bitCount_0f7a4 15 = .ok (.iload_n 0, 1) := by decide +kernel
theorem dJ6_bitCount_0f7a4_16 : decode cJ6_bitCount_0f7a4 16 = .ok (.iconst 2, 1) := by decide +kernel
theorem dJ6_bitCount_0f7a4_17 : decode cJ6_bitCount_0f7a4 17 = .ok (.iushr, 1) := by decide +kernel
theorem dJ6_bitCount_0f7a4_18 : decode cJ6_bitCount_0f7a4 18 = .ok (.ldc_w 266, 3) := by decide +kernel
theorem dJ6_bitCount_0f7a4_21 : decode cJ6_bitCount_0f7a4 21 = .ok (.iand, 1) := by decide +kernel
theorem dJ6_bitCount_0f7a4_22 : decode cJ6_bitCount_0f7a4 22 = .ok (.iadd, 1) := by decide +kernel
theorem dJ6_bitCount_0f7a4_23 : decode cJ6_bitCount_0f7a4 23 = .ok (.istore_n 0, 1) := by decide +kernel
theorem dJ6_bitCount_0f7a4_24 : decode cJ6_bitCount_0f7a4 24 = .ok (.iload_n 0, 1) := by decide +kernel
theorem dJ6_bitCount_0f7a4_25 : decode cJ6_bitCount_0f7a4 25 = .ok (.iload_n 0, 1) := by decide +kernel
theorem dJ6_bitCount_0f7a4_26 : decode cJ6_bitCount_0f7a4 26 = .ok (.iconst 4, 1) := by decide +kernel
theorem dJ6_bitCount_0f7a4_27 : decode cJ6_bitCount_0f7a4 27 = .ok (.iushr, 1) := by decide +kernel
theorem dJ6_bitCount_0f7a4_28 : decode cJ6_bitCount_0f7a4 28 = .ok (.iadd, 1) := by decide +kernel
theorem dJ6_bitCount_0f7a4_29 : decode cJ6_bitCount_0f7a4 29 = .ok (.ldc_w 267, 3) := by decide +kernel
theorem dJ6_bitCount_0f7a4_32 : decode cJ6_bitCount_0f7a4 32 = .ok (.iand, 1) := by decide +kernel
theorem dJ6_bitCount_0f7a4_33 : decode cJ6_bitCount_0f7a4 33 = .ok (.istore_n 0, 1) := by decide +kernel
theorem dJ6_bitCount_0f7a4_34 : decode cJ6_bitCount_0f7a4 34 = .ok (.iload_n 0, 1) := by decide +kernel
theorem dJ6_bitCount_0f7a4_35 : decode cJ6_bitCount_0f7a4 35 = .ok (.iload_n 0, 1) := by decide +kernel
theorem dJ6_bitCount_0f7a4_36 : decode cJ6_bitCount_0f7a4 36 = .ok (.bipush 8, 2) := by decide +kernel
theorem dJ6_bitCount_0f7a4_38 : decode cJ6_bitCount_0f7a4 38 = .ok (.iushr, 1) := by decide +kernel
theorem dJ6_bitCount_0f7a4_39 : decode cJ6_bitCount_0f7a4 39 = .ok (.iadd, 1) := by decide +kernel
theorem dJ6_bitCount_0f7a4_40 : decode cJ6_bitCount_0f7a4 40 = .ok (.istore_n 0, 1) := by decide +kernel
theorem dJ6_bitCount_0f7a4_41 : decode cJ6_bitCount_0f7a4 41 = .ok (.iload_n 0, 1) := by decide +kernel
theorem dJ6_bitCount_0f7a4_42 : decode cJ6_bitCount_0f7a4 42 = .ok (.iload_n 0, 1) := by decide +kernel
theorem dJ6_bitCount_0f7a4_43 : decode cJ6_bitCount_0f7a4 43 = .ok (.bipush 16, 2) := by decide +kernel
theorem dJ6_bitCount_0f7a4_45 : decode cJ6_bitCount_0f7a4 45 = .ok (.iushr, 1) := by decide +kernel
theorem dJ6_bitCount_0f7a4_46 : decode cJ6_bitCount_0f7a4 46 = .ok (.iadd, 1) := by decide +kernel
theorem dJ6_bitCount_0f7a4_47 : decode cJ6_bitCount_0f7a4 47 = .ok (.istore_n 0, 1) := by decide +kernel
theorem dJ6_bitCount_0f7a4_48 : decode cJ6_bitCount_0f7a4 48 = .ok (.iload_n 0, 1) := by decide +kernel
theorem dJ6_bitCount_0f7a4_49 : decode cJ6_bitCount_0f7a4 49 = .ok (.bipush 63, 2) := by decide +kernel
theorem dJ6_bitCount_0f7a4_51 : decode cJ6_bitCount_0f7a4 51 = .ok (.iand, 1) := by decide +kernel
theorem dJ6_bitCount_0f7a4_52 : decode cJ6_bitCount_0f7a4 52 = .ok (.ireturn, 1) := by decide +kernel
theorem dJ9_abs_067f4_0 : decode cJ9_abs_067f4 0 = .ok (.lload_n 0, 1) := by decide +kernel
theorem dJ9_abs_067f4_1 : decode cJ9_abs_067f4 1 = .ok (.lconst 0, 1) := by decide +kernel
theorem dJ9_abs_067f4_2 : decode cJ9_abs_067f4 2 = .ok (.lcmp, 1) := by decide +kernel
theorem dJ9_abs_067f4_3 : decode cJ9_abs_067f4 3 = .ok (.ifCond .ge 8, 3) := by decide +kernel
theorem dJ9_abs_067f4_6 : decode cJ9_abs_067f4 6 = .ok (.lload_n 0, 1) := by decide +kernel
theorem dJ9_abs_067f4_7 : decode cJ9_abs_067f4 7 = .ok (.lneg, 1) := by decide +kernel
theorem dJ9_abs_067f4_8 : decode cJ9_abs_067f4 8 = .ok (.goto 4, 3) := by decide +kernel
theorem dJ9_abs_067f4_11 : decode cJ9_abs_067f4 11 = .ok (.lload_n 0, 1) := by decide +kernel
theorem dJ9_abs_067f4_12 : decode cJ9_abs_067f4 12 = .ok (.lreturn, 1) := by decide +kernel
set_option maxRecDepth 20000 in
theorem ggL_node_X7_node : GoodIn wsL_node wsX7_node := goodIn_ca (goodIn_r _ [6, 7, 8, 9, 10, 11, 12, 13, 14, 15, 16, 17, 18, 19, 20, 21, 22, 23, 24, 25, 26, 27, 28, 29, 30, 5, 31, 32, 33, 34, 35, 36, 37, 38, 39, 40, 41, 42, 43, 44, 45, 46, 47, 48, 49, 50, 51, 52, 53, 54, 55, 56] (by decide +kernel) (by decide +kernel)) (goodIn_sub (fun _ h => List.mem_cons_of_mem _ (List.mem_append_right _ h)) (by decide +kernel))
set_option maxRecDepth 20000 in
theorem gL_node_X7_node : GoodIn wsL_node (wsV RL 7 RX7 yX7_node wsX7_node) := goodIn_app (goodIn_of _ (by decide +kernel)) ggL_node_X7_node
theorem dL_node_0 : decode cL_node 0 = .ok (.aload_n 2, 1) := by decide +kernel
theorem dL_node_1 : decode cL_node 1 = .ok (.iconst 0, 1) := by decide +kernel
theorem dL_node_2 : decode cL_node 2 = .ok (.aload_n 0, 1) := by decide +kernel
theorem dL_node_3 : decode cL_node 3 = .ok (.iload_n 1, 1) := by decide +kernel
theorem dL_node_4 : decode cL_node 4 = .ok (.invokevirtual 7, 3) := by decide +kernel
theorem dL_node_7 : decode cL_node 7 = .ok (.i2l, 1) := by decide +kernel
theorem dL_node_8 : decode cL_node 8 = .ok (.lastore, 1) := by decide +kernel
theorem dL_node_9 : decode cL_node 9 = .ok (.goto 6, 3) := by decide +kernel
theorem dL_node_12 : decode cL_node 12 = .ok (.astore_n 3, 1) := by decide +kernel
theorem dL_node_13 : decode cL_node 13 = .ok (.iconst 1, 1) := by decide +kernel
theorem dL_node_14 : decode cL_node 14 = .ok (.ireturn, 1) := by decide +kernel
theorem dL_node_15 : decode cL_node 15 = .ok (.iconst 0, 1) := by decide +kernel
theorem dL_node_16 : decode cL_node 16 = .ok (.ireturn, 1) := by decide +kernel
set_option maxRecDepth 20000 in
theorem ggL_wire_X7_wire : GoodIn wsL_wire wsX7_wire := goodIn_ca (goodIn_ca (goodIn_ca (goodIn_r _ [8, 9, 10, 11, 12, 13, 14, 15, 16, 17, 18, 7, 19, 20, 21, 22, 23, 24, 25, 26, 27, 28, 29, 30, 31, 32, 33, 34, 35, 36, 37, 38, 39, 40, 41, 42, 43, 44, 45, 46, 47, 48, 49, 50, 51, 52, 53, 54, 55, 56, 57, 58, 59, 60, 61, 62, 63, 64, 65, 66, 67, 68, 69, 70, 71, 72, 73, 74, 75, 76, 77, 78, 79, 80, 81, 82, 83, 84, 85, 86] (by decide +kernel) (by decide +kernel)) (goodIn_sub (fun _ h => List.mem_cons_of_mem _ (List.mem_append_left _ (List.mem_append_left _ (List.mem_append_right _ h)))) (by decide +kernel))) (goodIn_sub (fun _ h => List.mem_cons_of_mem _ (List.mem_append_left _ (List.mem_append_right _ h))) (by decide +kernel))) (goodIn_sub (fun _ h => List.mem_cons_of_mem _ (List.mem_append_right _ h)) (by decide +kernel))
set_option maxRecDepth 20000 in
theorem gL_wire_X7_wire : GoodIn wsL_wire (wsV RL 15 RX7 yX7_wire wsX7_wire) := goodIn_app (goodIn_of _ (by decide +kernel)) ggL_wire_X7_wire
theorem dL_wire_0 : decode cL_wire 0 = .ok (.aload 4, 2) := by decide +kernel
theorem dL_wire_2 : decode cL_wire 2 = .ok (.iconst 0, 1) := by decide +kernel
theorem dL_wire_3 : decode cL_wire 3 = .ok (.aload_n 0, 1) := by decide +kernel
theorem dL_wire_4 : decode cL_wire 4 = .ok (.iload_n 1, 1) := by decide +kernel
theorem dL_wire_5 : decode cL_wire 5 = .ok (.iload_n 2, 1) := by decide +kernel
theorem dL_wire_6 : decode cL_wire 6 = .ok (.iload_n 3, 1) := by decide +kernel
theorem dL_wire_7 : decode cL_wire 7 = .ok (.invokevirtual 15, 3) := by decide +kernel
theorem dL_wire_10 : decode cL_wire 10 = .ok (.i2l, 1) := by decide +kernel
theorem dL_wire_11 : decode cL_wire 11 = .ok (.lastore, 1) := by decide +kernel
theorem dL_wire_12 : decode cL_wire 12 = .ok (.goto 15, 3) := by decide +kernel
theorem dL_wire_15 : decode cL_wire 15 = .ok (.astore 5, 2) := by decide +kernel
theorem dL_wire_17 : decode cL_wire 17 = .ok (.iconst 1, 1) := by decide +kernel
theorem dL_wire_18 : decode cL_wire 18 = .ok (.ireturn, 1) := by decide +kernel
theorem dL_wire_19 : decode cL_wire 19 = .ok (.astore 5, 2) := by decide +kernel
theorem dL_wire_21 : decode cL_wire 21 = .ok (.iconst 2, 1) := by decide +kernel
theorem dL_wire_22 : decode cL_wire 22 = .ok (.ireturn, 1) := by decide +kernel
theorem dL_wire_23 : decode cL_wire 23 = .ok (.astore 5, 2) := by decide +kernel
theorem dL_wire_25 : decode cL_wire 25 = .ok (.iconst 3, 1) := by decide +kernel
theorem dL_wire_26 : decode cL_wire 26 = .ok (.ireturn, 1) := by decide +kernel
theorem dL_wire_27 : decode cL_wire 27 = .ok (.iconst 0, 1) := by decide +kernel
theorem dL_wire_28 : decode cL_wire 28 = .ok (.ireturn, 1) := by decide +kernel
set_option maxRecDepth 20000 in
theorem ggL_wireIs_X7_wireIs : GoodIn wsL_wireIs wsX7_wireIs := goodIn_ca (goodIn_ca (goodIn_r _ [7, 8, 9, 10, 11, 12, 13, 6, 14, 15, 16, 17, 18, 19, 20, 21, 22, 23, 24, 25, 26, 27, 28, 29, 30, 31, 32, 33, 34, 35, 36, 37, 38, 39, 40, 41, 42, 43, 44, 45, 46, 47, 48, 49, 50, 51, 52, 53, 54] (by decide +kernel) (by decide +kernel)) (goodIn_sub (fun _ h => List.mem_cons_of_mem _ (List.mem_append_left _ (List.mem_append_right _ h))) (by decide +kernel))) (goodIn_sub (fun _ h => List.mem_cons_of_mem _ (List.mem_append_right _ h)) (by decide +kernel))
set_option maxRecDepth 20000 in
theorem gL_wireIs_X7_wireIs : GoodIn wsL_wireIs (wsV RL 23 RX7 yX7_wireIs wsX7_wireIs) := goodIn_app (goodIn_of _ (by decide +kernel)) ggL_wireIs_X7_wireIs
theorem dL_wireIs_0 : decode cL_wireIs 0 = .ok (.aload_n 3, 1) := by decide +kernel
theorem dL_wireIs_1 : decode cL_wireIs 1 = .ok (.iconst 0, 1) := by decide +kernel
theorem dL_wireIs_2 : decode cL_wireIs 2 = .ok (.aload_n 0, 1) := by decide +kernel
theorem dL_wireIs_3 : decode cL_wireIs 3 = .ok (.iload_n 1, 1) := by decide +kernel
theorem dL_wireIs_4 : decode cL_wireIs 4 = .ok (.iload_n 2, 1) := by decide +kernel
theorem dL_wireIs_5 : decode cL_wireIs 5 = .ok (.invokevirtual 23, 3) := by decide +kernel
theorem dL_wireIs_8 : decode cL_wireIs 8 = .ok (.i2l, 1) := by decide +kernel
theorem dL_wireIs_9 : decode cL_wireIs 9 = .ok (.lastore, 1) := by decide +kernel
theorem dL_wireIs_10 : decode cL_wireIs 10 = .ok (.goto 11, 3) := by decide +kernel
theorem dL_wireIs_13 : decode cL_wireIs 13 = .ok (.astore 4, 2) := by decide +kernel
theorem dL_wireIs_15 : decode cL_wireIs 15 = .ok (.iconst 1, 1) := by decide +kernel
theorem dL_wireIs_16 : decode cL_wireIs 16 = .ok (.ireturn, 1) := by decide +kernel
theorem dL_wireIs_17 : decode cL_wireIs 17 = .ok (.astore 4, 2) := by decide +kernel
theorem dL_wireIs_19 : decode cL_wireIs 19 = .ok (.iconst 2, 1) := by decide +kernel
theorem dL_wireIs_20 : decode cL_wireIs 20 = .ok (.ireturn, 1) := by decide +kernel
theorem dL_wireIs_21 : decode cL_wireIs 21 = .ok (.iconst 0, 1) := by decide +kernel
theorem dL_wireIs_22 : decode cL_wireIs 22 = .ok (.ireturn, 1) := by decide +kernel
set_option maxRecDepth 20000 in
theorem ggL_tree_X7_tree : GoodIn wsL_tree wsX7_tree := goodIn_ca (goodIn_r _ [6, 7, 8, 9, 10, 11, 12, 13, 14, 15, 16, 17, 18, 19, 20, 21, 22, 23, 24, 25, 26, 27, 28, 5, 29, 30, 31, 32, 33, 34, 35, 36, 37, 38, 39, 40, 41, 42, 43, 44, 45, 46, 47, 48, 49, 50, 51, 52, 53, 54, 55, 56, 57, 58, 59, 60, 61, 62, 63, 64, 65, 66, 67, 68, 69, 70, 71, 72, 73, 74, 75, 76, 77, 78, 79, 80, 81, 82, 83, 84, 85, 86, 87, 88, 89, 90, 91, 92, 93, 94, 95, 96, 97, 98, 99, 100, 101, 102, 103, 104, 105, 106, 107] (by decide +kernel) (by decide +kernel)) (goodIn_sub (fun _ h => List.mem_cons_of_mem _ (List.mem_append_right _ h)) (by decide +kernel))
set_option maxRecDepth 20000 in
theorem gL_tree_X7_tree : GoodIn wsL_tree (wsV RL 27 RX7 yX7_tree wsX7_tree) := goodIn_app (goodIn_of _ (by decide +kernel)) ggL_tree_X7_tree
theorem dL_tree_0 : decode cL_tree 0 = .ok (.aload_n 2, 1) := by decide +kernel
theorem dL_tree_1 : decode cL_tree 1 = .ok (.iconst 0, 1) := by decide +kernel
theorem dL_tree_2 : decode cL_tree 2 = .ok (.aload_n 0, 1) := by decide +kernel
theorem dL_tree_3 : decode cL_tree 3 = .ok (.iload_n 1, 1) := by decide +kernel
theorem dL_tree_4 : decode cL_tree 4 = .ok (.invokevirtual 27, 3) := by decide +kernel
theorem dL_tree_7 : decode cL_tree 7 = .ok (.i2l, 1) := by decide +kernel
theorem dL_tree_8 : decode cL_tree 8 = .ok (.lastore, 1) := by decide +kernel
theorem dL_tree_9 : decode cL_tree 9 = .ok (.goto 6, 3) := by decide +kernel
theorem dL_tree_12 : decode cL_tree 12 = .ok (.astore_n 3, 1) := by decide +kernel
theorem dL_tree_13 : decode cL_tree 13 = .ok (.iconst 1, 1) := by decide +kernel
theorem dL_tree_14 : decode cL_tree 14 = .ok (.ireturn, 1) := by decide +kernel
theorem dL_tree_15 : decode cL_tree 15 = .ok (.iconst 0, 1) := by decide +kernel
theorem dL_tree_16 : decode cL_tree 16 = .ok (.ireturn, 1) := by decide +kernel
set_option maxRecDepth 20000 in
theorem ggL_answer_X7_answer : GoodIn wsL_answer wsX7_answer := goodIn_ca (goodIn_ca (goodIn_r _ [7, 8, 9, 10, 11, 12, 6, 13, 14, 15, 16, 17, 18, 19, 20, 21, 22, 23, 24, 25, 26, 27, 28, 29, 30, 31, 32, 33, 34, 35, 36, 37, 38, 39, 40, 41, 42, 43, 44, 45, 46, 47, 48, 49, 50, 51, 52, 53, 54, 55, 56, 57, 58, 59, 60, 61, 62, 63, 64, 65, 66, 67, 68, 69, 70, 71, 72, 73, 74, 75, 76, 77, 78, 79, 80, 81, 82, 83, 84, 85, 86, 87, 88, 89, 90, 91, 92, 93, 94, 95, 96, 97, 98, 99, 100, 101, 102, 103, 104, 105, 106, 107, 108, 109, 110, 111, 112, 113, 114, 115, 116, 117, 118, 119, 120, 121, 122, 123, 124, 125, 126, 127, 128, 129, 130, 131, 132, 133, 134, 135, 136, 137, 138, 139, 140, 141, 142, 143, 144, 145, 146, 147, 148, 149, 150, 151] (by decide +kernel) (by decide +kernel)) (goodIn_sub (fun _ h => List.mem_cons_of_mem _ (List.mem_append_left _ (List.mem_append_right _ h))) (by decide +kernel))) (goodIn_sub (fun _ h => List.mem_cons_of_mem _ (List.mem_append_right _ h)) (by decide +kernel))
set_option maxRecDepth 20000 in
theorem gL_answer_X7_answer : GoodIn wsL_answer (wsV RL 31 RX7 yX7_answer wsX7_answer) := goodIn_app (goodIn_of _ (by decide +kernel)) ggL_answer_X7_answer
theorem dL_answer_0 : decode cL_answer 0 = .ok (.aload 4, 2) := by decide +kernel
theorem dL_answer_2 : decode cL_answer 2 = .ok (.iconst 0, 1) := by decide +kernel
theorem dL_answer_3 : decode cL_answer 3 = .ok (.aload_n 0, 1) := by decide +kernel
theorem dL_answer_4 : decode cL_answer 4 = .ok (.iload_n 1, 1) := by decide +kernel
theorem dL_answer_5 : decode cL_answer 5 = .ok (.iload_n 2, 1) := by decide +kernel
theorem dL_answer_6 : decode cL_answer 6 = .ok (.iload_n 3, 1) := by decide +kernel
theorem dL_answer_7 : decode cL_answer 7 = .ok (.invokevirtual 31, 3) := by decide +kernel
theorem dL_answer_10 : decode cL_answer 10 = .ok (.lastore, 1) := by decide +kernel
theorem dL_answer_11 : decode cL_answer 11 = .ok (.goto 11, 3) := by decide +kernel
theorem dL_answer_14 : decode cL_answer 14 = .ok (.astore 5, 2) := by decide +kernel
theorem dL_answer_16 : decode cL_answer 16 = .ok (.iconst 1, 1) := by decide +kernel
theorem dL_answer_17 : decode cL_answer 17 = .ok (.ireturn, 1) := by decide +kernel
theorem dL_answer_18 : decode cL_answer 18 = .ok (.astore 5, 2) := by decide +kernel
theorem dL_answer_20 : decode cL_answer 20 = .ok (.iconst 2, 1) := by decide +kernel
theorem dL_answer_21 : decode cL_answer 21 = .ok (.ireturn, 1) := by decide +kernel
theorem dL_answer_22 : decode cL_answer 22 = .ok (.iconst 0, 1) := by decide +kernel
theorem dL_answer_23 : decode cL_answer 23 = .ok (.ireturn, 1) := by decide +kernel
set_option maxRecDepth 20000 in
theorem ggL_value_X7_value : GoodIn wsL_value wsX7_value := goodIn_ca (goodIn_ca (goodIn_r _ [7, 8, 9, 10, 11, 12, 6, 13, 14, 15, 16, 17, 18, 19, 20, 21, 22, 23, 24, 25, 26, 27, 28, 29, 30, 31, 32, 33, 34, 35, 36, 37, 38, 39, 40, 41, 42, 43, 44, 45, 46, 47, 48, 49] (by decide +kernel) (by decide +kernel)) (goodIn_sub (fun _ h => List.mem_cons_of_mem _ (List.mem_append_left _ (List.mem_append_right _ h))) (by decide +kernel))) (goodIn_sub (fun _ h => List.mem_cons_of_mem _ (List.mem_append_right _ h)) (by decide +kernel))
set_option maxRecDepth 20000 in
theorem gL_value_X7_value : GoodIn wsL_value (wsV RL 35 RX7 yX7_value wsX7_value) := goodIn_app (goodIn_of _ (by decide +kernel)) ggL_value_X7_value
theorem dL_value_0 : decode cL_value 0 = .ok (.aload_n 0, 1) := by decide +kernel
theorem dL_value_1 : decode cL_value 1 = .ok (.iload_n 1, 1) := by decide +kernel
theorem dL_value_2 : decode cL_value 2 = .ok (.iload_n 2, 1) := by decide +kernel
theorem dL_value_3 : decode cL_value 3 = .ok (.invokevirtual 35, 3) := by decide +kernel
theorem dL_value_6 : decode cL_value 6 = .ok (.goto 9, 3) := by decide +kernel
theorem dL_value_9 : decode cL_value 9 = .ok (.astore_n 3, 1) := by decide +kernel
theorem dL_value_10 : decode cL_value 10 = .ok (.iconst 1, 1) := by decide +kernel
theorem dL_value_11 : decode cL_value 11 = .ok (.ireturn, 1) := by decide +kernel
theorem dL_value_12 : decode cL_value 12 = .ok (.astore_n 3, 1) := by decide +kernel
theorem dL_value_13 : decode cL_value 13 = .ok (.iconst 2, 1) := by decide +kernel
theorem dL_value_14 : decode cL_value 14 = .ok (.ireturn, 1) := by decide +kernel
theorem dL_value_15 : decode cL_value 15 = .ok (.iconst 0, 1) := by decide +kernel
theorem dL_value_16 : decode cL_value 16 = .ok (.ireturn, 1) := by decide +kernel
set_option maxRecDepth 20000 in
theorem ggL_potential_X7_potential : GoodIn wsL_potential wsX7_potential := goodIn_ca (goodIn_r _ [6, 7, 8, 9, 10, 5, 11, 12, 13, 14, 15, 16, 17, 18, 19, 20, 21, 22, 23, 24, 25, 26, 27, 28, 29, 30, 31, 32, 33, 34, 35, 36, 37, 38, 39, 40, 41, 42, 43, 44, 45, 46, 47, 48, 49, 50, 51, 52, 53, 54, 55, 56, 57, 58, 59, 60, 61, 62, 63, 64, 65, 66, 67, 68, 69, 70, 71, 72, 73, 74, 75, 76, 77, 78, 79, 80, 81, 82, 83, 84, 85, 86, 87, 88, 89, 90, 91, 92, 93, 94, 95, 96, 97, 98, 99, 100, 101, 102, 103, 104, 105, 106, 107, 108, 109, 110, 111, 112, 113, 114, 115, 116, 117, 118, 119, 120, 121, 122, 123, 124, 125, 126, 127, 128, 129, 130, 131, 132, 133, 134, 135, 136, 137, 138, 139, 140, 141, 142, 143, 144, 145, 146, 147, 148, 149, 150, 151, 152, 153] (by decide +kernel) (by decide +kernel)) (goodIn_sub (fun _ h => List.mem_cons_of_mem _ (List.mem_append_right _ h)) (by decide +kernel))
set_option maxRecDepth 20000 in
theorem gL_potential_X7_potential : GoodIn wsL_potential (wsV RL 39 RX7 yX7_potential wsX7_potential) := goodIn_app (goodIn_of _ (by decide +kernel)) ggL_potential_X7_potential
theorem dL_potential_0 : decode cL_potential 0 = .ok (.aload_n 3, 1) := by decide +kernel
theorem dL_potential_1 : decode cL_potential 1 = .ok (.iconst 0, 1) := by decide +kernel
theorem dL_potential_2 : decode cL_potential 2 = .ok (.aload_n 0, 1) := by decide +kernel
theorem dL_potential_3 : decode cL_potential 3 = .ok (.iload_n 1, 1) := by decide +kernel
theorem dL_potential_4 : decode cL_potential 4 = .ok (.iload_n 2, 1) := by decide +kernel
theorem dL_potential_5 : decode cL_potential 5 = .ok (.invokevirtual 39, 3) := by decide +kernel
theorem dL_potential_8 : decode cL_potential 8 = .ok (.lastore, 1) := by decide +kernel
theorem dL_potential_9 : decode cL_potential 9 = .ok (.goto 7, 3) := by decide +kernel
theorem dL_potential_12 : decode cL_potential 12 = .ok (.astore 4, 2) := by decide +kernel
theorem dL_potential_14 : decode cL_potential 14 = .ok (.iconst 1, 1) := by decide +kernel
theorem dL_potential_15 : decode cL_potential 15 = .ok (.ireturn, 1) := by decide +kernel
theorem dL_potential_16 : decode cL_potential 16 = .ok (.iconst 0, 1) := by decide +kernel
theorem dL_potential_17 : decode cL_potential 17 = .ok (.ireturn, 1) := by decide +kernel
set_option maxRecDepth 20000 in
theorem ggL_current_X7_current : GoodIn wsL_current wsX7_current := goodIn_ca (goodIn_r _ [6, 7, 8, 9, 5, 10, 11, 12, 13, 14, 15, 16, 17, 18, 19, 20, 21, 22, 23, 24, 25, 26, 27, 28, 29, 30, 31, 32, 33, 34, 35, 36, 37, 38, 39, 40, 41, 42, 43, 44, 45, 46, 47, 48, 49, 50, 51, 52, 53, 54, 55, 56, 57, 58, 59, 60, 61, 62, 63, 64, 65, 66, 67, 68, 69, 70, 71, 72, 73, 74, 75, 76, 77, 78, 79, 80, 81, 82, 83, 84, 85, 86, 87, 88, 89, 90, 91, 92, 93, 94, 95, 96, 97, 98, 99, 100, 101, 102, 103, 104, 105, 106, 107, 108, 109, 110, 111, 112, 113, 114, 115, 116, 117, 118, 119, 120, 121, 122, 123, 124, 125, 126, 127, 128, 129, 130, 131, 132, 133, 134, 135, 136, 137, 138, 139, 140, 141, 142, 143, 144, 145, 146, 147, 148, 149, 150, 151, 152, 153, 154, 155, 156, 157] (by decide +kernel) (by decide +kernel)) (goodIn_sub (fun _ h => List.mem_cons_of_mem _ (List.mem_append_right _ h)) (by decide +kernel))
set_option maxRecDepth 20000 in
theorem gL_current_X7_current : GoodIn wsL_current (wsV RL 43 RX7 yX7_current wsX7_current) := goodIn_app (goodIn_of _ (by decide +kernel)) ggL_current_X7_current
theorem dL_current_0 : decode cL_current 0 = .ok (.aload_n 3, 1) := by decide +kernel
theorem dL_current_1 : decode cL_current 1 = .ok (.iconst 0, 1) := by decide +kernel
theorem dL_current_2 : decode cL_current 2 = .ok (.aload_n 0, 1) := by decide +kernel
theorem dL_current_3 : decode cL_current 3 = .ok (.iload_n 1, 1) := by decide +kernel
theorem dL_current_4 : decode cL_current 4 = .ok (.iload_n 2, 1) := by decide +kernel
theorem dL_current_5 : decode cL_current 5 = .ok (.invokevirtual 43, 3) := by decide +kernel
theorem dL_current_8 : decode cL_current 8 = .ok (.lastore, 1) := by decide +kernel
theorem dL_current_9 : decode cL_current 9 = .ok (.goto 7, 3) := by decide +kernel
theorem dL_current_12 : decode cL_current 12 = .ok (.astore 4, 2) := by decide +kernel
theorem dL_current_14 : decode cL_current 14 = .ok (.iconst 1, 1) := by decide +kernel
theorem dL_current_15 : decode cL_current 15 = .ok (.ireturn, 1) := by decide +kernel
theorem dL_current_16 : decode cL_current 16 = .ok (.iconst 0, 1) := by decide +kernel
theorem dL_current_17 : decode cL_current 17 = .ok (.ireturn, 1) := by decide +kernel
set_option maxRecDepth 20000 in
theorem ggL_distance_X7_distance : GoodIn wsL_distance wsX7_distance := goodIn_ca (goodIn_r _ [6, 7, 8, 9, 10, 5, 11, 12, 13, 14, 15, 16, 17, 18, 19, 20, 21, 22, 23, 24, 25, 26, 27, 28, 29, 30, 31, 32, 33, 34, 35, 36, 37, 38, 39, 40, 41, 42, 43, 44, 45, 46, 47, 48, 49, 50, 51, 52, 53, 54, 55, 56, 57, 58, 59, 60, 61, 62, 63, 64, 65, 66, 67, 68, 69, 70, 71, 72, 73, 74, 75, 76, 77, 78, 79, 80, 81, 82, 83, 84, 85, 86, 87, 88, 89, 90, 91, 92, 93, 94, 95, 96, 97, 98, 99, 100, 101, 102, 103, 104, 105, 106, 107, 108, 109, 110, 111, 112, 113, 114, 115, 116, 117, 118, 119, 120, 121, 122, 123, 124, 125, 126, 127, 128, 129, 130, 131, 132, 133, 134, 135, 136, 137, 138, 139, 140, 141, 142] (by decide +kernel) (by decide +kernel)) (goodIn_sub (fun _ h => List.mem_cons_of_mem _ (List.mem_append_right _ h)) (by decide +kernel))
set_option maxRecDepth 20000 in
theorem gL_distance_X7_distance : GoodIn wsL_distance (wsV RL 46 RX7 yX7_distance wsX7_distance) := goodIn_app (goodIn_of _ (by decide +kernel)) ggL_distance_X7_distance
theorem dL_distance_0 : decode cL_distance 0 = .ok (.aload 4, 2) := by decide +kernel
theorem dL_distance_2 : decode cL_distance 2 = .ok (.iconst 0, 1) := by decide +kernel
theorem dL_distance_3 : decode cL_distance 3 = .ok (.aload_n 0, 1) := by decide +kernel
theorem dL_distance_4 : decode cL_distance 4 = .ok (.iload_n 1, 1) := by decide +kernel
theorem dL_distance_5 : decode cL_distance 5 = .ok (.iload_n 2, 1) := by decide +kernel
theorem dL_distance_6 : decode cL_distance 6 = .ok (.iload_n 3, 1) := by decide +kernel
theorem dL_distance_7 : decode cL_distance 7 = .ok (.invokevirtual 46, 3) := by decide +kernel
theorem dL_distance_10 : decode cL_distance 10 = .ok (.lastore, 1) := by decide +kernel
theorem dL_distance_11 : decode cL_distance 11 = .ok (.goto 7, 3) := by decide +kernel
theorem dL_distance_14 : decode cL_distance 14 = .ok (.astore 5, 2) := by decide +kernel
theorem dL_distance_16 : decode cL_distance 16 = .ok (.iconst 1, 1) := by decide +kernel
theorem dL_distance_17 : decode cL_distance 17 = .ok (.ireturn, 1) := by decide +kernel
theorem dL_distance_18 : decode cL_distance 18 = .ok (.iconst 0, 1) := by decide +kernel
theorem dL_distance_19 : decode cL_distance 19 = .ok (.ireturn, 1) := by decide +kernel
set_option maxRecDepth 20000 in
theorem ggL_chance_X7_chance : GoodIn wsL_chance wsX7_chance := goodIn_ca (goodIn_ca (goodIn_r _ [7, 8, 9, 10, 11, 12, 13, 6, 14, 15, 16, 17, 18, 19, 20, 21, 22, 23, 24, 25, 26, 27, 28, 29, 30, 31, 32, 33, 34, 35, 36, 37, 38, 39, 40, 41, 42, 43, 44, 45, 46, 47, 48, 49, 50, 51, 52, 53, 54, 55, 56, 57, 58, 59, 60, 61, 62, 63, 64, 65, 66, 67, 68, 69, 70, 71, 72, 73, 74, 75, 76, 77, 78, 79, 80, 81, 82, 83, 84, 85, 86, 87, 88, 89, 90, 91, 92, 93, 94, 95, 96, 97, 98, 99, 100, 101, 102, 103, 104, 105, 106, 107, 108, 109, 110, 111, 112, 113, 114, 115, 116, 117, 118, 119, 120, 121, 122, 123, 124, 125, 126, 127, 128, 129, 130, 131, 132, 133, 134, 135, 136, 137] (by decide +kernel) (by decide +kernel)) (goodIn_sub (fun _ h => List.mem_cons_of_mem _ (List.mem_append_left _ (List.mem_append_right _ h))) (by decide +kernel))) (goodIn_sub (fun _ h => List.mem_cons_of_mem _ (List.mem_append_right _ h)) (by decide +kernel))
set_option maxRecDepth 20000 in
theorem gL_chance_X7_chance : GoodIn wsL_chance (wsV RL 49 RX7 yX7_chance wsX7_chance) := goodIn_app (goodIn_of _ (by decide +kernel)) ggL_chance_X7_chance
theorem dL_chance_0 : decode cL_chance 0 = .ok (.aload 5, 2) := by decide +kernel
theorem dL_chance_2 : decode cL_chance 2 = .ok (.iconst 0, 1) := by decide +kernel
theorem dL_chance_3 : decode cL_chance 3 = .ok (.aload_n 0, 1) := by decide +kernel
theorem dL_chance_4 : decode cL_chance 4 = .ok (.iload_n 1, 1) := by decide +kernel
theorem dL_chance_5 : decode cL_chance 5 = .ok (.iload_n 2, 1) := by decide +kernel
theorem dL_chance_6 : decode cL_chance 6 = .ok (.iload_n 3, 1) := by decide +kernel
theorem dL_chance_7 : decode cL_chance 7 = .ok (.iload 4, 2) := by decide +kernel
theorem dL_chance_9 : decode cL_chance 9 = .ok (.invokevirtual 49, 3) := by decide +kernel
theorem dL_chance_12 : decode cL_chance 12 = .ok (.lastore, 1) := by decide +kernel
theorem dL_chance_13 : decode cL_chance 13 = .ok (.goto 11, 3) := by decide +kernel
theorem dL_chance_16 : decode cL_chance 16 = .ok (.astore 6, 2) := by decide +kernel
theorem dL_chance_18 : decode cL_chance 18 = .ok (.iconst 1, 1) := by decide +kernel
theorem dL_chance_19 : decode cL_chance 19 = .ok (.ireturn, 1) := by decide +kernel
theorem dL_chance_20 : decode cL_chance 20 = .ok (.astore 6, 2) := by decide +kernel
theorem dL_chance_22 : decode cL_chance 22 = .ok (.iconst 2, 1) := by decide +kernel
theorem dL_chance_23 : decode cL_chance 23 = .ok (.ireturn, 1) := by decide +kernel
theorem dL_chance_24 : decode cL_chance 24 = .ok (.iconst 0, 1) := by decide +kernel
theorem dL_chance_25 : decode cL_chance 25 = .ok (.ireturn, 1) := by decide +kernel
set_option maxRecDepth 20000 in
theorem ggL_erased_X7_erased : GoodIn wsL_erased wsX7_erased := goodIn_ca (goodIn_ca (goodIn_r _ [7, 8, 9, 10, 11, 12, 13, 14, 15, 16, 17, 18, 19, 20, 21, 22, 23, 24, 25, 6, 26, 27, 28, 29, 30, 31, 32, 33, 34, 35, 36, 37, 38, 39, 40, 41, 42, 43, 44, 45, 46, 47, 48, 49, 50, 51, 52, 53, 54, 55, 56, 57, 58, 59, 60, 61, 62, 63, 64, 65, 66, 67, 68, 69, 70, 71, 72, 73, 74, 75, 76, 77, 78, 79, 80, 81, 82, 83] (by decide +kernel) (by decide +kernel)) (goodIn_sub (fun _ h => List.mem_cons_of_mem _ (List.mem_append_left _ (List.mem_append_right _ h))) (by decide +kernel))) (goodIn_sub (fun _ h => List.mem_cons_of_mem _ (List.mem_append_right _ h)) (by decide +kernel))
set_option maxRecDepth 20000 in
theorem gL_erased_X7_erased : GoodIn wsL_erased (wsV RL 53 RX7 yX7_erased wsX7_erased) := goodIn_app (goodIn_of _ (by decide +kernel)) ggL_erased_X7_erased
theorem dL_erased_0 : decode cL_erased 0 = .ok (.aload_n 2, 1) := by decide +kernel
theorem dL_erased_1 : decode cL_erased 1 = .ok (.iconst 0, 1) := by decide +kernel
theorem dL_erased_2 : decode cL_erased 2 = .ok (.aload_n 0, 1) := by decide +kernel
theorem dL_erased_3 : decode cL_erased 3 = .ok (.iload_n 1, 1) := by decide +kernel
theorem dL_erased_4 : decode cL_erased 4 = .ok (.invokevirtual 53, 3) := by decide +kernel
theorem dL_erased_7 : decode cL_erased 7 = .ok (.i2l, 1) := by decide +kernel
theorem dL_erased_8 : decode cL_erased 8 = .ok (.lastore, 1) := by decide +kernel
theorem dL_erased_9 : decode cL_erased 9 = .ok (.goto 9, 3) := by decide +kernel
theorem dL_erased_12 : decode cL_erased 12 = .ok (.astore_n 3, 1) := by decide +kernel
theorem dL_erased_13 : decode cL_erased 13 = .ok (.iconst 1, 1) := by decide +kernel
theorem dL_erased_14 : decode cL_erased 14 = .ok (.ireturn, 1) := by decide +kernel
theorem dL_erased_15 : decode cL_erased 15 = .ok (.astore_n 3, 1) := by decide +kernel
theorem dL_erased_16 : decode cL_erased 16 = .ok (.iconst 2, 1) := by decide +kernel
theorem dL_erased_17 : decode cL_erased 17 = .ok (.ireturn, 1) := by decide +kernel
theorem dL_erased_18 : decode cL_erased 18 = .ok (.iconst 0, 1) := by decide +kernel
theorem dL_erased_19 : decode cL_erased 19 = .ok (.ireturn, 1) := by decide +kernel
set_option maxRecDepth 20000 in
theorem ggL_starred_X7_starred : GoodIn wsL_starred wsX7_starred := goodIn_ca (goodIn_r _ [6, 7, 8, 9, 10, 11, 5, 12, 13, 14, 15, 16, 17, 18, 19, 20, 21, 22, 23, 24, 25, 26, 27, 28, 29, 30, 31, 32, 33, 34, 35, 36, 37, 38, 39, 40, 41, 42, 43, 44, 45, 46, 47, 48, 49, 50, 51, 52, 53, 54, 55, 56, 57, 58, 59, 60, 61, 62, 63, 64, 65, 66, 67, 68, 69, 70, 71, 72, 73, 74, 75, 76, 77, 78, 79, 80, 81, 82, 83, 84, 85, 86, 87, 88, 89, 90, 91, 92, 93, 94, 95, 96, 97, 98, 99, 100, 101, 102, 103, 104, 105, 106, 107, 108, 109, 110, 111, 112, 113, 114, 115, 116, 117, 118, 119, 120, 121, 122, 123, 124, 125, 126, 127, 128, 129, 130, 131, 132, 133, 134, 135, 136, 137, 138, 139, 140, 141, 142, 143, 144, 145, 146, 147, 148, 149, 150, 151, 152, 153, 154, 155, 156, 157] (by decide +kernel) (by decide +kernel)) (goodIn_sub (fun _ h => List.mem_cons_of_mem _ (List.mem_append_right _ h)) (by decide +kernel))
set_option maxRecDepth 20000 in
theorem gL_starred_X7_starred : GoodIn wsL_starred (wsV RL 56 RX7 yX7_starred wsX7_starred) := goodIn_app (goodIn_of _ (by decide +kernel)) ggL_starred_X7_starred
theorem dL_starred_0 : decode cL_starred 0 = .ok (.aload_n 3, 1) := by decide +kernel
theorem dL_starred_1 : decode cL_starred 1 = .ok (.iconst 0, 1) := by decide +kernel
theorem dL_starred_2 : decode cL_starred 2 = .ok (.aload_n 0, 1) := by decide +kernel
theorem dL_starred_3 : decode cL_starred 3 = .ok (.iload_n 1, 1) := by decide +kernel
theorem dL_starred_4 : decode cL_starred 4 = .ok (.iload_n 2, 1) := by decide +kernel
theorem dL_starred_5 : decode cL_starred 5 = .ok (.invokevirtual 56, 3) := by decide +kernel
theorem dL_starred_8 : decode cL_starred 8 = .ok (.lastore, 1) := by decide +kernel
theorem dL_starred_9 : decode cL_starred 9 = .ok (.goto 7, 3) := by decide +kernel
theorem dL_starred_12 : decode cL_starred 12 = .ok (.astore 4, 2) := by decide +kernel
theorem dL_starred_14 : decode cL_starred 14 = .ok (.iconst 1, 1) := by decide +kernel
theorem dL_starred_15 : decode cL_starred 15 = .ok (.ireturn, 1) := by decide +kernel
theorem dL_starred_16 : decode cL_starred 16 = .ok (.iconst 0, 1) := by decide +kernel
theorem dL_starred_17 : decode cL_starred 17 = .ok (.ireturn, 1) := by decide +kernel
set_option maxRecDepth 20000 in
theorem ggL_move_X7_move : GoodIn wsL_move wsX7_move := goodIn_ca (goodIn_ca (goodIn_ca (goodIn_r _ [8, 9, 10, 11, 12, 13, 14, 15, 16, 7, 17, 18, 19, 20, 21, 22, 23, 24, 25, 26, 27, 28, 29, 30, 31, 32, 33, 34, 35, 36, 37, 38, 39, 40, 41, 42, 43, 44, 45, 46, 47, 48, 49, 50, 51, 52, 53, 54, 55, 56, 57, 58, 59, 60, 61, 62, 63, 64, 65, 66, 67, 68, 69, 70, 71, 72, 73, 74, 75, 76, 77, 78, 79, 80, 81, 82, 83, 84, 85, 86, 87, 88, 89, 90, 91, 92, 93, 94, 95, 96, 97, 98, 99, 100, 101, 102, 103, 104, 105, 106, 107, 108, 109, 110, 111, 112, 113, 114, 115, 116, 117, 118, 119, 120, 121, 122, 123, 124, 125, 126, 127, 128, 129, 130, 131, 132, 133, 134, 135, 136, 137, 138, 139, 140, 141, 142, 143, 144, 145, 146, 147, 148, 149, 150, 151, 152, 153, 154, 155, 156, 157, 158, 159, 160, 161, 162, 163, 164, 165, 166, 167, 168, 169, 170, 171, 172, 173, 174, 175, 176, 177, 178, 179, 180, 181, 182, 183, 184, 185, 186, 187, 188, 189, 190, 191, 192, 193, 194, 195, 196, 197, 198, 199, 200, 201, 202, 203, 204, 205, 206, 207, 208, 209, 210, 211, 212, 213, 214, 215, 216, 217, 218, 219, 220, 221, 222, 223, 224, 225, 226, 227, 228, 229, 230, 231, 232, 233, 234, 235, 236, 237, 238, 239, 240, 241, 242, 243, 244, 245, 246, 247, 248, 249, 250, 251, 252, 253] (by decide +kernel) (by decide +kernel)) (goodIn_sub (fun _ h => List.mem_cons_of_mem _ (List.mem_append_left _ (List.mem_append_left _ (List.mem_append_right _ h)))) (by decide +kernel))) (goodIn_sub (fun _ h => List.mem_cons_of_mem _ (List.mem_append_left _ (List.mem_append_right _ h))) (by decide +kernel))) (goodIn_sub (fun _ h => List.mem_cons_of_mem _ (List.mem_append_right _ h)) (by decide +kernel))
set_option maxRecDepth 20000 in
theorem gL_move_X7_move : GoodIn wsL_move (wsV RL 59 RX7 yX7_move wsX7_move) := goodIn_app (goodIn_of _ (by decide +kernel)) ggL_move_X7_move
theorem dL_move_0 : decode cL_move 0 = .ok (.aload_n 0, 1) := by decide +kernel
theorem dL_move_1 : decode cL_move 1 = .ok (.iload_n 1, 1) := by decide +kernel
theorem dL_move_2 : decode cL_move 2 = .ok (.iload_n 2, 1) := by decide +kernel
theorem dL_move_3 : decode cL_move 3 = .ok (.invokevirtual 59, 3) := by decide +kernel
theorem dL_move_6 : decode cL_move 6 = .ok (.goto 12, 3) := by decide +kernel
theorem dL_move_9 : decode cL_move 9 = .ok (.astore_n 3, 1) := by decide +kernel
theorem dL_move_10 : decode cL_move 10 = .ok (.iconst 1, 1) := by decide +kernel
theorem dL_move_11 : decode cL_move 11 = .ok (.ireturn, 1) := by decide +kernel
theorem dL_move_12 : decode cL_move 12 = .ok (.astore_n 3, 1) := by decide +kernel
theorem dL_move_13 : decode cL_move 13 = .ok (.iconst 2, 1) := by decide +kernel
theorem dL_move_14 : decode cL_move 14 = .ok (.ireturn, 1) := by decide +kernel
theorem dL_move_15 : decode cL_move 15 = .ok (.astore_n 3, 1) := by decide +kernel
theorem dL_move_16 : decode cL_move 16 = .ok (.iconst 3, 1) := by decide +kernel
theorem dL_move_17 : decode cL_move 17 = .ok (.ireturn, 1) := by decide +kernel
theorem dL_move_18 : decode cL_move 18 = .ok (.iconst 0, 1) := by decide +kernel
theorem dL_move_19 : decode cL_move 19 = .ok (.ireturn, 1) := by decide +kernel
set_option maxRecDepth 20000 in
theorem ggL_undo_X7_undo : GoodIn wsL_undo wsX7_undo := goodIn_ca (goodIn_r _ [6, 7, 8, 9, 10, 11, 12, 13, 14, 15, 16, 17, 18, 19, 20, 21, 22, 23, 24, 25, 26, 27, 28, 29, 30, 31, 32, 33, 34, 35, 36, 37, 38, 39, 40, 41, 42, 43, 44, 45, 46, 47, 48, 49, 50, 51, 52, 53, 54, 55, 56, 57, 58, 59, 60, 61] (by decide +kernel) (by decide +kernel)) (goodIn_sub (fun _ h => List.mem_cons_of_mem _ (List.mem_append_right _ h)) (by decide +kernel))
set_option maxRecDepth 20000 in
theorem gL_undo_X7_undo : GoodIn wsL_undo (wsV RL 62 RX7 yX7_undo wsX7_undo) := goodIn_app (goodIn_of _ (by decide +kernel)) ggL_undo_X7_undo
theorem dL_undo_0 : decode cL_undo 0 = .ok (.aload_n 1, 1) := by decide +kernel
theorem dL_undo_1 : decode cL_undo 1 = .ok (.iconst 0, 1) := by decide +kernel
theorem dL_undo_2 : decode cL_undo 2 = .ok (.aload_n 0, 1) := by decide +kernel
theorem dL_undo_3 : decode cL_undo 3 = .ok (.invokevirtual 62, 3) := by decide +kernel
theorem dL_undo_6 : decode cL_undo 6 = .ok (.i2l, 1) := by decide +kernel
theorem dL_undo_7 : decode cL_undo 7 = .ok (.lastore, 1) := by decide +kernel
theorem dL_undo_8 : decode cL_undo 8 = .ok (.goto 6, 3) := by decide +kernel
theorem dL_undo_11 : decode cL_undo 11 = .ok (.astore_n 2, 1) := by decide +kernel
theorem dL_undo_12 : decode cL_undo 12 = .ok (.iconst 1, 1) := by decide +kernel
theorem dL_undo_13 : decode cL_undo 13 = .ok (.ireturn, 1) := by decide +kernel
theorem dL_undo_14 : decode cL_undo 14 = .ok (.iconst 0, 1) := by decide +kernel
theorem dL_undo_15 : decode cL_undo 15 = .ok (.ireturn, 1) := by decide +kernel
theorem dL_law_0 : decode cL_law 0 = .ok (.new 8, 3) := by decide +kernel
theorem dL_law_3 : decode cL_law 3 = .ok (.dup, 1) := by decide +kernel
theorem dL_law_4 : decode cL_law 4 = .ok (.invokespecial 66, 3) := by decide +kernel
theorem dL_law_7 : decode cL_law 7 = .ok (.astore_n 1, 1) := by decide +kernel
theorem dL_law_8 : decode cL_law 8 = .ok (.new 67, 3) := by decide +kernel
theorem dL_law_11 : decode cL_law 11 = .ok (.dup, 1) := by decide +kernel
theorem dL_law_12 : decode cL_law 12 = .ok (.invokespecial 69, 3) := by decide +kernel
theorem dL_law_15 : decode cL_law 15 = .ok (.astore_n 2, 1) := by decide +kernel
theorem dL_law_16 : decode cL_law 16 = .ok (.iconst 1, 1) := by decide +kernel
theorem dL_law_17 : decode cL_law 17 = .ok (.newarray .long, 2) := by decide +kernel
theorem dL_law_19 : decode cL_law 19 = .ok (.astore_n 3, 1) := by decide +kernel
theorem dL_law_20 : decode cL_law 20 = .ok (.iconst 0, 1) := by decide +kernel
theorem dL_law_21 : decode cL_law 21 = .ok (.istore 4, 2) := by decide +kernel
theorem dL_law_23 : decode cL_law 23 = .ok (.iload 4, 2) := by decide +kernel
theorem dL_law_25 : decode cL_law 25 = .ok (.aload_n 0, 1) := by decide +kernel
theorem dL_law_26 : decode cL_law 26 = .ok (.arraylength, 1) := by decide +kernel
theorem dL_law_27 : decode cL_law 27 = .ok (.iconst 5, 1) := by decide +kernel
theorem dL_law_28 : decode cL_law 28 = .ok (.isub, 1) := by decide +kernel
theorem dL_law_29 : decode cL_law 29 = .ok (.if_icmp .gt 1286, 3) := by decide +kernel
theorem dL_law_32 : decode cL_law 32 = .ok (.aload_n 0, 1) := by decide +kernel
theorem dL_law_33 : decode cL_law 33 = .ok (.iload 4, 2) := by decide +kernel
theorem dL_law_35 : decode cL_law 35 = .ok (.iaload, 1) := by decide +kernel
theorem dL_law_36 : decode cL_law 36 = .ok (.bipush 31, 2) := by decide +kernel
theorem dL_law_38 : decode cL_law 38 = .ok (.iand, 1) := by decide +kernel
theorem dL_law_39 : decode cL_law 39 = .ok (.tableswitch 1270 0 22 #[105, 177, 257, 325, 338, 351, 365, 379, 435, 449, 544, 592, 675, 758, 800, 895, 1002, 1058, 1141, 1189, 1233, 1246, 1257], 105) := by decide +kernel
theorem dL_law_144 : decode cL_law 144 = .ok (.aload_n 1, 1) := by decide +kernel
theorem dL_law_145 : decode cL_law 145 = .ok (.aload_n 0, 1) := by decide +kernel
theorem dL_law_146 : decode cL_law 146 = .ok (.iload 4, 2) := by decide +kernel
theorem dL_law_148 : decode cL_law 148 = .ok (.iconst 1, 1) := by decide +kernel
theorem dL_law_149 : decode cL_law 149 = .ok (.iadd, 1) := by decide +kernel
theorem dL_law_150 : decode cL_law 150 = .ok (.iaload, 1) := by decide +kernel
theorem dL_law_151 : decode cL_law 151 = .ok (.ifCond .eq 7, 3) := by decide +kernel
theorem dL_law_154 : decode cL_law 154 = .ok (.iconst 1, 1) := by decide +kernel
theorem dL_law_155 : decode cL_law 155 = .ok (.goto 4, 3) := by decide +kernel
theorem dL_law_158 : decode cL_law 158 = .ok (.iconst 0, 1) := by decide +kernel
theorem dL_law_159 : decode cL_law 159 = .ok (.aload_n 3, 1) := by decide +kernel
theorem dL_law_160 : decode cL_law 160 = .ok (.invokestatic 70, 3) := by decide +kernel
theorem dL_law_163 : decode cL_law 163 = .ok (.istore 5, 2) := by decide +kernel
theorem dL_law_165 : decode cL_law 165 = .ok (.aload_n 2, 1) := by decide +kernel
theorem dL_law_166 : decode cL_law 166 = .ok (.aload_n 0, 1) := by decide +kernel
theorem dL_law_167 : decode cL_law 167 = .ok (.iload 4, 2) := by decide +kernel
theorem dL_law_169 : decode cL_law 169 = .ok (.iconst 1, 1) := by decide +kernel
theorem dL_law_170 : decode cL_law 170 = .ok (.iadd, 1) := by decide +kernel
theorem dL_law_171 : decode cL_law 171 = .ok (.iaload, 1) := by decide +kernel
theorem dL_law_172 : decode cL_law 172 = .ok (.ifCond .eq 7, 3) := by decide +kernel
theorem dL_law_175 : decode cL_law 175 = .ok (.iconst 1, 1) := by decide +kernel
theorem dL_law_176 : decode cL_law 176 = .ok (.goto 4, 3) := by decide +kernel
theorem dL_law_179 : decode cL_law 179 = .ok (.iconst 0, 1) := by decide +kernel
theorem dL_law_180 : decode cL_law 180 = .ok (.invokevirtual 75, 3) := by decide +kernel
theorem dL_law_183 : decode cL_law 183 = .ok (.istore 6, 2) := by decide +kernel
theorem dL_law_185 : decode cL_law 185 = .ok (.aload_n 2, 1) := by decide +kernel
theorem dL_law_186 : decode cL_law 186 = .ok (.invokevirtual 76, 3) := by decide +kernel
theorem dL_law_189 : decode cL_law 189 = .ok (.iload 5, 2) := by decide +kernel
theorem dL_law_191 : decode cL_law 191 = .ok (.if_icmp .eq 5, 3) := by decide +kernel
theorem dL_law_194 : decode cL_law 194 = .ok (.iconst 0, 1) := by decide +kernel
theorem dL_law_195 : decode cL_law 195 = .ok (.ireturn, 1) := by decide +kernel
theorem dL_law_196 : decode cL_law 196 = .ok (.iload 5, 2) := by decide +kernel
theorem dL_law_198 : decode cL_law 198 = .ok (.ifCond .ne 15, 3) := by decide +kernel
theorem dL_law_201 : decode cL_law 201 = .ok (.aload_n 3, 1) := by decide +kernel
theorem dL_law_202 : decode cL_law 202 = .ok (.iconst 0, 1) := by decide +kernel
theorem dL_law_203 : decode cL_law 203 = .ok (.laload, 1) := by decide +kernel
theorem dL_law_204 : decode cL_law 204 = .ok (.iload 6, 2) := by decide +kernel
theorem dL_law_206 : decode cL_law 206 = .ok (.i2l, 1) := by decide +kernel
theorem dL_law_207 : decode cL_law 207 = .ok (.lcmp, 1) := by decide +kernel
theorem dL_law_208 : decode cL_law 208 = .ok (.ifCond .eq 5, 3) := by decide +kernel
theorem dL_law_211 : decode cL_law 211 = .ok (.iconst 0, 1) := by decide +kernel
theorem dL_law_212 : decode cL_law 212 = .ok (.ireturn, 1) := by decide +kernel
theorem dL_law_213 : decode cL_law 213 = .ok (.goto 1096, 3) := by decide +kernel
theorem dL_law_216 : decode cL_law 216 = .ok (.aload_n 1, 1) := by decide +kernel
theorem dL_law_217 : decode cL_law 217 = .ok (.aload_n 0, 1) := by decide +kernel
theorem dL_law_218 : decode cL_law 218 = .ok (.iload 4, 2) := by decide +kernel
theorem dL_law_220 : decode cL_law 220 = .ok (.iconst 1, 1) := by decide +kernel
theorem dL_law_221 : decode cL_law 221 = .ok (.iadd, 1) := by decide +kernel
theorem dL_law_222 : decode cL_law 222 = .ok (.iaload, 1) := by decide +kernel
theorem dL_law_223 : decode cL_law 223 = .ok (.aload_n 0, 1) := by decide +kernel
theorem dL_law_224 : decode cL_law 224 = .ok (.iload 4, 2) := by decide +kernel
theorem dL_law_226 : decode cL_law 226 = .ok (.iconst 2, 1) := by decide +kernel
theorem dL_law_227 : decode cL_law 227 = .ok (.iadd, 1) := by decide +kernel
theorem dL_law_228 : decode cL_law 228 = .ok (.iaload, 1) := by decide +kernel
theorem dL_law_229 : decode cL_law 229 = .ok (.aload_n 0, 1) := by decide +kernel
theorem dL_law_230 : decode cL_law 230 = .ok (.iload 4, 2) := by decide +kernel
theorem dL_law_232 : decode cL_law 232 = .ok (.iconst 3, 1) := by decide +kernel
theorem dL_law_233 : decode cL_law 233 = .ok (.iadd, 1) := by decide +kernel
theorem dL_law_234 : decode cL_law 234 = .ok (.iaload, 1) := by decide +kernel
theorem dL_law_235 : decode cL_law 235 = .ok (.aload_n 3, 1) := by decide +kernel
theorem dL_law_236 : decode cL_law 236 = .ok (.invokestatic 79, 3) := by decide +kernel
theorem dL_law_239 : decode cL_law 239 = .ok (.istore 5, 2) := by decide +kernel
theorem dL_law_241 : decode cL_law 241 = .ok (.aload_n 2, 1) := by decide +kernel
theorem dL_law_242 : decode cL_law 242 = .ok (.aload_n 0, 1) := by decide +kernel
theorem dL_law_243 : decode cL_law 243 = .ok (.iload 4, 2) := by decide +kernel
theorem dL_law_245 : decode cL_law 245 = .ok (.iconst 1, 1) := by decide +kernel
theorem dL_law_246 : decode cL_law 246 = .ok (.iadd, 1) := by decide +kernel
theorem dL_law_247 : decode cL_law 247 = .ok (.iaload, 1) := by decide +kernel
theorem dL_law_248 : decode cL_law 248 = .ok (.aload_n 0, 1) := by decide +kernel
theorem dL_law_249 : decode cL_law 249 = .ok (.iload 4, 2) := by decide +kernel
theorem dL_law_251 : decode cL_law 251 = .ok (.iconst 2, 1) := by decide +kernel
theorem dL_law_252 : decode cL_law 252 = .ok (.iadd, 1) := by decide +kernel
theorem dL_law_253 : decode cL_law 253 = .ok (.iaload, 1) := by decide +kernel
theorem dL_law_254 : decode cL_law 254 = .ok (.aload_n 0, 1) := by decide +kernel
theorem dL_law_255 : decode cL_law 255 = .ok (.iload 4, 2) := by decide +kernel
theorem dL_law_257 : decode cL_law 257 = .ok (.iconst 3, 1) := by decide +kernel
theorem dL_law_258 : decode cL_law 258 = .ok (.iadd, 1) := by decide +kernel
theorem dL_law_259 : decode cL_law 259 = .ok (.iaload, 1) := by decide +kernel
theorem dL_law_260 : decode cL_law 260 = .ok (.invokevirtual 82, 3) := by decide +kernel
theorem dL_law_263 : decode cL_law 263 = .ok (.istore 6, 2) := by decide +kernel
theorem dL_law_265 : decode cL_law 265 = .ok (.aload_n 2, 1) := by decide +kernel
theorem dL_law_266 : decode cL_law 266 = .ok (.invokevirtual 76, 3) := by decide +kernel
theorem dL_law_269 : decode cL_law 269 = .ok (.iload 5, 2) := by decide +kernel
theorem dL_law_271 : decode cL_law 271 = .ok (.if_icmp .eq 5, 3) := by decide +kernel
theorem dL_law_274 : decode cL_law 274 = .ok (.iconst 0, 1) := by decide +kernel
theorem dL_law_275 : decode cL_law 275 = .ok (.ireturn, 1) := by decide +kernel
theorem dL_law_276 : decode cL_law 276 = .ok (.iload 5, 2) := by decide +kernel
theorem dL_law_278 : decode cL_law 278 = .ok (.ifCond .ne 15, 3) := by decide +kernel
theorem dL_law_281 : decode cL_law 281 = .ok (.aload_n 3, 1) := by decide +kernel
theorem dL_law_282 : decode cL_law 282 = .ok (.iconst 0, 1) := by decide +kernel
theorem dL_law_283 : decode cL_law 283 = .ok (.laload, 1) := by decide +kernel
theorem dL_law_284 : decode cL_law 284 = .ok (.iload 6, 2) := by decide +kernel
theorem dL_law_286 : decode cL_law 286 = .ok (.i2l, 1) := by decide +kernel
theorem dL_law_287 : decode cL_law 287 = .ok (.lcmp, 1) := by decide +kernel
theorem dL_law_288 : decode cL_law 288 = .ok (.ifCond .eq 5, 3) := by decide +kernel
theorem dL_law_291 : decode cL_law 291 = .ok (.iconst 0, 1) := by decide +kernel
theorem dL_law_292 : decode cL_law 292 = .ok (.ireturn, 1) := by decide +kernel
theorem dL_law_293 : decode cL_law 293 = .ok (.goto 1016, 3) := by decide +kernel
theorem dL_law_296 : decode cL_law 296 = .ok (.aload_n 1, 1) := by decide +kernel
theorem dL_law_297 : decode cL_law 297 = .ok (.aload_n 0, 1) := by decide +kernel
theorem dL_law_298 : decode cL_law 298 = .ok (.iload 4, 2) := by decide +kernel
theorem dL_law_300 : decode cL_law 300 = .ok (.iconst 1, 1) := by decide +kernel
theorem dL_law_301 : decode cL_law 301 = .ok (.iadd, 1) := by decide +kernel
theorem dL_law_302 : decode cL_law 302 = .ok (.iaload, 1) := by decide +kernel
theorem dL_law_303 : decode cL_law 303 = .ok (.aload_n 0, 1) := by decide +kernel
theorem dL_law_304 : decode cL_law 304 = .ok (.iload 4, 2) := by decide +kernel
theorem dL_law_306 : decode cL_law 306 = .ok (.iconst 2, 1) := by decide +kernel
theorem dL_law_307 : decode cL_law 307 = .ok (.iadd, 1) := by decide +kernel
theorem dL_law_308 : decode cL_law 308 = .ok (.iaload, 1) := by decide +kernel
theorem dL_law_309 : decode cL_law 309 = .ok (.aload_n 3, 1) := by decide +kernel
theorem dL_law_310 : decode cL_law 310 = .ok (.invokestatic 83, 3) := by decide +kernel
theorem dL_law_313 : decode cL_law 313 = .ok (.istore 5, 2) := by decide +kernel
theorem dL_law_315 : decode cL_law 315 = .ok (.aload_n 2, 1) := by decide +kernel
theorem dL_law_316 : decode cL_law 316 = .ok (.aload_n 0, 1) := by decide +kernel
theorem dL_law_317 : decode cL_law 317 = .ok (.iload 4, 2) := by decide +kernel
theorem dL_law_319 : decode cL_law 319 = .ok (.iconst 1, 1) := by decide +kernel
theorem dL_law_320 : decode cL_law 320 = .ok (.iadd, 1) := by decide +kernel
theorem dL_law_321 : decode cL_law 321 = .ok (.iaload, 1) := by decide +kernel
theorem dL_law_322 : decode cL_law 322 = .ok (.aload_n 0, 1) := by decide +kernel
theorem dL_law_323 : decode cL_law 323 = .ok (.iload 4, 2) := by decide +kernel
theorem dL_law_325 : decode cL_law 325 = .ok (.iconst 2, 1) := by decide +kernel
theorem dL_law_326 : decode cL_law 326 = .ok (.iadd, 1) := by decide +kernel
theorem dL_law_327 : decode cL_law 327 = .ok (.iaload, 1) := by decide +kernel
theorem dL_law_328 : decode cL_law 328 = .ok (.invokevirtual 86, 3) := by decide +kernel
theorem dL_law_331 : decode cL_law 331 = .ok (.istore 6, 2) := by decide +kernel
theorem dL_law_333 : decode cL_law 333 = .ok (.aload_n 2, 1) := by decide +kernel
theorem dL_law_334 : decode cL_law 334 = .ok (.invokevirtual 76, 3) := by decide +kernel
theorem dL_law_337 : decode cL_law 337 = .ok (.iload 5, 2) := by decide +kernel
theorem dL_law_339 : decode cL_law 339 = .ok (.if_icmp .eq 5, 3) := by decide +kernel
theorem dL_law_342 : decode cL_law 342 = .ok (.iconst 0, 1) := by decide +kernel
theorem dL_law_343 : decode cL_law 343 = .ok (.ireturn, 1) := by decide +kernel
theorem dL_law_344 : decode cL_law 344 = .ok (.iload 5, 2) := by decide +kernel
theorem dL_law_346 : decode cL_law 346 = .ok (.ifCond .ne 15, 3) := by decide +kernel
theorem dL_law_349 : decode cL_law 349 = .ok (.aload_n 3, 1) := by decide +kernel
theorem dL_law_350 : decode cL_law 350 = .ok (.iconst 0, 1) := by decide +kernel
theorem dL_law_351 : decode cL_law 351 = .ok (.laload, 1) := by decide +kernel
theorem dL_law_352 : decode cL_law 352 = .ok (.iload 6, 2) := by decide +kernel
theorem dL_law_354 : decode cL_law 354 = .ok (.i2l, 1) := by decide +kernel
theorem dL_law_355 : decode cL_law 355 = .ok (.lcmp, 1) := by decide +kernel
theorem dL_law_356 : decode cL_law 356 = .ok (.ifCond .eq 5, 3) := by decide +kernel
theorem dL_law_359 : decode cL_law 359 = .ok (.iconst 0, 1) := by decide +kernel
theorem dL_law_360 : decode cL_law 360 = .ok (.ireturn, 1) := by decide +kernel
theorem dL_law_361 : decode cL_law 361 = .ok (.goto 948, 3) := by decide +kernel
theorem dL_law_364 : decode cL_law 364 = .ok (.aload_n 1, 1) := by decide +kernel
theorem dL_law_365 : decode cL_law 365 = .ok (.invokevirtual 87, 3) := by decide +kernel
theorem dL_law_368 : decode cL_law 368 = .ok (.aload_n 2, 1) := by decide +kernel
theorem dL_law_369 : decode cL_law 369 = .ok (.invokevirtual 90, 3) := by decide +kernel
theorem dL_law_372 : decode cL_law 372 = .ok (.if_icmp .eq 937, 3) := by decide +kernel
theorem dL_law_375 : decode cL_law 375 = .ok (.iconst 0, 1) := by decide +kernel
theorem dL_law_376 : decode cL_law 376 = .ok (.ireturn, 1) := by decide +kernel
theorem dL_law_377 : decode cL_law 377 = .ok (.aload_n 1, 1) := by decide +kernel
theorem dL_law_378 : decode cL_law 378 = .ok (.invokevirtual 91, 3) := by decide +kernel
theorem dL_law_381 : decode cL_law 381 = .ok (.aload_n 2, 1) := by decide +kernel
theorem dL_law_382 : decode cL_law 382 = .ok (.invokevirtual 94, 3) := by decide +kernel
theorem dL_law_385 : decode cL_law 385 = .ok (.if_icmp .eq 924, 3) := by decide +kernel
theorem dL_law_388 : decode cL_law 388 = .ok (.iconst 0, 1) := by decide +kernel
theorem dL_law_389 : decode cL_law 389 = .ok (.ireturn, 1) := by decide +kernel
theorem dL_law_390 : decode cL_law 390 = .ok (.aload_n 1, 1) := by decide +kernel
theorem dL_law_391 : decode cL_law 391 = .ok (.invokevirtual 95, 3) := by decide +kernel
theorem dL_law_394 : decode cL_law 394 = .ok (.aload_n 2, 1) := by decide +kernel
theorem dL_law_395 : decode cL_law 395 = .ok (.invokevirtual 99, 3) := by decide +kernel
theorem dL_law_398 : decode cL_law 398 = .ok (.lcmp, 1) := by decide +kernel
theorem dL_law_399 : decode cL_law 399 = .ok (.ifCond .eq 910, 3) := by decide +kernel
theorem dL_law_402 : decode cL_law 402 = .ok (.iconst 0, 1) := by decide +kernel
theorem dL_law_403 : decode cL_law 403 = .ok (.ireturn, 1) := by decide +kernel
theorem dL_law_404 : decode cL_law 404 = .ok (.aload_n 1, 1) := by decide +kernel
theorem dL_law_405 : decode cL_law 405 = .ok (.invokevirtual 100, 3) := by decide +kernel
theorem dL_law_408 : decode cL_law 408 = .ok (.aload_n 2, 1) := by decide +kernel
theorem dL_law_409 : decode cL_law 409 = .ok (.invokevirtual 103, 3) := by decide +kernel
theorem dL_law_412 : decode cL_law 412 = .ok (.lcmp, 1) := by decide +kernel
theorem dL_law_413 : decode cL_law 413 = .ok (.ifCond .eq 896, 3) := by decide +kernel
theorem dL_law_416 : decode cL_law 416 = .ok (.iconst 0, 1) := by decide +kernel
theorem dL_law_417 : decode cL_law 417 = .ok (.ireturn, 1) := by decide +kernel
theorem dL_law_418 : decode cL_law 418 = .ok (.aload_n 1, 1) := by decide +kernel
theorem dL_law_419 : decode cL_law 419 = .ok (.aload_n 0, 1) := by decide +kernel
theorem dL_law_420 : decode cL_law 420 = .ok (.iload 4, 2) := by decide +kernel
theorem dL_law_422 : decode cL_law 422 = .ok (.iconst 1, 1) := by decide +kernel
theorem dL_law_423 : decode cL_law 423 = .ok (.iadd, 1) := by decide +kernel
theorem dL_law_424 : decode cL_law 424 = .ok (.iaload, 1) := by decide +kernel
theorem dL_law_425 : decode cL_law 425 = .ok (.aload_n 3, 1) := by decide +kernel
theorem dL_law_426 : decode cL_law 426 = .ok (.invokestatic 104, 3) := by decide +kernel
theorem dL_law_429 : decode cL_law 429 = .ok (.istore 5, 2) := by decide +kernel
theorem dL_law_431 : decode cL_law 431 = .ok (.aload_n 2, 1) := by decide +kernel
theorem dL_law_432 : decode cL_law 432 = .ok (.aload_n 0, 1) := by decide +kernel
theorem dL_law_433 : decode cL_law 433 = .ok (.iload 4, 2) := by decide +kernel
theorem dL_law_435 : decode cL_law 435 = .ok (.iconst 1, 1) := by decide +kernel
theorem dL_law_436 : decode cL_law 436 = .ok (.iadd, 1) := by decide +kernel
theorem dL_law_437 : decode cL_law 437 = .ok (.iaload, 1) := by decide +kernel
theorem dL_law_438 : decode cL_law 438 = .ok (.invokevirtual 107, 3) := by decide +kernel
theorem dL_law_441 : decode cL_law 441 = .ok (.istore 6, 2) := by decide +kernel
theorem dL_law_443 : decode cL_law 443 = .ok (.aload_n 2, 1) := by decide +kernel
theorem dL_law_444 : decode cL_law 444 = .ok (.invokevirtual 76, 3) := by decide +kernel
theorem dL_law_447 : decode cL_law 447 = .ok (.iload 5, 2) := by decide +kernel
theorem dL_law_449 : decode cL_law 449 = .ok (.if_icmp .eq 5, 3) := by decide +kernel
theorem dL_law_452 : decode cL_law 452 = .ok (.iconst 0, 1) := by decide +kernel
theorem dL_law_453 : decode cL_law 453 = .ok (.ireturn, 1) := by decide +kernel
theorem dL_law_454 : decode cL_law 454 = .ok (.iload 5, 2) := by decide +kernel
theorem dL_law_456 : decode cL_law 456 = .ok (.ifCond .ne 15, 3) := by decide +kernel
theorem dL_law_459 : decode cL_law 459 = .ok (.aload_n 3, 1) := by decide +kernel
theorem dL_law_460 : decode cL_law 460 = .ok (.iconst 0, 1) := by decide +kernel
theorem dL_law_461 : decode cL_law 461 = .ok (.laload, 1) := by decide +kernel
theorem dL_law_462 : decode cL_law 462 = .ok (.iload 6, 2) := by decide +kernel
theorem dL_law_464 : decode cL_law 464 = .ok (.i2l, 1) := by decide +kernel
theorem dL_law_465 : decode cL_law 465 = .ok (.lcmp, 1) := by decide +kernel
theorem dL_law_466 : decode cL_law 466 = .ok (.ifCond .eq 5, 3) := by decide +kernel
theorem dL_law_469 : decode cL_law 469 = .ok (.iconst 0, 1) := by decide +kernel
theorem dL_law_470 : decode cL_law 470 = .ok (.ireturn, 1) := by decide +kernel
theorem dL_law_471 : decode cL_law 471 = .ok (.goto 838, 3) := by decide +kernel
theorem dL_law_474 : decode cL_law 474 = .ok (.aload_n 1, 1) := by decide +kernel
theorem dL_law_475 : decode cL_law 475 = .ok (.invokevirtual 108, 3) := by decide +kernel
theorem dL_law_478 : decode cL_law 478 = .ok (.aload_n 2, 1) := by decide +kernel
theorem dL_law_479 : decode cL_law 479 = .ok (.invokevirtual 111, 3) := by decide +kernel
theorem dL_law_482 : decode cL_law 482 = .ok (.lcmp, 1) := by decide +kernel
theorem dL_law_483 : decode cL_law 483 = .ok (.ifCond .eq 826, 3) := by decide +kernel
theorem dL_law_486 : decode cL_law 486 = .ok (.iconst 0, 1) := by decide +kernel
theorem dL_law_487 : decode cL_law 487 = .ok (.ireturn, 1) := by decide +kernel
theorem dL_law_488 : decode cL_law 488 = .ok (.aload_n 1, 1) := by decide +kernel
theorem dL_law_489 : decode cL_law 489 = .ok (.aload_n 0, 1) := by decide +kernel
theorem dL_law_490 : decode cL_law 490 = .ok (.iload 4, 2) := by decide +kernel
theorem dL_law_492 : decode cL_law 492 = .ok (.iconst 1, 1) := by decide +kernel
theorem dL_law_493 : decode cL_law 493 = .ok (.iadd, 1) := by decide +kernel
theorem dL_law_494 : decode cL_law 494 = .ok (.iaload, 1) := by decide +kernel
theorem dL_law_495 : decode cL_law 495 = .ok (.aload_n 0, 1) := by decide +kernel
theorem dL_law_496 : decode cL_law 496 = .ok (.iload 4, 2) := by decide +kernel
theorem dL_law_498 : decode cL_law 498 = .ok (.iconst 2, 1) := by decide +kernel
theorem dL_law_499 : decode cL_law 499 = .ok (.iadd, 1) := by decide +kernel
theorem dL_law_500 : decode cL_law 500 = .ok (.iaload, 1) := by decide +kernel
theorem dL_law_501 : decode cL_law 501 = .ok (.aload_n 0, 1) := by decide +kernel
theorem dL_law_502 : decode cL_law 502 = .ok (.iload 4, 2) := by decide +kernel
theorem dL_law_504 : decode cL_law 504 = .ok (.iconst 3, 1) := by decide +kernel
theorem dL_law_505 : decode cL_law 505 = .ok (.iadd, 1) := by decide +kernel
theorem dL_law_506 : decode cL_law 506 = .ok (.iaload, 1) := by decide +kernel
theorem dL_law_507 : decode cL_law 507 = .ok (.ifCond .eq 7, 3) := by decide +kernel
theorem dL_law_510 : decode cL_law 510 = .ok (.iconst 1, 1) := by decide +kernel
theorem dL_law_511 : decode cL_law 511 = .ok (.goto 4, 3) := by decide +kernel
theorem dL_law_514 : decode cL_law 514 = .ok (.iconst 0, 1) := by decide +kernel
theorem dL_law_515 : decode cL_law 515 = .ok (.aload_n 3, 1) := by decide +kernel
theorem dL_law_516 : decode cL_law 516 = .ok (.invokestatic 112, 3) := by decide +kernel
theorem dL_law_519 : decode cL_law 519 = .ok (.istore 5, 2) := by decide +kernel
theorem dL_law_521 : decode cL_law 521 = .ok (.aload_n 2, 1) := by decide +kernel
theorem dL_law_522 : decode cL_law 522 = .ok (.aload_n 0, 1) := by decide +kernel
theorem dL_law_523 : decode cL_law 523 = .ok (.iload 4, 2) := by decide +kernel
theorem dL_law_525 : decode cL_law 525 = .ok (.iconst 1, 1) := by decide +kernel
theorem dL_law_526 : decode cL_law 526 = .ok (.iadd, 1) := by decide +kernel
theorem dL_law_527 : decode cL_law 527 = .ok (.iaload, 1) := by decide +kernel
theorem dL_law_528 : decode cL_law 528 = .ok (.aload_n 0, 1) := by decide +kernel
theorem dL_law_529 : decode cL_law 529 = .ok (.iload 4, 2) := by decide +kernel
theorem dL_law_531 : decode cL_law 531 = .ok (.iconst 2, 1) := by decide +kernel
theorem dL_law_532 : decode cL_law 532 = .ok (.iadd, 1) := by decide +kernel
theorem dL_law_533 : decode cL_law 533 = .ok (.iaload, 1) := by decide +kernel
theorem dL_law_534 : decode cL_law 534 = .ok (.aload_n 0, 1) := by decide +kernel
theorem dL_law_535 : decode cL_law 535 = .ok (.iload 4, 2) := by decide +kernel
theorem dL_law_537 : decode cL_law 537 = .ok (.iconst 3, 1) := by decide +kernel
theorem dL_law_538 : decode cL_law 538 = .ok (.iadd, 1) := by decide +kernel
theorem dL_law_539 : decode cL_law 539 = .ok (.iaload, 1) := by decide +kernel
theorem dL_law_540 : decode cL_law 540 = .ok (.ifCond .eq 7, 3) := by decide +kernel
theorem dL_law_543 : decode cL_law 543 = .ok (.iconst 1, 1) := by decide +kernel
theorem dL_law_544 : decode cL_law 544 = .ok (.goto 4, 3) := by decide +kernel
theorem dL_law_547 : decode cL_law 547 = .ok (.iconst 0, 1) := by decide +kernel
theorem dL_law_548 : decode cL_law 548 = .ok (.invokevirtual 115, 3) := by decide +kernel
theorem dL_law_551 : decode cL_law 551 = .ok (.lstore 6, 2) := by decide +kernel
theorem dL_law_553 : decode cL_law 553 = .ok (.aload_n 2, 1) := by decide +kernel
theorem dL_law_554 : decode cL_law 554 = .ok (.invokevirtual 76, 3) := by decide +kernel
theorem dL_law_557 : decode cL_law 557 = .ok (.iload 5, 2) := by decide +kernel
theorem dL_law_559 : decode cL_law 559 = .ok (.if_icmp .eq 5, 3) := by decide +kernel
theorem dL_law_562 : decode cL_law 562 = .ok (.iconst 0, 1) := by decide +kernel
theorem dL_law_563 : decode cL_law 563 = .ok (.ireturn, 1) := by decide +kernel
theorem dL_law_564 : decode cL_law 564 = .ok (.iload 5, 2) := by decide +kernel
theorem dL_law_566 : decode cL_law 566 = .ok (.ifCond .ne 14, 3) := by decide +kernel
theorem dL_law_569 : decode cL_law 569 = .ok (.aload_n 3, 1) := by decide +kernel
theorem dL_law_570 : decode cL_law 570 = .ok (.iconst 0, 1) := by decide +kernel
theorem dL_law_571 : decode cL_law 571 = .ok (.laload, 1) := by decide +kernel
theorem dL_law_572 : decode cL_law 572 = .ok (.lload 6, 2) := by decide +kernel
theorem dL_law_574 : decode cL_law 574 = .ok (.lcmp, 1) := by decide +kernel
theorem dL_law_575 : decode cL_law 575 = .ok (.ifCond .eq 5, 3) := by decide +kernel
theorem dL_law_578 : decode cL_law 578 = .ok (.iconst 0, 1) := by decide +kernel
theorem dL_law_579 : decode cL_law 579 = .ok (.ireturn, 1) := by decide +kernel
theorem dL_law_580 : decode cL_law 580 = .ok (.goto 729, 3) := by decide +kernel
theorem dL_law_583 : decode cL_law 583 = .ok (.aload_n 1, 1) := by decide +kernel
theorem dL_law_584 : decode cL_law 584 = .ok (.aload_n 0, 1) := by decide +kernel
theorem dL_law_585 : decode cL_law 585 = .ok (.iload 4, 2) := by decide +kernel
theorem dL_law_587 : decode cL_law 587 = .ok (.iconst 1, 1) := by decide +kernel
theorem dL_law_588 : decode cL_law 588 = .ok (.iadd, 1) := by decide +kernel
theorem dL_law_589 : decode cL_law 589 = .ok (.iaload, 1) := by decide +kernel
theorem dL_law_590 : decode cL_law 590 = .ok (.aload_n 0, 1) := by decide +kernel
theorem dL_law_591 : decode cL_law 591 = .ok (.iload 4, 2) := by decide +kernel
theorem dL_law_593 : decode cL_law 593 = .ok (.iconst 2, 1) := by decide +kernel
theorem dL_law_594 : decode cL_law 594 = .ok (.iadd, 1) := by decide +kernel
theorem dL_law_595 : decode cL_law 595 = .ok (.iaload, 1) := by decide +kernel
theorem dL_law_596 : decode cL_law 596 = .ok (.invokestatic 116, 3) := by decide +kernel
theorem dL_law_599 : decode cL_law 599 = .ok (.istore 5, 2) := by decide +kernel
theorem dL_law_601 : decode cL_law 601 = .ok (.aload_n 2, 1) := by decide +kernel
theorem dL_law_602 : decode cL_law 602 = .ok (.aload_n 0, 1) := by decide +kernel
theorem dL_law_603 : decode cL_law 603 = .ok (.iload 4, 2) := by decide +kernel
theorem dL_law_605 : decode cL_law 605 = .ok (.iconst 1, 1) := by decide +kernel
theorem dL_law_606 : decode cL_law 606 = .ok (.iadd, 1) := by decide +kernel
theorem dL_law_607 : decode cL_law 607 = .ok (.iaload, 1) := by decide +kernel
theorem dL_law_608 : decode cL_law 608 = .ok (.aload_n 0, 1) := by decide +kernel
theorem dL_law_609 : decode cL_law 609 = .ok (.iload 4, 2) := by decide +kernel
theorem dL_law_611 : decode cL_law 611 = .ok (.iconst 2, 1) := by decide +kernel
theorem dL_law_612 : decode cL_law 612 = .ok (.iadd, 1) := by decide +kernel
theorem dL_law_613 : decode cL_law 613 = .ok (.iaload, 1) := by decide +kernel
theorem dL_law_614 : decode cL_law 614 = .ok (.invokevirtual 119, 3) := by decide +kernel
theorem dL_law_617 : decode cL_law 617 = .ok (.aload_n 2, 1) := by decide +kernel
theorem dL_law_618 : decode cL_law 618 = .ok (.invokevirtual 76, 3) := by decide +kernel
theorem dL_law_621 : decode cL_law 621 = .ok (.iload 5, 2) := by decide +kernel
theorem dL_law_623 : decode cL_law 623 = .ok (.if_icmp .eq 5, 3) := by decide +kernel
theorem dL_law_626 : decode cL_law 626 = .ok (.iconst 0, 1) := by decide +kernel
theorem dL_law_627 : decode cL_law 627 = .ok (.ireturn, 1) := by decide +kernel
theorem dL_law_628 : decode cL_law 628 = .ok (.goto 681, 3) := by decide +kernel
theorem dL_law_631 : decode cL_law 631 = .ok (.aload_n 1, 1) := by decide +kernel
theorem dL_law_632 : decode cL_law 632 = .ok (.aload_n 0, 1) := by decide +kernel
theorem dL_law_633 : decode cL_law 633 = .ok (.iload 4, 2) := by decide +kernel
theorem dL_law_635 : decode cL_law 635 = .ok (.iconst 1, 1) := by decide +kernel
theorem dL_law_636 : decode cL_law 636 = .ok (.iadd, 1) := by decide +kernel
theorem dL_law_637 : decode cL_law 637 = .ok (.iaload, 1) := by decide +kernel
theorem dL_law_638 : decode cL_law 638 = .ok (.aload_n 0, 1) := by decide +kernel
theorem dL_law_639 : decode cL_law 639 = .ok (.iload 4, 2) := by decide +kernel
theorem dL_law_641 : decode cL_law 641 = .ok (.iconst 2, 1) := by decide +kernel
theorem dL_law_642 : decode cL_law 642 = .ok (.iadd, 1) := by decide +kernel
theorem dL_law_643 : decode cL_law 643 = .ok (.iaload, 1) := by decide +kernel
theorem dL_law_644 : decode cL_law 644 = .ok (.ifCond .eq 7, 3) := by decide +kernel
theorem dL_law_647 : decode cL_law 647 = .ok (.iconst 1, 1) := by decide +kernel
theorem dL_law_648 : decode cL_law 648 = .ok (.goto 4, 3) := by decide +kernel
theorem dL_law_651 : decode cL_law 651 = .ok (.iconst 0, 1) := by decide +kernel
theorem dL_law_652 : decode cL_law 652 = .ok (.aload_n 3, 1) := by decide +kernel
theorem dL_law_653 : decode cL_law 653 = .ok (.invokestatic 120, 3) := by decide +kernel
theorem dL_law_656 : decode cL_law 656 = .ok (.istore 5, 2) := by decide +kernel
theorem dL_law_658 : decode cL_law 658 = .ok (.aload_n 2, 1) := by decide +kernel
theorem dL_law_659 : decode cL_law 659 = .ok (.aload_n 0, 1) := by decide +kernel
theorem dL_law_660 : decode cL_law 660 = .ok (.iload 4, 2) := by decide +kernel
theorem dL_law_662 : decode cL_law 662 = .ok (.iconst 1, 1) := by decide +kernel
theorem dL_law_663 : decode cL_law 663 = .ok (.iadd, 1) := by decide +kernel
theorem dL_law_664 : decode cL_law 664 = .ok (.iaload, 1) := by decide +kernel
theorem dL_law_665 : decode cL_law 665 = .ok (.aload_n 0, 1) := by decide +kernel
theorem dL_law_666 : decode cL_law 666 = .ok (.iload 4, 2) := by decide +kernel
theorem dL_law_668 : decode cL_law 668 = .ok (.iconst 2, 1) := by decide +kernel
theorem dL_law_669 : decode cL_law 669 = .ok (.iadd, 1) := by decide +kernel
theorem dL_law_670 : decode cL_law 670 = .ok (.iaload, 1) := by decide +kernel
theorem dL_law_671 : decode cL_law 671 = .ok (.ifCond .eq 7, 3) := by decide +kernel
theorem dL_law_674 : decode cL_law 674 = .ok (.iconst 1, 1) := by decide +kernel
theorem dL_law_675 : decode cL_law 675 = .ok (.goto 4, 3) := by decide +kernel
theorem dL_law_678 : decode cL_law 678 = .ok (.iconst 0, 1) := by decide +kernel
theorem dL_law_679 : decode cL_law 679 = .ok (.invokevirtual 123, 3) := by decide +kernel
theorem dL_law_682 : decode cL_law 682 = .ok (.lstore 6, 2) := by decide +kernel
theorem dL_law_684 : decode cL_law 684 = .ok (.aload_n 2, 1) := by decide +kernel
theorem dL_law_685 : decode cL_law 685 = .ok (.invokevirtual 76, 3) := by decide +kernel
theorem dL_law_688 : decode cL_law 688 = .ok (.iload 5, 2) := by decide +kernel
theorem dL_law_690 : decode cL_law 690 = .ok (.if_icmp .eq 5, 3) := by decide +kernel
theorem dL_law_693 : decode cL_law 693 = .ok (.iconst 0, 1) := by decide +kernel
theorem dL_law_694 : decode cL_law 694 = .ok (.ireturn, 1) := by decide +kernel
theorem dL_law_695 : decode cL_law 695 = .ok (.iload 5, 2) := by decide +kernel
theorem dL_law_697 : decode cL_law 697 = .ok (.ifCond .ne 14, 3) := by decide +kernel
theorem dL_law_700 : decode cL_law 700 = .ok (.aload_n 3, 1) := by decide +kernel
theorem dL_law_701 : decode cL_law 701 = .ok (.iconst 0, 1) := by decide +kernel
theorem dL_law_702 : decode cL_law 702 = .ok (.laload, 1) := by decide +kernel
theorem dL_law_703 : decode cL_law 703 = .ok (.lload 6, 2) := by decide +kernel
theorem dL_law_705 : decode cL_law 705 = .ok (.lcmp, 1) := by decide +kernel
theorem dL_law_706 : decode cL_law 706 = .ok (.ifCond .eq 5, 3) := by decide +kernel
theorem dL_law_709 : decode cL_law 709 = .ok (.iconst 0, 1) := by decide +kernel
theorem dL_law_710 : decode cL_law 710 = .ok (.ireturn, 1) := by decide +kernel
theorem dL_law_711 : decode cL_law 711 = .ok (.goto 598, 3) := by decide +kernel
theorem dL_law_714 : decode cL_law 714 = .ok (.aload_n 1, 1) := by decide +kernel
theorem dL_law_715 : decode cL_law 715 = .ok (.aload_n 0, 1) := by decide +kernel
theorem dL_law_716 : decode cL_law 716 = .ok (.iload 4, 2) := by decide +kernel
theorem dL_law_718 : decode cL_law 718 = .ok (.iconst 1, 1) := by decide +kernel
theorem dL_law_719 : decode cL_law 719 = .ok (.iadd, 1) := by decide +kernel
theorem dL_law_720 : decode cL_law 720 = .ok (.iaload, 1) := by decide +kernel
theorem dL_law_721 : decode cL_law 721 = .ok (.aload_n 0, 1) := by decide +kernel
theorem dL_law_722 : decode cL_law 722 = .ok (.iload 4, 2) := by decide +kernel
theorem dL_law_724 : decode cL_law 724 = .ok (.iconst 2, 1) := by decide +kernel
theorem dL_law_725 : decode cL_law 725 = .ok (.iadd, 1) := by decide +kernel
theorem dL_law_726 : decode cL_law 726 = .ok (.iaload, 1) := by decide +kernel
theorem dL_law_727 : decode cL_law 727 = .ok (.ifCond .eq 7, 3) := by decide +kernel
theorem dL_law_730 : decode cL_law 730 = .ok (.iconst 1, 1) := by decide +kernel
theorem dL_law_731 : decode cL_law 731 = .ok (.goto 4, 3) := by decide +kernel
theorem dL_law_734 : decode cL_law 734 = .ok (.iconst 0, 1) := by decide +kernel
theorem dL_law_735 : decode cL_law 735 = .ok (.aload_n 3, 1) := by decide +kernel
theorem dL_law_736 : decode cL_law 736 = .ok (.invokestatic 124, 3) := by decide +kernel
theorem dL_law_739 : decode cL_law 739 = .ok (.istore 5, 2) := by decide +kernel
theorem dL_law_741 : decode cL_law 741 = .ok (.aload_n 2, 1) := by decide +kernel
theorem dL_law_742 : decode cL_law 742 = .ok (.aload_n 0, 1) := by decide +kernel
theorem dL_law_743 : decode cL_law 743 = .ok (.iload 4, 2) := by decide +kernel
theorem dL_law_745 : decode cL_law 745 = .ok (.iconst 1, 1) := by decide +kernel
theorem dL_law_746 : decode cL_law 746 = .ok (.iadd, 1) := by decide +kernel
theorem dL_law_747 : decode cL_law 747 = .ok (.iaload, 1) := by decide +kernel
theorem dL_law_748 : decode cL_law 748 = .ok (.aload_n 0, 1) := by decide +kernel
theorem dL_law_749 : decode cL_law 749 = .ok (.iload 4, 2) := by decide +kernel
theorem dL_law_751 : decode cL_law 751 = .ok (.iconst 2, 1) := by decide +kernel
theorem dL_law_752 : decode cL_law 752 = .ok (.iadd, 1) := by decide +kernel
theorem dL_law_753 : decode cL_law 753 = .ok (.iaload, 1) := by decide +kernel
theorem dL_law_754 : decode cL_law 754 = .ok (.ifCond .eq 7, 3) := by decide +kernel
theorem dL_law_757 : decode cL_law 757 = .ok (.iconst 1, 1) := by decide +kernel
theorem dL_law_758 : decode cL_law 758 = .ok (.goto 4, 3) := by decide +kernel
theorem dL_law_761 : decode cL_law 761 = .ok (.iconst 0, 1) := by decide +kernel
theorem dL_law_762 : decode cL_law 762 = .ok (.invokevirtual 126, 3) := by decide +kernel
theorem dL_law_765 : decode cL_law 765 = .ok (.lstore 6, 2) := by decide +kernel
theorem dL_law_767 : decode cL_law 767 = .ok (.aload_n 2, 1) := by decide +kernel
theorem dL_law_768 : decode cL_law 768 = .ok (.invokevirtual 76, 3) := by decide +kernel
theorem dL_law_771 : decode cL_law 771 = .ok (.iload 5, 2) := by decide +kernel
theorem dL_law_773 : decode cL_law 773 = .ok (.if_icmp .eq 5, 3) := by decide +kernel
theorem dL_law_776 : decode cL_law 776 = .ok (.iconst 0, 1) := by decide +kernel
theorem dL_law_777 : decode cL_law 777 = .ok (.ireturn, 1) := by decide +kernel
theorem dL_law_778 : decode cL_law 778 = .ok (.iload 5, 2) := by decide +kernel
theorem dL_law_780 : decode cL_law 780 = .ok (.ifCond .ne 14, 3) := by decide +kernel
theorem dL_law_783 : decode cL_law 783 = .ok (.aload_n 3, 1) := by decide +kernel
theorem dL_law_784 : decode cL_law 784 = .ok (.iconst 0, 1) := by decide +kernel
theorem dL_law_785 : decode cL_law 785 = .ok (.laload, 1) := by decide +kernel
theorem dL_law_786 : decode cL_law 786 = .ok (.lload 6, 2) := by decide +kernel
theorem dL_law_788 : decode cL_law 788 = .ok (.lcmp, 1) := by decide +kernel
theorem dL_law_789 : decode cL_law 789 = .ok (.ifCond .eq 5, 3) := by decide +kernel
theorem dL_law_792 : decode cL_law 792 = .ok (.iconst 0, 1) := by decide +kernel
theorem dL_law_793 : decode cL_law 793 = .ok (.ireturn, 1) := by decide +kernel
theorem dL_law_794 : decode cL_law 794 = .ok (.goto 515, 3) := by decide +kernel
theorem dL_law_797 : decode cL_law 797 = .ok (.aload_n 1, 1) := by decide +kernel
theorem dL_law_798 : decode cL_law 798 = .ok (.aload_n 0, 1) := by decide +kernel
theorem dL_law_799 : decode cL_law 799 = .ok (.iload 4, 2) := by decide +kernel
theorem dL_law_801 : decode cL_law 801 = .ok (.iconst 1, 1) := by decide +kernel
theorem dL_law_802 : decode cL_law 802 = .ok (.iadd, 1) := by decide +kernel
theorem dL_law_803 : decode cL_law 803 = .ok (.iaload, 1) := by decide +kernel
theorem dL_law_804 : decode cL_law 804 = .ok (.ifCond .eq 7, 3) := by decide +kernel
theorem dL_law_807 : decode cL_law 807 = .ok (.iconst 1, 1) := by decide +kernel
theorem dL_law_808 : decode cL_law 808 = .ok (.goto 4, 3) := by decide +kernel
theorem dL_law_811 : decode cL_law 811 = .ok (.iconst 0, 1) := by decide +kernel
theorem dL_law_812 : decode cL_law 812 = .ok (.invokevirtual 127, 3) := by decide +kernel
theorem dL_law_815 : decode cL_law 815 = .ok (.aload_n 2, 1) := by decide +kernel
theorem dL_law_816 : decode cL_law 816 = .ok (.aload_n 0, 1) := by decide +kernel
theorem dL_law_817 : decode cL_law 817 = .ok (.iload 4, 2) := by decide +kernel
theorem dL_law_819 : decode cL_law 819 = .ok (.iconst 1, 1) := by decide +kernel
theorem dL_law_820 : decode cL_law 820 = .ok (.iadd, 1) := by decide +kernel
theorem dL_law_821 : decode cL_law 821 = .ok (.iaload, 1) := by decide +kernel
theorem dL_law_822 : decode cL_law 822 = .ok (.ifCond .eq 7, 3) := by decide +kernel
theorem dL_law_825 : decode cL_law 825 = .ok (.iconst 1, 1) := by decide +kernel
theorem dL_law_826 : decode cL_law 826 = .ok (.goto 4, 3) := by decide +kernel
theorem dL_law_829 : decode cL_law 829 = .ok (.iconst 0, 1) := by decide +kernel
theorem dL_law_830 : decode cL_law 830 = .ok (.invokevirtual 131, 3) := by decide +kernel
theorem dL_law_833 : decode cL_law 833 = .ok (.lcmp, 1) := by decide +kernel
theorem dL_law_834 : decode cL_law 834 = .ok (.ifCond .eq 475, 3) := by decide +kernel
theorem dL_law_837 : decode cL_law 837 = .ok (.iconst 0, 1) := by decide +kernel
theorem dL_law_838 : decode cL_law 838 = .ok (.ireturn, 1) := by decide +kernel
theorem dL_law_839 : decode cL_law 839 = .ok (.aload_n 1, 1) := by decide +kernel
theorem dL_law_840 : decode cL_law 840 = .ok (.aload_n 0, 1) := by decide +kernel
theorem dL_law_841 : decode cL_law 841 = .ok (.iload 4, 2) := by decide +kernel
theorem dL_law_843 : decode cL_law 843 = .ok (.iconst 1, 1) := by decide +kernel
theorem dL_law_844 : decode cL_law 844 = .ok (.iadd, 1) := by decide +kernel
theorem dL_law_845 : decode cL_law 845 = .ok (.iaload, 1) := by decide +kernel
theorem dL_law_846 : decode cL_law 846 = .ok (.aload_n 0, 1) := by decide +kernel
theorem dL_law_847 : decode cL_law 847 = .ok (.iload 4, 2) := by decide +kernel
theorem dL_law_849 : decode cL_law 849 = .ok (.iconst 2, 1) := by decide +kernel
theorem dL_law_850 : decode cL_law 850 = .ok (.iadd, 1) := by decide +kernel
theorem dL_law_851 : decode cL_law 851 = .ok (.iaload, 1) := by decide +kernel
theorem dL_law_852 : decode cL_law 852 = .ok (.aload_n 0, 1) := by decide +kernel
theorem dL_law_853 : decode cL_law 853 = .ok (.iload 4, 2) := by decide +kernel
theorem dL_law_855 : decode cL_law 855 = .ok (.iconst 3, 1) := by decide +kernel
theorem dL_law_856 : decode cL_law 856 = .ok (.iadd, 1) := by decide +kernel
theorem dL_law_857 : decode cL_law 857 = .ok (.iaload, 1) := by decide +kernel
theorem dL_law_858 : decode cL_law 858 = .ok (.ifCond .eq 7, 3) := by decide +kernel
theorem dL_law_861 : decode cL_law 861 = .ok (.iconst 1, 1) := by decide +kernel
theorem dL_law_862 : decode cL_law 862 = .ok (.goto 4, 3) := by decide +kernel
theorem dL_law_865 : decode cL_law 865 = .ok (.iconst 0, 1) := by decide +kernel
theorem dL_law_866 : decode cL_law 866 = .ok (.aload_n 3, 1) := by decide +kernel
theorem dL_law_867 : decode cL_law 867 = .ok (.invokestatic 132, 3) := by decide +kernel
theorem dL_law_870 : decode cL_law 870 = .ok (.istore 5, 2) := by decide +kernel
theorem dL_law_872 : decode cL_law 872 = .ok (.aload_n 2, 1) := by decide +kernel
theorem dL_law_873 : decode cL_law 873 = .ok (.aload_n 0, 1) := by decide +kernel
theorem dL_law_874 : decode cL_law 874 = .ok (.iload 4, 2) := by decide +kernel
theorem dL_law_876 : decode cL_law 876 = .ok (.iconst 1, 1) := by decide +kernel
theorem dL_law_877 : decode cL_law 877 = .ok (.iadd, 1) := by decide +kernel
theorem dL_law_878 : decode cL_law 878 = .ok (.iaload, 1) := by decide +kernel
theorem dL_law_879 : decode cL_law 879 = .ok (.aload_n 0, 1) := by decide +kernel
theorem dL_law_880 : decode cL_law 880 = .ok (.iload 4, 2) := by decide +kernel
theorem dL_law_882 : decode cL_law 882 = .ok (.iconst 2, 1) := by decide +kernel
theorem dL_law_883 : decode cL_law 883 = .ok (.iadd, 1) := by decide +kernel
theorem dL_law_884 : decode cL_law 884 = .ok (.iaload, 1) := by decide +kernel
theorem dL_law_885 : decode cL_law 885 = .ok (.aload_n 0, 1) := by decide +kernel
theorem dL_law_886 : decode cL_law 886 = .ok (.iload 4, 2) := by decide +kernel
theorem dL_law_888 : decode cL_law 888 = .ok (.iconst 3, 1) := by decide +kernel
theorem dL_law_889 : decode cL_law 889 = .ok (.iadd, 1) := by decide +kernel
theorem dL_law_890 : decode cL_law 890 = .ok (.iaload, 1) := by decide +kernel
theorem dL_law_891 : decode cL_law 891 = .ok (.ifCond .eq 7, 3) := by decide +kernel
theorem dL_law_894 : decode cL_law 894 = .ok (.iconst 1, 1) := by decide +kernel
theorem dL_law_895 : decode cL_law 895 = .ok (.goto 4, 3) := by decide +kernel
theorem dL_law_898 : decode cL_law 898 = .ok (.iconst 0, 1) := by decide +kernel
theorem dL_law_899 : decode cL_law 899 = .ok (.invokevirtual 134, 3) := by decide +kernel
theorem dL_law_902 : decode cL_law 902 = .ok (.lstore 6, 2) := by decide +kernel
theorem dL_law_904 : decode cL_law 904 = .ok (.aload_n 2, 1) := by decide +kernel
theorem dL_law_905 : decode cL_law 905 = .ok (.invokevirtual 76, 3) := by decide +kernel
theorem dL_law_908 : decode cL_law 908 = .ok (.iload 5, 2) := by decide +kernel
theorem dL_law_910 : decode cL_law 910 = .ok (.if_icmp .eq 5, 3) := by decide +kernel
theorem dL_law_913 : decode cL_law 913 = .ok (.iconst 0, 1) := by decide +kernel
theorem dL_law_914 : decode cL_law 914 = .ok (.ireturn, 1) := by decide +kernel
theorem dL_law_915 : decode cL_law 915 = .ok (.iload 5, 2) := by decide +kernel
theorem dL_law_917 : decode cL_law 917 = .ok (.ifCond .ne 14, 3) := by decide +kernel
theorem dL_law_920 : decode cL_law 920 = .ok (.aload_n 3, 1) := by decide +kernel
theorem dL_law_921 : decode cL_law 921 = .ok (.iconst 0, 1) := by decide +kernel
theorem dL_law_922 : decode cL_law 922 = .ok (.laload, 1) := by decide +kernel
theorem dL_law_923 : decode cL_law 923 = .ok (.lload 6, 2) := by decide +kernel
theorem dL_law_925 : decode cL_law 925 = .ok (.lcmp, 1) := by decide +kernel
theorem dL_law_926 : decode cL_law 926 = .ok (.ifCond .eq 5, 3) := by decide +kernel
theorem dL_law_929 : decode cL_law 929 = .ok (.iconst 0, 1) := by decide +kernel
theorem dL_law_930 : decode cL_law 930 = .ok (.ireturn, 1) := by decide +kernel
theorem dL_law_931 : decode cL_law 931 = .ok (.goto 378, 3) := by decide +kernel
theorem dL_law_934 : decode cL_law 934 = .ok (.aload_n 1, 1) := by decide +kernel
theorem dL_law_935 : decode cL_law 935 = .ok (.aload_n 0, 1) := by decide +kernel
theorem dL_law_936 : decode cL_law 936 = .ok (.iload 4, 2) := by decide +kernel
theorem dL_law_938 : decode cL_law 938 = .ok (.iconst 1, 1) := by decide +kernel
theorem dL_law_939 : decode cL_law 939 = .ok (.iadd, 1) := by decide +kernel
theorem dL_law_940 : decode cL_law 940 = .ok (.iaload, 1) := by decide +kernel
theorem dL_law_941 : decode cL_law 941 = .ok (.aload_n 0, 1) := by decide +kernel
theorem dL_law_942 : decode cL_law 942 = .ok (.iload 4, 2) := by decide +kernel
theorem dL_law_944 : decode cL_law 944 = .ok (.iconst 2, 1) := by decide +kernel
theorem dL_law_945 : decode cL_law 945 = .ok (.iadd, 1) := by decide +kernel
theorem dL_law_946 : decode cL_law 946 = .ok (.iaload, 1) := by decide +kernel
theorem dL_law_947 : decode cL_law 947 = .ok (.aload_n 0, 1) := by decide +kernel
theorem dL_law_948 : decode cL_law 948 = .ok (.iload 4, 2) := by decide +kernel
theorem dL_law_950 : decode cL_law 950 = .ok (.iconst 3, 1) := by decide +kernel
theorem dL_law_951 : decode cL_law 951 = .ok (.iadd, 1) := by decide +kernel
theorem dL_law_952 : decode cL_law 952 = .ok (.iaload, 1) := by decide +kernel
theorem dL_law_953 : decode cL_law 953 = .ok (.aload_n 0, 1) := by decide +kernel
theorem dL_law_954 : decode cL_law 954 = .ok (.iload 4, 2) := by decide +kernel
theorem dL_law_956 : decode cL_law 956 = .ok (.iconst 4, 1) := by decide +kernel
theorem dL_law_957 : decode cL_law 957 = .ok (.iadd, 1) := by decide +kernel
theorem dL_law_958 : decode cL_law 958 = .ok (.iaload, 1) := by decide +kernel
theorem dL_law_959 : decode cL_law 959 = .ok (.ifCond .eq 7, 3) := by decide +kernel
theorem dL_law_962 : decode cL_law 962 = .ok (.iconst 1, 1) := by decide +kernel
theorem dL_law_963 : decode cL_law 963 = .ok (.goto 4, 3) := by decide +kernel
theorem dL_law_966 : decode cL_law 966 = .ok (.iconst 0, 1) := by decide +kernel
theorem dL_law_967 : decode cL_law 967 = .ok (.aload_n 3, 1) := by decide +kernel
theorem dL_law_968 : decode cL_law 968 = .ok (.invokestatic 135, 3) := by decide +kernel
theorem dL_law_971 : decode cL_law 971 = .ok (.istore 5, 2) := by decide +kernel
theorem dL_law_973 : decode cL_law 973 = .ok (.aload_n 2, 1) := by decide +kernel
theorem dL_law_974 : decode cL_law 974 = .ok (.aload_n 0, 1) := by decide +kernel
theorem dL_law_975 : decode cL_law 975 = .ok (.iload 4, 2) := by decide +kernel
theorem dL_law_977 : decode cL_law 977 = .ok (.iconst 1, 1) := by decide +kernel
theorem dL_law_978 : decode cL_law 978 = .ok (.iadd, 1) := by decide +kernel
theorem dL_law_979 : decode cL_law 979 = .ok (.iaload, 1) := by decide +kernel
theorem dL_law_980 : decode cL_law 980 = .ok (.aload_n 0, 1) := by decide +kernel
theorem dL_law_981 : decode cL_law 981 = .ok (.iload 4, 2) := by decide +kernel
theorem dL_law_983 : decode cL_law 983 = .ok (.iconst 2, 1) := by decide +kernel
theorem dL_law_984 : decode cL_law 984 = .ok (.iadd, 1) := by decide +kernel
theorem dL_law_985 : decode cL_law 985 = .ok (.iaload, 1) := by decide +kernel
theorem dL_law_986 : decode cL_law 986 = .ok (.aload_n 0, 1) := by decide +kernel
theorem dL_law_987 : decode cL_law 987 = .ok (.iload 4, 2) := by decide +kernel
theorem dL_law_989 : decode cL_law 989 = .ok (.iconst 3, 1) := by decide +kernel
theorem dL_law_990 : decode cL_law 990 = .ok (.iadd, 1) := by decide +kernel
theorem dL_law_991 : decode cL_law 991 = .ok (.iaload, 1) := by decide +kernel
theorem dL_law_992 : decode cL_law 992 = .ok (.aload_n 0, 1) := by decide +kernel
theorem dL_law_993 : decode cL_law 993 = .ok (.iload 4, 2) := by decide +kernel
theorem dL_law_995 : decode cL_law 995 = .ok (.iconst 4, 1) := by decide +kernel
theorem dL_law_996 : decode cL_law 996 = .ok (.iadd, 1) := by decide +kernel
theorem dL_law_997 : decode cL_law 997 = .ok (.iaload, 1) := by decide +kernel
theorem dL_law_998 : decode cL_law 998 = .ok (.ifCond .eq 7, 3) := by decide +kernel
theorem dL_law_1001 : decode cL_law 1001 = .ok (.iconst 1, 1) := by decide +kernel
theorem dL_law_1002 : decode cL_law 1002 = .ok (.goto 4, 3) := by decide +kernel
theorem dL_law_1005 : decode cL_law 1005 = .ok (.iconst 0, 1) := by decide +kernel
theorem dL_law_1006 : decode cL_law 1006 = .ok (.invokevirtual 138, 3) := by decide +kernel
theorem dL_law_1009 : decode cL_law 1009 = .ok (.lstore 6, 2) := by decide +kernel
theorem dL_law_1011 : decode cL_law 1011 = .ok (.aload_n 2, 1) := by decide +kernel
theorem dL_law_1012 : decode cL_law 1012 = .ok (.invokevirtual 76, 3) := by decide +kernel
theorem dL_law_1015 : decode cL_law 1015 = .ok (.iload 5, 2) := by decide +kernel
theorem dL_law_1017 : decode cL_law 1017 = .ok (.if_icmp .eq 5, 3) := by decide +kernel
theorem dL_law_1020 : decode cL_law 1020 = .ok (.iconst 0, 1) := by decide +kernel
theorem dL_law_1021 : decode cL_law 1021 = .ok (.ireturn, 1) := by decide +kernel
theorem dL_law_1022 : decode cL_law 1022 = .ok (.iload 5, 2) := by decide +kernel
theorem dL_law_1024 : decode cL_law 1024 = .ok (.ifCond .ne 14, 3) := by decide +kernel
theorem dL_law_1027 : decode cL_law 1027 = .ok (.aload_n 3, 1) := by decide +kernel
theorem dL_law_1028 : decode cL_law 1028 = .ok (.iconst 0, 1) := by decide +kernel
theorem dL_law_1029 : decode cL_law 1029 = .ok (.laload, 1) := by decide +kernel
theorem dL_law_1030 : decode cL_law 1030 = .ok (.lload 6, 2) := by decide +kernel
theorem dL_law_1032 : decode cL_law 1032 = .ok (.lcmp, 1) := by decide +kernel
theorem dL_law_1033 : decode cL_law 1033 = .ok (.ifCond .eq 5, 3) := by decide +kernel
theorem dL_law_1036 : decode cL_law 1036 = .ok (.iconst 0, 1) := by decide +kernel
theorem dL_law_1037 : decode cL_law 1037 = .ok (.ireturn, 1) := by decide +kernel
theorem dL_law_1038 : decode cL_law 1038 = .ok (.goto 271, 3) := by decide +kernel
theorem dL_law_1041 : decode cL_law 1041 = .ok (.aload_n 1, 1) := by decide +kernel
theorem dL_law_1042 : decode cL_law 1042 = .ok (.aload_n 0, 1) := by decide +kernel
theorem dL_law_1043 : decode cL_law 1043 = .ok (.iload 4, 2) := by decide +kernel
theorem dL_law_1045 : decode cL_law 1045 = .ok (.iconst 1, 1) := by decide +kernel
theorem dL_law_1046 : decode cL_law 1046 = .ok (.iadd, 1) := by decide +kernel
theorem dL_law_1047 : decode cL_law 1047 = .ok (.iaload, 1) := by decide +kernel
theorem dL_law_1048 : decode cL_law 1048 = .ok (.aload_n 3, 1) := by decide +kernel
theorem dL_law_1049 : decode cL_law 1049 = .ok (.invokestatic 139, 3) := by decide +kernel
theorem dL_law_1052 : decode cL_law 1052 = .ok (.istore 5, 2) := by decide +kernel
theorem dL_law_1054 : decode cL_law 1054 = .ok (.aload_n 2, 1) := by decide +kernel
theorem dL_law_1055 : decode cL_law 1055 = .ok (.aload_n 0, 1) := by decide +kernel
theorem dL_law_1056 : decode cL_law 1056 = .ok (.iload 4, 2) := by decide +kernel
theorem dL_law_1058 : decode cL_law 1058 = .ok (.iconst 1, 1) := by decide +kernel
theorem dL_law_1059 : decode cL_law 1059 = .ok (.iadd, 1) := by decide +kernel
theorem dL_law_1060 : decode cL_law 1060 = .ok (.iaload, 1) := by decide +kernel
theorem dL_law_1061 : decode cL_law 1061 = .ok (.invokevirtual 141, 3) := by decide +kernel
theorem dL_law_1064 : decode cL_law 1064 = .ok (.istore 6, 2) := by decide +kernel
theorem dL_law_1066 : decode cL_law 1066 = .ok (.aload_n 2, 1) := by decide +kernel
theorem dL_law_1067 : decode cL_law 1067 = .ok (.invokevirtual 76, 3) := by decide +kernel
theorem dL_law_1070 : decode cL_law 1070 = .ok (.iload 5, 2) := by decide +kernel
theorem dL_law_1072 : decode cL_law 1072 = .ok (.if_icmp .eq 5, 3) := by decide +kernel
theorem dL_law_1075 : decode cL_law 1075 = .ok (.iconst 0, 1) := by decide +kernel
theorem dL_law_1076 : decode cL_law 1076 = .ok (.ireturn, 1) := by decide +kernel
theorem dL_law_1077 : decode cL_law 1077 = .ok (.iload 5, 2) := by decide +kernel
theorem dL_law_1079 : decode cL_law 1079 = .ok (.ifCond .ne 15, 3) := by decide +kernel
theorem dL_law_1082 : decode cL_law 1082 = .ok (.aload_n 3, 1) := by decide +kernel
theorem dL_law_1083 : decode cL_law 1083 = .ok (.iconst 0, 1) := by decide +kernel
theorem dL_law_1084 : decode cL_law 1084 = .ok (.laload, 1) := by decide +kernel
theorem dL_law_1085 : decode cL_law 1085 = .ok (.iload 6, 2) := by decide +kernel
theorem dL_law_1087 : decode cL_law 1087 = .ok (.i2l, 1) := by decide +kernel
theorem dL_law_1088 : decode cL_law 1088 = .ok (.lcmp, 1) := by decide +kernel
theorem dL_law_1089 : decode cL_law 1089 = .ok (.ifCond .eq 5, 3) := by decide +kernel
theorem dL_law_1092 : decode cL_law 1092 = .ok (.iconst 0, 1) := by decide +kernel
theorem dL_law_1093 : decode cL_law 1093 = .ok (.ireturn, 1) := by decide +kernel
theorem dL_law_1094 : decode cL_law 1094 = .ok (.goto 215, 3) := by decide +kernel
theorem dL_law_1097 : decode cL_law 1097 = .ok (.aload_n 1, 1) := by decide +kernel
theorem dL_law_1098 : decode cL_law 1098 = .ok (.aload_n 0, 1) := by decide +kernel
theorem dL_law_1099 : decode cL_law 1099 = .ok (.iload 4, 2) := by decide +kernel
theorem dL_law_1101 : decode cL_law 1101 = .ok (.iconst 1, 1) := by decide +kernel
theorem dL_law_1102 : decode cL_law 1102 = .ok (.iadd, 1) := by decide +kernel
theorem dL_law_1103 : decode cL_law 1103 = .ok (.iaload, 1) := by decide +kernel
theorem dL_law_1104 : decode cL_law 1104 = .ok (.aload_n 0, 1) := by decide +kernel
theorem dL_law_1105 : decode cL_law 1105 = .ok (.iload 4, 2) := by decide +kernel
theorem dL_law_1107 : decode cL_law 1107 = .ok (.iconst 2, 1) := by decide +kernel
theorem dL_law_1108 : decode cL_law 1108 = .ok (.iadd, 1) := by decide +kernel
theorem dL_law_1109 : decode cL_law 1109 = .ok (.iaload, 1) := by decide +kernel
theorem dL_law_1110 : decode cL_law 1110 = .ok (.ifCond .eq 7, 3) := by decide +kernel
theorem dL_law_1113 : decode cL_law 1113 = .ok (.iconst 1, 1) := by decide +kernel
theorem dL_law_1114 : decode cL_law 1114 = .ok (.goto 4, 3) := by decide +kernel
theorem dL_law_1117 : decode cL_law 1117 = .ok (.iconst 0, 1) := by decide +kernel
theorem dL_law_1118 : decode cL_law 1118 = .ok (.aload_n 3, 1) := by decide +kernel
theorem dL_law_1119 : decode cL_law 1119 = .ok (.invokestatic 142, 3) := by decide +kernel
theorem dL_law_1122 : decode cL_law 1122 = .ok (.istore 5, 2) := by decide +kernel
theorem dL_law_1124 : decode cL_law 1124 = .ok (.aload_n 2, 1) := by decide +kernel
theorem dL_law_1125 : decode cL_law 1125 = .ok (.aload_n 0, 1) := by decide +kernel
theorem dL_law_1126 : decode cL_law 1126 = .ok (.iload 4, 2) := by decide +kernel
theorem dL_law_1128 : decode cL_law 1128 = .ok (.iconst 1, 1) := by decide +kernel
theorem dL_law_1129 : decode cL_law 1129 = .ok (.iadd, 1) := by decide +kernel
theorem dL_law_1130 : decode cL_law 1130 = .ok (.iaload, 1) := by decide +kernel
theorem dL_law_1131 : decode cL_law 1131 = .ok (.aload_n 0, 1) := by decide +kernel
theorem dL_law_1132 : decode cL_law 1132 = .ok (.iload 4, 2) := by decide +kernel
theorem dL_law_1134 : decode cL_law 1134 = .ok (.iconst 2, 1) := by decide +kernel
theorem dL_law_1135 : decode cL_law 1135 = .ok (.iadd, 1) := by decide +kernel
theorem dL_law_1136 : decode cL_law 1136 = .ok (.iaload, 1) := by decide +kernel
theorem dL_law_1137 : decode cL_law 1137 = .ok (.ifCond .eq 7, 3) := by decide +kernel
theorem dL_law_1140 : decode cL_law 1140 = .ok (.iconst 1, 1) := by decide +kernel
theorem dL_law_1141 : decode cL_law 1141 = .ok (.goto 4, 3) := by decide +kernel
theorem dL_law_1144 : decode cL_law 1144 = .ok (.iconst 0, 1) := by decide +kernel
theorem dL_law_1145 : decode cL_law 1145 = .ok (.invokevirtual 144, 3) := by decide +kernel
theorem dL_law_1148 : decode cL_law 1148 = .ok (.lstore 6, 2) := by decide +kernel
theorem dL_law_1150 : decode cL_law 1150 = .ok (.aload_n 2, 1) := by decide +kernel
theorem dL_law_1151 : decode cL_law 1151 = .ok (.invokevirtual 76, 3) := by decide +kernel
theorem dL_law_1154 : decode cL_law 1154 = .ok (.iload 5, 2) := by decide +kernel
theorem dL_law_1156 : decode cL_law 1156 = .ok (.if_icmp .eq 5, 3) := by decide +kernel
theorem dL_law_1159 : decode cL_law 1159 = .ok (.iconst 0, 1) := by decide +kernel
theorem dL_law_1160 : decode cL_law 1160 = .ok (.ireturn, 1) := by decide +kernel
theorem dL_law_1161 : decode cL_law 1161 = .ok (.iload 5, 2) := by decide +kernel
theorem dL_law_1163 : decode cL_law 1163 = .ok (.ifCond .ne 14, 3) := by decide +kernel
theorem dL_law_1166 : decode cL_law 1166 = .ok (.aload_n 3, 1) := by decide +kernel
theorem dL_law_1167 : decode cL_law 1167 = .ok (.iconst 0, 1) := by decide +kernel
theorem dL_law_1168 : decode cL_law 1168 = .ok (.laload, 1) := by decide +kernel
theorem dL_law_1169 : decode cL_law 1169 = .ok (.lload 6, 2) := by decide +kernel
theorem dL_law_1171 : decode cL_law 1171 = .ok (.lcmp, 1) := by decide +kernel
theorem dL_law_1172 : decode cL_law 1172 = .ok (.ifCond .eq 5, 3) := by decide +kernel
theorem dL_law_1175 : decode cL_law 1175 = .ok (.iconst 0, 1) := by decide +kernel
theorem dL_law_1176 : decode cL_law 1176 = .ok (.ireturn, 1) := by decide +kernel
theorem dL_law_1177 : decode cL_law 1177 = .ok (.goto 132, 3) := by decide +kernel
theorem dL_law_1180 : decode cL_law 1180 = .ok (.aload_n 1, 1) := by decide +kernel
theorem dL_law_1181 : decode cL_law 1181 = .ok (.aload_n 0, 1) := by decide +kernel
theorem dL_law_1182 : decode cL_law 1182 = .ok (.iload 4, 2) := by decide +kernel
theorem dL_law_1184 : decode cL_law 1184 = .ok (.iconst 1, 1) := by decide +kernel
theorem dL_law_1185 : decode cL_law 1185 = .ok (.iadd, 1) := by decide +kernel
theorem dL_law_1186 : decode cL_law 1186 = .ok (.iaload, 1) := by decide +kernel
theorem dL_law_1187 : decode cL_law 1187 = .ok (.aload_n 0, 1) := by decide +kernel
theorem dL_law_1188 : decode cL_law 1188 = .ok (.iload 4, 2) := by decide +kernel
theorem dL_law_1190 : decode cL_law 1190 = .ok (.iconst 2, 1) := by decide +kernel
theorem dL_law_1191 : decode cL_law 1191 = .ok (.iadd, 1) := by decide +kernel
theorem dL_law_1192 : decode cL_law 1192 = .ok (.iaload, 1) := by decide +kernel
theorem dL_law_1193 : decode cL_law 1193 = .ok (.invokestatic 145, 3) := by decide +kernel
theorem dL_law_1196 : decode cL_law 1196 = .ok (.istore 5, 2) := by decide +kernel
theorem dL_law_1198 : decode cL_law 1198 = .ok (.aload_n 2, 1) := by decide +kernel
theorem dL_law_1199 : decode cL_law 1199 = .ok (.aload_n 0, 1) := by decide +kernel
theorem dL_law_1200 : decode cL_law 1200 = .ok (.iload 4, 2) := by decide +kernel
theorem dL_law_1202 : decode cL_law 1202 = .ok (.iconst 1, 1) := by decide +kernel
theorem dL_law_1203 : decode cL_law 1203 = .ok (.iadd, 1) := by decide +kernel
theorem dL_law_1204 : decode cL_law 1204 = .ok (.iaload, 1) := by decide +kernel
theorem dL_law_1205 : decode cL_law 1205 = .ok (.aload_n 0, 1) := by decide +kernel
theorem dL_law_1206 : decode cL_law 1206 = .ok (.iload 4, 2) := by decide +kernel
theorem dL_law_1208 : decode cL_law 1208 = .ok (.iconst 2, 1) := by decide +kernel
theorem dL_law_1209 : decode cL_law 1209 = .ok (.iadd, 1) := by decide +kernel
theorem dL_law_1210 : decode cL_law 1210 = .ok (.iaload, 1) := by decide +kernel
theorem dL_law_1211 : decode cL_law 1211 = .ok (.invokevirtual 147, 3) := by decide +kernel
theorem dL_law_1214 : decode cL_law 1214 = .ok (.aload_n 2, 1) := by decide +kernel
theorem dL_law_1215 : decode cL_law 1215 = .ok (.invokevirtual 76, 3) := by decide +kernel
theorem dL_law_1218 : decode cL_law 1218 = .ok (.iload 5, 2) := by decide +kernel
theorem dL_law_1220 : decode cL_law 1220 = .ok (.if_icmp .eq 5, 3) := by decide +kernel
theorem dL_law_1223 : decode cL_law 1223 = .ok (.iconst 0, 1) := by decide +kernel
theorem dL_law_1224 : decode cL_law 1224 = .ok (.ireturn, 1) := by decide +kernel
theorem dL_law_1225 : decode cL_law 1225 = .ok (.goto 84, 3) := by decide +kernel
theorem dL_law_1228 : decode cL_law 1228 = .ok (.aload_n 1, 1) := by decide +kernel
theorem dL_law_1229 : decode cL_law 1229 = .ok (.aload_n 3, 1) := by decide +kernel
theorem dL_law_1230 : decode cL_law 1230 = .ok (.invokestatic 148, 3) := by decide +kernel
theorem dL_law_1233 : decode cL_law 1233 = .ok (.istore 5, 2) := by decide +kernel
theorem dL_law_1235 : decode cL_law 1235 = .ok (.aload_n 2, 1) := by decide +kernel
theorem dL_law_1236 : decode cL_law 1236 = .ok (.invokevirtual 151, 3) := by decide +kernel
theorem dL_law_1239 : decode cL_law 1239 = .ok (.istore 6, 2) := by decide +kernel
theorem dL_law_1241 : decode cL_law 1241 = .ok (.aload_n 2, 1) := by decide +kernel
theorem dL_law_1242 : decode cL_law 1242 = .ok (.invokevirtual 76, 3) := by decide +kernel
theorem dL_law_1245 : decode cL_law 1245 = .ok (.iload 5, 2) := by decide +kernel
theorem dL_law_1247 : decode cL_law 1247 = .ok (.if_icmp .eq 5, 3) := by decide +kernel
theorem dL_law_1250 : decode cL_law 1250 = .ok (.iconst 0, 1) := by decide +kernel
theorem dL_law_1251 : decode cL_law 1251 = .ok (.ireturn, 1) := by decide +kernel
theorem dL_law_1252 : decode cL_law 1252 = .ok (.iload 5, 2) := by decide +kernel
theorem dL_law_1254 : decode cL_law 1254 = .ok (.ifCond .ne 15, 3) := by decide +kernel
theorem dL_law_1257 : decode cL_law 1257 = .ok (.aload_n 3, 1) := by decide +kernel
theorem dL_law_1258 : decode cL_law 1258 = .ok (.iconst 0, 1) := by decide +kernel
theorem dL_law_1259 : decode cL_law 1259 = .ok (.laload, 1) := by decide +kernel
theorem dL_law_1260 : decode cL_law 1260 = .ok (.iload 6, 2) := by decide +kernel
theorem dL_law_1262 : decode cL_law 1262 = .ok (.i2l, 1) := by decide +kernel
theorem dL_law_1263 : decode cL_law 1263 = .ok (.lcmp, 1) := by decide +kernel
theorem dL_law_1264 : decode cL_law 1264 = .ok (.ifCond .eq 5, 3) := by decide +kernel
theorem dL_law_1267 : decode cL_law 1267 = .ok (.iconst 0, 1) := by decide +kernel
theorem dL_law_1268 : decode cL_law 1268 = .ok (.ireturn, 1) := by decide +kernel
theorem dL_law_1269 : decode cL_law 1269 = .ok (.goto 40, 3) := by decide +kernel
theorem dL_law_1272 : decode cL_law 1272 = .ok (.aload_n 1, 1) := by decide +kernel
theorem dL_law_1273 : decode cL_law 1273 = .ok (.invokevirtual 152, 3) := by decide +kernel
theorem dL_law_1276 : decode cL_law 1276 = .ok (.aload_n 2, 1) := by decide +kernel
theorem dL_law_1277 : decode cL_law 1277 = .ok (.invokevirtual 155, 3) := by decide +kernel
theorem dL_law_1280 : decode cL_law 1280 = .ok (.if_icmp .eq 29, 3) := by decide +kernel
theorem dL_law_1283 : decode cL_law 1283 = .ok (.iconst 0, 1) := by decide +kernel
theorem dL_law_1284 : decode cL_law 1284 = .ok (.ireturn, 1) := by decide +kernel
theorem dL_law_1285 : decode cL_law 1285 = .ok (.aload_n 1, 1) := by decide +kernel
theorem dL_law_1286 : decode cL_law 1286 = .ok (.invokevirtual 156, 3) := by decide +kernel
theorem dL_law_1289 : decode cL_law 1289 = .ok (.aload_n 2, 1) := by decide +kernel
theorem dL_law_1290 : decode cL_law 1290 = .ok (.invokevirtual 159, 3) := by decide +kernel
theorem dL_law_1293 : decode cL_law 1293 = .ok (.goto 16, 3) := by decide +kernel
theorem dL_law_1296 : decode cL_law 1296 = .ok (.aload_n 1, 1) := by decide +kernel
theorem dL_law_1297 : decode cL_law 1297 = .ok (.invokevirtual 160, 3) := by decide +kernel
theorem dL_law_1300 : decode cL_law 1300 = .ok (.aload_n 2, 1) := by decide +kernel
theorem dL_law_1301 : decode cL_law 1301 = .ok (.invokevirtual 164, 3) := by decide +kernel
theorem dL_law_1304 : decode cL_law 1304 = .ok (.if_icmp .eq 5, 3) := by decide +kernel
theorem dL_law_1307 : decode cL_law 1307 = .ok (.iconst 0, 1) := by decide +kernel
theorem dL_law_1308 : decode cL_law 1308 = .ok (.ireturn, 1) := by decide +kernel
theorem dL_law_1309 : decode cL_law 1309 = .ok (.iinc 4 5, 3) := by decide +kernel
theorem dL_law_1312 : decode cL_law 1312 = .ok (.goto (-1289), 3) := by decide +kernel
theorem dL_law_1315 : decode cL_law 1315 = .ok (.iconst 1, 1) := by decide +kernel
theorem dL_law_1316 : decode cL_law 1316 = .ok (.ireturn, 1) := by decide +kernel
abbrev vwCl : List vw_C := [(RX0, TX0, 9), (RX1, TX1, 3), (RX2, TX2, 3), (RX3, TX3, 10), (RX4, TX4, 8), (RX5, TX5, 10), (RX6, TX6, 2), (RX7, TX7, 7), (RX8, TX8, 21)]

