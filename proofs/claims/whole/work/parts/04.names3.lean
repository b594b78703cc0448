theorem dX8_spread_30 : decode cX8_spread 30 = .ok (.getfield 21, 3) := by decide +kernel
theorem dX8_spread_33 : decode cX8_spread 33 = .ok (.iconst 0, 1) := by decide +kernel
theorem dX8_spread_34 : decode cX8_spread 34 = .ok (.iload_n 1, 1) := by decide +kernel
theorem dX8_spread_35 : decode cX8_spread 35 = .ok (.iastore, 1) := by decide +kernel
theorem dX8_spread_36 : decode cX8_spread 36 = .ok (.iconst 1, 1) := by decide +kernel
theorem dX8_spread_37 : decode cX8_spread 37 = .ok (.istore_n 2, 1) := by decide +kernel
theorem dX8_spread_38 : decode cX8_spread 38 = .ok (.iconst 0, 1) := by decide +kernel
theorem dX8_spread_39 : decode cX8_spread 39 = .ok (.istore_n 3, 1) := by decide +kernel
theorem dX8_spread_40 : decode cX8_spread 40 = .ok (.iload_n 3, 1) := by decide +kernel
theorem dX8_spread_41 : decode cX8_spread 41 = .ok (.sipush 1024, 3) := by decide +kernel
theorem dX8_spread_44 : decode cX8_spread 44 = .ok (.if_icmp .ge 108, 3) := by decide +kernel
theorem dX8_spread_47 : decode cX8_spread 47 = .ok (.iload_n 3, 1) := by decide +kernel
theorem dX8_spread_48 : decode cX8_spread 48 = .ok (.iload_n 2, 1) := by decide +kernel
theorem dX8_spread_49 : decode cX8_spread 49 = .ok (.if_icmp .ge 103, 3) := by decide +kernel
theorem dX8_spread_52 : decode cX8_spread 52 = .ok (.iload_n 2, 1) := by decide +kernel
theorem dX8_spread_53 : decode cX8_spread 53 = .ok (.aload_n 0, 1) := by decide +kernel
theorem dX8_spread_54 : decode cX8_spread 54 = .ok (.invokevirtual 110, 3) := by decide +kernel
theorem dX8_spread_57 : decode cX8_spread 57 = .ok (.if_icmp .ge 95, 3) := by decide +kernel
theorem dX8_spread_60 : decode cX8_spread 60 = .ok (.aload_n 0, 1) := by decide +kernel
theorem dX8_spread_61 : decode cX8_spread 61 = .ok (.aload_n 0, 1) := by decide +kernel
theorem dX8_spread_62 : decode cX8_spread 62 = .ok (.getfield 21, 3) := by decide +kernel
theorem dX8_spread_65 : decode cX8_spread 65 = .ok (.iload_n 3, 1) := by decide +kernel
theorem dX8_spread_66 : decode cX8_spread 66 = .ok (.iaload, 1) := by decide +kernel
theorem dX8_spread_67 : decode cX8_spread 67 = .ok (.invokevirtual 113, 3) := by decide +kernel
theorem dX8_spread_70 : decode cX8_spread 70 = .ok (.iconst 0, 1) := by decide +kernel
theorem dX8_spread_71 : decode cX8_spread 71 = .ok (.istore 4, 2) := by decide +kernel
theorem dX8_spread_73 : decode cX8_spread 73 = .ok (.iload 4, 2) := by decide +kernel
theorem dX8_spread_75 : decode cX8_spread 75 = .ok (.aload_n 0, 1) := by decide +kernel
theorem dX8_spread_76 : decode cX8_spread 76 = .ok (.getfield 116, 3) := by decide +kernel
theorem dX8_spread_79 : decode cX8_spread 79 = .ok (.if_icmp .ge 67, 3) := by decide +kernel
theorem dX8_spread_82 : decode cX8_spread 82 = .ok (.aload_n 0, 1) := by decide +kernel
theorem dX8_spread_83 : decode cX8_spread 83 = .ok (.getfield 24, 3) := by decide +kernel
theorem dX8_spread_86 : decode cX8_spread 86 = .ok (.iload 4, 2) := by decide +kernel
theorem dX8_spread_88 : decode cX8_spread 88 = .ok (.iaload, 1) := by decide +kernel
theorem dX8_spread_89 : decode cX8_spread 89 = .ok (.istore 5, 2) := by decide +kernel
theorem dX8_spread_91 : decode cX8_spread 91 = .ok (.aload_n 0, 1) := by decide +kernel
theorem dX8_spread_92 : decode cX8_spread 92 = .ok (.getfield 17, 3) := by decide +kernel
theorem dX8_spread_95 : decode cX8_spread 95 = .ok (.iload 5, 2) := by decide +kernel
theorem dX8_spread_97 : decode cX8_spread 97 = .ok (.iaload, 1) := by decide +kernel
theorem dX8_spread_98 : decode cX8_spread 98 = .ok (.iconst (-1), 1) := by decide +kernel
theorem dX8_spread_99 : decode cX8_spread 99 = .ok (.if_icmp .ne 41, 3) := by decide +kernel
theorem dX8_spread_102 : decode cX8_spread 102 = .ok (.iload_n 2, 1) := by decide +kernel
theorem dX8_spread_103 : decode cX8_spread 103 = .ok (.sipush 1024, 3) := by decide +kernel
theorem dX8_spread_106 : decode cX8_spread 106 = .ok (.if_icmp .ge 34, 3) := by decide +kernel
theorem dX8_spread_109 : decode cX8_spread 109 = .ok (.aload_n 0, 1) := by decide +kernel
theorem dX8_spread_110 : decode cX8_spread 110 = .ok (.getfield 17, 3) := by decide +kernel
theorem dX8_spread_113 : decode cX8_spread 113 = .ok (.iload 5, 2) := by decide +kernel
theorem dX8_spread_115 : decode cX8_spread 115 = .ok (.aload_n 0, 1) := by decide +kernel
theorem dX8_spread_116 : decode cX8_spread 116 = .ok (.getfield 17, 3) := by decide +kernel
theorem dX8_spread_119 : decode cX8_spread 119 = .ok (.aload_n 0, 1) := by decide +kernel
theorem dX8_spread_120 : decode cX8_spread 120 = .ok (.getfield 21, 3) := by decide +kernel
theorem dX8_spread_123 : decode cX8_spread 123 = .ok (.iload_n 3, 1) := by decide +kernel
theorem dX8_spread_124 : decode cX8_spread 124 = .ok (.iaload, 1) := by decide +kernel
theorem dX8_spread_125 : decode cX8_spread 125 = .ok (.iaload, 1) := by decide +kernel
theorem dX8_spread_126 : decode cX8_spread 126 = .ok (.iconst 1, 1) := by decide +kernel
theorem dX8_spread_127 : decode cX8_spread 127 = .ok (.iadd, 1) := by decide +kernel
theorem dX8_spread_128 : decode cX8_spread 128 = .ok (.iastore, 1) := by decide +kernel
theorem dX8_spread_129 : decode cX8_spread 129 = .ok (.aload_n 0, 1) := by decide +kernel
theorem dX8_spread_130 : decode cX8_spread 130 = .ok (.getfield 21, 3) := by decide +kernel
theorem dX8_spread_133 : decode cX8_spread 133 = .ok (.iload_n 2, 1) := by decide +kernel
theorem dX8_spread_134 : decode cX8_spread 134 = .ok (.iload 5, 2) := by decide +kernel
theorem dX8_spread_136 : decode cX8_spread 136 = .ok (.iastore, 1) := by decide +kernel
theorem dX8_spread_137 : decode cX8_spread 137 = .ok (.iinc 2 1, 3) := by decide +kernel
theorem dX8_spread_140 : decode cX8_spread 140 = .ok (.iinc 4 1, 3) := by decide +kernel
theorem dX8_spread_143 : decode cX8_spread 143 = .ok (.goto (-70), 3) := by decide +kernel
theorem dX8_spread_146 : decode cX8_spread 146 = .ok (.iinc 3 1, 3) := by decide +kernel
theorem dX8_spread_149 : decode cX8_spread 149 = .ok (.goto (-109), 3) := by decide +kernel
theorem dX8_spread_152 : decode cX8_spread 152 = .ok (.return_, 1) := by decide +kernel
set_option maxRecDepth 20000 in
theorem ggX8_findNever_X8_stateCount : GoodIn wsX8_findNever wsX8_stateCount := goodIn_r _ [8, 1, 9, 10, 11, 12, 21, 22, 23, 24, 25, 26, 27, 28, 29, 30, 31, 32, 33, 34, 35] (by decide +kernel) (by decide +kernel)
set_option maxRecDepth 20000 in
theorem gX8_findNever_X8_stateCount : GoodIn wsX8_findNever (wsV RX8 110 RX8 yX8_stateCount wsX8_stateCount) := goodIn_app (goodIn_of _ (by decide +kernel)) ggX8_findNever_X8_stateCount
set_option maxRecDepth 20000 in
theorem ggX8_findNever_X8_corner : GoodIn wsX8_findNever wsX8_corner := goodIn_r _ [16, 17, 18, 19, 7, 20, 1, 21, 22, 23, 24, 25, 26, 27, 28, 29, 30, 31, 32, 33, 34, 35] (by decide +kernel) (by decide +kernel)
set_option maxRecDepth 20000 in
theorem gX8_findNever_X8_corner : GoodIn wsX8_findNever (wsV RX8 122 RX8 yX8_corner wsX8_corner) := goodIn_app (goodIn_of _ (by decide +kernel)) ggX8_findNever_X8_corner
theorem dX8_findNever_0 : decode cX8_findNever 0 = .ok (.aload_n 0, 1) := by decide +kernel
theorem dX8_findNever_1 : decode cX8_findNever 1 = .ok (.iconst 1, 1) := by decide +kernel
theorem dX8_findNever_2 : decode cX8_findNever 2 = .ok (.aload_n 0, 1) := by decide +kernel
theorem dX8_findNever_3 : decode cX8_findNever 3 = .ok (.getfield 51, 3) := by decide +kernel
theorem dX8_findNever_6 : decode cX8_findNever 6 = .ok (.ishl, 1) := by decide +kernel
theorem dX8_findNever_7 : decode cX8_findNever 7 = .ok (.iconst 1, 1) := by decide +kernel
theorem dX8_findNever_8 : decode cX8_findNever 8 = .ok (.isub, 1) := by decide +kernel
theorem dX8_findNever_9 : decode cX8_findNever 9 = .ok (.putfield 119, 3) := by decide +kernel
theorem dX8_findNever_12 : decode cX8_findNever 12 = .ok (.iconst 0, 1) := by decide +kernel
theorem dX8_findNever_13 : decode cX8_findNever 13 = .ok (.istore_n 2, 1) := by decide +kernel
theorem dX8_findNever_14 : decode cX8_findNever 14 = .ok (.iload_n 2, 1) := by decide +kernel
theorem dX8_findNever_15 : decode cX8_findNever 15 = .ok (.aload_n 0, 1) := by decide +kernel
theorem dX8_findNever_16 : decode cX8_findNever 16 = .ok (.invokevirtual 110, 3) := by decide +kernel
theorem dX8_findNever_19 : decode cX8_findNever 19 = .ok (.if_icmp .ge 64, 3) := by decide +kernel
theorem dX8_findNever_22 : decode cX8_findNever 22 = .ok (.iconst 0, 1) := by decide +kernel
theorem dX8_findNever_23 : decode cX8_findNever 23 = .ok (.istore_n 3, 1) := by decide +kernel
theorem dX8_findNever_24 : decode cX8_findNever 24 = .ok (.iload_n 3, 1) := by decide +kernel
theorem dX8_findNever_25 : decode cX8_findNever 25 = .ok (.aload_n 0, 1) := by decide +kernel
theorem dX8_findNever_26 : decode cX8_findNever 26 = .ok (.getfield 51, 3) := by decide +kernel
theorem dX8_findNever_29 : decode cX8_findNever 29 = .ok (.if_icmp .ge 48, 3) := by decide +kernel
theorem dX8_findNever_32 : decode cX8_findNever 32 = .ok (.aload_n 0, 1) := by decide +kernel
theorem dX8_findNever_33 : decode cX8_findNever 33 = .ok (.getfield 17, 3) := by decide +kernel
theorem dX8_findNever_36 : decode cX8_findNever 36 = .ok (.iload_n 2, 1) := by decide +kernel
theorem dX8_findNever_37 : decode cX8_findNever 37 = .ok (.iaload, 1) := by decide +kernel
theorem dX8_findNever_38 : decode cX8_findNever 38 = .ok (.iconst (-1), 1) := by decide +kernel
theorem dX8_findNever_39 : decode cX8_findNever 39 = .ok (.if_icmp .eq 38, 3) := by decide +kernel
theorem dX8_findNever_42 : decode cX8_findNever 42 = .ok (.aload_n 0, 1) := by decide +kernel
theorem dX8_findNever_43 : decode cX8_findNever 43 = .ok (.iload_n 2, 1) := by decide +kernel
theorem dX8_findNever_44 : decode cX8_findNever 44 = .ok (.iload_n 3, 1) := by decide +kernel
theorem dX8_findNever_45 : decode cX8_findNever 45 = .ok (.invokevirtual 122, 3) := by decide +kernel
theorem dX8_findNever_48 : decode cX8_findNever 48 = .ok (.aload_n 0, 1) := by decide +kernel
theorem dX8_findNever_49 : decode cX8_findNever 49 = .ok (.iload_n 1, 1) := by decide +kernel
theorem dX8_findNever_50 : decode cX8_findNever 50 = .ok (.iload_n 3, 1) := by decide +kernel
theorem dX8_findNever_51 : decode cX8_findNever 51 = .ok (.invokevirtual 122, 3) := by decide +kernel
theorem dX8_findNever_54 : decode cX8_findNever 54 = .ok (.if_icmp .ne 17, 3) := by decide +kernel
theorem dX8_findNever_57 : decode cX8_findNever 57 = .ok (.aload_n 0, 1) := by decide +kernel
theorem dX8_findNever_58 : decode cX8_findNever 58 = .ok (.dup, 1) := by decide +kernel
theorem dX8_findNever_59 : decode cX8_findNever 59 = .ok (.getfield 119, 3) := by decide +kernel
theorem dX8_findNever_62 : decode cX8_findNever 62 = .ok (.iconst 1, 1) := by decide +kernel
theorem dX8_findNever_63 : decode cX8_findNever 63 = .ok (.iload_n 3, 1) := by decide +kernel
theorem dX8_findNever_64 : decode cX8_findNever 64 = .ok (.ishl, 1) := by decide +kernel
theorem dX8_findNever_65 : decode cX8_findNever 65 = .ok (.iconst (-1), 1) := by decide +kernel
theorem dX8_findNever_66 : decode cX8_findNever 66 = .ok (.ixor, 1) := by decide +kernel
theorem dX8_findNever_67 : decode cX8_findNever 67 = .ok (.iand, 1) := by decide +kernel
theorem dX8_findNever_68 : decode cX8_findNever 68 = .ok (.putfield 119, 3) := by decide +kernel
theorem dX8_findNever_71 : decode cX8_findNever 71 = .ok (.iinc 3 1, 3) := by decide +kernel
theorem dX8_findNever_74 : decode cX8_findNever 74 = .ok (.goto (-50), 3) := by decide +kernel
theorem dX8_findNever_77 : decode cX8_findNever 77 = .ok (.iinc 2 1, 3) := by decide +kernel
theorem dX8_findNever_80 : decode cX8_findNever 80 = .ok (.goto (-66), 3) := by decide +kernel
theorem dX8_findNever_83 : decode cX8_findNever 83 = .ok (.return_, 1) := by decide +kernel
set_option maxRecDepth 20000 in
theorem ggX8_findPath_X8_findNear : GoodIn wsX8_findPath wsX8_findNear := goodIn_r _ [14, 5, 3, 15, 16, 17, 13, 18, 19, 20, 21, 22, 23, 24, 25, 26, 27, 28, 29, 30, 31, 32, 33, 34, 35, 36, 37, 38, 39, 40, 41, 6, 7, 8, 9, 42, 43, 44, 45, 46, 47, 48, 49, 50, 51, 52, 53, 54, 55, 56] (by decide +kernel) (by decide +kernel)
set_option maxRecDepth 20000 in
theorem gX8_findPath_X8_findNear : GoodIn wsX8_findPath (wsV RX8 113 RX8 yX8_findNear wsX8_findNear) := goodIn_app (goodIn_of _ (by decide +kernel)) ggX8_findPath_X8_findNear
theorem dX8_findPath_0 : decode cX8_findPath 0 = .ok (.aload_n 0, 1) := by decide +kernel
theorem dX8_findPath_1 : decode cX8_findPath 1 = .ok (.getfield 30, 3) := by decide +kernel
theorem dX8_findPath_4 : decode cX8_findPath 4 = .ok (.iconst 0, 1) := by decide +kernel
theorem dX8_findPath_5 : decode cX8_findPath 5 = .ok (.iload_n 1, 1) := by decide +kernel
theorem dX8_findPath_6 : decode cX8_findPath 6 = .ok (.iastore, 1) := by decide +kernel
theorem dX8_findPath_7 : decode cX8_findPath 7 = .ok (.iconst 1, 1) := by decide +kernel
theorem dX8_findPath_8 : decode cX8_findPath 8 = .ok (.istore_n 2, 1) := by decide +kernel
theorem dX8_findPath_9 : decode cX8_findPath 9 = .ok (.iload_n 2, 1) := by decide +kernel
theorem dX8_findPath_10 : decode cX8_findPath 10 = .ok (.aload_n 0, 1) := by decide +kernel
theorem dX8_findPath_11 : decode cX8_findPath 11 = .ok (.getfield 86, 3) := by decide +kernel
theorem dX8_findPath_14 : decode cX8_findPath 14 = .ok (.if_icmp .gt 90, 3) := by decide +kernel
theorem dX8_findPath_17 : decode cX8_findPath 17 = .ok (.iload_n 2, 1) := by decide +kernel
theorem dX8_findPath_18 : decode cX8_findPath 18 = .ok (.sipush 1024, 3) := by decide +kernel
theorem dX8_findPath_21 : decode cX8_findPath 21 = .ok (.if_icmp .ge 83, 3) := by decide +kernel
theorem dX8_findPath_24 : decode cX8_findPath 24 = .ok (.aload_n 0, 1) := by decide +kernel
theorem dX8_findPath_25 : decode cX8_findPath 25 = .ok (.aload_n 0, 1) := by decide +kernel
theorem dX8_findPath_26 : decode cX8_findPath 26 = .ok (.getfield 30, 3) := by decide +kernel
theorem dX8_findPath_29 : decode cX8_findPath 29 = .ok (.iload_n 2, 1) := by decide +kernel
theorem dX8_findPath_30 : decode cX8_findPath 30 = .ok (.iconst 1, 1) := by decide +kernel
theorem dX8_findPath_31 : decode cX8_findPath 31 = .ok (.isub, 1) := by decide +kernel
theorem dX8_findPath_32 : decode cX8_findPath 32 = .ok (.iaload, 1) := by decide +kernel
theorem dX8_findPath_33 : decode cX8_findPath 33 = .ok (.invokevirtual 113, 3) := by decide +kernel
theorem dX8_findPath_36 : decode cX8_findPath 36 = .ok (.sipush 1023, 3) := by decide +kernel
theorem dX8_findPath_39 : decode cX8_findPath 39 = .ok (.istore_n 3, 1) := by decide +kernel
theorem dX8_findPath_40 : decode cX8_findPath 40 = .ok (.iconst 0, 1) := by decide +kernel
theorem dX8_findPath_41 : decode cX8_findPath 41 = .ok (.istore 4, 2) := by decide +kernel
theorem dX8_findPath_43 : decode cX8_findPath 43 = .ok (.iload 4, 2) := by decide +kernel
theorem dX8_findPath_45 : decode cX8_findPath 45 = .ok (.aload_n 0, 1) := by decide +kernel
theorem dX8_findPath_46 : decode cX8_findPath 46 = .ok (.getfield 116, 3) := by decide +kernel
theorem dX8_findPath_49 : decode cX8_findPath 49 = .ok (.if_icmp .ge 42, 3) := by decide +kernel
theorem dX8_findPath_52 : decode cX8_findPath 52 = .ok (.aload_n 0, 1) := by decide +kernel
theorem dX8_findPath_53 : decode cX8_findPath 53 = .ok (.getfield 17, 3) := by decide +kernel
theorem dX8_findPath_56 : decode cX8_findPath 56 = .ok (.aload_n 0, 1) := by decide +kernel
theorem dX8_findPath_57 : decode cX8_findPath 57 = .ok (.getfield 24, 3) := by decide +kernel
theorem dX8_findPath_60 : decode cX8_findPath 60 = .ok (.iload 4, 2) := by decide +kernel
theorem dX8_findPath_62 : decode cX8_findPath 62 = .ok (.iaload, 1) := by decide +kernel
theorem dX8_findPath_63 : decode cX8_findPath 63 = .ok (.iaload, 1) := by decide +kernel
theorem dX8_findPath_64 : decode cX8_findPath 64 = .ok (.aload_n 0, 1) := by decide +kernel
theorem dX8_findPath_65 : decode cX8_findPath 65 = .ok (.getfield 86, 3) := by decide +kernel
theorem dX8_findPath_68 : decode cX8_findPath 68 = .ok (.iload_n 2, 1) := by decide +kernel
theorem dX8_findPath_69 : decode cX8_findPath 69 = .ok (.isub, 1) := by decide +kernel
theorem dX8_findPath_70 : decode cX8_findPath 70 = .ok (.if_icmp .ne 15, 3) := by decide +kernel
theorem dX8_findPath_73 : decode cX8_findPath 73 = .ok (.iload_n 3, 1) := by decide +kernel
theorem dX8_findPath_74 : decode cX8_findPath 74 = .ok (.aload_n 0, 1) := by decide +kernel
theorem dX8_findPath_75 : decode cX8_findPath 75 = .ok (.getfield 24, 3) := by decide +kernel
theorem dX8_findPath_78 : decode cX8_findPath 78 = .ok (.iload 4, 2) := by decide +kernel
theorem dX8_findPath_80 : decode cX8_findPath 80 = .ok (.iaload, 1) := by decide +kernel
theorem dX8_findPath_81 : decode cX8_findPath 81 = .ok (.invokestatic 104, 3) := by decide +kernel
theorem dX8_findPath_84 : decode cX8_findPath 84 = .ok (.istore_n 3, 1) := by decide +kernel
theorem dX8_findPath_85 : decode cX8_findPath 85 = .ok (.iinc 4 1, 3) := by decide +kernel
theorem dX8_findPath_88 : decode cX8_findPath 88 = .ok (.goto (-45), 3) := by decide +kernel
theorem dX8_findPath_91 : decode cX8_findPath 91 = .ok (.aload_n 0, 1) := by decide +kernel
theorem dX8_findPath_92 : decode cX8_findPath 92 = .ok (.getfield 30, 3) := by decide +kernel
theorem dX8_findPath_95 : decode cX8_findPath 95 = .ok (.iload_n 2, 1) := by decide +kernel
theorem dX8_findPath_96 : decode cX8_findPath 96 = .ok (.iload_n 3, 1) := by decide +kernel
theorem dX8_findPath_97 : decode cX8_findPath 97 = .ok (.iastore, 1) := by decide +kernel
theorem dX8_findPath_98 : decode cX8_findPath 98 = .ok (.iinc 2 1, 3) := by decide +kernel
theorem dX8_findPath_101 : decode cX8_findPath 101 = .ok (.goto (-92), 3) := by decide +kernel
theorem dX8_findPath_104 : decode cX8_findPath 104 = .ok (.return_, 1) := by decide +kernel
set_option maxRecDepth 20000 in
theorem ggX8_cornerBehind_X9_isWithin : GoodIn wsX8_cornerBehind wsX9_isWithin := goodIn_r _ [4] (by decide +kernel) (by decide +kernel)
set_option maxRecDepth 20000 in
theorem gX8_cornerBehind_X9_isWithin_n125 : GoodIn wsX8_cornerBehind (wsX9_isWithin) := ggX8_cornerBehind_X9_isWithin
set_option maxRecDepth 20000 in
theorem ggX8_cornerBehind_X8_corner : GoodIn wsX8_cornerBehind wsX8_corner := goodIn_r _ [9, 10, 11, 12, 8, 13, 14, 15, 16, 17, 18, 19, 20, 21, 22, 23, 24, 25, 26, 27, 28, 29] (by decide +kernel) (by decide +kernel)
set_option maxRecDepth 20000 in
theorem gX8_cornerBehind_X8_corner : GoodIn wsX8_cornerBehind (wsV RX8 122 RX8 yX8_corner wsX8_corner) := goodIn_app (goodIn_of _ (by decide +kernel)) ggX8_cornerBehind_X8_corner
theorem dX8_cornerBehind_0 : decode cX8_cornerBehind 0 = .ok (.iload_n 1, 1) := by decide +kernel
theorem dX8_cornerBehind_1 : decode cX8_cornerBehind 1 = .ok (.iconst 0, 1) := by decide +kernel
theorem dX8_cornerBehind_2 : decode cX8_cornerBehind 2 = .ok (.sipush 1023, 3) := by decide +kernel
theorem dX8_cornerBehind_5 : decode cX8_cornerBehind 5 = .ok (.invokestatic 125, 3) := by decide +kernel
theorem dX8_cornerBehind_8 : decode cX8_cornerBehind 8 = .ok (.ifCond .eq 17, 3) := by decide +kernel
theorem dX8_cornerBehind_11 : decode cX8_cornerBehind 11 = .ok (.aload_n 0, 1) := by decide +kernel
theorem dX8_cornerBehind_12 : decode cX8_cornerBehind 12 = .ok (.aload_n 0, 1) := by decide +kernel
theorem dX8_cornerBehind_13 : decode cX8_cornerBehind 13 = .ok (.getfield 30, 3) := by decide +kernel
theorem dX8_cornerBehind_16 : decode cX8_cornerBehind 16 = .ok (.iload_n 1, 1) := by decide +kernel
theorem dX8_cornerBehind_17 : decode cX8_cornerBehind 17 = .ok (.iaload, 1) := by decide +kernel
theorem dX8_cornerBehind_18 : decode cX8_cornerBehind 18 = .ok (.iload_n 2, 1) := by decide +kernel
theorem dX8_cornerBehind_19 : decode cX8_cornerBehind 19 = .ok (.invokevirtual 122, 3) := by decide +kernel
theorem dX8_cornerBehind_22 : decode cX8_cornerBehind 22 = .ok (.goto 4, 3) := by decide +kernel
theorem dX8_cornerBehind_25 : decode cX8_cornerBehind 25 = .ok (.iconst (-1), 1) := by decide +kernel
theorem dX8_cornerBehind_26 : decode cX8_cornerBehind 26 = .ok (.ireturn, 1) := by decide +kernel
set_option maxRecDepth 20000 in
theorem ggX8_findNear_X8_gather : GoodIn wsX8_findNear wsX8_gather := goodIn_r _ [7, 8, 9, 10, 11, 12, 6, 13, 35, 36, 37, 38, 39, 40, 41, 42, 43, 44, 45, 46, 47, 48, 49] (by decide +kernel) (by decide +kernel)
set_option maxRecDepth 20000 in
theorem gX8_findNear_X8_gather : GoodIn wsX8_findNear (wsV RX8 129 RX8 yX8_gather wsX8_gather) := goodIn_app (goodIn_of _ (by decide +kernel)) ggX8_findNear_X8_gather
set_option maxRecDepth 20000 in
theorem ggX8_findNear_X8_findChoices : GoodIn wsX8_findNear wsX8_findChoices := goodIn_r _ [17, 18, 19, 20, 21, 22, 6, 23, 24, 9, 25, 26, 35, 36, 37, 38, 39, 40, 41, 42, 43, 44, 45, 46, 47, 48, 49] (by decide +kernel) (by decide +kernel)
set_option maxRecDepth 20000 in
theorem gX8_findNear_X8_findChoices : GoodIn wsX8_findNear (wsV RX8 132 RX8 yX8_findChoices wsX8_findChoices) := goodIn_app (goodIn_of _ (by decide +kernel)) ggX8_findNear_X8_findChoices
set_option maxRecDepth 20000 in
theorem ggX8_findNear_X8_multiply : GoodIn wsX8_findNear wsX8_multiply := goodIn_r _ [30, 18, 2, 1, 19, 31, 32, 33, 34, 35, 36, 37, 38, 39, 40, 41, 42, 43, 44, 45, 46, 47, 48, 49] (by decide +kernel) (by decide +kernel)
set_option maxRecDepth 20000 in
theorem gX8_findNear_X8_multiply : GoodIn wsX8_findNear (wsV RX8 135 RX8 yX8_multiply wsX8_multiply) := goodIn_app (goodIn_of _ (by decide +kernel)) ggX8_findNear_X8_multiply
theorem dX8_findNear_0 : decode cX8_findNear 0 = .ok (.aload_n 0, 1) := by decide +kernel
theorem dX8_findNear_1 : decode cX8_findNear 1 = .ok (.getfield 24, 3) := by decide +kernel
theorem dX8_findNear_4 : decode cX8_findNear 4 = .ok (.iconst 0, 1) := by decide +kernel
theorem dX8_findNear_5 : decode cX8_findNear 5 = .ok (.iconst 0, 1) := by decide +kernel
theorem dX8_findNear_6 : decode cX8_findNear 6 = .ok (.iastore, 1) := by decide +kernel
theorem dX8_findNear_7 : decode cX8_findNear 7 = .ok (.aload_n 0, 1) := by decide +kernel
theorem dX8_findNear_8 : decode cX8_findNear 8 = .ok (.iconst 1, 1) := by decide +kernel
theorem dX8_findNear_9 : decode cX8_findNear 9 = .ok (.putfield 116, 3) := by decide +kernel
theorem dX8_findNear_12 : decode cX8_findNear 12 = .ok (.iconst 0, 1) := by decide +kernel
theorem dX8_findNear_13 : decode cX8_findNear 13 = .ok (.istore_n 2, 1) := by decide +kernel
theorem dX8_findNear_14 : decode cX8_findNear 14 = .ok (.iload_n 2, 1) := by decide +kernel
theorem dX8_findNear_15 : decode cX8_findNear 15 = .ok (.iconst 4, 1) := by decide +kernel
theorem dX8_findNear_16 : decode cX8_findNear 16 = .ok (.if_icmp .ge 24, 3) := by decide +kernel
theorem dX8_findNear_19 : decode cX8_findNear 19 = .ok (.aload_n 0, 1) := by decide +kernel
theorem dX8_findNear_20 : decode cX8_findNear 20 = .ok (.iload_n 2, 1) := by decide +kernel
theorem dX8_findNear_21 : decode cX8_findNear 21 = .ok (.aload_n 0, 1) := by decide +kernel
theorem dX8_findNear_22 : decode cX8_findNear 22 = .ok (.iload_n 1, 1) := by decide +kernel
theorem dX8_findNear_23 : decode cX8_findNear 23 = .ok (.iload_n 2, 1) := by decide +kernel
theorem dX8_findNear_24 : decode cX8_findNear 24 = .ok (.invokevirtual 129, 3) := by decide +kernel
theorem dX8_findNear_27 : decode cX8_findNear 27 = .ok (.invokevirtual 132, 3) := by decide +kernel
theorem dX8_findNear_30 : decode cX8_findNear 30 = .ok (.aload_n 0, 1) := by decide +kernel
theorem dX8_findNear_31 : decode cX8_findNear 31 = .ok (.invokevirtual 135, 3) := by decide +kernel
theorem dX8_findNear_34 : decode cX8_findNear 34 = .ok (.iinc 2 1, 3) := by decide +kernel
theorem dX8_findNear_37 : decode cX8_findNear 37 = .ok (.goto (-23), 3) := by decide +kernel
theorem dX8_findNear_40 : decode cX8_findNear 40 = .ok (.return_, 1) := by decide +kernel
set_option maxRecDepth 20000 in
theorem ggX8_gather_X8_shift : GoodIn wsX8_gather wsX8_shift := goodIn_r _ [7, 1, 8, 9, 10, 11, 12, 13, 14, 15, 16, 17, 18, 19, 20, 21, 22] (by decide +kernel) (by decide +kernel)
set_option maxRecDepth 20000 in
theorem gX8_gather_X8_shift : GoodIn wsX8_gather (wsV RX8 95 RX8 yX8_shift wsX8_shift) := goodIn_app (goodIn_of _ (by decide +kernel)) ggX8_gather_X8_shift
theorem dX8_gather_0 : decode cX8_gather 0 = .ok (.iconst 0, 1) := by decide +kernel
theorem dX8_gather_1 : decode cX8_gather 1 = .ok (.istore_n 3, 1) := by decide +kernel
theorem dX8_gather_2 : decode cX8_gather 2 = .ok (.iconst 0, 1) := by decide +kernel
theorem dX8_gather_3 : decode cX8_gather 3 = .ok (.istore 4, 2) := by decide +kernel
theorem dX8_gather_5 : decode cX8_gather 5 = .ok (.iload 4, 2) := by decide +kernel
theorem dX8_gather_7 : decode cX8_gather 7 = .ok (.aload_n 0, 1) := by decide +kernel
theorem dX8_gather_8 : decode cX8_gather 8 = .ok (.getfield 51, 3) := by decide +kernel
theorem dX8_gather_11 : decode cX8_gather 11 = .ok (.if_icmp .ge 43, 3) := by decide +kernel
theorem dX8_gather_14 : decode cX8_gather 14 = .ok (.aload_n 0, 1) := by decide +kernel
theorem dX8_gather_15 : decode cX8_gather 15 = .ok (.iload 4, 2) := by decide +kernel
theorem dX8_gather_17 : decode cX8_gather 17 = .ok (.invokevirtual 95, 3) := by decide +kernel
theorem dX8_gather_20 : decode cX8_gather 20 = .ok (.istore 5, 2) := by decide +kernel
theorem dX8_gather_22 : decode cX8_gather 22 = .ok (.iload_n 1, 1) := by decide +kernel
theorem dX8_gather_23 : decode cX8_gather 23 = .ok (.iload 5, 2) := by decide +kernel
theorem dX8_gather_25 : decode cX8_gather 25 = .ok (.ishr, 1) := by decide +kernel
theorem dX8_gather_26 : decode cX8_gather 26 = .ok (.iconst 3, 1) := by decide +kernel
theorem dX8_gather_27 : decode cX8_gather 27 = .ok (.iand, 1) := by decide +kernel
theorem dX8_gather_28 : decode cX8_gather 28 = .ok (.iload_n 2, 1) := by decide +kernel
theorem dX8_gather_29 : decode cX8_gather 29 = .ok (.if_icmp .ne 19, 3) := by decide +kernel
theorem dX8_gather_32 : decode cX8_gather 32 = .ok (.iload_n 3, 1) := by decide +kernel
theorem dX8_gather_33 : decode cX8_gather 33 = .ok (.iconst 5, 1) := by decide +kernel
theorem dX8_gather_34 : decode cX8_gather 34 = .ok (.if_icmp .ge 14, 3) := by decide +kernel
theorem dX8_gather_37 : decode cX8_gather 37 = .ok (.aload_n 0, 1) := by decide +kernel
theorem dX8_gather_38 : decode cX8_gather 38 = .ok (.getfield 33, 3) := by decide +kernel
theorem dX8_gather_41 : decode cX8_gather 41 = .ok (.iload_n 3, 1) := by decide +kernel
theorem dX8_gather_42 : decode cX8_gather 42 = .ok (.iload 5, 2) := by decide +kernel
theorem dX8_gather_44 : decode cX8_gather 44 = .ok (.iastore, 1) := by decide +kernel
theorem dX8_gather_45 : decode cX8_gather 45 = .ok (.iinc 3 1, 3) := by decide +kernel
theorem dX8_gather_48 : decode cX8_gather 48 = .ok (.iinc 4 1, 3) := by decide +kernel
theorem dX8_gather_51 : decode cX8_gather 51 = .ok (.goto (-46), 3) := by decide +kernel
theorem dX8_gather_54 : decode cX8_gather 54 = .ok (.iload_n 3, 1) := by decide +kernel
theorem dX8_gather_55 : decode cX8_gather 55 = .ok (.ireturn, 1) := by decide +kernel
set_option maxRecDepth 20000 in
theorem ggX8_findChoices_X8_chosen : GoodIn wsX8_findChoices wsX8_chosen := goodIn_r _ [7, 8, 9, 10, 11, 12, 13, 14, 15, 16, 17, 18, 19, 20, 21, 22, 23, 24, 25, 26] (by decide +kernel) (by decide +kernel)
set_option maxRecDepth 20000 in
theorem gX8_findChoices_X8_chosen : GoodIn wsX8_findChoices (wsV RX8 141 RX8 yX8_chosen wsX8_chosen) := goodIn_app (goodIn_of _ (by decide +kernel)) ggX8_findChoices_X8_chosen
theorem dX8_findChoices_0 : decode cX8_findChoices 0 = .ok (.aload_n 0, 1) := by decide +kernel
theorem dX8_findChoices_1 : decode cX8_findChoices 1 = .ok (.iconst 0, 1) := by decide +kernel
theorem dX8_findChoices_2 : decode cX8_findChoices 2 = .ok (.putfield 138, 3) := by decide +kernel
theorem dX8_findChoices_5 : decode cX8_findChoices 5 = .ok (.iconst 0, 1) := by decide +kernel
theorem dX8_findChoices_6 : decode cX8_findChoices 6 = .ok (.istore_n 3, 1) := by decide +kernel
theorem dX8_findChoices_7 : decode cX8_findChoices 7 = .ok (.iload_n 3, 1) := by decide +kernel
theorem dX8_findChoices_8 : decode cX8_findChoices 8 = .ok (.iconst 1, 1) := by decide +kernel
theorem dX8_findChoices_9 : decode cX8_findChoices 9 = .ok (.iconst 2, 1) := by decide +kernel
theorem dX8_findChoices_10 : decode cX8_findChoices 10 = .ok (.iload_n 2, 1) := by decide +kernel
theorem dX8_findChoices_11 : decode cX8_findChoices 11 = .ok (.imul, 1) := by decide +kernel
theorem dX8_findChoices_12 : decode cX8_findChoices 12 = .ok (.ishl, 1) := by decide +kernel
theorem dX8_findChoices_13 : decode cX8_findChoices 13 = .ok (.if_icmp .ge 55, 3) := by decide +kernel
theorem dX8_findChoices_16 : decode cX8_findChoices 16 = .ok (.aload_n 0, 1) := by decide +kernel
theorem dX8_findChoices_17 : decode cX8_findChoices 17 = .ok (.iload_n 3, 1) := by decide +kernel
theorem dX8_findChoices_18 : decode cX8_findChoices 18 = .ok (.iload_n 1, 1) := by decide +kernel
theorem dX8_findChoices_19 : decode cX8_findChoices 19 = .ok (.iload_n 2, 1) := by decide +kernel
theorem dX8_findChoices_20 : decode cX8_findChoices 20 = .ok (.invokevirtual 141, 3) := by decide +kernel
theorem dX8_findChoices_23 : decode cX8_findChoices 23 = .ok (.istore 4, 2) := by decide +kernel
theorem dX8_findChoices_25 : decode cX8_findChoices 25 = .ok (.iload 4, 2) := by decide +kernel
theorem dX8_findChoices_27 : decode cX8_findChoices 27 = .ok (.iconst (-1), 1) := by decide +kernel
theorem dX8_findChoices_28 : decode cX8_findChoices 28 = .ok (.if_icmp .eq 34, 3) := by decide +kernel
theorem dX8_findChoices_31 : decode cX8_findChoices 31 = .ok (.aload_n 0, 1) := by decide +kernel
theorem dX8_findChoices_32 : decode cX8_findChoices 32 = .ok (.getfield 138, 3) := by decide +kernel
theorem dX8_findChoices_35 : decode cX8_findChoices 35 = .ok (.sipush 1024, 3) := by decide +kernel
theorem dX8_findChoices_38 : decode cX8_findChoices 38 = .ok (.if_icmp .ge 24, 3) := by decide +kernel
theorem dX8_findChoices_41 : decode cX8_findChoices 41 = .ok (.aload_n 0, 1) := by decide +kernel
theorem dX8_findChoices_42 : decode cX8_findChoices 42 = .ok (.getfield 27, 3) := by decide +kernel
theorem dX8_findChoices_45 : decode cX8_findChoices 45 = .ok (.aload_n 0, 1) := by decide +kernel
theorem dX8_findChoices_46 : decode cX8_findChoices 46 = .ok (.getfield 138, 3) := by decide +kernel
theorem dX8_findChoices_49 : decode cX8_findChoices 49 = .ok (.iload 4, 2) := by decide +kernel
theorem dX8_findChoices_51 : decode cX8_findChoices 51 = .ok (.iastore, 1) := by decide +kernel
theorem dX8_findChoices_52 : decode cX8_findChoices 52 = .ok (.aload_n 0, 1) := by decide +kernel
theorem dX8_findChoices_53 : decode cX8_findChoices 53 = .ok (.dup, 1) := by decide +kernel
theorem dX8_findChoices_54 : decode cX8_findChoices 54 = .ok (.getfield 138, 3) := by decide +kernel
theorem dX8_findChoices_57 : decode cX8_findChoices 57 = .ok (.iconst 1, 1) := by decide +kernel
theorem dX8_findChoices_58 : decode cX8_findChoices 58 = .ok (.iadd, 1) := by decide +kernel
theorem dX8_findChoices_59 : decode cX8_findChoices 59 = .ok (.putfield 138, 3) := by decide +kernel
theorem dX8_findChoices_62 : decode cX8_findChoices 62 = .ok (.iinc 3 1, 3) := by decide +kernel
theorem dX8_findChoices_65 : decode cX8_findChoices 65 = .ok (.goto (-58), 3) := by decide +kernel
theorem dX8_findChoices_68 : decode cX8_findChoices 68 = .ok (.return_, 1) := by decide +kernel
theorem dX8_chosen_0 : decode cX8_chosen 0 = .ok (.iconst 0, 1) := by decide +kernel
theorem dX8_chosen_1 : decode cX8_chosen 1 = .ok (.istore 4, 2) := by decide +kernel
theorem dX8_chosen_3 : decode cX8_chosen 3 = .ok (.iload 4, 2) := by decide +kernel
theorem dX8_chosen_5 : decode cX8_chosen 5 = .ok (.iconst 4, 1) := by decide +kernel
theorem dX8_chosen_6 : decode cX8_chosen 6 = .ok (.if_icmp .ge 17, 3) := by decide +kernel
theorem dX8_chosen_9 : decode cX8_chosen 9 = .ok (.aload_n 0, 1) := by decide +kernel
theorem dX8_chosen_10 : decode cX8_chosen 10 = .ok (.getfield 36, 3) := by decide +kernel
theorem dX8_chosen_13 : decode cX8_chosen 13 = .ok (.iload 4, 2) := by decide +kernel
theorem dX8_chosen_15 : decode cX8_chosen 15 = .ok (.iconst 0, 1) := by decide +kernel
theorem dX8_chosen_16 : decode cX8_chosen 16 = .ok (.iastore, 1) := by decide +kernel
theorem dX8_chosen_17 : decode cX8_chosen 17 = .ok (.iinc 4 1, 3) := by decide +kernel
theorem dX8_chosen_20 : decode cX8_chosen 20 = .ok (.goto (-17), 3) := by decide +kernel
theorem dX8_chosen_23 : decode cX8_chosen 23 = .ok (.iconst 0, 1) := by decide +kernel
theorem dX8_chosen_24 : decode cX8_chosen 24 = .ok (.istore 4, 2) := by decide +kernel
theorem dX8_chosen_26 : decode cX8_chosen 26 = .ok (.iconst 0, 1) := by decide +kernel
theorem dX8_chosen_27 : decode cX8_chosen 27 = .ok (.istore 5, 2) := by decide +kernel
theorem dX8_chosen_29 : decode cX8_chosen 29 = .ok (.iload 5, 2) := by decide +kernel
theorem dX8_chosen_31 : decode cX8_chosen 31 = .ok (.iload_n 3, 1) := by decide +kernel
theorem dX8_chosen_32 : decode cX8_chosen 32 = .ok (.if_icmp .ge 45, 3) := by decide +kernel
theorem dX8_chosen_35 : decode cX8_chosen 35 = .ok (.iload_n 1, 1) := by decide +kernel
theorem dX8_chosen_36 : decode cX8_chosen 36 = .ok (.iconst 2, 1) := by decide +kernel
theorem dX8_chosen_37 : decode cX8_chosen 37 = .ok (.iload 5, 2) := by decide +kernel
theorem dX8_chosen_39 : decode cX8_chosen 39 = .ok (.imul, 1) := by decide +kernel
theorem dX8_chosen_40 : decode cX8_chosen 40 = .ok (.ishr, 1) := by decide +kernel
theorem dX8_chosen_41 : decode cX8_chosen 41 = .ok (.iconst 3, 1) := by decide +kernel
theorem dX8_chosen_42 : decode cX8_chosen 42 = .ok (.iand, 1) := by decide +kernel
theorem dX8_chosen_43 : decode cX8_chosen 43 = .ok (.istore 6, 2) := by decide +kernel
theorem dX8_chosen_45 : decode cX8_chosen 45 = .ok (.aload_n 0, 1) := by decide +kernel
theorem dX8_chosen_46 : decode cX8_chosen 46 = .ok (.getfield 36, 3) := by decide +kernel
theorem dX8_chosen_49 : decode cX8_chosen 49 = .ok (.iload 6, 2) := by decide +kernel
theorem dX8_chosen_51 : decode cX8_chosen 51 = .ok (.dup2, 1) := by decide +kernel
theorem dX8_chosen_52 : decode cX8_chosen 52 = .ok (.iaload, 1) := by decide +kernel
theorem dX8_chosen_53 : decode cX8_chosen 53 = .ok (.iconst 1, 1) := by decide +kernel
theorem dX8_chosen_54 : decode cX8_chosen 54 = .ok (.iadd, 1) := by decide +kernel
theorem dX8_chosen_55 : decode cX8_chosen 55 = .ok (.iastore, 1) := by decide +kernel
theorem dX8_chosen_56 : decode cX8_chosen 56 = .ok (.iload 4, 2) := by decide +kernel
theorem dX8_chosen_58 : decode cX8_chosen 58 = .ok (.iload 6, 2) := by decide +kernel
theorem dX8_chosen_60 : decode cX8_chosen 60 = .ok (.aload_n 0, 1) := by decide +kernel
theorem dX8_chosen_61 : decode cX8_chosen 61 = .ok (.getfield 33, 3) := by decide +kernel
theorem dX8_chosen_64 : decode cX8_chosen 64 = .ok (.iload 5, 2) := by decide +kernel
theorem dX8_chosen_66 : decode cX8_chosen 66 = .ok (.iaload, 1) := by decide +kernel
theorem dX8_chosen_67 : decode cX8_chosen 67 = .ok (.ishl, 1) := by decide +kernel
theorem dX8_chosen_68 : decode cX8_chosen 68 = .ok (.ior, 1) := by decide +kernel
theorem dX8_chosen_69 : decode cX8_chosen 69 = .ok (.istore 4, 2) := by decide +kernel
theorem dX8_chosen_71 : decode cX8_chosen 71 = .ok (.iinc 5 1, 3) := by decide +kernel
theorem dX8_chosen_74 : decode cX8_chosen 74 = .ok (.goto (-45), 3) := by decide +kernel
theorem dX8_chosen_77 : decode cX8_chosen 77 = .ok (.iconst 0, 1) := by decide +kernel
theorem dX8_chosen_78 : decode cX8_chosen 78 = .ok (.istore 5, 2) := by decide +kernel
theorem dX8_chosen_80 : decode cX8_chosen 80 = .ok (.iload 5, 2) := by decide +kernel
theorem dX8_chosen_82 : decode cX8_chosen 82 = .ok (.iconst 4, 1) := by decide +kernel
theorem dX8_chosen_83 : decode cX8_chosen 83 = .ok (.if_icmp .ge 86, 3) := by decide +kernel
theorem dX8_chosen_86 : decode cX8_chosen 86 = .ok (.aload_n 0, 1) := by decide +kernel
theorem dX8_chosen_87 : decode cX8_chosen 87 = .ok (.getfield 57, 3) := by decide +kernel
theorem dX8_chosen_90 : decode cX8_chosen 90 = .ok (.iconst 4, 1) := by decide +kernel
theorem dX8_chosen_91 : decode cX8_chosen 91 = .ok (.iload_n 2, 1) := by decide +kernel
theorem dX8_chosen_92 : decode cX8_chosen 92 = .ok (.imul, 1) := by decide +kernel
theorem dX8_chosen_93 : decode cX8_chosen 93 = .ok (.iload 5, 2) := by decide +kernel
theorem dX8_chosen_95 : decode cX8_chosen 95 = .ok (.iadd, 1) := by decide +kernel
theorem dX8_chosen_96 : decode cX8_chosen 96 = .ok (.ishr, 1) := by decide +kernel
theorem dX8_chosen_97 : decode cX8_chosen 97 = .ok (.iconst 1, 1) := by decide +kernel
theorem dX8_chosen_98 : decode cX8_chosen 98 = .ok (.iand, 1) := by decide +kernel
theorem dX8_chosen_99 : decode cX8_chosen 99 = .ok (.iconst 1, 1) := by decide +kernel
theorem dX8_chosen_100 : decode cX8_chosen 100 = .ok (.if_icmp .ne 7, 3) := by decide +kernel
theorem dX8_chosen_103 : decode cX8_chosen 103 = .ok (.iconst 1, 1) := by decide +kernel
theorem dX8_chosen_104 : decode cX8_chosen 104 = .ok (.goto 4, 3) := by decide +kernel
theorem dX8_chosen_107 : decode cX8_chosen 107 = .ok (.iconst 0, 1) := by decide +kernel
theorem dX8_chosen_108 : decode cX8_chosen 108 = .ok (.istore 6, 2) := by decide +kernel
theorem dX8_chosen_110 : decode cX8_chosen 110 = .ok (.iload 6, 2) := by decide +kernel
theorem dX8_chosen_112 : decode cX8_chosen 112 = .ok (.ifCond .eq 25, 3) := by decide +kernel
theorem dX8_chosen_115 : decode cX8_chosen 115 = .ok (.aload_n 0, 1) := by decide +kernel
theorem dX8_chosen_116 : decode cX8_chosen 116 = .ok (.getfield 60, 3) := by decide +kernel
theorem dX8_chosen_119 : decode cX8_chosen 119 = .ok (.aload_n 0, 1) := by decide +kernel
theorem dX8_chosen_120 : decode cX8_chosen 120 = .ok (.getfield 36, 3) := by decide +kernel
theorem dX8_chosen_123 : decode cX8_chosen 123 = .ok (.iload 5, 2) := by decide +kernel
theorem dX8_chosen_125 : decode cX8_chosen 125 = .ok (.iaload, 1) := by decide +kernel
theorem dX8_chosen_126 : decode cX8_chosen 126 = .ok (.ishr, 1) := by decide +kernel
theorem dX8_chosen_127 : decode cX8_chosen 127 = .ok (.iconst 1, 1) := by decide +kernel
theorem dX8_chosen_128 : decode cX8_chosen 128 = .ok (.iand, 1) := by decide +kernel
theorem dX8_chosen_129 : decode cX8_chosen 129 = .ok (.iconst 1, 1) := by decide +kernel
theorem dX8_chosen_130 : decode cX8_chosen 130 = .ok (.if_icmp .ne 7, 3) := by decide +kernel
theorem dX8_chosen_133 : decode cX8_chosen 133 = .ok (.iconst 1, 1) := by decide +kernel
theorem dX8_chosen_134 : decode cX8_chosen 134 = .ok (.goto 4, 3) := by decide +kernel
theorem dX8_chosen_137 : decode cX8_chosen 137 = .ok (.iconst 0, 1) := by decide +kernel
theorem dX8_chosen_138 : decode cX8_chosen 138 = .ok (.istore 7, 2) := by decide +kernel
theorem dX8_chosen_140 : decode cX8_chosen 140 = .ok (.iload 5, 2) := by decide +kernel
theorem dX8_chosen_142 : decode cX8_chosen 142 = .ok (.iload_n 2, 1) := by decide +kernel
theorem dX8_chosen_143 : decode cX8_chosen 143 = .ok (.if_icmp .eq 20, 3) := by decide +kernel
theorem dX8_chosen_146 : decode cX8_chosen 146 = .ok (.aload_n 0, 1) := by decide +kernel
theorem dX8_chosen_147 : decode cX8_chosen 147 = .ok (.getfield 36, 3) := by decide +kernel
theorem dX8_chosen_150 : decode cX8_chosen 150 = .ok (.iload 5, 2) := by decide +kernel
theorem dX8_chosen_152 : decode cX8_chosen 152 = .ok (.iaload, 1) := by decide +kernel
theorem dX8_chosen_153 : decode cX8_chosen 153 = .ok (.ifCond .le 10, 3) := by decide +kernel
theorem dX8_chosen_156 : decode cX8_chosen 156 = .ok (.iload 7, 2) := by decide +kernel
theorem dX8_chosen_158 : decode cX8_chosen 158 = .ok (.ifCond .ne 5, 3) := by decide +kernel
theorem dX8_chosen_161 : decode cX8_chosen 161 = .ok (.iconst (-1), 1) := by decide +kernel
theorem dX8_chosen_162 : decode cX8_chosen 162 = .ok (.ireturn, 1) := by decide +kernel
theorem dX8_chosen_163 : decode cX8_chosen 163 = .ok (.iinc 5 1, 3) := by decide +kernel
theorem dX8_chosen_166 : decode cX8_chosen 166 = .ok (.goto (-86), 3) := by decide +kernel
theorem dX8_chosen_169 : decode cX8_chosen 169 = .ok (.iload 4, 2) := by decide +kernel
theorem dX8_chosen_171 : decode cX8_chosen 171 = .ok (.ireturn, 1) := by decide +kernel
theorem dX8_multiply_0 : decode cX8_multiply 0 = .ok (.aload_n 0, 1) := by decide +kernel
theorem dX8_multiply_1 : decode cX8_multiply 1 = .ok (.getfield 138, 3) := by decide +kernel
theorem dX8_multiply_4 : decode cX8_multiply 4 = .ok (.iconst 1, 1) := by decide +kernel
theorem dX8_multiply_5 : decode cX8_multiply 5 = .ok (.isub, 1) := by decide +kernel
theorem dX8_multiply_6 : decode cX8_multiply 6 = .ok (.istore_n 1, 1) := by decide +kernel
theorem dX8_multiply_7 : decode cX8_multiply 7 = .ok (.iload_n 1, 1) := by decide +kernel
theorem dX8_multiply_8 : decode cX8_multiply 8 = .ok (.ifCond .lt 60, 3) := by decide +kernel
theorem dX8_multiply_11 : decode cX8_multiply 11 = .ok (.iconst 0, 1) := by decide +kernel
theorem dX8_multiply_12 : decode cX8_multiply 12 = .ok (.istore_n 2, 1) := by decide +kernel
theorem dX8_multiply_13 : decode cX8_multiply 13 = .ok (.iload_n 2, 1) := by decide +kernel
theorem dX8_multiply_14 : decode cX8_multiply 14 = .ok (.aload_n 0, 1) := by decide +kernel
theorem dX8_multiply_15 : decode cX8_multiply 15 = .ok (.getfield 116, 3) := by decide +kernel
theorem dX8_multiply_18 : decode cX8_multiply 18 = .ok (.if_icmp .ge 44, 3) := by decide +kernel
theorem dX8_multiply_21 : decode cX8_multiply 21 = .ok (.aload_n 0, 1) := by decide +kernel
theorem dX8_multiply_22 : decode cX8_multiply 22 = .ok (.getfield 116, 3) := by decide +kernel
theorem dX8_multiply_25 : decode cX8_multiply 25 = .ok (.iload_n 1, 1) := by decide +kernel
theorem dX8_multiply_26 : decode cX8_multiply 26 = .ok (.imul, 1) := by decide +kernel
theorem dX8_multiply_27 : decode cX8_multiply 27 = .ok (.iload_n 2, 1) := by decide +kernel
theorem dX8_multiply_28 : decode cX8_multiply 28 = .ok (.iadd, 1) := by decide +kernel
theorem dX8_multiply_29 : decode cX8_multiply 29 = .ok (.istore_n 3, 1) := by decide +kernel
theorem dX8_multiply_30 : decode cX8_multiply 30 = .ok (.iload_n 3, 1) := by decide +kernel
theorem dX8_multiply_31 : decode cX8_multiply 31 = .ok (.sipush 1024, 3) := by decide +kernel
theorem dX8_multiply_34 : decode cX8_multiply 34 = .ok (.if_icmp .ge 22, 3) := by decide +kernel
theorem dX8_multiply_37 : decode cX8_multiply 37 = .ok (.aload_n 0, 1) := by decide +kernel
theorem dX8_multiply_38 : decode cX8_multiply 38 = .ok (.getfield 24, 3) := by decide +kernel
theorem dX8_multiply_41 : decode cX8_multiply 41 = .ok (.iload_n 3, 1) := by decide +kernel
theorem dX8_multiply_42 : decode cX8_multiply 42 = .ok (.aload_n 0, 1) := by decide +kernel
theorem dX8_multiply_43 : decode cX8_multiply 43 = .ok (.getfield 24, 3) := by decide +kernel
theorem dX8_multiply_46 : decode cX8_multiply 46 = .ok (.iload_n 2, 1) := by decide +kernel
theorem dX8_multiply_47 : decode cX8_multiply 47 = .ok (.iaload, 1) := by decide +kernel
theorem dX8_multiply_48 : decode cX8_multiply 48 = .ok (.aload_n 0, 1) := by decide +kernel
theorem dX8_multiply_49 : decode cX8_multiply 49 = .ok (.getfield 27, 3) := by decide +kernel
theorem dX8_multiply_52 : decode cX8_multiply 52 = .ok (.iload_n 1, 1) := by decide +kernel
theorem dX8_multiply_53 : decode cX8_multiply 53 = .ok (.iaload, 1) := by decide +kernel
theorem dX8_multiply_54 : decode cX8_multiply 54 = .ok (.ior, 1) := by decide +kernel
theorem dX8_multiply_55 : decode cX8_multiply 55 = .ok (.iastore, 1) := by decide +kernel
theorem dX8_multiply_56 : decode cX8_multiply 56 = .ok (.iinc 2 1, 3) := by decide +kernel
theorem dX8_multiply_59 : decode cX8_multiply 59 = .ok (.goto (-46), 3) := by decide +kernel
theorem dX8_multiply_62 : decode cX8_multiply 62 = .ok (.iinc 1 (-1), 3) := by decide +kernel
theorem dX8_multiply_65 : decode cX8_multiply 65 = .ok (.goto (-58), 3) := by decide +kernel
theorem dX8_multiply_68 : decode cX8_multiply 68 = .ok (.aload_n 0, 1) := by decide +kernel
theorem dX8_multiply_69 : decode cX8_multiply 69 = .ok (.aload_n 0, 1) := by decide +kernel
theorem dX8_multiply_70 : decode cX8_multiply 70 = .ok (.getfield 116, 3) := by decide +kernel
theorem dX8_multiply_73 : decode cX8_multiply 73 = .ok (.aload_n 0, 1) := by decide +kernel
theorem dX8_multiply_74 : decode cX8_multiply 74 = .ok (.getfield 138, 3) := by decide +kernel
theorem dX8_multiply_77 : decode cX8_multiply 77 = .ok (.imul, 1) := by decide +kernel
theorem dX8_multiply_78 : decode cX8_multiply 78 = .ok (.sipush 1024, 3) := by decide +kernel
theorem dX8_multiply_81 : decode cX8_multiply 81 = .ok (.invokestatic 104, 3) := by decide +kernel
theorem dX8_multiply_84 : decode cX8_multiply 84 = .ok (.putfield 116, 3) := by decide +kernel
theorem dX8_multiply_87 : decode cX8_multiply 87 = .ok (.return_, 1) := by decide +kernel
set_option maxRecDepth 20000 in
theorem ggX9_init_X1_init : GoodIn wsX9_init wsX1_init := goodIn_r _ [38, 39, 2, 3, 40, 41, 42, 43, 44, 45, 46, 47, 48, 49, 50, 51, 52, 53, 54, 55, 56, 57, 58, 59, 60, 61, 62, 63, 64, 65, 66, 67, 68, 69, 70, 71, 72, 9, 73, 74, 75, 76, 77, 78, 79, 129, 130, 131, 132, 133, 134, 135, 136, 137, 138, 191, 192, 193, 194, 195, 196, 197, 198, 199] (by decide +kernel) (by decide +kernel)
set_option maxRecDepth 20000 in
theorem gX9_init_X1_init : GoodIn wsX9_init (wsX1_init) := ggX9_init_X1_init
set_option maxRecDepth 20000 in
theorem ggX9_init_X3_init : GoodIn wsX9_init wsX3_init := goodIn_r _ [81, 82, 2, 3, 83, 43, 44, 84, 85, 47, 48, 86, 55, 56, 57, 58, 59, 60, 61, 62, 63, 64, 65, 66, 67, 68, 69, 70, 71, 72, 9, 73, 87, 191, 192, 193, 194, 195, 196, 197, 151, 152, 153, 154, 155, 156, 198, 199] (by decide +kernel) (by decide +kernel)
set_option maxRecDepth 20000 in
theorem gX9_init_X3_init_n30 : GoodIn wsX9_init (wsX3_init) := ggX9_init_X3_init
set_option maxRecDepth 20000 in
theorem ggX9_init_X0_init : GoodIn wsX9_init wsX0_init := goodIn_r _ [89, 90, 2, 3, 91, 47, 48, 92, 93, 94, 66, 67, 68, 69, 70, 71, 72, 9, 73, 198, 199, 157, 158] (by decide +kernel) (by decide +kernel)
set_option maxRecDepth 20000 in
theorem gX9_init_X0_init_n37 : GoodIn wsX9_init (wsX0_init) := ggX9_init_X0_init
set_option maxRecDepth 20000 in
theorem ggX9_init_X4_init : GoodIn wsX9_init wsX4_init := goodIn_r _ [96, 97, 2, 3, 9, 98, 99, 100, 101, 102, 159, 160, 161, 162] (by decide +kernel) (by decide +kernel)
set_option maxRecDepth 20000 in
theorem gX9_init_X4_init_n44 : GoodIn wsX9_init (wsX4_init) := ggX9_init_X4_init
set_option maxRecDepth 20000 in
theorem ggX9_init_X6_init : GoodIn wsX9_init wsX6_init := goodIn_r _ [104, 105, 2, 3, 9, 106, 101, 107, 108, 109, 110, 163, 164, 165, 166, 167, 168] (by decide +kernel) (by decide +kernel)
set_option maxRecDepth 20000 in
theorem gX9_init_X6_init_n51 : GoodIn wsX9_init (wsX6_init) := ggX9_init_X6_init
set_option maxRecDepth 20000 in
theorem ggX9_init_X8_init : GoodIn wsX9_init wsX8_init := goodIn_r _ [112, 113, 2, 3, 114, 115, 9, 116, 117, 118, 119, 120, 121, 122, 169, 170, 171, 172, 173, 174, 175, 176, 177, 178, 179, 180, 181, 182, 183] (by decide +kernel) (by decide +kernel)
set_option maxRecDepth 20000 in
theorem gX9_init_X8_init_n58 : GoodIn wsX9_init (wsX8_init) := ggX9_init_X8_init
set_option maxRecDepth 20000 in
theorem ggX9_init_X5_init : GoodIn wsX9_init wsX5_init := goodIn_r _ [124, 125, 2, 3, 9, 126, 127, 128, 184, 185, 186, 187, 188, 189, 190] (by decide +kernel) (by decide +kernel)
set_option maxRecDepth 20000 in
theorem gX9_init_X5_init_n65 : GoodIn wsX9_init (wsX5_init) := ggX9_init_X5_init
theorem dX9_init_0 : decode cX9_init 0 = .ok (.aload_n 0, 1) := by decide +kernel
theorem dX9_init_1 : decode cX9_init 1 = .ok (.invokespecial 1, 3) := by decide +kernel
theorem dX9_init_4 : decode cX9_init 4 = .ok (.aload_n 0, 1) := by decide +kernel
theorem dX9_init_5 : decode cX9_init 5 = .ok (.new 7, 3) := by decide +kernel
theorem dX9_init_8 : decode cX9_init 8 = .ok (.dup, 1) := by decide +kernel
theorem dX9_init_9 : decode cX9_init 9 = .ok (.invokespecial 9, 3) := by decide +kernel
theorem dX9_init_12 : decode cX9_init 12 = .ok (.putfield 10, 3) := by decide +kernel
theorem dX9_init_15 : decode cX9_init 15 = .ok (.aload_n 0, 1) := by decide +kernel
theorem dX9_init_16 : decode cX9_init 16 = .ok (.iconst 2, 1) := by decide +kernel
theorem dX9_init_17 : decode cX9_init 17 = .ok (.anewarray 7, 3) := by decide +kernel
theorem dX9_init_20 : decode cX9_init 20 = .ok (.dup, 1) := by decide +kernel
theorem dX9_init_21 : decode cX9_init 21 = .ok (.iconst 0, 1) := by decide +kernel
theorem dX9_init_22 : decode cX9_init 22 = .ok (.new 7, 3) := by decide +kernel
theorem dX9_init_25 : decode cX9_init 25 = .ok (.dup, 1) := by decide +kernel
theorem dX9_init_26 : decode cX9_init 26 = .ok (.invokespecial 9, 3) := by decide +kernel
theorem dX9_init_29 : decode cX9_init 29 = .ok (.aastore, 1) := by decide +kernel
theorem dX9_init_30 : decode cX9_init 30 = .ok (.dup, 1) := by decide +kernel
theorem dX9_init_31 : decode cX9_init 31 = .ok (.iconst 1, 1) := by decide +kernel
theorem dX9_init_32 : decode cX9_init 32 = .ok (.new 7, 3) := by decide +kernel
theorem dX9_init_35 : decode cX9_init 35 = .ok (.dup, 1) := by decide +kernel
theorem dX9_init_36 : decode cX9_init 36 = .ok (.invokespecial 9, 3) := by decide +kernel
theorem dX9_init_39 : decode cX9_init 39 = .ok (.aastore, 1) := by decide +kernel
theorem dX9_init_40 : decode cX9_init 40 = .ok (.putfield 16, 3) := by decide +kernel
theorem dX9_init_43 : decode cX9_init 43 = .ok (.aload_n 0, 1) := by decide +kernel
theorem dX9_init_44 : decode cX9_init 44 = .ok (.iconst 3, 1) := by decide +kernel
theorem dX9_init_45 : decode cX9_init 45 = .ok (.newarray .int, 2) := by decide +kernel
theorem dX9_init_47 : decode cX9_init 47 = .ok (.putfield 20, 3) := by decide +kernel
theorem dX9_init_50 : decode cX9_init 50 = .ok (.aload_n 0, 1) := by decide +kernel
theorem dX9_init_51 : decode cX9_init 51 = .ok (.iconst 1, 1) := by decide +kernel
theorem dX9_init_52 : decode cX9_init 52 = .ok (.putfield 24, 3) := by decide +kernel
theorem dX9_init_55 : decode cX9_init 55 = .ok (.aload_n 0, 1) := by decide +kernel
theorem dX9_init_56 : decode cX9_init 56 = .ok (.new 28, 3) := by decide +kernel
theorem dX9_init_59 : decode cX9_init 59 = .ok (.dup, 1) := by decide +kernel
theorem dX9_init_60 : decode cX9_init 60 = .ok (.invokespecial 30, 3) := by decide +kernel
theorem dX9_init_63 : decode cX9_init 63 = .ok (.putfield 31, 3) := by decide +kernel
theorem dX9_init_66 : decode cX9_init 66 = .ok (.aload_n 0, 1) := by decide +kernel
theorem dX9_init_67 : decode cX9_init 67 = .ok (.new 35, 3) := by decide +kernel
theorem dX9_init_70 : decode cX9_init 70 = .ok (.dup, 1) := by decide +kernel
theorem dX9_init_71 : decode cX9_init 71 = .ok (.invokespecial 37, 3) := by decide +kernel
theorem dX9_init_74 : decode cX9_init 74 = .ok (.putfield 38, 3) := by decide +kernel
theorem dX9_init_77 : decode cX9_init 77 = .ok (.aload_n 0, 1) := by decide +kernel
theorem dX9_init_78 : decode cX9_init 78 = .ok (.new 42, 3) := by decide +kernel
theorem dX9_init_81 : decode cX9_init 81 = .ok (.dup, 1) := by decide +kernel
theorem dX9_init_82 : decode cX9_init 82 = .ok (.invokespecial 44, 3) := by decide +kernel
theorem dX9_init_85 : decode cX9_init 85 = .ok (.putfield 45, 3) := by decide +kernel
theorem dX9_init_88 : decode cX9_init 88 = .ok (.aload_n 0, 1) := by decide +kernel
theorem dX9_init_89 : decode cX9_init 89 = .ok (.new 49, 3) := by decide +kernel
theorem dX9_init_92 : decode cX9_init 92 = .ok (.dup, 1) := by decide +kernel
theorem dX9_init_93 : decode cX9_init 93 = .ok (.invokespecial 51, 3) := by decide +kernel
theorem dX9_init_96 : decode cX9_init 96 = .ok (.putfield 52, 3) := by decide +kernel
theorem dX9_init_99 : decode cX9_init 99 = .ok (.aload_n 0, 1) := by decide +kernel
theorem dX9_init_100 : decode cX9_init 100 = .ok (.new 56, 3) := by decide +kernel
theorem dX9_init_103 : decode cX9_init 103 = .ok (.dup, 1) := by decide +kernel
theorem dX9_init_104 : decode cX9_init 104 = .ok (.invokespecial 58, 3) := by decide +kernel
theorem dX9_init_107 : decode cX9_init 107 = .ok (.putfield 59, 3) := by decide +kernel
theorem dX9_init_110 : decode cX9_init 110 = .ok (.aload_n 0, 1) := by decide +kernel
theorem dX9_init_111 : decode cX9_init 111 = .ok (.new 63, 3) := by decide +kernel
theorem dX9_init_114 : decode cX9_init 114 = .ok (.dup, 1) := by decide +kernel
theorem dX9_init_115 : decode cX9_init 115 = .ok (.invokespecial 65, 3) := by decide +kernel
theorem dX9_init_118 : decode cX9_init 118 = .ok (.putfield 66, 3) := by decide +kernel
theorem dX9_init_121 : decode cX9_init 121 = .ok (.return_, 1) := by decide +kernel
set_option maxRecDepth 20000 in
theorem ggX9_told_X9_refuse : GoodIn wsX9_told wsX9_refuse := goodIn_r _ [8, 9, 10, 11, 12, 13, 14, 15, 16, 17, 18, 19, 20, 21] (by decide +kernel) (by decide +kernel)
set_option maxRecDepth 20000 in
theorem gX9_told_X9_refuse : GoodIn wsX9_told (wsV RX9 71 RX9 yX9_refuse wsX9_refuse) := goodIn_app (goodIn_of _ (by decide +kernel)) ggX9_told_X9_refuse
theorem dX9_told_0 : decode cX9_told 0 = .ok (.iload_n 1, 1) := by decide +kernel
theorem dX9_told_1 : decode cX9_told 1 = .ok (.ifCond .lt 9, 3) := by decide +kernel
theorem dX9_told_4 : decode cX9_told 4 = .ok (.iload_n 1, 1) := by decide +kernel
theorem dX9_told_5 : decode cX9_told 5 = .ok (.ldc 70, 2) := by decide +kernel
theorem dX9_told_7 : decode cX9_told 7 = .ok (.if_icmp .lt 12, 3) := by decide +kernel
theorem dX9_told_10 : decode cX9_told 10 = .ok (.aload_n 0, 1) := by decide +kernel
theorem dX9_told_11 : decode cX9_told 11 = .ok (.bipush (-2), 2) := by decide +kernel
theorem dX9_told_13 : decode cX9_told 13 = .ok (.bipush (-2), 2) := by decide +kernel
theorem dX9_told_15 : decode cX9_told 15 = .ok (.invokevirtual 71, 3) := by decide +kernel
theorem dX9_told_18 : decode cX9_told 18 = .ok (.ireturn, 1) := by decide +kernel
theorem dX9_told_19 : decode cX9_told 19 = .ok (.aload_n 0, 1) := by decide +kernel
theorem dX9_told_20 : decode cX9_told 20 = .ok (.getfield 10, 3) := by decide +kernel
theorem dX9_told_23 : decode cX9_told 23 = .ok (.getfield 75, 3) := by decide +kernel
theorem dX9_told_26 : decode cX9_told 26 = .ok (.istore_n 2, 1) := by decide +kernel
theorem dX9_told_27 : decode cX9_told 27 = .ok (.aload_n 0, 1) := by decide +kernel
theorem dX9_told_28 : decode cX9_told 28 = .ok (.getfield 10, 3) := by decide +kernel
theorem dX9_told_31 : decode cX9_told 31 = .ok (.iload_n 1, 1) := by decide +kernel
theorem dX9_told_32 : decode cX9_told 32 = .ok (.putfield 75, 3) := by decide +kernel
theorem dX9_told_35 : decode cX9_told 35 = .ok (.iload_n 2, 1) := by decide +kernel
theorem dX9_told_36 : decode cX9_told 36 = .ok (.ireturn, 1) := by decide +kernel
set_option maxRecDepth 20000 in
theorem ggX9_allowed_X9_isRule : GoodIn wsX9_allowed wsX9_isRule := goodIn_r _ [5, 6, 7, 4, 8] (by decide +kernel) (by decide +kernel)
set_option maxRecDepth 20000 in
theorem gX9_allowed_X9_isRule : GoodIn wsX9_allowed (va_wsS RX9 78 yX9_isRule wsX9_isRule) := goodIn_app (goodIn_of _ (by decide +kernel)) ggX9_allowed_X9_isRule
set_option maxRecDepth 20000 in
theorem ggX9_allowed_X9_isWithin : GoodIn wsX9_allowed wsX9_isWithin := goodIn_r _ [8] (by decide +kernel) (by decide +kernel)
set_option maxRecDepth 20000 in
theorem gX9_allowed_X9_isWithin : GoodIn wsX9_allowed (va_wsS RX9 82 yX9_isWithin wsX9_isWithin) := goodIn_app (goodIn_of _ (by decide +kernel)) ggX9_allowed_X9_isWithin
set_option maxRecDepth 20000 in
theorem ggX9_allowed_X9_refuse : GoodIn wsX9_allowed wsX9_refuse := goodIn_r _ [12, 13, 26, 27, 28, 29, 30, 31, 32, 33, 34, 35, 36, 37] (by decide +kernel) (by decide +kernel)
set_option maxRecDepth 20000 in
theorem gX9_allowed_X9_refuse : GoodIn wsX9_allowed (wsV RX9 71 RX9 yX9_refuse wsX9_refuse) := goodIn_app (goodIn_of _ (by decide +kernel)) ggX9_allowed_X9_refuse
set_option maxRecDepth 20000 in
theorem ggX9_allowed_X1_fits : GoodIn wsX9_allowed wsX1_fits := goodIn_r _ [18, 19, 7, 4, 8, 20, 21, 17, 22, 23, 24, 25, 38, 39, 40, 41, 42, 43, 44, 45, 46, 47] (by decide +kernel) (by decide +kernel)
set_option maxRecDepth 20000 in
theorem gX9_allowed_X1_fits : GoodIn wsX9_allowed (wsV RX9 86 RX1 yX1_fits wsX1_fits) := goodIn_app (goodIn_of _ (by decide +kernel)) ggX9_allowed_X1_fits
theorem dX9_allowed_0 : decode cX9_allowed 0 = .ok (.iload_n 1, 1) := by decide +kernel
theorem dX9_allowed_1 : decode cX9_allowed 1 = .ok (.invokestatic 78, 3) := by decide +kernel
theorem dX9_allowed_4 : decode cX9_allowed 4 = .ok (.ifCond .eq 13, 3) := by decide +kernel
theorem dX9_allowed_7 : decode cX9_allowed 7 = .ok (.iload_n 2, 1) := by decide +kernel
theorem dX9_allowed_8 : decode cX9_allowed 8 = .ok (.iconst 1, 1) := by decide +kernel
theorem dX9_allowed_9 : decode cX9_allowed 9 = .ok (.bipush 99, 2) := by decide +kernel
theorem dX9_allowed_11 : decode cX9_allowed 11 = .ok (.invokestatic 82, 3) := by decide +kernel
theorem dX9_allowed_14 : decode cX9_allowed 14 = .ok (.ifCond .ne 12, 3) := by decide +kernel
theorem dX9_allowed_17 : decode cX9_allowed 17 = .ok (.aload_n 0, 1) := by decide +kernel
theorem dX9_allowed_18 : decode cX9_allowed 18 = .ok (.bipush (-2), 2) := by decide +kernel
theorem dX9_allowed_20 : decode cX9_allowed 20 = .ok (.bipush (-2), 2) := by decide +kernel
theorem dX9_allowed_22 : decode cX9_allowed 22 = .ok (.invokevirtual 71, 3) := by decide +kernel
theorem dX9_allowed_25 : decode cX9_allowed 25 = .ok (.ireturn, 1) := by decide +kernel
theorem dX9_allowed_26 : decode cX9_allowed 26 = .ok (.aload_n 0, 1) := by decide +kernel
theorem dX9_allowed_27 : decode cX9_allowed 27 = .ok (.getfield 10, 3) := by decide +kernel
theorem dX9_allowed_30 : decode cX9_allowed 30 = .ok (.iload_n 1, 1) := by decide +kernel
theorem dX9_allowed_31 : decode cX9_allowed 31 = .ok (.iload_n 2, 1) := by decide +kernel
theorem dX9_allowed_32 : decode cX9_allowed 32 = .ok (.invokevirtual 86, 3) := by decide +kernel
theorem dX9_allowed_35 : decode cX9_allowed 35 = .ok (.ifCond .eq 7, 3) := by decide +kernel
theorem dX9_allowed_38 : decode cX9_allowed 38 = .ok (.iconst 1, 1) := by decide +kernel
theorem dX9_allowed_39 : decode cX9_allowed 39 = .ok (.goto 4, 3) := by decide +kernel
theorem dX9_allowed_42 : decode cX9_allowed 42 = .ok (.iconst 0, 1) := by decide +kernel
theorem dX9_allowed_43 : decode cX9_allowed 43 = .ok (.ireturn, 1) := by decide +kernel
set_option maxRecDepth 20000 in
theorem ggX9_way_X9_isCorner : GoodIn wsX9_way wsX9_isCorner := goodIn_r _ [6, 7, 8, 5, 9] (by decide +kernel) (by decide +kernel)
set_option maxRecDepth 20000 in
theorem gX9_way_X9_isCorner : GoodIn wsX9_way (va_wsS RX9 90 yX9_isCorner wsX9_isCorner) := goodIn_app (goodIn_of _ (by decide +kernel)) ggX9_way_X9_isCorner
set_option maxRecDepth 20000 in
theorem ggX9_way_X9_refuse : GoodIn wsX9_way wsX9_refuse := goodIn_r _ [13, 14, 28, 29, 30, 31, 32, 33, 34, 35, 36, 37, 38, 39] (by decide +kernel) (by decide +kernel)
set_option maxRecDepth 20000 in
theorem gX9_way_X9_refuse : GoodIn wsX9_way (wsV RX9 71 RX9 yX9_refuse wsX9_refuse) := goodIn_app (goodIn_of _ (by decide +kernel)) ggX9_way_X9_refuse
set_option maxRecDepth 20000 in
theorem ggX9_way_X2_hasWay : GoodIn wsX9_way wsX2_hasWay := goodIn_r _ [19, 20, 4, 5, 6, 7, 8, 9, 21, 22, 18, 23, 50, 51, 52, 53, 54, 55, 56] (by decide +kernel) (by decide +kernel)
set_option maxRecDepth 20000 in
theorem gX9_way_X2_hasWay : GoodIn wsX9_way (wsV RX9 97 RX2 yX2_hasWay wsX2_hasWay) := goodIn_app (goodIn_of _ (by decide +kernel)) ggX9_way_X2_hasWay
set_option maxRecDepth 20000 in
theorem ggX9_way_X2_setWay : GoodIn wsX9_way wsX2_setWay := goodIn_r _ [27, 20, 21, 22, 18, 23, 50, 51, 52, 53, 54, 55, 56] (by decide +kernel) (by decide +kernel)
set_option maxRecDepth 20000 in
theorem gX9_way_X2_setWay : GoodIn wsX9_way (wsV RX9 102 RX2 yX2_setWay wsX2_setWay) := goodIn_app (goodIn_of _ (by decide +kernel)) ggX9_way_X2_setWay
theorem dX9_way_0 : decode cX9_way 0 = .ok (.iload_n 1, 1) := by decide +kernel
theorem dX9_way_1 : decode cX9_way 1 = .ok (.invokestatic 90, 3) := by decide +kernel
theorem dX9_way_4 : decode cX9_way 4 = .ok (.ifCond .eq 15, 3) := by decide +kernel
theorem dX9_way_7 : decode cX9_way 7 = .ok (.iload_n 2, 1) := by decide +kernel
theorem dX9_way_8 : decode cX9_way 8 = .ok (.invokestatic 90, 3) := by decide +kernel
theorem dX9_way_11 : decode cX9_way 11 = .ok (.ifCond .eq 8, 3) := by decide +kernel
theorem dX9_way_14 : decode cX9_way 14 = .ok (.iload_n 1, 1) := by decide +kernel
theorem dX9_way_15 : decode cX9_way 15 = .ok (.iload_n 2, 1) := by decide +kernel
theorem dX9_way_16 : decode cX9_way 16 = .ok (.if_icmp .ne 12, 3) := by decide +kernel
theorem dX9_way_19 : decode cX9_way 19 = .ok (.aload_n 0, 1) := by decide +kernel
theorem dX9_way_20 : decode cX9_way 20 = .ok (.bipush (-2), 2) := by decide +kernel
theorem dX9_way_22 : decode cX9_way 22 = .ok (.bipush (-2), 2) := by decide +kernel
theorem dX9_way_24 : decode cX9_way 24 = .ok (.invokevirtual 71, 3) := by decide +kernel
theorem dX9_way_27 : decode cX9_way 27 = .ok (.ireturn, 1) := by decide +kernel
theorem dX9_way_28 : decode cX9_way 28 = .ok (.aload_n 0, 1) := by decide +kernel
theorem dX9_way_29 : decode cX9_way 29 = .ok (.getfield 10, 3) := by decide +kernel
theorem dX9_way_32 : decode cX9_way 32 = .ok (.getfield 93, 3) := by decide +kernel
theorem dX9_way_35 : decode cX9_way 35 = .ok (.iload_n 1, 1) := by decide +kernel
theorem dX9_way_36 : decode cX9_way 36 = .ok (.iload_n 2, 1) := by decide +kernel
theorem dX9_way_37 : decode cX9_way 37 = .ok (.invokevirtual 97, 3) := by decide +kernel
theorem dX9_way_40 : decode cX9_way 40 = .ok (.iload_n 3, 1) := by decide +kernel
theorem dX9_way_41 : decode cX9_way 41 = .ok (.if_icmp .ne 12, 3) := by decide +kernel
theorem dX9_way_44 : decode cX9_way 44 = .ok (.aload_n 0, 1) := by decide +kernel
theorem dX9_way_45 : decode cX9_way 45 = .ok (.bipush (-3), 2) := by decide +kernel
theorem dX9_way_47 : decode cX9_way 47 = .ok (.bipush (-3), 2) := by decide +kernel
theorem dX9_way_49 : decode cX9_way 49 = .ok (.invokevirtual 71, 3) := by decide +kernel
theorem dX9_way_52 : decode cX9_way 52 = .ok (.ireturn, 1) := by decide +kernel
theorem dX9_way_53 : decode cX9_way 53 = .ok (.aload_n 0, 1) := by decide +kernel
theorem dX9_way_54 : decode cX9_way 54 = .ok (.getfield 10, 3) := by decide +kernel
theorem dX9_way_57 : decode cX9_way 57 = .ok (.getfield 93, 3) := by decide +kernel
theorem dX9_way_60 : decode cX9_way 60 = .ok (.iload_n 1, 1) := by decide +kernel
theorem dX9_way_61 : decode cX9_way 61 = .ok (.iload_n 2, 1) := by decide +kernel
theorem dX9_way_62 : decode cX9_way 62 = .ok (.iload_n 3, 1) := by decide +kernel
theorem dX9_way_63 : decode cX9_way 63 = .ok (.invokevirtual 102, 3) := by decide +kernel
theorem dX9_way_66 : decode cX9_way 66 = .ok (.iconst 1, 1) := by decide +kernel
theorem dX9_way_67 : decode cX9_way 67 = .ok (.ireturn, 1) := by decide +kernel
set_option maxRecDepth 20000 in
theorem ggX9_one_X9_isCorner : GoodIn wsX9_one wsX9_isCorner := goodIn_r _ [7, 8, 9, 6, 10] (by decide +kernel) (by decide +kernel)
set_option maxRecDepth 20000 in
theorem gX9_one_X9_isCorner : GoodIn wsX9_one (va_wsS RX9 90 yX9_isCorner wsX9_isCorner) := goodIn_app (goodIn_of _ (by decide +kernel)) ggX9_one_X9_isCorner
set_option maxRecDepth 20000 in
theorem ggX9_one_X9_refuse : GoodIn wsX9_one wsX9_refuse := goodIn_r _ [14, 15, 42, 43, 44, 45, 46, 47, 48, 49, 50, 51, 52, 53] (by decide +kernel) (by decide +kernel)
set_option maxRecDepth 20000 in
theorem gX9_one_X9_refuse : GoodIn wsX9_one (wsV RX9 71 RX9 yX9_refuse wsX9_refuse) := goodIn_app (goodIn_of _ (by decide +kernel)) ggX9_one_X9_refuse
set_option maxRecDepth 20000 in
theorem ggX9_one_X7_isFull : GoodIn wsX9_one wsX7_isFull := goodIn_r _ [20, 21, 22, 71, 72] (by decide +kernel) (by decide +kernel)
set_option maxRecDepth 20000 in
theorem gX9_one_X7_isFull : GoodIn wsX9_one (wsV RX9 110 RX7 yX7_isFull wsX7_isFull) := goodIn_app (goodIn_of _ (by decide +kernel)) ggX9_one_X7_isFull
set_option maxRecDepth 20000 in
theorem ggX9_one_X2_addPerson : GoodIn wsX9_one wsX2_addPerson := goodIn_r _ [27, 28, 29, 30, 31, 32, 19, 33, 21, 22, 64, 65, 66, 67, 68, 69, 70, 71, 72] (by decide +kernel) (by decide +kernel)
set_option maxRecDepth 20000 in
theorem gX9_one_X2_addPerson : GoodIn wsX9_one (wsV RX9 116 RX2 yX2_addPerson wsX2_addPerson) := goodIn_app (goodIn_of _ (by decide +kernel)) ggX9_one_X2_addPerson
set_option maxRecDepth 20000 in
theorem ggX9_one_X2_people : GoodIn wsX9_one wsX2_people := goodIn_r _ [37, 28, 38, 39, 40, 19, 41, 21, 64, 65, 66, 67, 68, 69, 70, 71, 72] (by decide +kernel) (by decide +kernel)
set_option maxRecDepth 20000 in
theorem gX9_one_X2_people : GoodIn wsX9_one (wsV RX9 120 RX2 yX2_people wsX2_people) := goodIn_app (goodIn_of _ (by decide +kernel)) ggX9_one_X2_people
theorem dX9_one_0 : decode cX9_one 0 = .ok (.iload_n 1, 1) := by decide +kernel
theorem dX9_one_1 : decode cX9_one 1 = .ok (.invokestatic 90, 3) := by decide +kernel
theorem dX9_one_4 : decode cX9_one 4 = .ok (.ifCond .eq 10, 3) := by decide +kernel
theorem dX9_one_7 : decode cX9_one 7 = .ok (.iload_n 2, 1) := by decide +kernel
theorem dX9_one_8 : decode cX9_one 8 = .ok (.invokestatic 90, 3) := by decide +kernel
theorem dX9_one_11 : decode cX9_one 11 = .ok (.ifCond .ne 12, 3) := by decide +kernel
theorem dX9_one_14 : decode cX9_one 14 = .ok (.aload_n 0, 1) := by decide +kernel
theorem dX9_one_15 : decode cX9_one 15 = .ok (.bipush (-2), 2) := by decide +kernel
theorem dX9_one_17 : decode cX9_one 17 = .ok (.bipush (-2), 2) := by decide +kernel
theorem dX9_one_19 : decode cX9_one 19 = .ok (.invokevirtual 71, 3) := by decide +kernel
theorem dX9_one_22 : decode cX9_one 22 = .ok (.ireturn, 1) := by decide +kernel
theorem dX9_one_23 : decode cX9_one 23 = .ok (.aload_n 0, 1) := by decide +kernel
theorem dX9_one_24 : decode cX9_one 24 = .ok (.getfield 10, 3) := by decide +kernel
theorem dX9_one_27 : decode cX9_one 27 = .ok (.getfield 93, 3) := by decide +kernel
theorem dX9_one_30 : decode cX9_one 30 = .ok (.getfield 106, 3) := by decide +kernel
theorem dX9_one_33 : decode cX9_one 33 = .ok (.invokevirtual 110, 3) := by decide +kernel
theorem dX9_one_36 : decode cX9_one 36 = .ok (.ifCond .eq 12, 3) := by decide +kernel
theorem dX9_one_39 : decode cX9_one 39 = .ok (.aload_n 0, 1) := by decide +kernel
theorem dX9_one_40 : decode cX9_one 40 = .ok (.bipush (-4), 2) := by decide +kernel
theorem dX9_one_42 : decode cX9_one 42 = .ok (.bipush (-4), 2) := by decide +kernel
theorem dX9_one_44 : decode cX9_one 44 = .ok (.invokevirtual 71, 3) := by decide +kernel
theorem dX9_one_47 : decode cX9_one 47 = .ok (.ireturn, 1) := by decide +kernel
theorem dX9_one_48 : decode cX9_one 48 = .ok (.aload_n 0, 1) := by decide +kernel
theorem dX9_one_49 : decode cX9_one 49 = .ok (.getfield 10, 3) := by decide +kernel
theorem dX9_one_52 : decode cX9_one 52 = .ok (.getfield 93, 3) := by decide +kernel
theorem dX9_one_55 : decode cX9_one 55 = .ok (.iload_n 1, 1) := by decide +kernel
theorem dX9_one_56 : decode cX9_one 56 = .ok (.iload_n 2, 1) := by decide +kernel
theorem dX9_one_57 : decode cX9_one 57 = .ok (.invokevirtual 116, 3) := by decide +kernel
theorem dX9_one_60 : decode cX9_one 60 = .ok (.aload_n 0, 1) := by decide +kernel
theorem dX9_one_61 : decode cX9_one 61 = .ok (.getfield 10, 3) := by decide +kernel
theorem dX9_one_64 : decode cX9_one 64 = .ok (.getfield 93, 3) := by decide +kernel
theorem dX9_one_67 : decode cX9_one 67 = .ok (.invokevirtual 120, 3) := by decide +kernel
theorem dX9_one_70 : decode cX9_one 70 = .ok (.iconst 1, 1) := by decide +kernel
theorem dX9_one_71 : decode cX9_one 71 = .ok (.isub, 1) := by decide +kernel
theorem dX9_one_72 : decode cX9_one 72 = .ok (.ireturn, 1) := by decide +kernel
set_option maxRecDepth 20000 in
theorem ggX9_type_X9_isWithin : GoodIn wsX9_type wsX9_isWithin := goodIn_r _ [7] (by decide +kernel) (by decide +kernel)
set_option maxRecDepth 20000 in
theorem gX9_type_X9_isWithin : GoodIn wsX9_type (va_wsS RX9 82 yX9_isWithin wsX9_isWithin) := goodIn_app (goodIn_of _ (by decide +kernel)) ggX9_type_X9_isWithin
set_option maxRecDepth 20000 in
theorem ggX9_type_X9_refuse : GoodIn wsX9_type wsX9_refuse := goodIn_r _ [11, 12, 24, 25, 26, 27, 28, 29, 30, 31, 32, 33, 34, 35] (by decide +kernel) (by decide +kernel)
set_option maxRecDepth 20000 in
theorem gX9_type_X9_refuse : GoodIn wsX9_type (wsV RX9 71 RX9 yX9_refuse wsX9_refuse) := goodIn_app (goodIn_of _ (by decide +kernel)) ggX9_type_X9_refuse
set_option maxRecDepth 20000 in
theorem ggX9_type_X7_size : GoodIn wsX9_type wsX7_size := goodIn_r _ [17, 18, 46, 47] (by decide +kernel) (by decide +kernel)
set_option maxRecDepth 20000 in
theorem gX9_type_X7_size : GoodIn wsX9_type (wsV RX9 127 RX7 yX7_size wsX7_size) := goodIn_app (goodIn_of _ (by decide +kernel)) ggX9_type_X7_size
set_option maxRecDepth 20000 in
theorem ggX9_type_X7_add : GoodIn wsX9_type wsX7_add := goodIn_r _ [22, 18, 23, 46, 47] (by decide +kernel) (by decide +kernel)
set_option maxRecDepth 20000 in
theorem gX9_type_X7_add : GoodIn wsX9_type (wsV RX9 132 RX7 yX7_add wsX7_add) := goodIn_app (goodIn_of _ (by decide +kernel)) ggX9_type_X7_add
theorem dX9_type_0 : decode cX9_type 0 = .ok (.iload_n 3, 1) := by decide +kernel
theorem dX9_type_1 : decode cX9_type 1 = .ok (.iconst 1, 1) := by decide +kernel
theorem dX9_type_2 : decode cX9_type 2 = .ok (.bipush 8, 2) := by decide +kernel
theorem dX9_type_4 : decode cX9_type 4 = .ok (.invokestatic 82, 3) := by decide +kernel
theorem dX9_type_7 : decode cX9_type 7 = .ok (.ifCond .ne 12, 3) := by decide +kernel
theorem dX9_type_10 : decode cX9_type 10 = .ok (.aload_n 0, 1) := by decide +kernel
theorem dX9_type_11 : decode cX9_type 11 = .ok (.bipush (-2), 2) := by decide +kernel
theorem dX9_type_13 : decode cX9_type 13 = .ok (.bipush (-2), 2) := by decide +kernel
theorem dX9_type_15 : decode cX9_type 15 = .ok (.invokevirtual 71, 3) := by decide +kernel
theorem dX9_type_18 : decode cX9_type 18 = .ok (.ireturn, 1) := by decide +kernel
theorem dX9_type_19 : decode cX9_type 19 = .ok (.aload_n 0, 1) := by decide +kernel
theorem dX9_type_20 : decode cX9_type 20 = .ok (.getfield 10, 3) := by decide +kernel
theorem dX9_type_23 : decode cX9_type 23 = .ok (.getfield 124, 3) := by decide +kernel
theorem dX9_type_26 : decode cX9_type 26 = .ok (.invokevirtual 127, 3) := by decide +kernel
theorem dX9_type_29 : decode cX9_type 29 = .ok (.iload_n 3, 1) := by decide +kernel
theorem dX9_type_30 : decode cX9_type 30 = .ok (.iadd, 1) := by decide +kernel
theorem dX9_type_31 : decode cX9_type 31 = .ok (.sipush 200, 3) := by decide +kernel
theorem dX9_type_34 : decode cX9_type 34 = .ok (.if_icmp .le 12, 3) := by decide +kernel
theorem dX9_type_37 : decode cX9_type 37 = .ok (.aload_n 0, 1) := by decide +kernel
theorem dX9_type_38 : decode cX9_type 38 = .ok (.bipush (-4), 2) := by decide +kernel
theorem dX9_type_40 : decode cX9_type 40 = .ok (.bipush (-4), 2) := by decide +kernel
theorem dX9_type_42 : decode cX9_type 42 = .ok (.invokevirtual 71, 3) := by decide +kernel
theorem dX9_type_45 : decode cX9_type 45 = .ok (.ireturn, 1) := by decide +kernel
theorem dX9_type_46 : decode cX9_type 46 = .ok (.iload_n 3, 1) := by decide +kernel
theorem dX9_type_47 : decode cX9_type 47 = .ok (.iconst 1, 1) := by decide +kernel
theorem dX9_type_48 : decode cX9_type 48 = .ok (.isub, 1) := by decide +kernel
theorem dX9_type_49 : decode cX9_type 49 = .ok (.istore 4, 2) := by decide +kernel
theorem dX9_type_51 : decode cX9_type 51 = .ok (.iload 4, 2) := by decide +kernel
theorem dX9_type_53 : decode cX9_type 53 = .ok (.ifCond .lt 31, 3) := by decide +kernel
theorem dX9_type_56 : decode cX9_type 56 = .ok (.aload_n 0, 1) := by decide +kernel
theorem dX9_type_57 : decode cX9_type 57 = .ok (.getfield 10, 3) := by decide +kernel
theorem dX9_type_60 : decode cX9_type 60 = .ok (.getfield 124, 3) := by decide +kernel
theorem dX9_type_63 : decode cX9_type 63 = .ok (.lload_n 1, 1) := by decide +kernel
theorem dX9_type_64 : decode cX9_type 64 = .ok (.bipush 8, 2) := by decide +kernel
theorem dX9_type_66 : decode cX9_type 66 = .ok (.iload 4, 2) := by decide +kernel
theorem dX9_type_68 : decode cX9_type 68 = .ok (.imul, 1) := by decide +kernel
theorem dX9_type_69 : decode cX9_type 69 = .ok (.lushr, 1) := by decide +kernel
theorem dX9_type_70 : decode cX9_type 70 = .ok (.ldc2_w 130, 3) := by decide +kernel
theorem dX9_type_73 : decode cX9_type 73 = .ok (.land, 1) := by decide +kernel
theorem dX9_type_74 : decode cX9_type 74 = .ok (.l2i, 1) := by decide +kernel
theorem dX9_type_75 : decode cX9_type 75 = .ok (.invokevirtual 132, 3) := by decide +kernel
theorem dX9_type_78 : decode cX9_type 78 = .ok (.iinc 4 (-1), 3) := by decide +kernel
theorem dX9_type_81 : decode cX9_type 81 = .ok (.goto (-30), 3) := by decide +kernel
theorem dX9_type_84 : decode cX9_type 84 = .ok (.aload_n 0, 1) := by decide +kernel
theorem dX9_type_85 : decode cX9_type 85 = .ok (.getfield 10, 3) := by decide +kernel
theorem dX9_type_88 : decode cX9_type 88 = .ok (.getfield 124, 3) := by decide +kernel
theorem dX9_type_91 : decode cX9_type 91 = .ok (.invokevirtual 127, 3) := by decide +kernel
theorem dX9_type_94 : decode cX9_type 94 = .ok (.ireturn, 1) := by decide +kernel
set_option maxRecDepth 20000 in
theorem ggX9_clear_X7_size : GoodIn wsX9_clear wsX7_size := goodIn_r _ [7, 8, 35, 36] (by decide +kernel) (by decide +kernel)
set_option maxRecDepth 20000 in
theorem gX9_clear_X7_size : GoodIn wsX9_clear (wsV RX9 127 RX7 yX7_size wsX7_size) := goodIn_app (goodIn_of _ (by decide +kernel)) ggX9_clear_X7_size
set_option maxRecDepth 20000 in
theorem ggX9_clear_X7_empty : GoodIn wsX9_clear wsX7_empty := goodIn_r _ [12, 8, 35, 36] (by decide +kernel) (by decide +kernel)
set_option maxRecDepth 20000 in
theorem gX9_clear_X7_empty : GoodIn wsX9_clear (wsV RX9 136 RX7 yX7_empty wsX7_empty) := goodIn_app (goodIn_of _ (by decide +kernel)) ggX9_clear_X7_empty
theorem dX9_clear_0 : decode cX9_clear 0 = .ok (.aload_n 0, 1) := by decide +kernel
theorem dX9_clear_1 : decode cX9_clear 1 = .ok (.getfield 10, 3) := by decide +kernel
theorem dX9_clear_4 : decode cX9_clear 4 = .ok (.getfield 124, 3) := by decide +kernel
theorem dX9_clear_7 : decode cX9_clear 7 = .ok (.invokevirtual 127, 3) := by decide +kernel
theorem dX9_clear_10 : decode cX9_clear 10 = .ok (.istore_n 1, 1) := by decide +kernel
theorem dX9_clear_11 : decode cX9_clear 11 = .ok (.aload_n 0, 1) := by decide +kernel
theorem dX9_clear_12 : decode cX9_clear 12 = .ok (.getfield 10, 3) := by decide +kernel
theorem dX9_clear_15 : decode cX9_clear 15 = .ok (.getfield 124, 3) := by decide +kernel
theorem dX9_clear_18 : decode cX9_clear 18 = .ok (.invokevirtual 136, 3) := by decide +kernel
theorem dX9_clear_21 : decode cX9_clear 21 = .ok (.iload_n 1, 1) := by decide +kernel
theorem dX9_clear_22 : decode cX9_clear 22 = .ok (.ireturn, 1) := by decide +kernel
set_option maxRecDepth 20000 in
theorem ggX9_read_X3_parse : GoodIn wsX9_read wsX3_parse := goodIn_r _ [10, 11, 12, 13, 14, 15, 16, 17, 18, 19, 20, 21, 22, 23, 24, 25, 26, 27, 28, 29, 30, 31, 32, 33, 34, 35, 36, 37, 38, 39, 40, 9, 41, 42, 43, 44, 45, 46, 47, 48, 49, 50, 51, 52, 53, 54, 55, 56, 57, 58, 59, 60, 61, 62, 63, 64, 65, 66, 67, 68, 69, 70, 71, 72, 73, 74, 75, 76, 77, 78, 79, 80, 81, 82, 83, 84, 85, 86, 87, 88, 89, 90, 91, 92, 93, 94, 95, 96, 97, 98, 99, 100, 101, 102, 103, 104, 105, 106, 107, 108, 109, 110, 111, 112, 113, 114, 115, 116, 117, 118, 119, 120, 121, 122, 123, 124, 125, 126, 127, 128, 129, 130, 131, 132, 133, 134, 135, 136, 137, 138, 139, 140, 141, 142, 143, 144, 145, 146, 147, 148, 149, 150, 151, 152, 153, 154, 155, 156, 157, 158, 159, 160, 161, 162, 163, 164, 165, 166, 167, 168, 169, 170, 171, 172, 173, 174, 175, 176, 177, 178, 179, 180, 181, 182, 183, 184, 185, 186, 187, 188, 189, 224, 225, 226, 227, 228, 229, 230, 231, 232, 233, 234, 235, 236, 237, 238] (by decide +kernel) (by decide +kernel)
set_option maxRecDepth 20000 in
theorem gX9_read_X3_parse : GoodIn wsX9_read (wsV RX9 139 RX3 yX3_parse wsX3_parse) := goodIn_app (goodIn_of _ (by decide +kernel)) ggX9_read_X3_parse
set_option maxRecDepth 20000 in
theorem ggX9_read_X2_copy : GoodIn wsX9_read wsX2_copy := goodIn_r _ [193, 21, 22, 23, 24, 25, 26, 27, 194, 195, 196, 31, 197, 33, 198, 29, 30, 32, 199, 48, 49, 50, 51, 200, 156, 157, 158, 230, 231, 232, 233, 234, 235, 236, 237, 238] (by decide +kernel) (by decide +kernel)
set_option maxRecDepth 20000 in
theorem gX9_read_X2_copy : GoodIn wsX9_read (wsV RX9 144 RX2 yX2_copy wsX2_copy) := goodIn_app (goodIn_of _ (by decide +kernel)) ggX9_read_X2_copy
set_option maxRecDepth 20000 in
theorem ggX9_read_X2_gos : GoodIn wsX9_read wsX2_gos := goodIn_r _ [171, 24, 172, 35, 36, 31, 37, 33, 230, 231, 232, 233, 234, 235, 236, 237, 238] (by decide +kernel) (by decide +kernel)
set_option maxRecDepth 20000 in
theorem gX9_read_X2_gos : GoodIn wsX9_read (wsV RX9 148 RX2 yX2_gos wsX2_gos) := goodIn_app (goodIn_of _ (by decide +kernel)) ggX9_read_X2_gos
theorem dX9_read_0 : decode cX9_read 0 = .ok (.aload_n 0, 1) := by decide +kernel
theorem dX9_read_1 : decode cX9_read 1 = .ok (.getfield 31, 3) := by decide +kernel
theorem dX9_read_4 : decode cX9_read 4 = .ok (.aload_n 0, 1) := by decide +kernel
theorem dX9_read_5 : decode cX9_read 5 = .ok (.getfield 10, 3) := by decide +kernel
theorem dX9_read_8 : decode cX9_read 8 = .ok (.getfield 124, 3) := by decide +kernel
theorem dX9_read_11 : decode cX9_read 11 = .ok (.invokevirtual 139, 3) := by decide +kernel
theorem dX9_read_14 : decode cX9_read 14 = .ok (.istore_n 1, 1) := by decide +kernel
theorem dX9_read_15 : decode cX9_read 15 = .ok (.iload_n 1, 1) := by decide +kernel
theorem dX9_read_16 : decode cX9_read 16 = .ok (.ifCond .lt 8, 3) := by decide +kernel
theorem dX9_read_19 : decode cX9_read 19 = .ok (.bipush (-10), 2) := by decide +kernel
theorem dX9_read_21 : decode cX9_read 21 = .ok (.iload_n 1, 1) := by decide +kernel
theorem dX9_read_22 : decode cX9_read 22 = .ok (.isub, 1) := by decide +kernel
theorem dX9_read_23 : decode cX9_read 23 = .ok (.ireturn, 1) := by decide +kernel
theorem dX9_read_24 : decode cX9_read 24 = .ok (.aload_n 0, 1) := by decide +kernel
theorem dX9_read_25 : decode cX9_read 25 = .ok (.getfield 10, 3) := by decide +kernel
theorem dX9_read_28 : decode cX9_read 28 = .ok (.getfield 93, 3) := by decide +kernel
theorem dX9_read_31 : decode cX9_read 31 = .ok (.aload_n 0, 1) := by decide +kernel
theorem dX9_read_32 : decode cX9_read 32 = .ok (.getfield 31, 3) := by decide +kernel
theorem dX9_read_35 : decode cX9_read 35 = .ok (.getfield 143, 3) := by decide +kernel
theorem dX9_read_38 : decode cX9_read 38 = .ok (.invokevirtual 144, 3) := by decide +kernel
theorem dX9_read_41 : decode cX9_read 41 = .ok (.aload_n 0, 1) := by decide +kernel
theorem dX9_read_42 : decode cX9_read 42 = .ok (.getfield 10, 3) := by decide +kernel
theorem dX9_read_45 : decode cX9_read 45 = .ok (.getfield 93, 3) := by decide +kernel
theorem dX9_read_48 : decode cX9_read 48 = .ok (.invokevirtual 148, 3) := by decide +kernel
theorem dX9_read_51 : decode cX9_read 51 = .ok (.ireturn, 1) := by decide +kernel
set_option maxRecDepth 20000 in
theorem ggX9_judged_X9_isRule : GoodIn wsX9_judged wsX9_isRule := goodIn_r _ [7, 8, 9, 6, 10] (by decide +kernel) (by decide +kernel)
set_option maxRecDepth 20000 in
theorem gX9_judged_X9_isRule : GoodIn wsX9_judged (va_wsS RX9 78 yX9_isRule wsX9_isRule) := goodIn_app (goodIn_of _ (by decide +kernel)) ggX9_judged_X9_isRule
set_option maxRecDepth 20000 in
theorem ggX9_judged_X9_refuse : GoodIn wsX9_judged wsX9_refuse := goodIn_r _ [14, 15, 122, 123, 124, 125, 126, 127, 128, 129, 130, 131, 132, 133] (by decide +kernel) (by decide +kernel)
set_option maxRecDepth 20000 in
theorem gX9_judged_X9_refuse : GoodIn wsX9_judged (wsV RX9 71 RX9 yX9_refuse wsX9_refuse) := goodIn_app (goodIn_of _ (by decide +kernel)) ggX9_judged_X9_refuse
set_option maxRecDepth 20000 in
theorem ggX9_judged_X0_firstWrong : GoodIn wsX9_judged wsX0_firstWrong := goodIn_r _ [20, 21, 22, 23, 24, 25, 26, 27, 28, 29, 30, 31, 32, 33, 34, 35, 36, 37, 38, 39, 40, 41, 42, 43, 44, 45, 46, 47, 48, 49, 50, 51, 52, 53, 54, 55, 56, 57, 58, 59, 60, 61, 62, 63, 19, 64, 65, 66, 67, 68, 69, 70, 71, 72, 73, 74, 75, 76, 77, 78, 79, 80, 81, 82, 83, 84, 85, 6, 86, 8, 9, 10, 87, 88, 89, 90, 91, 92, 93, 94, 95, 96, 97, 98, 99, 100, 101, 102, 103, 104, 105, 106, 107, 108, 109, 110, 111, 112, 113, 114, 115, 116, 134, 135, 136, 137, 138, 139, 140, 141, 142, 143, 144, 145, 146, 147, 148, 149, 150, 151, 152, 153, 154] (by decide +kernel) (by decide +kernel)
set_option maxRecDepth 20000 in
theorem gX9_judged_X0_firstWrong : GoodIn wsX9_judged (wsV RX9 151 RX0 yX0_firstWrong wsX0_firstWrong) := goodIn_app (goodIn_of _ (by decide +kernel)) ggX9_judged_X0_firstWrong
set_option maxRecDepth 20000 in
theorem ggX9_judged_X0_allHome : GoodIn wsX9_judged wsX0_allHome := goodIn_r _ [120, 22, 121, 45, 46, 47, 48, 49, 50, 51, 52, 53, 28, 54, 30, 79, 36, 37, 38, 39, 144, 145, 146, 147, 148, 149, 150, 151, 152, 153, 154] (by decide +kernel) (by decide +kernel)
set_option maxRecDepth 20000 in
theorem gX9_judged_X0_allHome : GoodIn wsX9_judged (wsV RX9 155 RX0 yX0_allHome wsX0_allHome) := goodIn_app (goodIn_of _ (by decide +kernel)) ggX9_judged_X0_allHome
theorem dX9_judged_0 : decode cX9_judged 0 = .ok (.iload_n 1, 1) := by decide +kernel
theorem dX9_judged_1 : decode cX9_judged 1 = .ok (.invokestatic 78, 3) := by decide +kernel
theorem dX9_judged_4 : decode cX9_judged 4 = .ok (.ifCond .ne 12, 3) := by decide +kernel
theorem dX9_judged_7 : decode cX9_judged 7 = .ok (.aload_n 0, 1) := by decide +kernel
theorem dX9_judged_8 : decode cX9_judged 8 = .ok (.bipush (-2), 2) := by decide +kernel
theorem dX9_judged_10 : decode cX9_judged 10 = .ok (.bipush (-10), 2) := by decide +kernel
theorem dX9_judged_12 : decode cX9_judged 12 = .ok (.invokevirtual 71, 3) := by decide +kernel
theorem dX9_judged_15 : decode cX9_judged 15 = .ok (.ireturn, 1) := by decide +kernel
theorem dX9_judged_16 : decode cX9_judged 16 = .ok (.aload_n 0, 1) := by decide +kernel
theorem dX9_judged_17 : decode cX9_judged 17 = .ok (.getfield 38, 3) := by decide +kernel
theorem dX9_judged_20 : decode cX9_judged 20 = .ok (.aload_n 0, 1) := by decide +kernel
theorem dX9_judged_21 : decode cX9_judged 21 = .ok (.getfield 10, 3) := by decide +kernel
theorem dX9_judged_24 : decode cX9_judged 24 = .ok (.iload_n 1, 1) := by decide +kernel
theorem dX9_judged_25 : decode cX9_judged 25 = .ok (.invokevirtual 151, 3) := by decide +kernel
theorem dX9_judged_28 : decode cX9_judged 28 = .ok (.istore_n 2, 1) := by decide +kernel
theorem dX9_judged_29 : decode cX9_judged 29 = .ok (.iload_n 2, 1) := by decide +kernel
theorem dX9_judged_30 : decode cX9_judged 30 = .ok (.ifCond .le 5, 3) := by decide +kernel
theorem dX9_judged_33 : decode cX9_judged 33 = .ok (.iload_n 2, 1) := by decide +kernel
theorem dX9_judged_34 : decode cX9_judged 34 = .ok (.ireturn, 1) := by decide +kernel
theorem dX9_judged_35 : decode cX9_judged 35 = .ok (.aload_n 0, 1) := by decide +kernel
theorem dX9_judged_36 : decode cX9_judged 36 = .ok (.getfield 38, 3) := by decide +kernel
theorem dX9_judged_39 : decode cX9_judged 39 = .ok (.aload_n 0, 1) := by decide +kernel
theorem dX9_judged_40 : decode cX9_judged 40 = .ok (.getfield 10, 3) := by decide +kernel
theorem dX9_judged_43 : decode cX9_judged 43 = .ok (.getfield 93, 3) := by decide +kernel
theorem dX9_judged_46 : decode cX9_judged 46 = .ok (.invokevirtual 155, 3) := by decide +kernel
theorem dX9_judged_49 : decode cX9_judged 49 = .ok (.ifCond .eq 7, 3) := by decide +kernel
theorem dX9_judged_52 : decode cX9_judged 52 = .ok (.iconst (-1), 1) := by decide +kernel
theorem dX9_judged_53 : decode cX9_judged 53 = .ok (.goto 5, 3) := by decide +kernel
theorem dX9_judged_56 : decode cX9_judged 56 = .ok (.bipush (-5), 2) := by decide +kernel
theorem dX9_judged_58 : decode cX9_judged 58 = .ok (.ireturn, 1) := by decide +kernel
set_option maxRecDepth 20000 in
theorem ggX9_ends_X2_isPerson : GoodIn wsX9_ends wsX2_isPerson := goodIn_r _ [7, 8, 9, 10, 6, 11, 12, 13, 14, 15, 16, 17, 18, 19, 20, 21, 69, 70, 71, 72, 73, 74, 75, 76, 77] (by decide +kernel) (by decide +kernel)
set_option maxRecDepth 20000 in
theorem gX9_ends_X2_isPerson : GoodIn wsX9_ends (wsV RX9 159 RX2 yX2_isPerson wsX2_isPerson) := goodIn_app (goodIn_of _ (by decide +kernel)) ggX9_ends_X2_isPerson
set_option maxRecDepth 20000 in
theorem ggX9_ends_X9_refuse : GoodIn wsX9_ends wsX9_refuse := goodIn_r _ [25, 26, 47, 48, 49, 50, 51, 52, 53, 54, 55, 56, 57, 58] (by decide +kernel) (by decide +kernel)
set_option maxRecDepth 20000 in
theorem gX9_ends_X9_refuse : GoodIn wsX9_ends (wsV RX9 71 RX9 yX9_refuse wsX9_refuse) := goodIn_app (goodIn_of _ (by decide +kernel)) ggX9_ends_X9_refuse
set_option maxRecDepth 20000 in
theorem ggX9_ends_X2_lastCorner : GoodIn wsX9_ends wsX2_lastCorner := goodIn_r _ [30, 31, 12, 32, 33, 34, 6, 35, 36, 13, 14, 15, 16, 17, 18, 37, 38, 39, 40, 41, 42, 43, 44, 45, 46, 69, 70, 71, 72, 73, 74, 75, 76, 77] (by decide +kernel) (by decide +kernel)
set_option maxRecDepth 20000 in
theorem gX9_ends_X2_lastCorner : GoodIn wsX9_ends (wsV RX9 162 RX2 yX2_lastCorner wsX2_lastCorner) := goodIn_app (goodIn_of _ (by decide +kernel)) ggX9_ends_X2_lastCorner
theorem dX9_ends_0 : decode cX9_ends 0 = .ok (.aload_n 0, 1) := by decide +kernel
theorem dX9_ends_1 : decode cX9_ends 1 = .ok (.getfield 10, 3) := by decide +kernel
theorem dX9_ends_4 : decode cX9_ends 4 = .ok (.getfield 93, 3) := by decide +kernel
theorem dX9_ends_7 : decode cX9_ends 7 = .ok (.iload_n 1, 1) := by decide +kernel
theorem dX9_ends_8 : decode cX9_ends 8 = .ok (.invokevirtual 159, 3) := by decide +kernel
theorem dX9_ends_11 : decode cX9_ends 11 = .ok (.ifCond .ne 12, 3) := by decide +kernel
theorem dX9_ends_14 : decode cX9_ends 14 = .ok (.aload_n 0, 1) := by decide +kernel
theorem dX9_ends_15 : decode cX9_ends 15 = .ok (.bipush (-2), 2) := by decide +kernel
theorem dX9_ends_17 : decode cX9_ends 17 = .ok (.bipush (-2), 2) := by decide +kernel
theorem dX9_ends_19 : decode cX9_ends 19 = .ok (.invokevirtual 71, 3) := by decide +kernel
theorem dX9_ends_22 : decode cX9_ends 22 = .ok (.ireturn, 1) := by decide +kernel
theorem dX9_ends_23 : decode cX9_ends 23 = .ok (.aload_n 0, 1) := by decide +kernel
theorem dX9_ends_24 : decode cX9_ends 24 = .ok (.getfield 10, 3) := by decide +kernel
theorem dX9_ends_27 : decode cX9_ends 27 = .ok (.getfield 93, 3) := by decide +kernel
theorem dX9_ends_30 : decode cX9_ends 30 = .ok (.iload_n 1, 1) := by decide +kernel
theorem dX9_ends_31 : decode cX9_ends 31 = .ok (.invokevirtual 162, 3) := by decide +kernel
theorem dX9_ends_34 : decode cX9_ends 34 = .ok (.ireturn, 1) := by decide +kernel
set_option maxRecDepth 20000 in
theorem ggX9_parted_X9_isRule : GoodIn wsX9_parted wsX9_isRule := goodIn_r _ [6, 7, 8, 5, 9] (by decide +kernel) (by decide +kernel)
set_option maxRecDepth 20000 in
theorem gX9_parted_X9_isRule : GoodIn wsX9_parted (va_wsS RX9 78 yX9_isRule wsX9_isRule) := goodIn_app (goodIn_of _ (by decide +kernel)) ggX9_parted_X9_isRule
set_option maxRecDepth 20000 in
theorem ggX9_parted_X9_isWithin : GoodIn wsX9_parted wsX9_isWithin := goodIn_r _ [9] (by decide +kernel) (by decide +kernel)
set_option maxRecDepth 20000 in
theorem gX9_parted_X9_isWithin : GoodIn wsX9_parted (va_wsS RX9 82 yX9_isWithin wsX9_isWithin) := goodIn_app (goodIn_of _ (by decide +kernel)) ggX9_parted_X9_isWithin
set_option maxRecDepth 20000 in
theorem ggX9_parted_X9_refuse : GoodIn wsX9_parted wsX9_refuse := goodIn_r _ [13, 14, 64, 65, 66, 67, 68, 69, 70, 71, 72, 73, 74, 75] (by decide +kernel) (by decide +kernel)
set_option maxRecDepth 20000 in
theorem gX9_parted_X9_refuse : GoodIn wsX9_parted (wsV RX9 71 RX9 yX9_refuse wsX9_refuse) := goodIn_app (goodIn_of _ (by decide +kernel)) ggX9_parted_X9_refuse
set_option maxRecDepth 20000 in
theorem ggX9_parted_X4_fill : GoodIn wsX9_parted wsX4_fill := goodIn_r _ [19, 20, 21, 22, 23, 24, 25, 26, 27, 8, 5, 9, 28, 29, 30, 31, 32, 33, 34, 35, 36, 18, 37, 38, 39, 40, 41, 42, 43, 44, 45, 46, 47, 76, 77, 78, 79, 80, 81, 82, 83, 84, 85, 86, 87, 88, 89] (by decide +kernel) (by decide +kernel)
set_option maxRecDepth 20000 in
theorem gX9_parted_X4_fill : GoodIn wsX9_parted (wsV RX9 166 RX4 yX4_fill wsX4_fill) := goodIn_app (goodIn_of _ (by decide +kernel)) ggX9_parted_X4_fill
set_option maxRecDepth 20000 in
theorem ggX9_parted_X4_number : GoodIn wsX9_parted wsX4_number := goodIn_r _ [51, 52, 53, 54, 18, 55, 21, 8, 5, 9, 76, 77, 78, 79] (by decide +kernel) (by decide +kernel)
set_option maxRecDepth 20000 in
theorem gX9_parted_X4_number : GoodIn wsX9_parted (wsV RX9 170 RX4 yX4_number wsX4_number) := goodIn_app (goodIn_of _ (by decide +kernel)) ggX9_parted_X4_number
set_option maxRecDepth 20000 in
theorem ggX9_parted_X4_fewest : GoodIn wsX9_parted wsX4_fewest := goodIn_r _ [59, 38, 8, 5, 9, 76, 77, 78, 79] (by decide +kernel) (by decide +kernel)
set_option maxRecDepth 20000 in
theorem gX9_parted_X4_fewest : GoodIn wsX9_parted (wsV RX9 173 RX4 yX4_fewest wsX4_fewest) := goodIn_app (goodIn_of _ (by decide +kernel)) ggX9_parted_X4_fewest
set_option maxRecDepth 20000 in
theorem ggX9_parted_X4_most : GoodIn wsX9_parted wsX4_most := goodIn_r _ [63, 39, 8, 5, 9, 76, 77, 78, 79] (by decide +kernel) (by decide +kernel)
set_option maxRecDepth 20000 in
theorem gX9_parted_X4_most : GoodIn wsX9_parted (wsV RX9 176 RX4 yX4_most wsX4_most) := goodIn_app (goodIn_of _ (by decide +kernel)) ggX9_parted_X4_most
theorem dX9_parted_0 : decode cX9_parted 0 = .ok (.iload_n 1, 1) := by decide +kernel
theorem dX9_parted_1 : decode cX9_parted 1 = .ok (.invokestatic 78, 3) := by decide +kernel
theorem dX9_parted_4 : decode cX9_parted 4 = .ok (.ifCond .eq 22, 3) := by decide +kernel
theorem dX9_parted_7 : decode cX9_parted 7 = .ok (.iload_n 2, 1) := by decide +kernel
theorem dX9_parted_8 : decode cX9_parted 8 = .ok (.iconst 0, 1) := by decide +kernel
theorem dX9_parted_9 : decode cX9_parted 9 = .ok (.bipush 30, 2) := by decide +kernel
theorem dX9_parted_11 : decode cX9_parted 11 = .ok (.invokestatic 82, 3) := by decide +kernel
theorem dX9_parted_14 : decode cX9_parted 14 = .ok (.ifCond .eq 12, 3) := by decide +kernel
theorem dX9_parted_17 : decode cX9_parted 17 = .ok (.iload_n 3, 1) := by decide +kernel
theorem dX9_parted_18 : decode cX9_parted 18 = .ok (.iconst 0, 1) := by decide +kernel
theorem dX9_parted_19 : decode cX9_parted 19 = .ok (.iconst 2, 1) := by decide +kernel
theorem dX9_parted_20 : decode cX9_parted 20 = .ok (.invokestatic 82, 3) := by decide +kernel
theorem dX9_parted_23 : decode cX9_parted 23 = .ok (.ifCond .ne 12, 3) := by decide +kernel
theorem dX9_parted_26 : decode cX9_parted 26 = .ok (.aload_n 0, 1) := by decide +kernel
theorem dX9_parted_27 : decode cX9_parted 27 = .ok (.bipush (-2), 2) := by decide +kernel
theorem dX9_parted_29 : decode cX9_parted 29 = .ok (.bipush (-10), 2) := by decide +kernel
theorem dX9_parted_31 : decode cX9_parted 31 = .ok (.invokevirtual 71, 3) := by decide +kernel
theorem dX9_parted_34 : decode cX9_parted 34 = .ok (.ireturn, 1) := by decide +kernel
theorem dX9_parted_35 : decode cX9_parted 35 = .ok (.aload_n 0, 1) := by decide +kernel
theorem dX9_parted_36 : decode cX9_parted 36 = .ok (.getfield 45, 3) := by decide +kernel
theorem dX9_parted_39 : decode cX9_parted 39 = .ok (.aload_n 0, 1) := by decide +kernel
theorem dX9_parted_40 : decode cX9_parted 40 = .ok (.getfield 10, 3) := by decide +kernel
theorem dX9_parted_43 : decode cX9_parted 43 = .ok (.iload_n 1, 1) := by decide +kernel
theorem dX9_parted_44 : decode cX9_parted 44 = .ok (.invokevirtual 166, 3) := by decide +kernel
theorem dX9_parted_47 : decode cX9_parted 47 = .ok (.iload_n 3, 1) := by decide +kernel
theorem dX9_parted_48 : decode cX9_parted 48 = .ok (.ifCond .ne 12, 3) := by decide +kernel
theorem dX9_parted_51 : decode cX9_parted 51 = .ok (.aload_n 0, 1) := by decide +kernel
theorem dX9_parted_52 : decode cX9_parted 52 = .ok (.getfield 45, 3) := by decide +kernel
theorem dX9_parted_55 : decode cX9_parted 55 = .ok (.iload_n 2, 1) := by decide +kernel
theorem dX9_parted_56 : decode cX9_parted 56 = .ok (.invokevirtual 170, 3) := by decide +kernel
theorem dX9_parted_59 : decode cX9_parted 59 = .ok (.ireturn, 1) := by decide +kernel
theorem dX9_parted_60 : decode cX9_parted 60 = .ok (.iload_n 3, 1) := by decide +kernel
theorem dX9_parted_61 : decode cX9_parted 61 = .ok (.iconst 1, 1) := by decide +kernel
theorem dX9_parted_62 : decode cX9_parted 62 = .ok (.if_icmp .ne 14, 3) := by decide +kernel
theorem dX9_parted_65 : decode cX9_parted 65 = .ok (.aload_n 0, 1) := by decide +kernel
theorem dX9_parted_66 : decode cX9_parted 66 = .ok (.getfield 45, 3) := by decide +kernel
theorem dX9_parted_69 : decode cX9_parted 69 = .ok (.iload_n 2, 1) := by decide +kernel
theorem dX9_parted_70 : decode cX9_parted 70 = .ok (.invokevirtual 173, 3) := by decide +kernel
theorem dX9_parted_73 : decode cX9_parted 73 = .ok (.goto 11, 3) := by decide +kernel
theorem dX9_parted_76 : decode cX9_parted 76 = .ok (.aload_n 0, 1) := by decide +kernel
theorem dX9_parted_77 : decode cX9_parted 77 = .ok (.getfield 45, 3) := by decide +kernel
theorem dX9_parted_80 : decode cX9_parted 80 = .ok (.iload_n 2, 1) := by decide +kernel
theorem dX9_parted_81 : decode cX9_parted 81 = .ok (.invokevirtual 176, 3) := by decide +kernel
theorem dX9_parted_84 : decode cX9_parted 84 = .ok (.ireturn, 1) := by decide +kernel
set_option maxRecDepth 20000 in
theorem ggX9_row_X9_isRule : GoodIn wsX9_row wsX9_isRule := goodIn_r _ [6, 7, 8, 5, 9] (by decide +kernel) (by decide +kernel)
set_option maxRecDepth 20000 in
theorem gX9_row_X9_isRule : GoodIn wsX9_row (va_wsS RX9 78 yX9_isRule wsX9_isRule) := goodIn_app (goodIn_of _ (by decide +kernel)) ggX9_row_X9_isRule
set_option maxRecDepth 20000 in
theorem ggX9_row_X9_isWithin : GoodIn wsX9_row wsX9_isWithin := goodIn_r _ [9] (by decide +kernel) (by decide +kernel)
set_option maxRecDepth 20000 in
theorem gX9_row_X9_isWithin : GoodIn wsX9_row (va_wsS RX9 82 yX9_isWithin wsX9_isWithin) := goodIn_app (goodIn_of _ (by decide +kernel)) ggX9_row_X9_isWithin
set_option maxRecDepth 20000 in
theorem ggX9_row_X9_refuse : GoodIn wsX9_row wsX9_refuse := goodIn_r _ [13, 14, 64, 65, 66, 67, 68, 69, 70, 71, 72, 73, 74, 75] (by decide +kernel) (by decide +kernel)
set_option maxRecDepth 20000 in
theorem gX9_row_X9_refuse : GoodIn wsX9_row (wsV RX9 71 RX9 yX9_refuse wsX9_refuse) := goodIn_app (goodIn_of _ (by decide +kernel)) ggX9_row_X9_refuse
set_option maxRecDepth 20000 in
theorem ggX9_row_X4_fill : GoodIn wsX9_row wsX4_fill := goodIn_r _ [19, 20, 21, 22, 23, 24, 25, 26, 27, 8, 5, 9, 28, 29, 30, 31, 32, 33, 34, 35, 36, 18, 37, 38, 39, 40, 41, 42, 43, 44, 45, 46, 47, 76, 77, 78, 79, 80, 81, 82, 83, 84, 85, 86, 87, 88, 89] (by decide +kernel) (by decide +kernel)
set_option maxRecDepth 20000 in
theorem gX9_row_X4_fill : GoodIn wsX9_row (wsV RX9 166 RX4 yX4_fill wsX4_fill) := goodIn_app (goodIn_of _ (by decide +kernel)) ggX9_row_X4_fill
set_option maxRecDepth 20000 in
theorem ggX9_row_X4_size : GoodIn wsX9_row wsX4_size := goodIn_r _ [51, 20, 52, 53, 54, 18, 55, 56, 57, 58, 59, 21, 8, 5, 9, 60, 61, 62, 63, 76, 77, 78, 79] (by decide +kernel) (by decide +kernel)
set_option maxRecDepth 20000 in
theorem gX9_row_X4_size : GoodIn wsX9_row (wsV RX9 179 RX4 yX4_size wsX4_size) := goodIn_app (goodIn_of _ (by decide +kernel)) ggX9_row_X4_size
theorem dX9_row_0 : decode cX9_row 0 = .ok (.iload_n 1, 1) := by decide +kernel
theorem dX9_row_1 : decode cX9_row 1 = .ok (.invokestatic 78, 3) := by decide +kernel
theorem dX9_row_4 : decode cX9_row 4 = .ok (.ifCond .eq 22, 3) := by decide +kernel
theorem dX9_row_7 : decode cX9_row 7 = .ok (.iload_n 2, 1) := by decide +kernel
theorem dX9_row_8 : decode cX9_row 8 = .ok (.iconst 0, 1) := by decide +kernel
theorem dX9_row_9 : decode cX9_row 9 = .ok (.bipush 30, 2) := by decide +kernel
theorem dX9_row_11 : decode cX9_row 11 = .ok (.invokestatic 82, 3) := by decide +kernel
theorem dX9_row_14 : decode cX9_row 14 = .ok (.ifCond .eq 12, 3) := by decide +kernel
theorem dX9_row_17 : decode cX9_row 17 = .ok (.iload_n 3, 1) := by decide +kernel
theorem dX9_row_18 : decode cX9_row 18 = .ok (.ifCond .lt 8, 3) := by decide +kernel
theorem dX9_row_21 : decode cX9_row 21 = .ok (.iload 4, 2) := by decide +kernel
theorem dX9_row_23 : decode cX9_row 23 = .ok (.ifCond .ge 12, 3) := by decide +kernel
theorem dX9_row_26 : decode cX9_row 26 = .ok (.aload_n 0, 1) := by decide +kernel
theorem dX9_row_27 : decode cX9_row 27 = .ok (.bipush (-2), 2) := by decide +kernel
theorem dX9_row_29 : decode cX9_row 29 = .ok (.bipush (-10), 2) := by decide +kernel
theorem dX9_row_31 : decode cX9_row 31 = .ok (.invokevirtual 71, 3) := by decide +kernel
theorem dX9_row_34 : decode cX9_row 34 = .ok (.ireturn, 1) := by decide +kernel
theorem dX9_row_35 : decode cX9_row 35 = .ok (.aload_n 0, 1) := by decide +kernel
theorem dX9_row_36 : decode cX9_row 36 = .ok (.getfield 45, 3) := by decide +kernel
theorem dX9_row_39 : decode cX9_row 39 = .ok (.aload_n 0, 1) := by decide +kernel
theorem dX9_row_40 : decode cX9_row 40 = .ok (.getfield 10, 3) := by decide +kernel
theorem dX9_row_43 : decode cX9_row 43 = .ok (.iload_n 1, 1) := by decide +kernel
theorem dX9_row_44 : decode cX9_row 44 = .ok (.invokevirtual 166, 3) := by decide +kernel
theorem dX9_row_47 : decode cX9_row 47 = .ok (.aload_n 0, 1) := by decide +kernel
theorem dX9_row_48 : decode cX9_row 48 = .ok (.getfield 45, 3) := by decide +kernel
theorem dX9_row_51 : decode cX9_row 51 = .ok (.iload_n 2, 1) := by decide +kernel
theorem dX9_row_52 : decode cX9_row 52 = .ok (.iload_n 3, 1) := by decide +kernel
theorem dX9_row_53 : decode cX9_row 53 = .ok (.iload 4, 2) := by decide +kernel
theorem dX9_row_55 : decode cX9_row 55 = .ok (.invokevirtual 179, 3) := by decide +kernel
theorem dX9_row_58 : decode cX9_row 58 = .ok (.ireturn, 1) := by decide +kernel
set_option maxRecDepth 20000 in
theorem ggX9_knot_X9_isWithin : GoodIn wsX9_knot wsX9_isWithin := goodIn_r _ [6] (by decide +kernel) (by decide +kernel)
set_option maxRecDepth 20000 in
theorem gX9_knot_X9_isWithin : GoodIn wsX9_knot (va_wsS RX9 82 yX9_isWithin wsX9_isWithin) := goodIn_app (goodIn_of _ (by decide +kernel)) ggX9_knot_X9_isWithin
set_option maxRecDepth 20000 in
theorem ggX9_knot_X9_refuse : GoodIn wsX9_knot wsX9_refuse := goodIn_r _ [10, 11, 27, 28, 29, 30, 31, 32, 33, 34, 35, 36, 37, 38] (by decide +kernel) (by decide +kernel)
set_option maxRecDepth 20000 in
theorem gX9_knot_X9_refuse : GoodIn wsX9_knot (wsV RX9 71 RX9 yX9_refuse wsX9_refuse) := goodIn_app (goodIn_of _ (by decide +kernel)) ggX9_knot_X9_refuse
set_option maxRecDepth 20000 in
theorem ggX9_knot_X7_isFull : GoodIn wsX9_knot wsX7_isFull := goodIn_r _ [16, 17, 18, 49, 50] (by decide +kernel) (by decide +kernel)
set_option maxRecDepth 20000 in
theorem gX9_knot_X7_isFull : GoodIn wsX9_knot (wsV RX9 110 RX7 yX7_isFull wsX7_isFull) := goodIn_app (goodIn_of _ (by decide +kernel)) ggX9_knot_X7_isFull
set_option maxRecDepth 20000 in
theorem ggX9_knot_X7_add : GoodIn wsX9_knot wsX7_add := goodIn_r _ [22, 17, 18, 49, 50] (by decide +kernel) (by decide +kernel)
set_option maxRecDepth 20000 in
theorem gX9_knot_X7_add : GoodIn wsX9_knot (wsV RX9 132 RX7 yX7_add wsX7_add) := goodIn_app (goodIn_of _ (by decide +kernel)) ggX9_knot_X7_add
set_option maxRecDepth 20000 in
theorem ggX9_knot_X7_size : GoodIn wsX9_knot wsX7_size := goodIn_r _ [26, 17, 49, 50] (by decide +kernel) (by decide +kernel)
set_option maxRecDepth 20000 in
theorem gX9_knot_X7_size : GoodIn wsX9_knot (wsV RX9 127 RX7 yX7_size wsX7_size) := goodIn_app (goodIn_of _ (by decide +kernel)) ggX9_knot_X7_size
theorem dX9_knot_0 : decode cX9_knot 0 = .ok (.iload_n 1, 1) := by decide +kernel
theorem dX9_knot_1 : decode cX9_knot 1 = .ok (.iconst 1, 1) := by decide +kernel
theorem dX9_knot_2 : decode cX9_knot 2 = .ok (.bipush 9, 2) := by decide +kernel
theorem dX9_knot_4 : decode cX9_knot 4 = .ok (.invokestatic 82, 3) := by decide +kernel
theorem dX9_knot_7 : decode cX9_knot 7 = .ok (.ifCond .ne 12, 3) := by decide +kernel
theorem dX9_knot_10 : decode cX9_knot 10 = .ok (.aload_n 0, 1) := by decide +kernel
theorem dX9_knot_11 : decode cX9_knot 11 = .ok (.bipush (-2), 2) := by decide +kernel
theorem dX9_knot_13 : decode cX9_knot 13 = .ok (.bipush (-2), 2) := by decide +kernel
theorem dX9_knot_15 : decode cX9_knot 15 = .ok (.invokevirtual 71, 3) := by decide +kernel
theorem dX9_knot_18 : decode cX9_knot 18 = .ok (.ireturn, 1) := by decide +kernel
theorem dX9_knot_19 : decode cX9_knot 19 = .ok (.aload_n 0, 1) := by decide +kernel
theorem dX9_knot_20 : decode cX9_knot 20 = .ok (.getfield 10, 3) := by decide +kernel
theorem dX9_knot_23 : decode cX9_knot 23 = .ok (.getfield 182, 3) := by decide +kernel
theorem dX9_knot_26 : decode cX9_knot 26 = .ok (.invokevirtual 110, 3) := by decide +kernel
theorem dX9_knot_29 : decode cX9_knot 29 = .ok (.ifCond .eq 12, 3) := by decide +kernel
theorem dX9_knot_32 : decode cX9_knot 32 = .ok (.aload_n 0, 1) := by decide +kernel
theorem dX9_knot_33 : decode cX9_knot 33 = .ok (.bipush (-4), 2) := by decide +kernel
theorem dX9_knot_35 : decode cX9_knot 35 = .ok (.bipush (-4), 2) := by decide +kernel
theorem dX9_knot_37 : decode cX9_knot 37 = .ok (.invokevirtual 71, 3) := by decide +kernel
theorem dX9_knot_40 : decode cX9_knot 40 = .ok (.ireturn, 1) := by decide +kernel
theorem dX9_knot_41 : decode cX9_knot 41 = .ok (.aload_n 0, 1) := by decide +kernel
theorem dX9_knot_42 : decode cX9_knot 42 = .ok (.getfield 10, 3) := by decide +kernel
theorem dX9_knot_45 : decode cX9_knot 45 = .ok (.getfield 182, 3) := by decide +kernel
theorem dX9_knot_48 : decode cX9_knot 48 = .ok (.iload_n 1, 1) := by decide +kernel
theorem dX9_knot_49 : decode cX9_knot 49 = .ok (.invokevirtual 132, 3) := by decide +kernel
theorem dX9_knot_52 : decode cX9_knot 52 = .ok (.aload_n 0, 1) := by decide +kernel
theorem dX9_knot_53 : decode cX9_knot 53 = .ok (.getfield 10, 3) := by decide +kernel
theorem dX9_knot_56 : decode cX9_knot 56 = .ok (.getfield 182, 3) := by decide +kernel
theorem dX9_knot_59 : decode cX9_knot 59 = .ok (.invokevirtual 127, 3) := by decide +kernel
theorem dX9_knot_62 : decode cX9_knot 62 = .ok (.iconst 1, 1) := by decide +kernel
theorem dX9_knot_63 : decode cX9_knot 63 = .ok (.isub, 1) := by decide +kernel
theorem dX9_knot_64 : decode cX9_knot 64 = .ok (.ireturn, 1) := by decide +kernel
set_option maxRecDepth 20000 in
theorem ggX9_untie_X7_size : GoodIn wsX9_untie wsX7_size := goodIn_r _ [9, 10, 37, 38] (by decide +kernel) (by decide +kernel)
set_option maxRecDepth 20000 in
theorem gX9_untie_X7_size : GoodIn wsX9_untie (wsV RX9 127 RX7 yX7_size wsX7_size) := goodIn_app (goodIn_of _ (by decide +kernel)) ggX9_untie_X7_size
set_option maxRecDepth 20000 in
theorem ggX9_untie_X7_empty : GoodIn wsX9_untie wsX7_empty := goodIn_r _ [14, 10, 37, 38] (by decide +kernel) (by decide +kernel)
set_option maxRecDepth 20000 in
theorem gX9_untie_X7_empty : GoodIn wsX9_untie (wsV RX9 136 RX7 yX7_empty wsX7_empty) := goodIn_app (goodIn_of _ (by decide +kernel)) ggX9_untie_X7_empty
theorem dX9_untie_0 : decode cX9_untie 0 = .ok (.aload_n 0, 1) := by decide +kernel
theorem dX9_untie_1 : decode cX9_untie 1 = .ok (.getfield 10, 3) := by decide +kernel
theorem dX9_untie_4 : decode cX9_untie 4 = .ok (.getfield 182, 3) := by decide +kernel
theorem dX9_untie_7 : decode cX9_untie 7 = .ok (.invokevirtual 127, 3) := by decide +kernel
theorem dX9_untie_10 : decode cX9_untie 10 = .ok (.istore_n 1, 1) := by decide +kernel
theorem dX9_untie_11 : decode cX9_untie 11 = .ok (.aload_n 0, 1) := by decide +kernel
theorem dX9_untie_12 : decode cX9_untie 12 = .ok (.getfield 10, 3) := by decide +kernel
theorem dX9_untie_15 : decode cX9_untie 15 = .ok (.getfield 182, 3) := by decide +kernel
theorem dX9_untie_18 : decode cX9_untie 18 = .ok (.invokevirtual 136, 3) := by decide +kernel
theorem dX9_untie_21 : decode cX9_untie 21 = .ok (.aload_n 0, 1) := by decide +kernel
theorem dX9_untie_22 : decode cX9_untie 22 = .ok (.getfield 10, 3) := by decide +kernel
theorem dX9_untie_25 : decode cX9_untie 25 = .ok (.getfield 185, 3) := by decide +kernel
theorem dX9_untie_28 : decode cX9_untie 28 = .ok (.invokevirtual 136, 3) := by decide +kernel
theorem dX9_untie_31 : decode cX9_untie 31 = .ok (.aload_n 0, 1) := by decide +kernel
theorem dX9_untie_32 : decode cX9_untie 32 = .ok (.getfield 10, 3) := by decide +kernel
theorem dX9_untie_35 : decode cX9_untie 35 = .ok (.getfield 188, 3) := by decide +kernel
theorem dX9_untie_38 : decode cX9_untie 38 = .ok (.invokevirtual 136, 3) := by decide +kernel
theorem dX9_untie_41 : decode cX9_untie 41 = .ok (.iload_n 1, 1) := by decide +kernel
theorem dX9_untie_42 : decode cX9_untie 42 = .ok (.ireturn, 1) := by decide +kernel
set_option maxRecDepth 20000 in
theorem ggX9_counted_X9_isKnot : GoodIn wsX9_counted wsX9_isKnot := goodIn_r _ [8, 1, 9, 10, 11, 12, 13, 14, 15, 16, 17, 7, 18, 33, 34, 35, 36, 37, 38, 39, 40, 41, 42, 43, 44, 45, 46, 47, 48, 49, 50, 51, 52, 53, 54, 55, 56] (by decide +kernel) (by decide +kernel)
set_option maxRecDepth 20000 in
theorem gX9_counted_X9_isKnot : GoodIn wsX9_counted (wsV RX9 191 RX9 yX9_isKnot wsX9_isKnot) := goodIn_app (goodIn_of _ (by decide +kernel)) ggX9_counted_X9_isKnot
set_option maxRecDepth 20000 in
theorem ggX9_counted_X9_isWithin : GoodIn wsX9_counted wsX9_isWithin := goodIn_r _ [18] (by decide +kernel) (by decide +kernel)
set_option maxRecDepth 20000 in
theorem gX9_counted_X9_isWithin : GoodIn wsX9_counted (va_wsS RX9 82 yX9_isWithin wsX9_isWithin) := goodIn_app (goodIn_of _ (by decide +kernel)) ggX9_counted_X9_isWithin
set_option maxRecDepth 20000 in
theorem ggX9_counted_X9_refuse : GoodIn wsX9_counted wsX9_refuse := goodIn_r _ [22, 23, 33, 34, 35, 36, 37, 38, 39, 40, 41, 42, 43, 44] (by decide +kernel) (by decide +kernel)
set_option maxRecDepth 20000 in
theorem gX9_counted_X9_refuse : GoodIn wsX9_counted (wsV RX9 71 RX9 yX9_refuse wsX9_refuse) := goodIn_app (goodIn_of _ (by decide +kernel)) ggX9_counted_X9_refuse
set_option maxRecDepth 20000 in
theorem ggX9_counted_X7_isFull : GoodIn wsX9_counted wsX7_isFull := goodIn_r _ [27, 15, 28, 55, 56] (by decide +kernel) (by decide +kernel)
set_option maxRecDepth 20000 in
theorem gX9_counted_X7_isFull : GoodIn wsX9_counted (wsV RX9 110 RX7 yX7_isFull wsX7_isFull) := goodIn_app (goodIn_of _ (by decide +kernel)) ggX9_counted_X7_isFull
set_option maxRecDepth 20000 in
theorem ggX9_counted_X7_add : GoodIn wsX9_counted wsX7_add := goodIn_r _ [32, 15, 28, 55, 56] (by decide +kernel) (by decide +kernel)
set_option maxRecDepth 20000 in
theorem gX9_counted_X7_add : GoodIn wsX9_counted (wsV RX9 132 RX7 yX7_add wsX7_add) := goodIn_app (goodIn_of _ (by decide +kernel)) ggX9_counted_X7_add
set_option maxRecDepth 20000 in
theorem ggX9_counted_X7_size : GoodIn wsX9_counted wsX7_size := goodIn_r _ [14, 15, 55, 56] (by decide +kernel) (by decide +kernel)
set_option maxRecDepth 20000 in
theorem gX9_counted_X7_size : GoodIn wsX9_counted (wsV RX9 127 RX7 yX7_size wsX7_size) := goodIn_app (goodIn_of _ (by decide +kernel)) ggX9_counted_X7_size
theorem dX9_counted_0 : decode cX9_counted 0 = .ok (.aload_n 0, 1) := by decide +kernel
theorem dX9_counted_1 : decode cX9_counted 1 = .ok (.iload_n 1, 1) := by decide +kernel
theorem dX9_counted_2 : decode cX9_counted 2 = .ok (.invokevirtual 191, 3) := by decide +kernel
theorem dX9_counted_5 : decode cX9_counted 5 = .ok (.ifCond .eq 13, 3) := by decide +kernel
theorem dX9_counted_8 : decode cX9_counted 8 = .ok (.iload_n 2, 1) := by decide +kernel
theorem dX9_counted_9 : decode cX9_counted 9 = .ok (.iconst 1, 1) := by decide +kernel
theorem dX9_counted_10 : decode cX9_counted 10 = .ok (.bipush 72, 2) := by decide +kernel
theorem dX9_counted_12 : decode cX9_counted 12 = .ok (.invokestatic 82, 3) := by decide +kernel
theorem dX9_counted_15 : decode cX9_counted 15 = .ok (.ifCond .ne 12, 3) := by decide +kernel
theorem dX9_counted_18 : decode cX9_counted 18 = .ok (.aload_n 0, 1) := by decide +kernel
theorem dX9_counted_19 : decode cX9_counted 19 = .ok (.bipush (-2), 2) := by decide +kernel
theorem dX9_counted_21 : decode cX9_counted 21 = .ok (.bipush (-2), 2) := by decide +kernel
theorem dX9_counted_23 : decode cX9_counted 23 = .ok (.invokevirtual 71, 3) := by decide +kernel
theorem dX9_counted_26 : decode cX9_counted 26 = .ok (.ireturn, 1) := by decide +kernel
theorem dX9_counted_27 : decode cX9_counted 27 = .ok (.aload_n 0, 1) := by decide +kernel
theorem dX9_counted_28 : decode cX9_counted 28 = .ok (.getfield 10, 3) := by decide +kernel
theorem dX9_counted_31 : decode cX9_counted 31 = .ok (.getfield 185, 3) := by decide +kernel
theorem dX9_counted_34 : decode cX9_counted 34 = .ok (.invokevirtual 110, 3) := by decide +kernel
theorem dX9_counted_37 : decode cX9_counted 37 = .ok (.ifCond .eq 12, 3) := by decide +kernel
theorem dX9_counted_40 : decode cX9_counted 40 = .ok (.aload_n 0, 1) := by decide +kernel
theorem dX9_counted_41 : decode cX9_counted 41 = .ok (.bipush (-4), 2) := by decide +kernel
theorem dX9_counted_43 : decode cX9_counted 43 = .ok (.bipush (-4), 2) := by decide +kernel
theorem dX9_counted_45 : decode cX9_counted 45 = .ok (.invokevirtual 71, 3) := by decide +kernel
theorem dX9_counted_48 : decode cX9_counted 48 = .ok (.ireturn, 1) := by decide +kernel
theorem dX9_counted_49 : decode cX9_counted 49 = .ok (.aload_n 0, 1) := by decide +kernel
theorem dX9_counted_50 : decode cX9_counted 50 = .ok (.getfield 10, 3) := by decide +kernel
theorem dX9_counted_53 : decode cX9_counted 53 = .ok (.getfield 185, 3) := by decide +kernel
theorem dX9_counted_56 : decode cX9_counted 56 = .ok (.iload_n 1, 1) := by decide +kernel
theorem dX9_counted_57 : decode cX9_counted 57 = .ok (.invokevirtual 132, 3) := by decide +kernel
theorem dX9_counted_60 : decode cX9_counted 60 = .ok (.aload_n 0, 1) := by decide +kernel
theorem dX9_counted_61 : decode cX9_counted 61 = .ok (.getfield 10, 3) := by decide +kernel
theorem dX9_counted_64 : decode cX9_counted 64 = .ok (.getfield 188, 3) := by decide +kernel
theorem dX9_counted_67 : decode cX9_counted 67 = .ok (.iload_n 2, 1) := by decide +kernel
theorem dX9_counted_68 : decode cX9_counted 68 = .ok (.invokevirtual 132, 3) := by decide +kernel
theorem dX9_counted_71 : decode cX9_counted 71 = .ok (.aload_n 0, 1) := by decide +kernel
theorem dX9_counted_72 : decode cX9_counted 72 = .ok (.getfield 10, 3) := by decide +kernel
theorem dX9_counted_75 : decode cX9_counted 75 = .ok (.getfield 185, 3) := by decide +kernel
theorem dX9_counted_78 : decode cX9_counted 78 = .ok (.invokevirtual 127, 3) := by decide +kernel
theorem dX9_counted_81 : decode cX9_counted 81 = .ok (.ireturn, 1) := by decide +kernel
set_option maxRecDepth 20000 in
theorem ggX9_partings_X9_isRule : GoodIn wsX9_partings wsX9_isRule := goodIn_r _ [6, 7, 8, 5, 9] (by decide +kernel) (by decide +kernel)
set_option maxRecDepth 20000 in
theorem gX9_partings_X9_isRule : GoodIn wsX9_partings (va_wsS RX9 78 yX9_isRule wsX9_isRule) := goodIn_app (goodIn_of _ (by decide +kernel)) ggX9_partings_X9_isRule
set_option maxRecDepth 20000 in
theorem ggX9_partings_X9_isWithin : GoodIn wsX9_partings wsX9_isWithin := goodIn_r _ [9] (by decide +kernel) (by decide +kernel)
set_option maxRecDepth 20000 in
theorem gX9_partings_X9_isWithin : GoodIn wsX9_partings (va_wsS RX9 82 yX9_isWithin wsX9_isWithin) := goodIn_app (goodIn_of _ (by decide +kernel)) ggX9_partings_X9_isWithin
set_option maxRecDepth 20000 in
theorem ggX9_partings_X9_refuse : GoodIn wsX9_partings wsX9_refuse := goodIn_r _ [13, 14, 91, 92, 93, 94, 95, 96, 97, 98, 99, 100, 101, 102] (by decide +kernel) (by decide +kernel)
set_option maxRecDepth 20000 in
theorem gX9_partings_X9_refuse : GoodIn wsX9_partings (wsV RX9 71 RX9 yX9_refuse wsX9_refuse) := goodIn_app (goodIn_of _ (by decide +kernel)) ggX9_partings_X9_refuse
set_option maxRecDepth 20000 in
theorem ggX9_partings_X6_partKnots : GoodIn wsX9_partings wsX6_partKnots := goodIn_r _ [19, 20, 21, 22, 23, 24, 25, 26, 18, 27, 28, 29, 30, 31, 32, 33, 34, 35, 36, 37, 38, 39, 40, 41, 42, 43, 44, 45, 46, 47, 48, 8, 5, 9, 49, 50, 51, 52, 53, 54, 55, 56, 57, 58, 59, 60, 61, 62, 63, 64, 65, 66, 67, 68, 69, 70, 71, 72, 73, 74, 103, 104, 105, 106, 107, 108, 109, 110, 111, 112, 113, 114, 115, 116, 117, 118, 119, 120] (by decide +kernel) (by decide +kernel)
set_option maxRecDepth 20000 in
theorem gX9_partings_X6_partKnots : GoodIn wsX9_partings (wsV RX9 194 RX6 yX6_partKnots wsX6_partKnots) := goodIn_app (goodIn_of _ (by decide +kernel)) ggX9_partings_X6_partKnots
set_option maxRecDepth 20000 in
theorem ggX9_partings_X6_number : GoodIn wsX9_partings wsX6_number := goodIn_r _ [78, 65, 79, 80, 81, 18, 82, 21, 113, 114, 115, 116, 117, 118] (by decide +kernel) (by decide +kernel)
set_option maxRecDepth 20000 in
theorem gX9_partings_X6_number : GoodIn wsX9_partings (wsV RX9 197 RX6 yX6_number wsX6_number) := goodIn_app (goodIn_of _ (by decide +kernel)) ggX9_partings_X6_number
set_option maxRecDepth 20000 in
theorem ggX9_partings_X6_fewest : GoodIn wsX9_partings wsX6_fewest := goodIn_r _ [86, 66, 79, 80, 81, 18, 82, 21, 113, 114, 115, 116, 117, 118] (by decide +kernel) (by decide +kernel)
set_option maxRecDepth 20000 in
theorem gX9_partings_X6_fewest : GoodIn wsX9_partings (wsV RX9 199 RX6 yX6_fewest wsX6_fewest) := goodIn_app (goodIn_of _ (by decide +kernel)) ggX9_partings_X6_fewest
set_option maxRecDepth 20000 in
theorem ggX9_partings_X6_most : GoodIn wsX9_partings wsX6_most := goodIn_r _ [90, 67, 79, 80, 81, 18, 82, 21, 113, 114, 115, 116, 117, 118] (by decide +kernel) (by decide +kernel)
set_option maxRecDepth 20000 in
theorem gX9_partings_X6_most : GoodIn wsX9_partings (wsV RX9 201 RX6 yX6_most wsX6_most) := goodIn_app (goodIn_of _ (by decide +kernel)) ggX9_partings_X6_most
theorem dX9_partings_0 : decode cX9_partings 0 = .ok (.iload_n 1, 1) := by decide +kernel
theorem dX9_partings_1 : decode cX9_partings 1 = .ok (.invokestatic 78, 3) := by decide +kernel
theorem dX9_partings_4 : decode cX9_partings 4 = .ok (.ifCond .eq 12, 3) := by decide +kernel
theorem dX9_partings_7 : decode cX9_partings 7 = .ok (.iload_n 2, 1) := by decide +kernel
theorem dX9_partings_8 : decode cX9_partings 8 = .ok (.iconst 0, 1) := by decide +kernel
theorem dX9_partings_9 : decode cX9_partings 9 = .ok (.iconst 2, 1) := by decide +kernel
theorem dX9_partings_10 : decode cX9_partings 10 = .ok (.invokestatic 82, 3) := by decide +kernel
theorem dX9_partings_13 : decode cX9_partings 13 = .ok (.ifCond .ne 12, 3) := by decide +kernel
theorem dX9_partings_16 : decode cX9_partings 16 = .ok (.aload_n 0, 1) := by decide +kernel
theorem dX9_partings_17 : decode cX9_partings 17 = .ok (.bipush (-2), 2) := by decide +kernel
theorem dX9_partings_19 : decode cX9_partings 19 = .ok (.bipush (-10), 2) := by decide +kernel
theorem dX9_partings_21 : decode cX9_partings 21 = .ok (.invokevirtual 71, 3) := by decide +kernel
theorem dX9_partings_24 : decode cX9_partings 24 = .ok (.ireturn, 1) := by decide +kernel
theorem dX9_partings_25 : decode cX9_partings 25 = .ok (.aload_n 0, 1) := by decide +kernel
theorem dX9_partings_26 : decode cX9_partings 26 = .ok (.getfield 52, 3) := by decide +kernel
theorem dX9_partings_29 : decode cX9_partings 29 = .ok (.aload_n 0, 1) := by decide +kernel
theorem dX9_partings_30 : decode cX9_partings 30 = .ok (.getfield 10, 3) := by decide +kernel
theorem dX9_partings_33 : decode cX9_partings 33 = .ok (.iload_n 1, 1) := by decide +kernel
theorem dX9_partings_34 : decode cX9_partings 34 = .ok (.invokevirtual 194, 3) := by decide +kernel
theorem dX9_partings_37 : decode cX9_partings 37 = .ok (.iload_n 2, 1) := by decide +kernel
theorem dX9_partings_38 : decode cX9_partings 38 = .ok (.ifCond .ne 11, 3) := by decide +kernel
theorem dX9_partings_41 : decode cX9_partings 41 = .ok (.aload_n 0, 1) := by decide +kernel
theorem dX9_partings_42 : decode cX9_partings 42 = .ok (.getfield 52, 3) := by decide +kernel
theorem dX9_partings_45 : decode cX9_partings 45 = .ok (.invokevirtual 197, 3) := by decide +kernel
theorem dX9_partings_48 : decode cX9_partings 48 = .ok (.ireturn, 1) := by decide +kernel
theorem dX9_partings_49 : decode cX9_partings 49 = .ok (.iload_n 2, 1) := by decide +kernel
theorem dX9_partings_50 : decode cX9_partings 50 = .ok (.iconst 1, 1) := by decide +kernel
theorem dX9_partings_51 : decode cX9_partings 51 = .ok (.if_icmp .ne 13, 3) := by decide +kernel
theorem dX9_partings_54 : decode cX9_partings 54 = .ok (.aload_n 0, 1) := by decide +kernel
theorem dX9_partings_55 : decode cX9_partings 55 = .ok (.getfield 52, 3) := by decide +kernel
theorem dX9_partings_58 : decode cX9_partings 58 = .ok (.invokevirtual 199, 3) := by decide +kernel
theorem dX9_partings_61 : decode cX9_partings 61 = .ok (.goto 10, 3) := by decide +kernel
theorem dX9_partings_64 : decode cX9_partings 64 = .ok (.aload_n 0, 1) := by decide +kernel
theorem dX9_partings_65 : decode cX9_partings 65 = .ok (.getfield 52, 3) := by decide +kernel
theorem dX9_partings_68 : decode cX9_partings 68 = .ok (.invokevirtual 201, 3) := by decide +kernel
theorem dX9_partings_71 : decode cX9_partings 71 = .ok (.ireturn, 1) := by decide +kernel
set_option maxRecDepth 20000 in
theorem ggX9_together_X9_isRule : GoodIn wsX9_together wsX9_isRule := goodIn_r _ [6, 7, 8, 5, 9] (by decide +kernel) (by decide +kernel)
set_option maxRecDepth 20000 in
theorem gX9_together_X9_isRule : GoodIn wsX9_together (va_wsS RX9 78 yX9_isRule wsX9_isRule) := goodIn_app (goodIn_of _ (by decide +kernel)) ggX9_together_X9_isRule
set_option maxRecDepth 20000 in
theorem ggX9_together_X9_isKnot : GoodIn wsX9_together wsX9_isKnot := goodIn_r _ [13, 2, 14, 15, 16, 17, 18, 19, 20, 7, 8, 5, 9, 99, 100, 101, 102, 103, 104, 105, 106, 107, 108, 109, 110, 111, 112, 113, 114, 115, 116, 117, 118, 119, 120, 121, 122] (by decide +kernel) (by decide +kernel)
set_option maxRecDepth 20000 in
theorem gX9_together_X9_isKnot : GoodIn wsX9_together (wsV RX9 191 RX9 yX9_isKnot wsX9_isKnot) := goodIn_app (goodIn_of _ (by decide +kernel)) ggX9_together_X9_isKnot
set_option maxRecDepth 20000 in
theorem ggX9_together_X9_refuse : GoodIn wsX9_together wsX9_refuse := goodIn_r _ [24, 25, 99, 100, 101, 102, 103, 104, 105, 106, 107, 108, 109, 110] (by decide +kernel) (by decide +kernel)
set_option maxRecDepth 20000 in
theorem gX9_together_X9_refuse : GoodIn wsX9_together (wsV RX9 71 RX9 yX9_refuse wsX9_refuse) := goodIn_app (goodIn_of _ (by decide +kernel)) ggX9_together_X9_refuse
set_option maxRecDepth 20000 in
theorem ggX9_together_X6_partKnots : GoodIn wsX9_together wsX6_partKnots := goodIn_r _ [30, 31, 32, 33, 34, 35, 36, 37, 29, 38, 39, 40, 41, 42, 43, 16, 17, 18, 19, 20, 44, 45, 46, 47, 48, 49, 50, 51, 52, 53, 54, 8, 5, 9, 55, 56, 57, 58, 59, 60, 61, 62, 63, 64, 65, 66, 67, 68, 69, 70, 71, 72, 73, 74, 75, 76, 77, 78, 79, 80, 111, 112, 113, 114, 115, 116, 117, 118, 119, 120, 123, 124, 125, 126, 127, 128, 121, 122] (by decide +kernel) (by decide +kernel)
set_option maxRecDepth 20000 in
theorem gX9_together_X6_partKnots : GoodIn wsX9_together (wsV RX9 194 RX6 yX6_partKnots wsX6_partKnots) := goodIn_app (goodIn_of _ (by decide +kernel)) ggX9_together_X6_partKnots
set_option maxRecDepth 20000 in
theorem ggX9_together_X6_number : GoodIn wsX9_together wsX6_number := goodIn_r _ [84, 71, 85, 86, 87, 29, 88, 32, 123, 124, 125, 126, 127, 128] (by decide +kernel) (by decide +kernel)
set_option maxRecDepth 20000 in
theorem gX9_together_X6_number : GoodIn wsX9_together (wsV RX9 197 RX6 yX6_number wsX6_number) := goodIn_app (goodIn_of _ (by decide +kernel)) ggX9_together_X6_number
set_option maxRecDepth 20000 in
theorem ggX9_together_X6_numberWith : GoodIn wsX9_together wsX6_numberWith := goodIn_r _ [92, 33, 71, 85, 86, 87, 29, 88, 32, 123, 124, 125, 126, 127, 128] (by decide +kernel) (by decide +kernel)
set_option maxRecDepth 20000 in
theorem gX9_together_X6_numberWith : GoodIn wsX9_together (wsV RX9 203 RX6 yX6_numberWith wsX6_numberWith) := goodIn_app (goodIn_of _ (by decide +kernel)) ggX9_together_X6_numberWith
set_option maxRecDepth 20000 in
theorem ggX9_together_X9_keepFraction : GoodIn wsX9_together wsX9_keepFraction := goodIn_r _ [96, 97, 98, 99, 100, 101, 102, 103, 104, 105, 106, 107, 108, 109, 110] (by decide +kernel) (by decide +kernel)
set_option maxRecDepth 20000 in
theorem gX9_together_X9_keepFraction : GoodIn wsX9_together (wsV RX9 206 RX9 yX9_keepFraction wsX9_keepFraction) := goodIn_app (goodIn_of _ (by decide +kernel)) ggX9_together_X9_keepFraction
theorem dX9_together_0 : decode cX9_together 0 = .ok (.iload_n 1, 1) := by decide +kernel
theorem dX9_together_1 : decode cX9_together 1 = .ok (.invokestatic 78, 3) := by decide +kernel
theorem dX9_together_4 : decode cX9_together 4 = .ok (.ifCond .eq 24, 3) := by decide +kernel
theorem dX9_together_7 : decode cX9_together 7 = .ok (.aload_n 0, 1) := by decide +kernel
theorem dX9_together_8 : decode cX9_together 8 = .ok (.iload_n 2, 1) := by decide +kernel
theorem dX9_together_9 : decode cX9_together 9 = .ok (.invokevirtual 191, 3) := by decide +kernel
theorem dX9_together_12 : decode cX9_together 12 = .ok (.ifCond .eq 16, 3) := by decide +kernel
theorem dX9_together_15 : decode cX9_together 15 = .ok (.aload_n 0, 1) := by decide +kernel
theorem dX9_together_16 : decode cX9_together 16 = .ok (.iload_n 3, 1) := by decide +kernel
theorem dX9_together_17 : decode cX9_together 17 = .ok (.invokevirtual 191, 3) := by decide +kernel
theorem dX9_together_20 : decode cX9_together 20 = .ok (.ifCond .eq 8, 3) := by decide +kernel
theorem dX9_together_23 : decode cX9_together 23 = .ok (.iload_n 2, 1) := by decide +kernel
theorem dX9_together_24 : decode cX9_together 24 = .ok (.iload_n 3, 1) := by decide +kernel
theorem dX9_together_25 : decode cX9_together 25 = .ok (.if_icmp .ne 12, 3) := by decide +kernel
theorem dX9_together_28 : decode cX9_together 28 = .ok (.aload_n 0, 1) := by decide +kernel
theorem dX9_together_29 : decode cX9_together 29 = .ok (.bipush (-2), 2) := by decide +kernel
theorem dX9_together_31 : decode cX9_together 31 = .ok (.bipush (-2), 2) := by decide +kernel
theorem dX9_together_33 : decode cX9_together 33 = .ok (.invokevirtual 71, 3) := by decide +kernel
theorem dX9_together_36 : decode cX9_together 36 = .ok (.ireturn, 1) := by decide +kernel
theorem dX9_together_37 : decode cX9_together 37 = .ok (.aload_n 0, 1) := by decide +kernel
theorem dX9_together_38 : decode cX9_together 38 = .ok (.getfield 52, 3) := by decide +kernel
theorem dX9_together_41 : decode cX9_together 41 = .ok (.aload_n 0, 1) := by decide +kernel
theorem dX9_together_42 : decode cX9_together 42 = .ok (.getfield 10, 3) := by decide +kernel
theorem dX9_together_45 : decode cX9_together 45 = .ok (.iload_n 1, 1) := by decide +kernel
theorem dX9_together_46 : decode cX9_together 46 = .ok (.invokevirtual 194, 3) := by decide +kernel
theorem dX9_together_49 : decode cX9_together 49 = .ok (.aload_n 0, 1) := by decide +kernel
theorem dX9_together_50 : decode cX9_together 50 = .ok (.getfield 52, 3) := by decide +kernel
theorem dX9_together_53 : decode cX9_together 53 = .ok (.invokevirtual 197, 3) := by decide +kernel
theorem dX9_together_56 : decode cX9_together 56 = .ok (.ifCond .ne 12, 3) := by decide +kernel
theorem dX9_together_59 : decode cX9_together 59 = .ok (.aload_n 0, 1) := by decide +kernel
theorem dX9_together_60 : decode cX9_together 60 = .ok (.bipush (-3), 2) := by decide +kernel
theorem dX9_together_62 : decode cX9_together 62 = .ok (.bipush (-3), 2) := by decide +kernel
theorem dX9_together_64 : decode cX9_together 64 = .ok (.invokevirtual 71, 3) := by decide +kernel
theorem dX9_together_67 : decode cX9_together 67 = .ok (.ireturn, 1) := by decide +kernel
theorem dX9_together_68 : decode cX9_together 68 = .ok (.aload_n 0, 1) := by decide +kernel
theorem dX9_together_69 : decode cX9_together 69 = .ok (.aload_n 0, 1) := by decide +kernel
theorem dX9_together_70 : decode cX9_together 70 = .ok (.getfield 52, 3) := by decide +kernel
theorem dX9_together_73 : decode cX9_together 73 = .ok (.iload_n 2, 1) := by decide +kernel
theorem dX9_together_74 : decode cX9_together 74 = .ok (.iload_n 3, 1) := by decide +kernel
theorem dX9_together_75 : decode cX9_together 75 = .ok (.invokevirtual 203, 3) := by decide +kernel
theorem dX9_together_78 : decode cX9_together 78 = .ok (.aload_n 0, 1) := by decide +kernel
theorem dX9_together_79 : decode cX9_together 79 = .ok (.getfield 52, 3) := by decide +kernel
theorem dX9_together_82 : decode cX9_together 82 = .ok (.invokevirtual 197, 3) := by decide +kernel
theorem dX9_together_85 : decode cX9_together 85 = .ok (.invokevirtual 206, 3) := by decide +kernel
theorem dX9_together_88 : decode cX9_together 88 = .ok (.iconst 1, 1) := by decide +kernel
theorem dX9_together_89 : decode cX9_together 89 = .ok (.ireturn, 1) := by decide +kernel
set_option maxRecDepth 20000 in
theorem ggX9_soonest_X9_isRule : GoodIn wsX9_soonest wsX9_isRule := goodIn_r _ [6, 7, 8, 5, 9] (by decide +kernel) (by decide +kernel)
set_option maxRecDepth 20000 in
theorem gX9_soonest_X9_isRule : GoodIn wsX9_soonest (va_wsS RX9 78 yX9_isRule wsX9_isRule) := goodIn_app (goodIn_of _ (by decide +kernel)) ggX9_soonest_X9_isRule
set_option maxRecDepth 20000 in
theorem ggX9_soonest_X9_refuse : GoodIn wsX9_soonest wsX9_refuse := goodIn_r _ [13, 14, 128, 129, 130, 131, 132, 133, 134, 135, 136, 137, 138, 139] (by decide +kernel) (by decide +kernel)
set_option maxRecDepth 20000 in
theorem gX9_soonest_X9_refuse : GoodIn wsX9_soonest (wsV RX9 71 RX9 yX9_refuse wsX9_refuse) := goodIn_app (goodIn_of _ (by decide +kernel)) ggX9_soonest_X9_refuse
set_option maxRecDepth 20000 in
theorem ggX9_soonest_X8_search : GoodIn wsX9_soonest wsX8_search := goodIn_r _ [19, 20, 21, 22, 23, 24, 25, 26, 27, 28, 29, 30, 31, 32, 33, 34, 35, 36, 37, 38, 39, 40, 41, 42, 43, 44, 45, 46, 47, 48, 49, 8, 5, 9, 50, 51, 52, 53, 54, 55, 56, 57, 58, 18, 59, 60, 61, 62, 63, 64, 65, 66, 67, 68, 69, 70, 71, 72, 73, 74, 75, 76, 77, 78, 79, 80, 81, 82, 83, 84, 85, 86, 87, 88, 89, 90, 91, 92, 93, 94, 95, 96, 97, 98, 99, 100, 101, 102, 103, 104, 105, 106, 107, 108, 109, 110, 111, 112, 113, 114, 115, 116, 117, 118, 119, 120, 121, 122, 123, 124, 125, 126, 127, 155, 156, 157, 158, 159, 160, 161, 162, 163, 164, 140, 141, 142, 143, 144, 145, 146, 147, 148, 149, 150, 151, 152, 153, 154, 165, 166, 167, 168, 169, 170, 171, 172, 173] (by decide +kernel) (by decide +kernel)
set_option maxRecDepth 20000 in
theorem gX9_soonest_X8_search : GoodIn wsX9_soonest (wsV RX9 209 RX8 yX8_search wsX8_search) := goodIn_app (goodIn_of _ (by decide +kernel)) ggX9_soonest_X8_search
theorem dX9_soonest_0 : decode cX9_soonest 0 = .ok (.iload_n 1, 1) := by decide +kernel
theorem dX9_soonest_1 : decode cX9_soonest 1 = .ok (.invokestatic 78, 3) := by decide +kernel
theorem dX9_soonest_4 : decode cX9_soonest 4 = .ok (.ifCond .ne 12, 3) := by decide +kernel
theorem dX9_soonest_7 : decode cX9_soonest 7 = .ok (.aload_n 0, 1) := by decide +kernel
theorem dX9_soonest_8 : decode cX9_soonest 8 = .ok (.bipush (-2), 2) := by decide +kernel
theorem dX9_soonest_10 : decode cX9_soonest 10 = .ok (.bipush (-2), 2) := by decide +kernel
theorem dX9_soonest_12 : decode cX9_soonest 12 = .ok (.invokevirtual 71, 3) := by decide +kernel
theorem dX9_soonest_15 : decode cX9_soonest 15 = .ok (.ireturn, 1) := by decide +kernel
theorem dX9_soonest_16 : decode cX9_soonest 16 = .ok (.aload_n 0, 1) := by decide +kernel
theorem dX9_soonest_17 : decode cX9_soonest 17 = .ok (.getfield 59, 3) := by decide +kernel
theorem dX9_soonest_20 : decode cX9_soonest 20 = .ok (.aload_n 0, 1) := by decide +kernel
theorem dX9_soonest_21 : decode cX9_soonest 21 = .ok (.getfield 10, 3) := by decide +kernel
theorem dX9_soonest_24 : decode cX9_soonest 24 = .ok (.iload_n 1, 1) := by decide +kernel
theorem dX9_soonest_25 : decode cX9_soonest 25 = .ok (.invokevirtual 209, 3) := by decide +kernel
theorem dX9_soonest_28 : decode cX9_soonest 28 = .ok (.aload_n 0, 1) := by decide +kernel
theorem dX9_soonest_29 : decode cX9_soonest 29 = .ok (.getfield 59, 3) := by decide +kernel
theorem dX9_soonest_32 : decode cX9_soonest 32 = .ok (.getfield 212, 3) := by decide +kernel
theorem dX9_soonest_35 : decode cX9_soonest 35 = .ok (.ireturn, 1) := by decide +kernel
set_option maxRecDepth 20000 in
theorem ggX9_at_X9_isRule : GoodIn wsX9_at wsX9_isRule := goodIn_r _ [7, 8, 9, 6, 10] (by decide +kernel) (by decide +kernel)
set_option maxRecDepth 20000 in
theorem gX9_at_X9_isRule : GoodIn wsX9_at (va_wsS RX9 78 yX9_isRule wsX9_isRule) := goodIn_app (goodIn_of _ (by decide +kernel)) ggX9_at_X9_isRule
set_option maxRecDepth 20000 in
theorem ggX9_at_X2_isPerson : GoodIn wsX9_at wsX2_isPerson := goodIn_r _ [15, 16, 17, 18, 14, 19, 20, 21, 22, 23, 24, 25, 26, 9, 6, 10, 175, 176, 177, 178, 179, 180, 181, 182, 183] (by decide +kernel) (by decide +kernel)
set_option maxRecDepth 20000 in
theorem gX9_at_X2_isPerson : GoodIn wsX9_at (wsV RX9 159 RX2 yX2_isPerson wsX2_isPerson) := goodIn_app (goodIn_of _ (by decide +kernel)) ggX9_at_X2_isPerson
set_option maxRecDepth 20000 in
theorem ggX9_at_X9_refuse : GoodIn wsX9_at wsX9_refuse := goodIn_r _ [30, 31, 138, 139, 140, 141, 142, 143, 144, 145, 146, 147, 148, 149] (by decide +kernel) (by decide +kernel)
set_option maxRecDepth 20000 in
theorem gX9_at_X9_refuse : GoodIn wsX9_at (wsV RX9 71 RX9 yX9_refuse wsX9_refuse) := goodIn_app (goodIn_of _ (by decide +kernel)) ggX9_at_X9_refuse
set_option maxRecDepth 20000 in
theorem ggX9_at_X8_search : GoodIn wsX9_at wsX8_search := goodIn_r _ [36, 37, 38, 39, 40, 41, 42, 43, 44, 17, 18, 14, 19, 20, 21, 22, 23, 24, 25, 26, 45, 46, 47, 48, 49, 50, 51, 52, 53, 54, 55, 9, 6, 10, 56, 57, 58, 59, 60, 61, 62, 63, 64, 35, 65, 66, 67, 68, 69, 70, 71, 72, 73, 74, 75, 76, 77, 78, 79, 80, 81, 82, 83, 84, 85, 86, 87, 88, 89, 90, 91, 92, 93, 94, 95, 96, 97, 98, 99, 100, 101, 102, 103, 104, 105, 106, 107, 108, 109, 110, 111, 112, 113, 114, 115, 116, 117, 118, 119, 120, 121, 122, 123, 124, 125, 126, 127, 128, 129, 130, 131, 132, 133, 150, 151, 152, 153, 154, 155, 156, 157, 158, 159, 160, 161, 162, 163, 164, 165, 166, 167, 168, 169, 170, 171, 172, 173, 174, 175, 176, 177, 178, 179, 180, 181, 182, 183] (by decide +kernel) (by decide +kernel)
set_option maxRecDepth 20000 in
theorem gX9_at_X8_search : GoodIn wsX9_at (wsV RX9 209 RX8 yX8_search wsX8_search) := goodIn_app (goodIn_of _ (by decide +kernel)) ggX9_at_X8_search
set_option maxRecDepth 20000 in
theorem ggX9_at_X8_cornerBehind : GoodIn wsX9_at wsX8_cornerBehind := goodIn_r _ [137, 133, 9, 6, 10, 125, 126, 127, 35, 128, 101, 102, 103, 104, 38, 160, 161, 162, 163, 164, 165, 166, 167, 168, 169, 170, 171, 172, 173, 174] (by decide +kernel) (by decide +kernel)
set_option maxRecDepth 20000 in
theorem gX9_at_X8_cornerBehind : GoodIn wsX9_at (wsV RX9 215 RX8 yX8_cornerBehind wsX8_cornerBehind) := goodIn_app (goodIn_of _ (by decide +kernel)) ggX9_at_X8_cornerBehind
theorem dX9_at_0 : decode cX9_at 0 = .ok (.iload_n 1, 1) := by decide +kernel
theorem dX9_at_1 : decode cX9_at 1 = .ok (.invokestatic 78, 3) := by decide +kernel
theorem dX9_at_4 : decode cX9_at 4 = .ok (.ifCond .eq 21, 3) := by decide +kernel
theorem dX9_at_7 : decode cX9_at 7 = .ok (.iload_n 2, 1) := by decide +kernel
theorem dX9_at_8 : decode cX9_at 8 = .ok (.ifCond .lt 17, 3) := by decide +kernel
theorem dX9_at_11 : decode cX9_at 11 = .ok (.aload_n 0, 1) := by decide +kernel
theorem dX9_at_12 : decode cX9_at 12 = .ok (.getfield 10, 3) := by decide +kernel
theorem dX9_at_15 : decode cX9_at 15 = .ok (.getfield 93, 3) := by decide +kernel
theorem dX9_at_18 : decode cX9_at 18 = .ok (.iload_n 3, 1) := by decide +kernel
theorem dX9_at_19 : decode cX9_at 19 = .ok (.invokevirtual 159, 3) := by decide +kernel
theorem dX9_at_22 : decode cX9_at 22 = .ok (.ifCond .ne 12, 3) := by decide +kernel
theorem dX9_at_25 : decode cX9_at 25 = .ok (.aload_n 0, 1) := by decide +kernel
theorem dX9_at_26 : decode cX9_at 26 = .ok (.bipush (-2), 2) := by decide +kernel
theorem dX9_at_28 : decode cX9_at 28 = .ok (.bipush (-10), 2) := by decide +kernel
theorem dX9_at_30 : decode cX9_at 30 = .ok (.invokevirtual 71, 3) := by decide +kernel
theorem dX9_at_33 : decode cX9_at 33 = .ok (.ireturn, 1) := by decide +kernel
theorem dX9_at_34 : decode cX9_at 34 = .ok (.aload_n 0, 1) := by decide +kernel
theorem dX9_at_35 : decode cX9_at 35 = .ok (.getfield 59, 3) := by decide +kernel
theorem dX9_at_38 : decode cX9_at 38 = .ok (.aload_n 0, 1) := by decide +kernel
theorem dX9_at_39 : decode cX9_at 39 = .ok (.getfield 10, 3) := by decide +kernel
theorem dX9_at_42 : decode cX9_at 42 = .ok (.iload_n 1, 1) := by decide +kernel
theorem dX9_at_43 : decode cX9_at 43 = .ok (.invokevirtual 209, 3) := by decide +kernel
theorem dX9_at_46 : decode cX9_at 46 = .ok (.aload_n 0, 1) := by decide +kernel
theorem dX9_at_47 : decode cX9_at 47 = .ok (.getfield 59, 3) := by decide +kernel
theorem dX9_at_50 : decode cX9_at 50 = .ok (.getfield 212, 3) := by decide +kernel
theorem dX9_at_53 : decode cX9_at 53 = .ok (.iconst (-1), 1) := by decide +kernel
theorem dX9_at_54 : decode cX9_at 54 = .ok (.if_icmp .ne 12, 3) := by decide +kernel
theorem dX9_at_57 : decode cX9_at 57 = .ok (.aload_n 0, 1) := by decide +kernel
theorem dX9_at_58 : decode cX9_at 58 = .ok (.bipush (-3), 2) := by decide +kernel
theorem dX9_at_60 : decode cX9_at 60 = .ok (.bipush (-20), 2) := by decide +kernel
theorem dX9_at_62 : decode cX9_at 62 = .ok (.invokevirtual 71, 3) := by decide +kernel
theorem dX9_at_65 : decode cX9_at 65 = .ok (.ireturn, 1) := by decide +kernel
theorem dX9_at_66 : decode cX9_at 66 = .ok (.iload_n 2, 1) := by decide +kernel
theorem dX9_at_67 : decode cX9_at 67 = .ok (.aload_n 0, 1) := by decide +kernel
theorem dX9_at_68 : decode cX9_at 68 = .ok (.getfield 59, 3) := by decide +kernel
theorem dX9_at_71 : decode cX9_at 71 = .ok (.getfield 212, 3) := by decide +kernel
theorem dX9_at_74 : decode cX9_at 74 = .ok (.if_icmp .le 8, 3) := by decide +kernel
theorem dX9_at_77 : decode cX9_at 77 = .ok (.bipush (-5), 2) := by decide +kernel
theorem dX9_at_79 : decode cX9_at 79 = .ok (.goto 12, 3) := by decide +kernel
theorem dX9_at_82 : decode cX9_at 82 = .ok (.aload_n 0, 1) := by decide +kernel
theorem dX9_at_83 : decode cX9_at 83 = .ok (.getfield 59, 3) := by decide +kernel
theorem dX9_at_86 : decode cX9_at 86 = .ok (.iload_n 2, 1) := by decide +kernel
theorem dX9_at_87 : decode cX9_at 87 = .ok (.iload_n 3, 1) := by decide +kernel
theorem dX9_at_88 : decode cX9_at 88 = .ok (.invokevirtual 215, 3) := by decide +kernel
theorem dX9_at_91 : decode cX9_at 91 = .ok (.ireturn, 1) := by decide +kernel
set_option maxRecDepth 20000 in
theorem ggX9_never_X9_isRule : GoodIn wsX9_never wsX9_isRule := goodIn_r _ [6, 7, 8, 5, 9] (by decide +kernel) (by decide +kernel)
set_option maxRecDepth 20000 in
theorem gX9_never_X9_isRule : GoodIn wsX9_never (va_wsS RX9 78 yX9_isRule wsX9_isRule) := goodIn_app (goodIn_of _ (by decide +kernel)) ggX9_never_X9_isRule
set_option maxRecDepth 20000 in
theorem ggX9_never_X9_refuse : GoodIn wsX9_never wsX9_refuse := goodIn_r _ [13, 14, 128, 129, 130, 131, 132, 133, 134, 135, 136, 137, 138, 139] (by decide +kernel) (by decide +kernel)
set_option maxRecDepth 20000 in
theorem gX9_never_X9_refuse : GoodIn wsX9_never (wsV RX9 71 RX9 yX9_refuse wsX9_refuse) := goodIn_app (goodIn_of _ (by decide +kernel)) ggX9_never_X9_refuse
set_option maxRecDepth 20000 in
theorem ggX9_never_X8_search : GoodIn wsX9_never wsX8_search := goodIn_r _ [19, 20, 21, 22, 23, 24, 25, 26, 27, 28, 29, 30, 31, 32, 33, 34, 35, 36, 37, 38, 39, 40, 41, 42, 43, 44, 45, 46, 47, 48, 49, 8, 5, 9, 50, 51, 52, 53, 54, 55, 56, 57, 58, 18, 59, 60, 61, 62, 63, 64, 65, 66, 67, 68, 69, 70, 71, 72, 73, 74, 75, 76, 77, 78, 79, 80, 81, 82, 83, 84, 85, 86, 87, 88, 89, 90, 91, 92, 93, 94, 95, 96, 97, 98, 99, 100, 101, 102, 103, 104, 105, 106, 107, 108, 109, 110, 111, 112, 113, 114, 115, 116, 117, 118, 119, 120, 121, 122, 123, 124, 125, 126, 127, 155, 156, 157, 158, 159, 160, 161, 162, 163, 164, 140, 141, 142, 143, 144, 145, 146, 147, 148, 149, 150, 151, 152, 153, 154, 165, 166, 167, 168, 169, 170, 171, 172, 173] (by decide +kernel) (by decide +kernel)
set_option maxRecDepth 20000 in
theorem gX9_never_X8_search : GoodIn wsX9_never (wsV RX9 209 RX8 yX8_search wsX8_search) := goodIn_app (goodIn_of _ (by decide +kernel)) ggX9_never_X8_search
theorem dX9_never_0 : decode cX9_never 0 = .ok (.iload_n 1, 1) := by decide +kernel
theorem dX9_never_1 : decode cX9_never 1 = .ok (.invokestatic 78, 3) := by decide +kernel
theorem dX9_never_4 : decode cX9_never 4 = .ok (.ifCond .ne 12, 3) := by decide +kernel
theorem dX9_never_7 : decode cX9_never 7 = .ok (.aload_n 0, 1) := by decide +kernel
theorem dX9_never_8 : decode cX9_never 8 = .ok (.bipush (-2), 2) := by decide +kernel
theorem dX9_never_10 : decode cX9_never 10 = .ok (.bipush (-2), 2) := by decide +kernel
theorem dX9_never_12 : decode cX9_never 12 = .ok (.invokevirtual 71, 3) := by decide +kernel
theorem dX9_never_15 : decode cX9_never 15 = .ok (.ireturn, 1) := by decide +kernel
theorem dX9_never_16 : decode cX9_never 16 = .ok (.aload_n 0, 1) := by decide +kernel
theorem dX9_never_17 : decode cX9_never 17 = .ok (.getfield 59, 3) := by decide +kernel
theorem dX9_never_20 : decode cX9_never 20 = .ok (.aload_n 0, 1) := by decide +kernel
theorem dX9_never_21 : decode cX9_never 21 = .ok (.getfield 10, 3) := by decide +kernel
theorem dX9_never_24 : decode cX9_never 24 = .ok (.iload_n 1, 1) := by decide +kernel
theorem dX9_never_25 : decode cX9_never 25 = .ok (.invokevirtual 209, 3) := by decide +kernel
theorem dX9_never_28 : decode cX9_never 28 = .ok (.aload_n 0, 1) := by decide +kernel
theorem dX9_never_29 : decode cX9_never 29 = .ok (.getfield 59, 3) := by decide +kernel
theorem dX9_never_32 : decode cX9_never 32 = .ok (.getfield 218, 3) := by decide +kernel
theorem dX9_never_35 : decode cX9_never 35 = .ok (.ireturn, 1) := by decide +kernel
set_option maxRecDepth 20000 in
theorem ggX9_hired_X9_isRule : GoodIn wsX9_hired wsX9_isRule := goodIn_r _ [5, 6, 7, 4, 8] (by decide +kernel) (by decide +kernel)
set_option maxRecDepth 20000 in
theorem gX9_hired_X9_isRule : GoodIn wsX9_hired (va_wsS RX9 78 yX9_isRule wsX9_isRule) := goodIn_app (goodIn_of _ (by decide +kernel)) ggX9_hired_X9_isRule
set_option maxRecDepth 20000 in
theorem ggX9_hired_X9_refuse : GoodIn wsX9_hired wsX9_refuse := goodIn_r _ [12, 13, 26, 27, 28, 29, 30, 31, 32, 33, 34, 35, 36, 37] (by decide +kernel) (by decide +kernel)
set_option maxRecDepth 20000 in
theorem gX9_hired_X9_refuse : GoodIn wsX9_hired (wsV RX9 71 RX9 yX9_refuse wsX9_refuse) := goodIn_app (goodIn_of _ (by decide +kernel)) ggX9_hired_X9_refuse
set_option maxRecDepth 20000 in
theorem ggX9_hired_X1_fits : GoodIn wsX9_hired wsX1_fits := goodIn_r _ [18, 19, 7, 4, 8, 20, 21, 17, 22, 23, 24, 25, 38, 39, 40, 41, 42, 43, 44, 45, 46, 47] (by decide +kernel) (by decide +kernel)
set_option maxRecDepth 20000 in
theorem gX9_hired_X1_fits : GoodIn wsX9_hired (wsV RX9 86 RX1 yX1_fits wsX1_fits) := goodIn_app (goodIn_of _ (by decide +kernel)) ggX9_hired_X1_fits
theorem dX9_hired_0 : decode cX9_hired 0 = .ok (.iload_n 1, 1) := by decide +kernel
theorem dX9_hired_1 : decode cX9_hired 1 = .ok (.invokestatic 78, 3) := by decide +kernel
theorem dX9_hired_4 : decode cX9_hired 4 = .ok (.ifCond .ne 12, 3) := by decide +kernel
theorem dX9_hired_7 : decode cX9_hired 7 = .ok (.aload_n 0, 1) := by decide +kernel
theorem dX9_hired_8 : decode cX9_hired 8 = .ok (.bipush (-2), 2) := by decide +kernel
theorem dX9_hired_10 : decode cX9_hired 10 = .ok (.bipush (-2), 2) := by decide +kernel
theorem dX9_hired_12 : decode cX9_hired 12 = .ok (.invokevirtual 71, 3) := by decide +kernel
theorem dX9_hired_15 : decode cX9_hired 15 = .ok (.ireturn, 1) := by decide +kernel
theorem dX9_hired_16 : decode cX9_hired 16 = .ok (.iconst 0, 1) := by decide +kernel
theorem dX9_hired_17 : decode cX9_hired 17 = .ok (.istore_n 3, 1) := by decide +kernel
theorem dX9_hired_18 : decode cX9_hired 18 = .ok (.iload_n 3, 1) := by decide +kernel
theorem dX9_hired_19 : decode cX9_hired 19 = .ok (.bipush 40, 2) := by decide +kernel
theorem dX9_hired_21 : decode cX9_hired 21 = .ok (.if_icmp .gt 57, 3) := by decide +kernel
theorem dX9_hired_24 : decode cX9_hired 24 = .ok (.iload_n 2, 1) := by decide +kernel
theorem dX9_hired_25 : decode cX9_hired 25 = .ok (.ifCond .eq 19, 3) := by decide +kernel
theorem dX9_hired_28 : decode cX9_hired 28 = .ok (.iload_n 3, 1) := by decide +kernel
theorem dX9_hired_29 : decode cX9_hired 29 = .ok (.ifCond .eq 15, 3) := by decide +kernel
theorem dX9_hired_32 : decode cX9_hired 32 = .ok (.aload_n 0, 1) := by decide +kernel
theorem dX9_hired_33 : decode cX9_hired 33 = .ok (.getfield 10, 3) := by decide +kernel
theorem dX9_hired_36 : decode cX9_hired 36 = .ok (.iload_n 1, 1) := by decide +kernel
theorem dX9_hired_37 : decode cX9_hired 37 = .ok (.iload_n 3, 1) := by decide +kernel
theorem dX9_hired_38 : decode cX9_hired 38 = .ok (.invokevirtual 86, 3) := by decide +kernel
theorem dX9_hired_41 : decode cX9_hired 41 = .ok (.ifCond .eq 7, 3) := by decide +kernel
theorem dX9_hired_44 : decode cX9_hired 44 = .ok (.iconst 1, 1) := by decide +kernel
theorem dX9_hired_45 : decode cX9_hired 45 = .ok (.goto 4, 3) := by decide +kernel
theorem dX9_hired_48 : decode cX9_hired 48 = .ok (.iconst 0, 1) := by decide +kernel
theorem dX9_hired_49 : decode cX9_hired 49 = .ok (.istore 4, 2) := by decide +kernel
theorem dX9_hired_51 : decode cX9_hired 51 = .ok (.iload 4, 2) := by decide +kernel
theorem dX9_hired_53 : decode cX9_hired 53 = .ok (.ifCond .eq 19, 3) := by decide +kernel
theorem dX9_hired_56 : decode cX9_hired 56 = .ok (.aload_n 0, 1) := by decide +kernel
theorem dX9_hired_57 : decode cX9_hired 57 = .ok (.getfield 10, 3) := by decide +kernel
theorem dX9_hired_60 : decode cX9_hired 60 = .ok (.iload_n 1, 1) := by decide +kernel
theorem dX9_hired_61 : decode cX9_hired 61 = .ok (.iconst 1, 1) := by decide +kernel
theorem dX9_hired_62 : decode cX9_hired 62 = .ok (.iload_n 3, 1) := by decide +kernel
theorem dX9_hired_63 : decode cX9_hired 63 = .ok (.iadd, 1) := by decide +kernel
theorem dX9_hired_64 : decode cX9_hired 64 = .ok (.invokevirtual 86, 3) := by decide +kernel
theorem dX9_hired_67 : decode cX9_hired 67 = .ok (.ifCond .eq 5, 3) := by decide +kernel
theorem dX9_hired_70 : decode cX9_hired 70 = .ok (.iload_n 3, 1) := by decide +kernel
theorem dX9_hired_71 : decode cX9_hired 71 = .ok (.ireturn, 1) := by decide +kernel
theorem dX9_hired_72 : decode cX9_hired 72 = .ok (.iinc 3 1, 3) := by decide +kernel
theorem dX9_hired_75 : decode cX9_hired 75 = .ok (.goto (-57), 3) := by decide +kernel
theorem dX9_hired_78 : decode cX9_hired 78 = .ok (.iconst (-1), 1) := by decide +kernel
theorem dX9_hired_79 : decode cX9_hired 79 = .ok (.ireturn, 1) := by decide +kernel
set_option maxRecDepth 20000 in
theorem ggX9_last_X9_isCorner : GoodIn wsX9_last wsX9_isCorner := goodIn_r _ [6, 7, 8, 5, 9] (by decide +kernel) (by decide +kernel)
set_option maxRecDepth 20000 in
theorem gX9_last_X9_isCorner : GoodIn wsX9_last (va_wsS RX9 90 yX9_isCorner wsX9_isCorner) := goodIn_app (goodIn_of _ (by decide +kernel)) ggX9_last_X9_isCorner
set_option maxRecDepth 20000 in
theorem ggX9_last_X9_isWithin : GoodIn wsX9_last wsX9_isWithin := goodIn_r _ [9] (by decide +kernel) (by decide +kernel)
set_option maxRecDepth 20000 in
theorem gX9_last_X9_isWithin : GoodIn wsX9_last (va_wsS RX9 82 yX9_isWithin wsX9_isWithin) := goodIn_app (goodIn_of _ (by decide +kernel)) ggX9_last_X9_isWithin
set_option maxRecDepth 20000 in
theorem ggX9_last_X9_refuse : GoodIn wsX9_last wsX9_refuse := goodIn_r _ [13, 14, 26, 27, 28, 29, 30, 31, 32, 33, 34, 35, 36, 37] (by decide +kernel) (by decide +kernel)
set_option maxRecDepth 20000 in
theorem gX9_last_X9_refuse : GoodIn wsX9_last (wsV RX9 71 RX9 yX9_refuse wsX9_refuse) := goodIn_app (goodIn_of _ (by decide +kernel)) ggX9_last_X9_refuse
set_option maxRecDepth 20000 in
theorem ggX9_last_X7_get : GoodIn wsX9_last wsX7_get := goodIn_r _ [19, 20, 21, 48, 49] (by decide +kernel) (by decide +kernel)
set_option maxRecDepth 20000 in
theorem gX9_last_X7_get : GoodIn wsX9_last (wsV RX9 224 RX7 yX7_get wsX7_get) := goodIn_app (goodIn_of _ (by decide +kernel)) ggX9_last_X7_get
set_option maxRecDepth 20000 in
theorem ggX9_last_X7_set : GoodIn wsX9_last wsX7_set := goodIn_r _ [25, 20, 21, 48, 49] (by decide +kernel) (by decide +kernel)
set_option maxRecDepth 20000 in
theorem gX9_last_X7_set : GoodIn wsX9_last (wsV RX9 227 RX7 yX7_set wsX7_set) := goodIn_app (goodIn_of _ (by decide +kernel)) ggX9_last_X7_set
theorem dX9_last_0 : decode cX9_last 0 = .ok (.iload_n 1, 1) := by decide +kernel
theorem dX9_last_1 : decode cX9_last 1 = .ok (.invokestatic 90, 3) := by decide +kernel
theorem dX9_last_4 : decode cX9_last 4 = .ok (.ifCond .eq 13, 3) := by decide +kernel
theorem dX9_last_7 : decode cX9_last 7 = .ok (.iload_n 2, 1) := by decide +kernel
theorem dX9_last_8 : decode cX9_last 8 = .ok (.iconst 0, 1) := by decide +kernel
theorem dX9_last_9 : decode cX9_last 9 = .ok (.bipush 99, 2) := by decide +kernel
theorem dX9_last_11 : decode cX9_last 11 = .ok (.invokestatic 82, 3) := by decide +kernel
theorem dX9_last_14 : decode cX9_last 14 = .ok (.ifCond .ne 12, 3) := by decide +kernel
theorem dX9_last_17 : decode cX9_last 17 = .ok (.aload_n 0, 1) := by decide +kernel
theorem dX9_last_18 : decode cX9_last 18 = .ok (.bipush (-2), 2) := by decide +kernel
theorem dX9_last_20 : decode cX9_last 20 = .ok (.bipush (-2), 2) := by decide +kernel
theorem dX9_last_22 : decode cX9_last 22 = .ok (.invokevirtual 71, 3) := by decide +kernel
theorem dX9_last_25 : decode cX9_last 25 = .ok (.ireturn, 1) := by decide +kernel
theorem dX9_last_26 : decode cX9_last 26 = .ok (.aload_n 0, 1) := by decide +kernel
theorem dX9_last_27 : decode cX9_last 27 = .ok (.getfield 10, 3) := by decide +kernel
theorem dX9_last_30 : decode cX9_last 30 = .ok (.getfield 221, 3) := by decide +kernel
theorem dX9_last_33 : decode cX9_last 33 = .ok (.iload_n 1, 1) := by decide +kernel
theorem dX9_last_34 : decode cX9_last 34 = .ok (.invokevirtual 224, 3) := by decide +kernel
theorem dX9_last_37 : decode cX9_last 37 = .ok (.istore_n 3, 1) := by decide +kernel
theorem dX9_last_38 : decode cX9_last 38 = .ok (.aload_n 0, 1) := by decide +kernel
theorem dX9_last_39 : decode cX9_last 39 = .ok (.getfield 10, 3) := by decide +kernel
theorem dX9_last_42 : decode cX9_last 42 = .ok (.getfield 221, 3) := by decide +kernel
theorem dX9_last_45 : decode cX9_last 45 = .ok (.iload_n 1, 1) := by decide +kernel
theorem dX9_last_46 : decode cX9_last 46 = .ok (.iload_n 2, 1) := by decide +kernel
theorem dX9_last_47 : decode cX9_last 47 = .ok (.invokevirtual 227, 3) := by decide +kernel
theorem dX9_last_50 : decode cX9_last 50 = .ok (.iload_n 3, 1) := by decide +kernel
theorem dX9_last_51 : decode cX9_last 51 = .ok (.ireturn, 1) := by decide +kernel
set_option maxRecDepth 20000 in
theorem ggX9_still_X9_isRule : GoodIn wsX9_still wsX9_isRule := goodIn_r _ [6, 7, 8, 5, 9] (by decide +kernel) (by decide +kernel)
set_option maxRecDepth 20000 in
theorem gX9_still_X9_isRule : GoodIn wsX9_still (va_wsS RX9 78 yX9_isRule wsX9_isRule) := goodIn_app (goodIn_of _ (by decide +kernel)) ggX9_still_X9_isRule
set_option maxRecDepth 20000 in
theorem ggX9_still_X9_refuse : GoodIn wsX9_still wsX9_refuse := goodIn_r _ [13, 14, 70, 71, 72, 73, 74, 75, 76, 77, 78, 79, 80, 81] (by decide +kernel) (by decide +kernel)
set_option maxRecDepth 20000 in
theorem gX9_still_X9_refuse : GoodIn wsX9_still (wsV RX9 71 RX9 yX9_refuse wsX9_refuse) := goodIn_app (goodIn_of _ (by decide +kernel)) ggX9_still_X9_refuse
set_option maxRecDepth 20000 in
theorem ggX9_still_X2_starters : GoodIn wsX9_still wsX2_starters := goodIn_r _ [19, 20, 21, 22, 23, 18, 24, 25, 26, 27, 28, 29, 30, 31, 32, 33, 34, 35, 92, 93, 94, 95, 96, 97, 98, 99, 100] (by decide +kernel) (by decide +kernel)
set_option maxRecDepth 20000 in
theorem gX9_still_X2_starters : GoodIn wsX9_still (wsV RX9 229 RX2 yX2_starters wsX2_starters) := goodIn_app (goodIn_of _ (by decide +kernel)) ggX9_still_X2_starters
set_option maxRecDepth 20000 in
theorem ggX9_still_X1_canLeave : GoodIn wsX9_still wsX1_canLeave := goodIn_r _ [40, 41, 42, 43, 44, 45, 18, 46, 47, 48, 49, 50, 51, 52, 5, 53, 7, 8, 9, 54, 55, 56, 57, 16, 17, 19, 20, 21, 22, 23, 24, 25, 26, 27, 28, 29, 30, 31, 32, 33, 34, 35, 58, 59, 60, 39, 61, 62, 63, 64, 65, 66, 67, 68, 69, 82, 83, 84, 85, 86, 87, 88, 89, 90, 91, 92, 93, 94, 95, 96, 97, 98, 99, 100] (by decide +kernel) (by decide +kernel)
set_option maxRecDepth 20000 in
theorem gX9_still_X1_canLeave : GoodIn wsX9_still (wsV RX9 232 RX1 yX1_canLeave wsX1_canLeave) := goodIn_app (goodIn_of _ (by decide +kernel)) ggX9_still_X1_canLeave
theorem dX9_still_0 : decode cX9_still 0 = .ok (.iload_n 1, 1) := by decide +kernel
theorem dX9_still_1 : decode cX9_still 1 = .ok (.invokestatic 78, 3) := by decide +kernel
theorem dX9_still_4 : decode cX9_still 4 = .ok (.ifCond .ne 12, 3) := by decide +kernel
theorem dX9_still_7 : decode cX9_still 7 = .ok (.aload_n 0, 1) := by decide +kernel
theorem dX9_still_8 : decode cX9_still 8 = .ok (.bipush (-2), 2) := by decide +kernel
theorem dX9_still_10 : decode cX9_still 10 = .ok (.bipush (-2), 2) := by decide +kernel
theorem dX9_still_12 : decode cX9_still 12 = .ok (.invokevirtual 71, 3) := by decide +kernel
theorem dX9_still_15 : decode cX9_still 15 = .ok (.ireturn, 1) := by decide +kernel
theorem dX9_still_16 : decode cX9_still 16 = .ok (.iconst 0, 1) := by decide +kernel
theorem dX9_still_17 : decode cX9_still 17 = .ok (.istore_n 2, 1) := by decide +kernel
theorem dX9_still_18 : decode cX9_still 18 = .ok (.iconst 0, 1) := by decide +kernel
theorem dX9_still_19 : decode cX9_still 19 = .ok (.istore_n 3, 1) := by decide +kernel
theorem dX9_still_20 : decode cX9_still 20 = .ok (.iload_n 3, 1) := by decide +kernel
theorem dX9_still_21 : decode cX9_still 21 = .ok (.iconst 4, 1) := by decide +kernel
theorem dX9_still_22 : decode cX9_still 22 = .ok (.if_icmp .ge 41, 3) := by decide +kernel
theorem dX9_still_25 : decode cX9_still 25 = .ok (.aload_n 0, 1) := by decide +kernel
theorem dX9_still_26 : decode cX9_still 26 = .ok (.getfield 10, 3) := by decide +kernel
theorem dX9_still_29 : decode cX9_still 29 = .ok (.getfield 93, 3) := by decide +kernel
theorem dX9_still_32 : decode cX9_still 32 = .ok (.iload_n 3, 1) := by decide +kernel
theorem dX9_still_33 : decode cX9_still 33 = .ok (.invokevirtual 229, 3) := by decide +kernel
theorem dX9_still_36 : decode cX9_still 36 = .ok (.ifCond .le 21, 3) := by decide +kernel
theorem dX9_still_39 : decode cX9_still 39 = .ok (.aload_n 0, 1) := by decide +kernel
theorem dX9_still_40 : decode cX9_still 40 = .ok (.getfield 10, 3) := by decide +kernel
theorem dX9_still_43 : decode cX9_still 43 = .ok (.iload_n 1, 1) := by decide +kernel
theorem dX9_still_44 : decode cX9_still 44 = .ok (.iload_n 3, 1) := by decide +kernel
theorem dX9_still_45 : decode cX9_still 45 = .ok (.invokevirtual 232, 3) := by decide +kernel
theorem dX9_still_48 : decode cX9_still 48 = .ok (.ifCond .ne 9, 3) := by decide +kernel
theorem dX9_still_51 : decode cX9_still 51 = .ok (.iload_n 2, 1) := by decide +kernel
theorem dX9_still_52 : decode cX9_still 52 = .ok (.iconst 1, 1) := by decide +kernel
theorem dX9_still_53 : decode cX9_still 53 = .ok (.iload_n 3, 1) := by decide +kernel
theorem dX9_still_54 : decode cX9_still 54 = .ok (.ishl, 1) := by decide +kernel
theorem dX9_still_55 : decode cX9_still 55 = .ok (.ior, 1) := by decide +kernel
theorem dX9_still_56 : decode cX9_still 56 = .ok (.istore_n 2, 1) := by decide +kernel
theorem dX9_still_57 : decode cX9_still 57 = .ok (.iinc 3 1, 3) := by decide +kernel
theorem dX9_still_60 : decode cX9_still 60 = .ok (.goto (-40), 3) := by decide +kernel
theorem dX9_still_63 : decode cX9_still 63 = .ok (.iload_n 2, 1) := by decide +kernel
theorem dX9_still_64 : decode cX9_still 64 = .ok (.ireturn, 1) := by decide +kernel
set_option maxRecDepth 20000 in
theorem ggX9_tables_X9_isRule : GoodIn wsX9_tables wsX9_isRule := goodIn_r _ [6, 7, 8, 5, 9] (by decide +kernel) (by decide +kernel)
set_option maxRecDepth 20000 in
theorem gX9_tables_X9_isRule : GoodIn wsX9_tables (va_wsS RX9 78 yX9_isRule wsX9_isRule) := goodIn_app (goodIn_of _ (by decide +kernel)) ggX9_tables_X9_isRule
set_option maxRecDepth 20000 in
theorem ggX9_tables_X9_isWithin : GoodIn wsX9_tables wsX9_isWithin := goodIn_r _ [9] (by decide +kernel) (by decide +kernel)
set_option maxRecDepth 20000 in
theorem gX9_tables_X9_isWithin : GoodIn wsX9_tables (va_wsS RX9 82 yX9_isWithin wsX9_isWithin) := goodIn_app (goodIn_of _ (by decide +kernel)) ggX9_tables_X9_isWithin
set_option maxRecDepth 20000 in
theorem ggX9_tables_X9_refuse : GoodIn wsX9_tables wsX9_refuse := goodIn_r _ [13, 14, 64, 65, 66, 67, 68, 69, 70, 71, 72, 73, 74, 75] (by decide +kernel) (by decide +kernel)
set_option maxRecDepth 20000 in
theorem gX9_tables_X9_refuse : GoodIn wsX9_tables (wsV RX9 71 RX9 yX9_refuse wsX9_refuse) := goodIn_app (goodIn_of _ (by decide +kernel)) ggX9_tables_X9_refuse
set_option maxRecDepth 20000 in
theorem ggX9_tables_X5_lay : GoodIn wsX9_tables wsX5_lay := goodIn_r _ [19, 20, 21, 22, 23, 24, 25, 26, 27, 28, 29, 30, 31, 8, 5, 9, 32, 33, 34, 35, 36, 37, 76, 77, 78, 79, 80, 81, 82, 83, 84, 85, 86, 87, 88, 89, 90, 91, 92] (by decide +kernel) (by decide +kernel)
set_option maxRecDepth 20000 in
theorem gX9_tables_X5_lay : GoodIn wsX9_tables (wsV RX9 235 RX5 yX5_lay wsX5_lay) := goodIn_app (goodIn_of _ (by decide +kernel)) ggX9_tables_X5_lay
set_option maxRecDepth 20000 in
theorem ggX9_tables_X5_fewestStood : GoodIn wsX9_tables wsX5_fewestStood := goodIn_r _ [41, 24, 42, 43, 44, 45, 46, 47, 48, 49, 50, 18, 51, 20, 22, 23, 52, 53, 54, 55, 56, 57, 58, 59, 25, 76, 77, 78, 79, 80, 81, 82] (by decide +kernel) (by decide +kernel)
set_option maxRecDepth 20000 in
theorem gX9_tables_X5_fewestStood : GoodIn wsX9_tables (wsV RX9 239 RX5 yX5_fewestStood wsX5_fewestStood) := goodIn_app (goodIn_of _ (by decide +kernel)) ggX9_tables_X5_fewestStood
set_option maxRecDepth 20000 in
theorem ggX9_tables_X5_fewestLeft : GoodIn wsX9_tables wsX5_fewestLeft := goodIn_r _ [63, 24, 25, 44, 45, 46, 47, 76, 77, 78, 79, 80, 81, 82] (by decide +kernel) (by decide +kernel)
set_option maxRecDepth 20000 in
theorem gX9_tables_X5_fewestLeft : GoodIn wsX9_tables (wsV RX9 242 RX5 yX5_fewestLeft wsX5_fewestLeft) := goodIn_app (goodIn_of _ (by decide +kernel)) ggX9_tables_X5_fewestLeft
theorem dX9_tables_0 : decode cX9_tables 0 = .ok (.iload_n 1, 1) := by decide +kernel
theorem dX9_tables_1 : decode cX9_tables 1 = .ok (.invokestatic 78, 3) := by decide +kernel
theorem dX9_tables_4 : decode cX9_tables 4 = .ok (.ifCond .eq 26, 3) := by decide +kernel
theorem dX9_tables_7 : decode cX9_tables 7 = .ok (.iload_n 2, 1) := by decide +kernel
theorem dX9_tables_8 : decode cX9_tables 8 = .ok (.iconst 1, 1) := by decide +kernel
theorem dX9_tables_9 : decode cX9_tables 9 = .ok (.iconst 3, 1) := by decide +kernel
theorem dX9_tables_10 : decode cX9_tables 10 = .ok (.invokestatic 82, 3) := by decide +kernel
theorem dX9_tables_13 : decode cX9_tables 13 = .ok (.ifCond .eq 17, 3) := by decide +kernel
theorem dX9_tables_16 : decode cX9_tables 16 = .ok (.iload_n 3, 1) := by decide +kernel
theorem dX9_tables_17 : decode cX9_tables 17 = .ok (.iconst 1, 1) := by decide +kernel
theorem dX9_tables_18 : decode cX9_tables 18 = .ok (.bipush 12, 2) := by decide +kernel
theorem dX9_tables_20 : decode cX9_tables 20 = .ok (.invokestatic 82, 3) := by decide +kernel
theorem dX9_tables_23 : decode cX9_tables 23 = .ok (.ifCond .eq 7, 3) := by decide +kernel
theorem dX9_tables_26 : decode cX9_tables 26 = .ok (.iconst 1, 1) := by decide +kernel
theorem dX9_tables_27 : decode cX9_tables 27 = .ok (.goto 4, 3) := by decide +kernel
theorem dX9_tables_30 : decode cX9_tables 30 = .ok (.iconst 0, 1) := by decide +kernel
theorem dX9_tables_31 : decode cX9_tables 31 = .ok (.istore 6, 2) := by decide +kernel
theorem dX9_tables_33 : decode cX9_tables 33 = .ok (.iload 6, 2) := by decide +kernel
theorem dX9_tables_35 : decode cX9_tables 35 = .ok (.ifCond .eq 24, 3) := by decide +kernel
theorem dX9_tables_38 : decode cX9_tables 38 = .ok (.iload 4, 2) := by decide +kernel
theorem dX9_tables_40 : decode cX9_tables 40 = .ok (.iconst 0, 1) := by decide +kernel
theorem dX9_tables_41 : decode cX9_tables 41 = .ok (.bipush 24, 2) := by decide +kernel
theorem dX9_tables_43 : decode cX9_tables 43 = .ok (.invokestatic 82, 3) := by decide +kernel
theorem dX9_tables_46 : decode cX9_tables 46 = .ok (.ifCond .eq 13, 3) := by decide +kernel
theorem dX9_tables_49 : decode cX9_tables 49 = .ok (.iload 5, 2) := by decide +kernel
theorem dX9_tables_51 : decode cX9_tables 51 = .ok (.iconst 0, 1) := by decide +kernel
theorem dX9_tables_52 : decode cX9_tables 52 = .ok (.iconst 1, 1) := by decide +kernel
theorem dX9_tables_53 : decode cX9_tables 53 = .ok (.invokestatic 82, 3) := by decide +kernel
theorem dX9_tables_56 : decode cX9_tables 56 = .ok (.ifCond .ne 12, 3) := by decide +kernel
theorem dX9_tables_59 : decode cX9_tables 59 = .ok (.aload_n 0, 1) := by decide +kernel
theorem dX9_tables_60 : decode cX9_tables 60 = .ok (.bipush (-2), 2) := by decide +kernel
theorem dX9_tables_62 : decode cX9_tables 62 = .ok (.bipush (-2), 2) := by decide +kernel
theorem dX9_tables_64 : decode cX9_tables 64 = .ok (.invokevirtual 71, 3) := by decide +kernel
theorem dX9_tables_67 : decode cX9_tables 67 = .ok (.ireturn, 1) := by decide +kernel
theorem dX9_tables_68 : decode cX9_tables 68 = .ok (.aload_n 0, 1) := by decide +kernel
theorem dX9_tables_69 : decode cX9_tables 69 = .ok (.getfield 66, 3) := by decide +kernel
theorem dX9_tables_72 : decode cX9_tables 72 = .ok (.aload_n 0, 1) := by decide +kernel
theorem dX9_tables_73 : decode cX9_tables 73 = .ok (.getfield 10, 3) := by decide +kernel
theorem dX9_tables_76 : decode cX9_tables 76 = .ok (.iload_n 1, 1) := by decide +kernel
theorem dX9_tables_77 : decode cX9_tables 77 = .ok (.iload_n 2, 1) := by decide +kernel
theorem dX9_tables_78 : decode cX9_tables 78 = .ok (.iload_n 3, 1) := by decide +kernel
theorem dX9_tables_79 : decode cX9_tables 79 = .ok (.invokevirtual 235, 3) := by decide +kernel
theorem dX9_tables_82 : decode cX9_tables 82 = .ok (.iload 5, 2) := by decide +kernel
theorem dX9_tables_84 : decode cX9_tables 84 = .ok (.ifCond .ne 15, 3) := by decide +kernel
theorem dX9_tables_87 : decode cX9_tables 87 = .ok (.aload_n 0, 1) := by decide +kernel
theorem dX9_tables_88 : decode cX9_tables 88 = .ok (.getfield 66, 3) := by decide +kernel
theorem dX9_tables_91 : decode cX9_tables 91 = .ok (.iload 4, 2) := by decide +kernel
theorem dX9_tables_93 : decode cX9_tables 93 = .ok (.invokevirtual 239, 3) := by decide +kernel
theorem dX9_tables_96 : decode cX9_tables 96 = .ok (.goto 12, 3) := by decide +kernel
theorem dX9_tables_99 : decode cX9_tables 99 = .ok (.aload_n 0, 1) := by decide +kernel
theorem dX9_tables_100 : decode cX9_tables 100 = .ok (.getfield 66, 3) := by decide +kernel
theorem dX9_tables_103 : decode cX9_tables 103 = .ok (.iload 4, 2) := by decide +kernel
theorem dX9_tables_105 : decode cX9_tables 105 = .ok (.invokevirtual 242, 3) := by decide +kernel
theorem dX9_tables_108 : decode cX9_tables 108 = .ok (.ireturn, 1) := by decide +kernel
set_option maxRecDepth 20000 in
theorem ggX9_company_X9_isWithin : GoodIn wsX9_company wsX9_isWithin := goodIn_r _ [6] (by decide +kernel) (by decide +kernel)
set_option maxRecDepth 20000 in
theorem gX9_company_X9_isWithin : GoodIn wsX9_company (va_wsS RX9 82 yX9_isWithin wsX9_isWithin) := goodIn_app (goodIn_of _ (by decide +kernel)) ggX9_company_X9_isWithin
set_option maxRecDepth 20000 in
theorem ggX9_company_X9_refuse : GoodIn wsX9_company wsX9_refuse := goodIn_r _ [10, 11, 27, 28, 29, 30, 31, 32, 33, 34, 35, 36, 37, 38] (by decide +kernel) (by decide +kernel)
set_option maxRecDepth 20000 in
theorem gX9_company_X9_refuse : GoodIn wsX9_company (wsV RX9 71 RX9 yX9_refuse wsX9_refuse) := goodIn_app (goodIn_of _ (by decide +kernel)) ggX9_company_X9_refuse
set_option maxRecDepth 20000 in
theorem ggX9_company_X7_isFull : GoodIn wsX9_company wsX7_isFull := goodIn_r _ [16, 17, 18, 49, 50] (by decide +kernel) (by decide +kernel)
set_option maxRecDepth 20000 in
theorem gX9_company_X7_isFull : GoodIn wsX9_company (wsV RX9 110 RX7 yX7_isFull wsX7_isFull) := goodIn_app (goodIn_of _ (by decide +kernel)) ggX9_company_X7_isFull
set_option maxRecDepth 20000 in
theorem ggX9_company_X7_add : GoodIn wsX9_company wsX7_add := goodIn_r _ [22, 17, 18, 49, 50] (by decide +kernel) (by decide +kernel)
set_option maxRecDepth 20000 in
theorem gX9_company_X7_add : GoodIn wsX9_company (wsV RX9 132 RX7 yX7_add wsX7_add) := goodIn_app (goodIn_of _ (by decide +kernel)) ggX9_company_X7_add
set_option maxRecDepth 20000 in
theorem ggX9_company_X7_size : GoodIn wsX9_company wsX7_size := goodIn_r _ [26, 17, 49, 50] (by decide +kernel) (by decide +kernel)
set_option maxRecDepth 20000 in
theorem gX9_company_X7_size : GoodIn wsX9_company (wsV RX9 127 RX7 yX7_size wsX7_size) := goodIn_app (goodIn_of _ (by decide +kernel)) ggX9_company_X7_size
theorem dX9_company_0 : decode cX9_company 0 = .ok (.iload_n 1, 1) := by decide +kernel
theorem dX9_company_1 : decode cX9_company 1 = .ok (.iconst 1, 1) := by decide +kernel
theorem dX9_company_2 : decode cX9_company 2 = .ok (.bipush 20, 2) := by decide +kernel
theorem dX9_company_4 : decode cX9_company 4 = .ok (.invokestatic 82, 3) := by decide +kernel
theorem dX9_company_7 : decode cX9_company 7 = .ok (.ifCond .ne 12, 3) := by decide +kernel
theorem dX9_company_10 : decode cX9_company 10 = .ok (.aload_n 0, 1) := by decide +kernel
theorem dX9_company_11 : decode cX9_company 11 = .ok (.bipush (-2), 2) := by decide +kernel
theorem dX9_company_13 : decode cX9_company 13 = .ok (.bipush (-2), 2) := by decide +kernel
theorem dX9_company_15 : decode cX9_company 15 = .ok (.invokevirtual 71, 3) := by decide +kernel
theorem dX9_company_18 : decode cX9_company 18 = .ok (.ireturn, 1) := by decide +kernel
theorem dX9_company_19 : decode cX9_company 19 = .ok (.aload_n 0, 1) := by decide +kernel
theorem dX9_company_20 : decode cX9_company 20 = .ok (.getfield 10, 3) := by decide +kernel
theorem dX9_company_23 : decode cX9_company 23 = .ok (.getfield 245, 3) := by decide +kernel
theorem dX9_company_26 : decode cX9_company 26 = .ok (.invokevirtual 110, 3) := by decide +kernel
theorem dX9_company_29 : decode cX9_company 29 = .ok (.ifCond .eq 12, 3) := by decide +kernel
theorem dX9_company_32 : decode cX9_company 32 = .ok (.aload_n 0, 1) := by decide +kernel
theorem dX9_company_33 : decode cX9_company 33 = .ok (.bipush (-4), 2) := by decide +kernel
theorem dX9_company_35 : decode cX9_company 35 = .ok (.bipush (-4), 2) := by decide +kernel
theorem dX9_company_37 : decode cX9_company 37 = .ok (.invokevirtual 71, 3) := by decide +kernel
theorem dX9_company_40 : decode cX9_company 40 = .ok (.ireturn, 1) := by decide +kernel
theorem dX9_company_41 : decode cX9_company 41 = .ok (.aload_n 0, 1) := by decide +kernel
theorem dX9_company_42 : decode cX9_company 42 = .ok (.getfield 10, 3) := by decide +kernel
theorem dX9_company_45 : decode cX9_company 45 = .ok (.getfield 245, 3) := by decide +kernel
theorem dX9_company_48 : decode cX9_company 48 = .ok (.iload_n 1, 1) := by decide +kernel
theorem dX9_company_49 : decode cX9_company 49 = .ok (.invokevirtual 132, 3) := by decide +kernel
theorem dX9_company_52 : decode cX9_company 52 = .ok (.aload_n 0, 1) := by decide +kernel
theorem dX9_company_53 : decode cX9_company 53 = .ok (.getfield 10, 3) := by decide +kernel
theorem dX9_company_56 : decode cX9_company 56 = .ok (.getfield 245, 3) := by decide +kernel
theorem dX9_company_59 : decode cX9_company 59 = .ok (.invokevirtual 127, 3) := by decide +kernel
theorem dX9_company_62 : decode cX9_company 62 = .ok (.iconst 1, 1) := by decide +kernel
theorem dX9_company_63 : decode cX9_company 63 = .ok (.isub, 1) := by decide +kernel
theorem dX9_company_64 : decode cX9_company 64 = .ok (.ireturn, 1) := by decide +kernel
set_option maxRecDepth 20000 in
theorem ggX9_disperse_X7_size : GoodIn wsX9_disperse wsX7_size := goodIn_r _ [7, 8, 35, 36] (by decide +kernel) (by decide +kernel)
set_option maxRecDepth 20000 in
theorem gX9_disperse_X7_size : GoodIn wsX9_disperse (wsV RX9 127 RX7 yX7_size wsX7_size) := goodIn_app (goodIn_of _ (by decide +kernel)) ggX9_disperse_X7_size
set_option maxRecDepth 20000 in
theorem ggX9_disperse_X7_empty : GoodIn wsX9_disperse wsX7_empty := goodIn_r _ [12, 8, 35, 36] (by decide +kernel) (by decide +kernel)
set_option maxRecDepth 20000 in
theorem gX9_disperse_X7_empty : GoodIn wsX9_disperse (wsV RX9 136 RX7 yX7_empty wsX7_empty) := goodIn_app (goodIn_of _ (by decide +kernel)) ggX9_disperse_X7_empty
theorem dX9_disperse_0 : decode cX9_disperse 0 = .ok (.aload_n 0, 1) := by decide +kernel
theorem dX9_disperse_1 : decode cX9_disperse 1 = .ok (.getfield 10, 3) := by decide +kernel
theorem dX9_disperse_4 : decode cX9_disperse 4 = .ok (.getfield 245, 3) := by decide +kernel
theorem dX9_disperse_7 : decode cX9_disperse 7 = .ok (.invokevirtual 127, 3) := by decide +kernel
theorem dX9_disperse_10 : decode cX9_disperse 10 = .ok (.istore_n 1, 1) := by decide +kernel
theorem dX9_disperse_11 : decode cX9_disperse 11 = .ok (.aload_n 0, 1) := by decide +kernel
theorem dX9_disperse_12 : decode cX9_disperse 12 = .ok (.getfield 10, 3) := by decide +kernel
theorem dX9_disperse_15 : decode cX9_disperse 15 = .ok (.getfield 245, 3) := by decide +kernel
theorem dX9_disperse_18 : decode cX9_disperse 18 = .ok (.invokevirtual 136, 3) := by decide +kernel
theorem dX9_disperse_21 : decode cX9_disperse 21 = .ok (.iload_n 1, 1) := by decide +kernel
theorem dX9_disperse_22 : decode cX9_disperse 22 = .ok (.ireturn, 1) := by decide +kernel
set_option maxRecDepth 20000 in
theorem ggX9_put_X9_isWithin : GoodIn wsX9_put wsX9_isWithin := goodIn_r _ [7] (by decide +kernel) (by decide +kernel)
set_option maxRecDepth 20000 in
theorem gX9_put_X9_isWithin : GoodIn wsX9_put (va_wsS RX9 82 yX9_isWithin wsX9_isWithin) := goodIn_app (goodIn_of _ (by decide +kernel)) ggX9_put_X9_isWithin
set_option maxRecDepth 20000 in
theorem ggX9_put_X9_refuse : GoodIn wsX9_put wsX9_refuse := goodIn_r _ [11, 12, 13, 14, 15, 16, 17, 18, 19, 20, 21, 22, 23, 24] (by decide +kernel) (by decide +kernel)
set_option maxRecDepth 20000 in
theorem gX9_put_X9_refuse : GoodIn wsX9_put (wsV RX9 71 RX9 yX9_refuse wsX9_refuse) := goodIn_app (goodIn_of _ (by decide +kernel)) ggX9_put_X9_refuse
theorem dX9_put_0 : decode cX9_put 0 = .ok (.iload_n 1, 1) := by decide +kernel
theorem dX9_put_1 : decode cX9_put 1 = .ok (.ifCond .ne 31, 3) := by decide +kernel
theorem dX9_put_4 : decode cX9_put 4 = .ok (.iload_n 2, 1) := by decide +kernel
theorem dX9_put_5 : decode cX9_put 5 = .ok (.iconst 1, 1) := by decide +kernel
theorem dX9_put_6 : decode cX9_put 6 = .ok (.bipush 60, 2) := by decide +kernel
theorem dX9_put_8 : decode cX9_put 8 = .ok (.invokestatic 82, 3) := by decide +kernel
theorem dX9_put_11 : decode cX9_put 11 = .ok (.ifCond .eq 21, 3) := by decide +kernel
theorem dX9_put_14 : decode cX9_put 14 = .ok (.aload_n 0, 1) := by decide +kernel
theorem dX9_put_15 : decode cX9_put 15 = .ok (.getfield 10, 3) := by decide +kernel
theorem dX9_put_18 : decode cX9_put 18 = .ok (.getfield 248, 3) := by decide +kernel
theorem dX9_put_21 : decode cX9_put 21 = .ok (.istore_n 3, 1) := by decide +kernel
theorem dX9_put_22 : decode cX9_put 22 = .ok (.aload_n 0, 1) := by decide +kernel
theorem dX9_put_23 : decode cX9_put 23 = .ok (.getfield 10, 3) := by decide +kernel
theorem dX9_put_26 : decode cX9_put 26 = .ok (.iload_n 2, 1) := by decide +kernel
theorem dX9_put_27 : decode cX9_put 27 = .ok (.putfield 248, 3) := by decide +kernel
theorem dX9_put_30 : decode cX9_put 30 = .ok (.iload_n 3, 1) := by decide +kernel
theorem dX9_put_31 : decode cX9_put 31 = .ok (.ireturn, 1) := by decide +kernel
theorem dX9_put_32 : decode cX9_put 32 = .ok (.iload_n 1, 1) := by decide +kernel
theorem dX9_put_33 : decode cX9_put 33 = .ok (.iconst 1, 1) := by decide +kernel
theorem dX9_put_34 : decode cX9_put 34 = .ok (.if_icmp .ne 30, 3) := by decide +kernel
theorem dX9_put_37 : decode cX9_put 37 = .ok (.iload_n 2, 1) := by decide +kernel
theorem dX9_put_38 : decode cX9_put 38 = .ok (.iconst 0, 1) := by decide +kernel
theorem dX9_put_39 : decode cX9_put 39 = .ok (.iconst 3, 1) := by decide +kernel
theorem dX9_put_40 : decode cX9_put 40 = .ok (.invokestatic 82, 3) := by decide +kernel
theorem dX9_put_43 : decode cX9_put 43 = .ok (.ifCond .eq 21, 3) := by decide +kernel
theorem dX9_put_46 : decode cX9_put 46 = .ok (.aload_n 0, 1) := by decide +kernel
theorem dX9_put_47 : decode cX9_put 47 = .ok (.getfield 10, 3) := by decide +kernel
theorem dX9_put_50 : decode cX9_put 50 = .ok (.getfield 251, 3) := by decide +kernel
theorem dX9_put_53 : decode cX9_put 53 = .ok (.istore_n 3, 1) := by decide +kernel
theorem dX9_put_54 : decode cX9_put 54 = .ok (.aload_n 0, 1) := by decide +kernel
theorem dX9_put_55 : decode cX9_put 55 = .ok (.getfield 10, 3) := by decide +kernel
theorem dX9_put_58 : decode cX9_put 58 = .ok (.iload_n 2, 1) := by decide +kernel
theorem dX9_put_59 : decode cX9_put 59 = .ok (.putfield 251, 3) := by decide +kernel
theorem dX9_put_62 : decode cX9_put 62 = .ok (.iload_n 3, 1) := by decide +kernel
theorem dX9_put_63 : decode cX9_put 63 = .ok (.ireturn, 1) := by decide +kernel
theorem dX9_put_64 : decode cX9_put 64 = .ok (.aload_n 0, 1) := by decide +kernel
theorem dX9_put_65 : decode cX9_put 65 = .ok (.bipush (-2), 2) := by decide +kernel
theorem dX9_put_67 : decode cX9_put 67 = .ok (.bipush (-2), 2) := by decide +kernel
theorem dX9_put_69 : decode cX9_put 69 = .ok (.invokevirtual 71, 3) := by decide +kernel
theorem dX9_put_72 : decode cX9_put 72 = .ok (.ireturn, 1) := by decide +kernel
set_option maxRecDepth 20000 in
theorem ggX9_ferry_X9_isRule : GoodIn wsX9_ferry wsX9_isRule := goodIn_r _ [6, 7, 8, 5, 9] (by decide +kernel) (by decide +kernel)
set_option maxRecDepth 20000 in
theorem gX9_ferry_X9_isRule : GoodIn wsX9_ferry (va_wsS RX9 78 yX9_isRule wsX9_isRule) := goodIn_app (goodIn_of _ (by decide +kernel)) ggX9_ferry_X9_isRule
set_option maxRecDepth 20000 in
theorem ggX9_ferry_X9_isWithin : GoodIn wsX9_ferry wsX9_isWithin := goodIn_r _ [9] (by decide +kernel) (by decide +kernel)
set_option maxRecDepth 20000 in
theorem gX9_ferry_X9_isWithin : GoodIn wsX9_ferry (va_wsS RX9 82 yX9_isWithin wsX9_isWithin) := goodIn_app (goodIn_of _ (by decide +kernel)) ggX9_ferry_X9_isWithin
set_option maxRecDepth 20000 in
theorem ggX9_ferry_X9_refuse : GoodIn wsX9_ferry wsX9_refuse := goodIn_r _ [13, 14, 84, 85, 86, 87, 88, 89, 90, 91, 92, 93, 94, 95] (by decide +kernel) (by decide +kernel)
set_option maxRecDepth 20000 in
theorem gX9_ferry_X9_refuse : GoodIn wsX9_ferry (wsV RX9 71 RX9 yX9_refuse wsX9_refuse) := goodIn_app (goodIn_of _ (by decide +kernel)) ggX9_ferry_X9_refuse
set_option maxRecDepth 20000 in
theorem ggX9_ferry_X6_partCompanies : GoodIn wsX9_ferry wsX6_partCompanies := goodIn_r _ [19, 20, 21, 22, 23, 24, 25, 26, 27, 28, 18, 29, 30, 31, 32, 33, 34, 35, 36, 37, 38, 39, 40, 41, 42, 43, 44, 45, 46, 47, 48, 49, 50, 8, 5, 9, 51, 52, 53, 54, 55, 56, 57, 58, 59, 60, 61, 62, 63, 64, 65, 66, 67, 68, 69, 70, 96, 97, 98, 99, 100, 101, 102, 103, 104, 105, 106, 107, 108, 109, 110, 111, 112, 113] (by decide +kernel) (by decide +kernel)
set_option maxRecDepth 20000 in
theorem gX9_ferry_X6_partCompanies : GoodIn wsX9_ferry (wsV RX9 254 RX6 yX6_partCompanies wsX6_partCompanies) := goodIn_app (goodIn_of _ (by decide +kernel)) ggX9_ferry_X6_partCompanies
set_option maxRecDepth 20000 in
theorem ggX9_ferry_X6_fewest : GoodIn wsX9_ferry wsX6_fewest := goodIn_r _ [74, 62, 75, 76, 77, 18, 78, 21, 106, 107, 108, 109, 110, 111] (by decide +kernel) (by decide +kernel)
set_option maxRecDepth 20000 in
theorem gX9_ferry_X6_fewest : GoodIn wsX9_ferry (wsV RX9 199 RX6 yX6_fewest wsX6_fewest) := goodIn_app (goodIn_of _ (by decide +kernel)) ggX9_ferry_X6_fewest
set_option maxRecDepth 20000 in
theorem ggX9_ferry_X6_firstOfFewest : GoodIn wsX9_ferry wsX6_firstOfFewest := goodIn_r _ [82, 21, 24, 61, 62, 75, 76, 77, 18, 78, 83, 72, 73, 74, 106, 107, 108, 109, 110, 111] (by decide +kernel) (by decide +kernel)
set_option maxRecDepth 20000 in
theorem gX9_ferry_X6_firstOfFewest : GoodIn wsX9_ferry (wsV RX9 257 RX6 yX6_firstOfFewest wsX6_firstOfFewest) := goodIn_app (goodIn_of _ (by decide +kernel)) ggX9_ferry_X6_firstOfFewest
theorem dX9_ferry_0 : decode cX9_ferry 0 = .ok (.iload_n 1, 1) := by decide +kernel
theorem dX9_ferry_1 : decode cX9_ferry 1 = .ok (.invokestatic 78, 3) := by decide +kernel
theorem dX9_ferry_4 : decode cX9_ferry 4 = .ok (.ifCond .eq 12, 3) := by decide +kernel
theorem dX9_ferry_7 : decode cX9_ferry 7 = .ok (.iload_n 2, 1) := by decide +kernel
theorem dX9_ferry_8 : decode cX9_ferry 8 = .ok (.iconst 0, 1) := by decide +kernel
theorem dX9_ferry_9 : decode cX9_ferry 9 = .ok (.iconst 1, 1) := by decide +kernel
theorem dX9_ferry_10 : decode cX9_ferry 10 = .ok (.invokestatic 82, 3) := by decide +kernel
theorem dX9_ferry_13 : decode cX9_ferry 13 = .ok (.ifCond .ne 12, 3) := by decide +kernel
theorem dX9_ferry_16 : decode cX9_ferry 16 = .ok (.aload_n 0, 1) := by decide +kernel
theorem dX9_ferry_17 : decode cX9_ferry 17 = .ok (.bipush (-2), 2) := by decide +kernel
theorem dX9_ferry_19 : decode cX9_ferry 19 = .ok (.bipush (-2), 2) := by decide +kernel
theorem dX9_ferry_21 : decode cX9_ferry 21 = .ok (.invokevirtual 71, 3) := by decide +kernel
theorem dX9_ferry_24 : decode cX9_ferry 24 = .ok (.ireturn, 1) := by decide +kernel
theorem dX9_ferry_25 : decode cX9_ferry 25 = .ok (.aload_n 0, 1) := by decide +kernel
theorem dX9_ferry_26 : decode cX9_ferry 26 = .ok (.getfield 52, 3) := by decide +kernel
theorem dX9_ferry_29 : decode cX9_ferry 29 = .ok (.aload_n 0, 1) := by decide +kernel
theorem dX9_ferry_30 : decode cX9_ferry 30 = .ok (.getfield 10, 3) := by decide +kernel
theorem dX9_ferry_33 : decode cX9_ferry 33 = .ok (.iload_n 1, 1) := by decide +kernel
theorem dX9_ferry_34 : decode cX9_ferry 34 = .ok (.invokevirtual 254, 3) := by decide +kernel
theorem dX9_ferry_37 : decode cX9_ferry 37 = .ok (.iload_n 2, 1) := by decide +kernel
theorem dX9_ferry_38 : decode cX9_ferry 38 = .ok (.ifCond .ne 13, 3) := by decide +kernel
theorem dX9_ferry_41 : decode cX9_ferry 41 = .ok (.aload_n 0, 1) := by decide +kernel
theorem dX9_ferry_42 : decode cX9_ferry 42 = .ok (.getfield 52, 3) := by decide +kernel
theorem dX9_ferry_45 : decode cX9_ferry 45 = .ok (.invokevirtual 199, 3) := by decide +kernel
theorem dX9_ferry_48 : decode cX9_ferry 48 = .ok (.goto 10, 3) := by decide +kernel
theorem dX9_ferry_51 : decode cX9_ferry 51 = .ok (.aload_n 0, 1) := by decide +kernel
theorem dX9_ferry_52 : decode cX9_ferry 52 = .ok (.getfield 52, 3) := by decide +kernel
theorem dX9_ferry_55 : decode cX9_ferry 55 = .ok (.invokevirtual 257, 3) := by decide +kernel
theorem dX9_ferry_58 : decode cX9_ferry 58 = .ok (.ireturn, 1) := by decide +kernel
set_option maxRecDepth 20000 in
theorem ggX9_part_X9_isWithin : GoodIn wsX9_part wsX9_isWithin := goodIn_r _ [6] (by decide +kernel) (by decide +kernel)
set_option maxRecDepth 20000 in
theorem gX9_part_X9_isWithin : GoodIn wsX9_part (va_wsS RX9 82 yX9_isWithin wsX9_isWithin) := goodIn_app (goodIn_of _ (by decide +kernel)) ggX9_part_X9_isWithin
set_option maxRecDepth 20000 in
theorem ggX9_part_X9_refuse : GoodIn wsX9_part wsX9_refuse := goodIn_r _ [10, 11, 12, 13, 14, 15, 16, 17, 18, 19, 20, 21, 22, 23] (by decide +kernel) (by decide +kernel)
set_option maxRecDepth 20000 in
theorem gX9_part_X9_refuse : GoodIn wsX9_part (wsV RX9 71 RX9 yX9_refuse wsX9_refuse) := goodIn_app (goodIn_of _ (by decide +kernel)) ggX9_part_X9_refuse
theorem dX9_part_0 : decode cX9_part 0 = .ok (.iload_n 1, 1) := by decide +kernel
theorem dX9_part_1 : decode cX9_part 1 = .ok (.iconst 0, 1) := by decide +kernel
theorem dX9_part_2 : decode cX9_part 2 = .ok (.iconst 1, 1) := by decide +kernel
theorem dX9_part_3 : decode cX9_part 3 = .ok (.invokestatic 82, 3) := by decide +kernel
theorem dX9_part_6 : decode cX9_part 6 = .ok (.ifCond .ne 12, 3) := by decide +kernel
theorem dX9_part_9 : decode cX9_part 9 = .ok (.aload_n 0, 1) := by decide +kernel
theorem dX9_part_10 : decode cX9_part 10 = .ok (.bipush (-2), 2) := by decide +kernel
theorem dX9_part_12 : decode cX9_part 12 = .ok (.bipush (-2), 2) := by decide +kernel
theorem dX9_part_14 : decode cX9_part 14 = .ok (.invokevirtual 71, 3) := by decide +kernel
theorem dX9_part_17 : decode cX9_part 17 = .ok (.ireturn, 1) := by decide +kernel
theorem dX9_part_18 : decode cX9_part 18 = .ok (.iload_n 1, 1) := by decide +kernel
theorem dX9_part_19 : decode cX9_part 19 = .ok (.ifCond .ne 10, 3) := by decide +kernel
theorem dX9_part_22 : decode cX9_part 22 = .ok (.aload_n 0, 1) := by decide +kernel
theorem dX9_part_23 : decode cX9_part 23 = .ok (.getfield 260, 3) := by decide +kernel
theorem dX9_part_26 : decode cX9_part 26 = .ok (.goto 7, 3) := by decide +kernel
theorem dX9_part_29 : decode cX9_part 29 = .ok (.aload_n 0, 1) := by decide +kernel
theorem dX9_part_30 : decode cX9_part 30 = .ok (.getfield 24, 3) := by decide +kernel
theorem dX9_part_33 : decode cX9_part 33 = .ok (.ireturn, 1) := by decide +kernel
set_option maxRecDepth 20000 in
theorem ggX9_image_X9_isWithin : GoodIn wsX9_image wsX9_isWithin := goodIn_r _ [7] (by decide +kernel) (by decide +kernel)
set_option maxRecDepth 20000 in
theorem gX9_image_X9_isWithin : GoodIn wsX9_image (va_wsS RX9 82 yX9_isWithin wsX9_isWithin) := goodIn_app (goodIn_of _ (by decide +kernel)) ggX9_image_X9_isWithin
set_option maxRecDepth 20000 in
theorem ggX9_image_X9_refuse : GoodIn wsX9_image wsX9_refuse := goodIn_r _ [11, 12, 60, 61, 62, 63, 64, 65, 66, 67, 68, 69, 70, 71] (by decide +kernel) (by decide +kernel)
set_option maxRecDepth 20000 in
theorem gX9_image_X9_refuse : GoodIn wsX9_image (wsV RX9 71 RX9 yX9_refuse wsX9_refuse) := goodIn_app (goodIn_of _ (by decide +kernel)) ggX9_image_X9_refuse
set_option maxRecDepth 20000 in
theorem ggX9_image_X1_copy : GoodIn wsX9_image wsX1_copy := goodIn_r _ [17, 18, 19, 20, 21, 22, 23, 24, 25, 26, 27, 28, 29, 30, 31, 32, 33, 34, 35, 36, 37, 38, 39, 40, 41, 42, 43, 44, 45, 46, 47, 48, 49, 50, 51, 52, 53, 54, 55, 56, 57, 58, 59, 72, 73, 74, 75, 76, 77, 78, 79, 80, 81, 82, 83, 84, 85, 86, 87, 88, 89, 90] (by decide +kernel) (by decide +kernel)
set_option maxRecDepth 20000 in
theorem gX9_image_X1_copy : GoodIn wsX9_image (wsV RX9 263 RX1 yX1_copy wsX1_copy) := goodIn_app (goodIn_of _ (by decide +kernel)) ggX9_image_X1_copy
theorem dX9_image_0 : decode cX9_image 0 = .ok (.iload_n 1, 1) := by decide +kernel
theorem dX9_image_1 : decode cX9_image 1 = .ok (.iconst 0, 1) := by decide +kernel
theorem dX9_image_2 : decode cX9_image 2 = .ok (.iconst 1, 1) := by decide +kernel
theorem dX9_image_3 : decode cX9_image 3 = .ok (.invokestatic 82, 3) := by decide +kernel
theorem dX9_image_6 : decode cX9_image 6 = .ok (.ifCond .ne 12, 3) := by decide +kernel
theorem dX9_image_9 : decode cX9_image 9 = .ok (.aload_n 0, 1) := by decide +kernel
theorem dX9_image_10 : decode cX9_image 10 = .ok (.bipush (-2), 2) := by decide +kernel
theorem dX9_image_12 : decode cX9_image 12 = .ok (.bipush (-2), 2) := by decide +kernel
theorem dX9_image_14 : decode cX9_image 14 = .ok (.invokevirtual 71, 3) := by decide +kernel
theorem dX9_image_17 : decode cX9_image 17 = .ok (.ireturn, 1) := by decide +kernel
theorem dX9_image_18 : decode cX9_image 18 = .ok (.aload_n 0, 1) := by decide +kernel
theorem dX9_image_19 : decode cX9_image 19 = .ok (.getfield 16, 3) := by decide +kernel
theorem dX9_image_22 : decode cX9_image 22 = .ok (.iload_n 1, 1) := by decide +kernel
theorem dX9_image_23 : decode cX9_image 23 = .ok (.aaload, 1) := by decide +kernel
theorem dX9_image_24 : decode cX9_image 24 = .ok (.aload_n 0, 1) := by decide +kernel
theorem dX9_image_25 : decode cX9_image 25 = .ok (.getfield 10, 3) := by decide +kernel
theorem dX9_image_28 : decode cX9_image 28 = .ok (.invokevirtual 263, 3) := by decide +kernel
theorem dX9_image_31 : decode cX9_image 31 = .ok (.aload_n 0, 1) := by decide +kernel
theorem dX9_image_32 : decode cX9_image 32 = .ok (.dup, 1) := by decide +kernel
theorem dX9_image_33 : decode cX9_image 33 = .ok (.getfield 266, 3) := by decide +kernel
theorem dX9_image_36 : decode cX9_image 36 = .ok (.iconst 1, 1) := by decide +kernel
theorem dX9_image_37 : decode cX9_image 37 = .ok (.iload_n 1, 1) := by decide +kernel
theorem dX9_image_38 : decode cX9_image 38 = .ok (.ishl, 1) := by decide +kernel
theorem dX9_image_39 : decode cX9_image 39 = .ok (.ior, 1) := by decide +kernel
theorem dX9_image_40 : decode cX9_image 40 = .ok (.putfield 266, 3) := by decide +kernel
theorem dX9_image_43 : decode cX9_image 43 = .ok (.iconst 1, 1) := by decide +kernel
theorem dX9_image_44 : decode cX9_image 44 = .ok (.ireturn, 1) := by decide +kernel
set_option maxRecDepth 20000 in
theorem ggX9_from_X9_isWithin : GoodIn wsX9_from wsX9_isWithin := goodIn_r _ [7] (by decide +kernel) (by decide +kernel)
set_option maxRecDepth 20000 in
theorem gX9_from_X9_isWithin : GoodIn wsX9_from (va_wsS RX9 82 yX9_isWithin wsX9_isWithin) := goodIn_app (goodIn_of _ (by decide +kernel)) ggX9_from_X9_isWithin
set_option maxRecDepth 20000 in
theorem ggX9_from_X9_refuse : GoodIn wsX9_from wsX9_refuse := goodIn_r _ [11, 12, 60, 61, 62, 63, 64, 65, 66, 67, 68, 69, 70, 71] (by decide +kernel) (by decide +kernel)
set_option maxRecDepth 20000 in
theorem gX9_from_X9_refuse : GoodIn wsX9_from (wsV RX9 71 RX9 yX9_refuse wsX9_refuse) := goodIn_app (goodIn_of _ (by decide +kernel)) ggX9_from_X9_refuse
set_option maxRecDepth 20000 in
theorem ggX9_from_X1_copy : GoodIn wsX9_from wsX1_copy := goodIn_r _ [17, 18, 19, 20, 21, 22, 23, 24, 25, 26, 27, 28, 29, 30, 31, 32, 33, 34, 35, 36, 37, 38, 39, 40, 41, 42, 43, 44, 45, 46, 47, 48, 49, 50, 51, 52, 53, 54, 55, 56, 57, 58, 59, 72, 73, 74, 75, 76, 77, 78, 79, 80, 81, 82, 83, 84, 85, 86, 87, 88, 89, 90] (by decide +kernel) (by decide +kernel)
set_option maxRecDepth 20000 in
theorem gX9_from_X1_copy : GoodIn wsX9_from (wsV RX9 263 RX1 yX1_copy wsX1_copy) := goodIn_app (goodIn_of _ (by decide +kernel)) ggX9_from_X1_copy
theorem dX9_from_0 : decode cX9_from 0 = .ok (.iload_n 1, 1) := by decide +kernel
theorem dX9_from_1 : decode cX9_from 1 = .ok (.iconst 0, 1) := by decide +kernel
theorem dX9_from_2 : decode cX9_from 2 = .ok (.iconst 1, 1) := by decide +kernel
theorem dX9_from_3 : decode cX9_from 3 = .ok (.invokestatic 82, 3) := by decide +kernel
theorem dX9_from_6 : decode cX9_from 6 = .ok (.ifCond .ne 12, 3) := by decide +kernel
theorem dX9_from_9 : decode cX9_from 9 = .ok (.aload_n 0, 1) := by decide +kernel
theorem dX9_from_10 : decode cX9_from 10 = .ok (.bipush (-2), 2) := by decide +kernel
theorem dX9_from_12 : decode cX9_from 12 = .ok (.bipush (-2), 2) := by decide +kernel
theorem dX9_from_14 : decode cX9_from 14 = .ok (.invokevirtual 71, 3) := by decide +kernel
theorem dX9_from_17 : decode cX9_from 17 = .ok (.ireturn, 1) := by decide +kernel
theorem dX9_from_18 : decode cX9_from 18 = .ok (.aload_n 0, 1) := by decide +kernel
theorem dX9_from_19 : decode cX9_from 19 = .ok (.getfield 266, 3) := by decide +kernel
theorem dX9_from_22 : decode cX9_from 22 = .ok (.iload_n 1, 1) := by decide +kernel
theorem dX9_from_23 : decode cX9_from 23 = .ok (.ishr, 1) := by decide +kernel
theorem dX9_from_24 : decode cX9_from 24 = .ok (.iconst 1, 1) := by decide +kernel
theorem dX9_from_25 : decode cX9_from 25 = .ok (.iand, 1) := by decide +kernel
theorem dX9_from_26 : decode cX9_from 26 = .ok (.ifCond .ne 12, 3) := by decide +kernel
theorem dX9_from_29 : decode cX9_from 29 = .ok (.aload_n 0, 1) := by decide +kernel
theorem dX9_from_30 : decode cX9_from 30 = .ok (.bipush (-3), 2) := by decide +kernel
theorem dX9_from_32 : decode cX9_from 32 = .ok (.bipush (-3), 2) := by decide +kernel
theorem dX9_from_34 : decode cX9_from 34 = .ok (.invokevirtual 71, 3) := by decide +kernel
theorem dX9_from_37 : decode cX9_from 37 = .ok (.ireturn, 1) := by decide +kernel
theorem dX9_from_38 : decode cX9_from 38 = .ok (.aload_n 0, 1) := by decide +kernel
theorem dX9_from_39 : decode cX9_from 39 = .ok (.getfield 10, 3) := by decide +kernel
theorem dX9_from_42 : decode cX9_from 42 = .ok (.aload_n 0, 1) := by decide +kernel
theorem dX9_from_43 : decode cX9_from 43 = .ok (.getfield 16, 3) := by decide +kernel
theorem dX9_from_46 : decode cX9_from 46 = .ok (.iload_n 1, 1) := by decide +kernel
theorem dX9_from_47 : decode cX9_from 47 = .ok (.aaload, 1) := by decide +kernel
theorem dX9_from_48 : decode cX9_from 48 = .ok (.invokevirtual 263, 3) := by decide +kernel
theorem dX9_from_51 : decode cX9_from 51 = .ok (.iconst 1, 1) := by decide +kernel
theorem dX9_from_52 : decode cX9_from 52 = .ok (.ireturn, 1) := by decide +kernel
set_option maxRecDepth 20000 in
theorem ggX9_status_X9_isWithin : GoodIn wsX9_status wsX9_isWithin := goodIn_r _ [5] (by decide +kernel) (by decide +kernel)
set_option maxRecDepth 20000 in
theorem gX9_status_X9_isWithin : GoodIn wsX9_status (va_wsS RX9 82 yX9_isWithin wsX9_isWithin) := goodIn_app (goodIn_of _ (by decide +kernel)) ggX9_status_X9_isWithin
set_option maxRecDepth 20000 in
theorem ggX9_status_X9_refuse : GoodIn wsX9_status wsX9_refuse := goodIn_r _ [9, 1, 10, 11, 12, 13, 14, 15, 16, 17, 18, 19, 20, 21] (by decide +kernel) (by decide +kernel)
set_option maxRecDepth 20000 in
theorem gX9_status_X9_refuse : GoodIn wsX9_status (wsV RX9 71 RX9 yX9_refuse wsX9_refuse) := goodIn_app (goodIn_of _ (by decide +kernel)) ggX9_status_X9_refuse
theorem dX9_status_0 : decode cX9_status 0 = .ok (.iload_n 1, 1) := by decide +kernel
theorem dX9_status_1 : decode cX9_status 1 = .ok (.iconst 0, 1) := by decide +kernel
theorem dX9_status_2 : decode cX9_status 2 = .ok (.iconst 2, 1) := by decide +kernel
theorem dX9_status_3 : decode cX9_status 3 = .ok (.invokestatic 82, 3) := by decide +kernel
theorem dX9_status_6 : decode cX9_status 6 = .ok (.ifCond .ne 11, 3) := by decide +kernel
theorem dX9_status_9 : decode cX9_status 9 = .ok (.aload_n 0, 1) := by decide +kernel
theorem dX9_status_10 : decode cX9_status 10 = .ok (.bipush (-2), 2) := by decide +kernel
theorem dX9_status_12 : decode cX9_status 12 = .ok (.iconst (-1), 1) := by decide +kernel
theorem dX9_status_13 : decode cX9_status 13 = .ok (.invokevirtual 71, 3) := by decide +kernel
theorem dX9_status_16 : decode cX9_status 16 = .ok (.ireturn, 1) := by decide +kernel
theorem dX9_status_17 : decode cX9_status 17 = .ok (.aload_n 0, 1) := by decide +kernel
theorem dX9_status_18 : decode cX9_status 18 = .ok (.getfield 20, 3) := by decide +kernel
theorem dX9_status_21 : decode cX9_status 21 = .ok (.iload_n 1, 1) := by decide +kernel
theorem dX9_status_22 : decode cX9_status 22 = .ok (.iaload, 1) := by decide +kernel
theorem dX9_status_23 : decode cX9_status 23 = .ok (.ireturn, 1) := by decide +kernel
set_option maxRecDepth 20000 in
theorem ggX9_count_X9_isWithin : GoodIn wsX9_count wsX9_isWithin := goodIn_r _ [4] (by decide +kernel) (by decide +kernel)
set_option maxRecDepth 20000 in
theorem gX9_count_X9_isWithin : GoodIn wsX9_count (va_wsS RX9 82 yX9_isWithin wsX9_isWithin) := goodIn_app (goodIn_of _ (by decide +kernel)) ggX9_count_X9_isWithin
set_option maxRecDepth 20000 in
theorem ggX9_count_X9_refuse : GoodIn wsX9_count wsX9_refuse := goodIn_r _ [8, 9, 50, 51, 52, 53, 54, 55, 56, 57, 58, 59, 60, 61] (by decide +kernel) (by decide +kernel)
set_option maxRecDepth 20000 in
theorem gX9_count_X9_refuse : GoodIn wsX9_count (wsV RX9 71 RX9 yX9_refuse wsX9_refuse) := goodIn_app (goodIn_of _ (by decide +kernel)) ggX9_count_X9_refuse
set_option maxRecDepth 20000 in
theorem ggX9_count_X9_howMany : GoodIn wsX9_count wsX9_howMany := goodIn_r _ [13, 14, 15, 16, 17, 18, 19, 20, 21, 22, 23, 24, 25, 26, 27, 28, 29, 30, 31, 32, 33, 34, 35, 36, 37, 38, 39, 40, 41, 42, 43, 44, 45, 46, 47, 48, 49, 50, 51, 52, 53, 54, 55, 56, 57, 58, 59, 60, 61, 62, 63, 64, 65, 66, 67, 68, 69, 70, 71, 72, 73, 74, 75, 76, 77, 78, 79, 80] (by decide +kernel) (by decide +kernel)
set_option maxRecDepth 20000 in
theorem gX9_count_X9_howMany : GoodIn wsX9_count (wsV RX9 269 RX9 yX9_howMany wsX9_howMany) := goodIn_app (goodIn_of _ (by decide +kernel)) ggX9_count_X9_howMany
theorem dX9_count_0 : decode cX9_count 0 = .ok (.iload_n 1, 1) := by decide +kernel
theorem dX9_count_1 : decode cX9_count 1 = .ok (.iconst 0, 1) := by decide +kernel
theorem dX9_count_2 : decode cX9_count 2 = .ok (.bipush 6, 2) := by decide +kernel
theorem dX9_count_4 : decode cX9_count 4 = .ok (.invokestatic 82, 3) := by decide +kernel
theorem dX9_count_7 : decode cX9_count 7 = .ok (.ifCond .ne 12, 3) := by decide +kernel
theorem dX9_count_10 : decode cX9_count 10 = .ok (.aload_n 0, 1) := by decide +kernel
theorem dX9_count_11 : decode cX9_count 11 = .ok (.bipush (-2), 2) := by decide +kernel
theorem dX9_count_13 : decode cX9_count 13 = .ok (.bipush (-2), 2) := by decide +kernel
theorem dX9_count_15 : decode cX9_count 15 = .ok (.invokevirtual 71, 3) := by decide +kernel
theorem dX9_count_18 : decode cX9_count 18 = .ok (.ireturn, 1) := by decide +kernel
theorem dX9_count_19 : decode cX9_count 19 = .ok (.aload_n 0, 1) := by decide +kernel
theorem dX9_count_20 : decode cX9_count 20 = .ok (.iload_n 1, 1) := by decide +kernel
theorem dX9_count_21 : decode cX9_count 21 = .ok (.invokevirtual 269, 3) := by decide +kernel
theorem dX9_count_24 : decode cX9_count 24 = .ok (.ireturn, 1) := by decide +kernel
set_option maxRecDepth 20000 in
theorem ggX9_digest_X9_howMany : GoodIn wsX9_digest wsX9_howMany := goodIn_r _ [19, 2, 4, 5, 6, 7, 10, 20, 21, 22, 23, 24, 25, 26, 27, 28, 29, 30, 31, 32, 33, 34, 35, 36, 37, 38, 39, 40, 41, 42, 43, 44, 45, 46, 47, 48, 49, 86, 87, 88, 89, 90, 91, 92, 93, 94, 95, 96, 97, 98, 99, 100, 101, 102, 103, 104, 105, 106, 107, 108, 109, 110, 111, 112, 113, 114, 115, 116] (by decide +kernel) (by decide +kernel)
set_option maxRecDepth 20000 in
theorem gX9_digest_X9_howMany : GoodIn wsX9_digest (wsV RX9 269 RX9 yX9_howMany wsX9_howMany) := goodIn_app (goodIn_of _ (by decide +kernel)) ggX9_digest_X9_howMany
set_option maxRecDepth 20000 in
theorem ggX9_digest_X9_mix : GoodIn wsX9_digest wsX9_mix := goodIn_r _ [52, 53] (by decide +kernel) (by decide +kernel)
set_option maxRecDepth 20000 in
theorem gX9_digest_X9_mix : GoodIn wsX9_digest (va_wsS RX9 274 yX9_mix wsX9_mix) := goodIn_app (goodIn_of _ (by decide +kernel)) ggX9_digest_X9_mix
set_option maxRecDepth 20000 in
theorem ggX9_digest_X9_mixLand : GoodIn wsX9_digest wsX9_mixLand := goodIn_r _ [56, 57, 58, 59, 60, 61, 62, 63, 64, 65, 23, 66, 25, 67, 18, 68, 69, 70, 71, 72, 73, 74, 50, 51, 52, 53, 75, 76, 77, 49, 39, 40, 41, 42, 43, 78, 79, 80, 81, 82, 44, 45, 46, 47, 48, 38, 108, 109, 110, 111, 112, 113, 114, 115, 116] (by decide +kernel) (by decide +kernel)
set_option maxRecDepth 20000 in
theorem gX9_digest_X9_mixLand : GoodIn wsX9_digest (va_wsS RX9 278 yX9_mixLand wsX9_mixLand) := goodIn_app (goodIn_of _ (by decide +kernel)) ggX9_digest_X9_mixLand
set_option maxRecDepth 20000 in
theorem ggX9_digest_X9_mixAll : GoodIn wsX9_digest wsX9_mixAll := goodIn_r _ [85, 49, 39, 40, 41, 42, 43, 78, 79, 80, 81, 82, 50, 51, 18, 52, 53, 115, 116] (by decide +kernel) (by decide +kernel)
set_option maxRecDepth 20000 in
theorem gX9_digest_X9_mixAll : GoodIn wsX9_digest (va_wsS RX9 282 yX9_mixAll wsX9_mixAll) := goodIn_app (goodIn_of _ (by decide +kernel)) ggX9_digest_X9_mixAll
set_option maxRecDepth 20000 in
theorem ggX9_digest_X9_mixPairs : GoodIn wsX9_digest wsX9_mixPairs := goodIn_r _ [77, 49, 39, 40, 41, 42, 43, 78, 79, 80, 81, 82, 50, 51, 18, 52, 53, 115, 116] (by decide +kernel) (by decide +kernel)
set_option maxRecDepth 20000 in
theorem gX9_digest_X9_mixPairs : GoodIn wsX9_digest (va_wsS RX9 286 yX9_mixPairs wsX9_mixPairs) := goodIn_app (goodIn_of _ (by decide +kernel)) ggX9_digest_X9_mixPairs
theorem dX9_digest_0 : decode cX9_digest 0 = .ok (.ldc2_w 272, 3) := by decide +kernel
theorem dX9_digest_3 : decode cX9_digest 3 = .ok (.lstore_n 1, 1) := by decide +kernel
theorem dX9_digest_4 : decode cX9_digest 4 = .ok (.iconst 0, 1) := by decide +kernel
theorem dX9_digest_5 : decode cX9_digest 5 = .ok (.istore_n 3, 1) := by decide +kernel
theorem dX9_digest_6 : decode cX9_digest 6 = .ok (.iload_n 3, 1) := by decide +kernel
theorem dX9_digest_7 : decode cX9_digest 7 = .ok (.bipush 7, 2) := by decide +kernel
theorem dX9_digest_9 : decode cX9_digest 9 = .ok (.if_icmp .ge 19, 3) := by decide +kernel
theorem dX9_digest_12 : decode cX9_digest 12 = .ok (.lload_n 1, 1) := by decide +kernel
theorem dX9_digest_13 : decode cX9_digest 13 = .ok (.aload_n 0, 1) := by decide +kernel
theorem dX9_digest_14 : decode cX9_digest 14 = .ok (.iload_n 3, 1) := by decide +kernel
theorem dX9_digest_15 : decode cX9_digest 15 = .ok (.invokevirtual 269, 3) := by decide +kernel
theorem dX9_digest_18 : decode cX9_digest 18 = .ok (.invokestatic 274, 3) := by decide +kernel
theorem dX9_digest_21 : decode cX9_digest 21 = .ok (.lstore_n 1, 1) := by decide +kernel
theorem dX9_digest_22 : decode cX9_digest 22 = .ok (.iinc 3 1, 3) := by decide +kernel
theorem dX9_digest_25 : decode cX9_digest 25 = .ok (.goto (-19), 3) := by decide +kernel
theorem dX9_digest_28 : decode cX9_digest 28 = .ok (.lload_n 1, 1) := by decide +kernel
theorem dX9_digest_29 : decode cX9_digest 29 = .ok (.aload_n 0, 1) := by decide +kernel
theorem dX9_digest_30 : decode cX9_digest 30 = .ok (.getfield 10, 3) := by decide +kernel
theorem dX9_digest_33 : decode cX9_digest 33 = .ok (.getfield 75, 3) := by decide +kernel
theorem dX9_digest_36 : decode cX9_digest 36 = .ok (.invokestatic 274, 3) := by decide +kernel
theorem dX9_digest_39 : decode cX9_digest 39 = .ok (.lstore_n 1, 1) := by decide +kernel
theorem dX9_digest_40 : decode cX9_digest 40 = .ok (.lload_n 1, 1) := by decide +kernel
theorem dX9_digest_41 : decode cX9_digest 41 = .ok (.aload_n 0, 1) := by decide +kernel
theorem dX9_digest_42 : decode cX9_digest 42 = .ok (.getfield 10, 3) := by decide +kernel
theorem dX9_digest_45 : decode cX9_digest 45 = .ok (.getfield 93, 3) := by decide +kernel
theorem dX9_digest_48 : decode cX9_digest 48 = .ok (.invokestatic 278, 3) := by decide +kernel
theorem dX9_digest_51 : decode cX9_digest 51 = .ok (.lstore_n 1, 1) := by decide +kernel
theorem dX9_digest_52 : decode cX9_digest 52 = .ok (.lload_n 1, 1) := by decide +kernel
theorem dX9_digest_53 : decode cX9_digest 53 = .ok (.aload_n 0, 1) := by decide +kernel
theorem dX9_digest_54 : decode cX9_digest 54 = .ok (.getfield 10, 3) := by decide +kernel
theorem dX9_digest_57 : decode cX9_digest 57 = .ok (.getfield 124, 3) := by decide +kernel
theorem dX9_digest_60 : decode cX9_digest 60 = .ok (.invokestatic 282, 3) := by decide +kernel
theorem dX9_digest_63 : decode cX9_digest 63 = .ok (.lstore_n 1, 1) := by decide +kernel
theorem dX9_digest_64 : decode cX9_digest 64 = .ok (.lload_n 1, 1) := by decide +kernel
theorem dX9_digest_65 : decode cX9_digest 65 = .ok (.aload_n 0, 1) := by decide +kernel
theorem dX9_digest_66 : decode cX9_digest 66 = .ok (.getfield 10, 3) := by decide +kernel
theorem dX9_digest_69 : decode cX9_digest 69 = .ok (.getfield 182, 3) := by decide +kernel
theorem dX9_digest_72 : decode cX9_digest 72 = .ok (.invokestatic 282, 3) := by decide +kernel
theorem dX9_digest_75 : decode cX9_digest 75 = .ok (.lstore_n 1, 1) := by decide +kernel
theorem dX9_digest_76 : decode cX9_digest 76 = .ok (.lload_n 1, 1) := by decide +kernel
theorem dX9_digest_77 : decode cX9_digest 77 = .ok (.aload_n 0, 1) := by decide +kernel
theorem dX9_digest_78 : decode cX9_digest 78 = .ok (.getfield 10, 3) := by decide +kernel
theorem dX9_digest_81 : decode cX9_digest 81 = .ok (.getfield 185, 3) := by decide +kernel
theorem dX9_digest_84 : decode cX9_digest 84 = .ok (.aload_n 0, 1) := by decide +kernel
theorem dX9_digest_85 : decode cX9_digest 85 = .ok (.getfield 10, 3) := by decide +kernel
theorem dX9_digest_88 : decode cX9_digest 88 = .ok (.getfield 188, 3) := by decide +kernel
theorem dX9_digest_91 : decode cX9_digest 91 = .ok (.invokestatic 286, 3) := by decide +kernel
theorem dX9_digest_94 : decode cX9_digest 94 = .ok (.lstore_n 1, 1) := by decide +kernel
theorem dX9_digest_95 : decode cX9_digest 95 = .ok (.lload_n 1, 1) := by decide +kernel
theorem dX9_digest_96 : decode cX9_digest 96 = .ok (.aload_n 0, 1) := by decide +kernel
theorem dX9_digest_97 : decode cX9_digest 97 = .ok (.getfield 10, 3) := by decide +kernel
theorem dX9_digest_100 : decode cX9_digest 100 = .ok (.getfield 221, 3) := by decide +kernel
theorem dX9_digest_103 : decode cX9_digest 103 = .ok (.invokestatic 282, 3) := by decide +kernel
theorem dX9_digest_106 : decode cX9_digest 106 = .ok (.lstore_n 1, 1) := by decide +kernel
theorem dX9_digest_107 : decode cX9_digest 107 = .ok (.lload_n 1, 1) := by decide +kernel
theorem dX9_digest_108 : decode cX9_digest 108 = .ok (.aload_n 0, 1) := by decide +kernel
theorem dX9_digest_109 : decode cX9_digest 109 = .ok (.getfield 10, 3) := by decide +kernel
theorem dX9_digest_112 : decode cX9_digest 112 = .ok (.getfield 245, 3) := by decide +kernel
theorem dX9_digest_115 : decode cX9_digest 115 = .ok (.invokestatic 282, 3) := by decide +kernel
theorem dX9_digest_118 : decode cX9_digest 118 = .ok (.lstore_n 1, 1) := by decide +kernel
theorem dX9_digest_119 : decode cX9_digest 119 = .ok (.lload_n 1, 1) := by decide +kernel
theorem dX9_digest_120 : decode cX9_digest 120 = .ok (.aload_n 0, 1) := by decide +kernel
theorem dX9_digest_121 : decode cX9_digest 121 = .ok (.getfield 10, 3) := by decide +kernel
theorem dX9_digest_124 : decode cX9_digest 124 = .ok (.getfield 248, 3) := by decide +kernel
theorem dX9_digest_127 : decode cX9_digest 127 = .ok (.invokestatic 274, 3) := by decide +kernel
theorem dX9_digest_130 : decode cX9_digest 130 = .ok (.aload_n 0, 1) := by decide +kernel
theorem dX9_digest_131 : decode cX9_digest 131 = .ok (.getfield 10, 3) := by decide +kernel
theorem dX9_digest_134 : decode cX9_digest 134 = .ok (.getfield 251, 3) := by decide +kernel
theorem dX9_digest_137 : decode cX9_digest 137 = .ok (.invokestatic 274, 3) := by decide +kernel
theorem dX9_digest_140 : decode cX9_digest 140 = .ok (.lstore_n 1, 1) := by decide +kernel
theorem dX9_digest_141 : decode cX9_digest 141 = .ok (.lload_n 1, 1) := by decide +kernel
theorem dX9_digest_142 : decode cX9_digest 142 = .ok (.aload_n 0, 1) := by decide +kernel
theorem dX9_digest_143 : decode cX9_digest 143 = .ok (.getfield 260, 3) := by decide +kernel
theorem dX9_digest_146 : decode cX9_digest 146 = .ok (.invokestatic 274, 3) := by decide +kernel
theorem dX9_digest_149 : decode cX9_digest 149 = .ok (.aload_n 0, 1) := by decide +kernel
theorem dX9_digest_150 : decode cX9_digest 150 = .ok (.getfield 24, 3) := by decide +kernel
theorem dX9_digest_153 : decode cX9_digest 153 = .ok (.invokestatic 274, 3) := by decide +kernel
theorem dX9_digest_156 : decode cX9_digest 156 = .ok (.lreturn, 1) := by decide +kernel
theorem dX9_isWithin_0 : decode cX9_isWithin 0 = .ok (.iload_n 0, 1) := by decide +kernel
theorem dX9_isWithin_1 : decode cX9_isWithin 1 = .ok (.iload_n 1, 1) := by decide +kernel
theorem dX9_isWithin_2 : decode cX9_isWithin 2 = .ok (.if_icmp .lt 12, 3) := by decide +kernel
theorem dX9_isWithin_5 : decode cX9_isWithin 5 = .ok (.iload_n 0, 1) := by decide +kernel
theorem dX9_isWithin_6 : decode cX9_isWithin 6 = .ok (.iload_n 2, 1) := by decide +kernel
theorem dX9_isWithin_7 : decode cX9_isWithin 7 = .ok (.if_icmp .gt 7, 3) := by decide +kernel
theorem dX9_isWithin_10 : decode cX9_isWithin 10 = .ok (.iconst 1, 1) := by decide +kernel
theorem dX9_isWithin_11 : decode cX9_isWithin 11 = .ok (.goto 4, 3) := by decide +kernel
theorem dX9_isWithin_14 : decode cX9_isWithin 14 = .ok (.iconst 0, 1) := by decide +kernel
theorem dX9_isWithin_15 : decode cX9_isWithin 15 = .ok (.ireturn, 1) := by decide +kernel
set_option maxRecDepth 20000 in
theorem ggX9_isRule_X9_isWithin : GoodIn wsX9_isRule wsX9_isWithin := goodIn_r _ [4] (by decide +kernel) (by decide +kernel)
set_option maxRecDepth 20000 in
theorem gX9_isRule_X9_isWithin : GoodIn wsX9_isRule (va_wsS RX9 82 yX9_isWithin wsX9_isWithin) := goodIn_app (goodIn_of _ (by decide +kernel)) ggX9_isRule_X9_isWithin
theorem dX9_isRule_0 : decode cX9_isRule 0 = .ok (.iload_n 0, 1) := by decide +kernel
theorem dX9_isRule_1 : decode cX9_isRule 1 = .ok (.iconst 0, 1) := by decide +kernel
theorem dX9_isRule_2 : decode cX9_isRule 2 = .ok (.iconst 3, 1) := by decide +kernel
theorem dX9_isRule_3 : decode cX9_isRule 3 = .ok (.invokestatic 82, 3) := by decide +kernel
theorem dX9_isRule_6 : decode cX9_isRule 6 = .ok (.ireturn, 1) := by decide +kernel
set_option maxRecDepth 20000 in
theorem ggX9_isCorner_X9_isWithin : GoodIn wsX9_isCorner wsX9_isWithin := goodIn_r _ [4] (by decide +kernel) (by decide +kernel)
set_option maxRecDepth 20000 in
theorem gX9_isCorner_X9_isWithin : GoodIn wsX9_isCorner (va_wsS RX9 82 yX9_isWithin wsX9_isWithin) := goodIn_app (goodIn_of _ (by decide +kernel)) ggX9_isCorner_X9_isWithin
theorem dX9_isCorner_0 : decode cX9_isCorner 0 = .ok (.iload_n 0, 1) := by decide +kernel
theorem dX9_isCorner_1 : decode cX9_isCorner 1 = .ok (.iconst 0, 1) := by decide +kernel
theorem dX9_isCorner_2 : decode cX9_isCorner 2 = .ok (.iconst 3, 1) := by decide +kernel
theorem dX9_isCorner_3 : decode cX9_isCorner 3 = .ok (.invokestatic 82, 3) := by decide +kernel
theorem dX9_isCorner_6 : decode cX9_isCorner 6 = .ok (.ireturn, 1) := by decide +kernel
set_option maxRecDepth 20000 in
theorem ggX9_isKnot_X7_size : GoodIn wsX9_isKnot wsX7_size := goodIn_r _ [7, 8, 35, 36] (by decide +kernel) (by decide +kernel)
set_option maxRecDepth 20000 in
theorem gX9_isKnot_X7_size : GoodIn wsX9_isKnot (wsV RX9 127 RX7 yX7_size wsX7_size) := goodIn_app (goodIn_of _ (by decide +kernel)) ggX9_isKnot_X7_size
set_option maxRecDepth 20000 in
theorem ggX9_isKnot_X9_isWithin : GoodIn wsX9_isKnot wsX9_isWithin := goodIn_r _ [12] (by decide +kernel) (by decide +kernel)
set_option maxRecDepth 20000 in
theorem gX9_isKnot_X9_isWithin : GoodIn wsX9_isKnot (va_wsS RX9 82 yX9_isWithin wsX9_isWithin) := goodIn_app (goodIn_of _ (by decide +kernel)) ggX9_isKnot_X9_isWithin
theorem dX9_isKnot_0 : decode cX9_isKnot 0 = .ok (.iload_n 1, 1) := by decide +kernel
theorem dX9_isKnot_1 : decode cX9_isKnot 1 = .ok (.iconst 0, 1) := by decide +kernel
theorem dX9_isKnot_2 : decode cX9_isKnot 2 = .ok (.aload_n 0, 1) := by decide +kernel
theorem dX9_isKnot_3 : decode cX9_isKnot 3 = .ok (.getfield 10, 3) := by decide +kernel
theorem dX9_isKnot_6 : decode cX9_isKnot 6 = .ok (.getfield 182, 3) := by decide +kernel
theorem dX9_isKnot_9 : decode cX9_isKnot 9 = .ok (.invokevirtual 127, 3) := by decide +kernel
theorem dX9_isKnot_12 : decode cX9_isKnot 12 = .ok (.iconst 1, 1) := by decide +kernel
theorem dX9_isKnot_13 : decode cX9_isKnot 13 = .ok (.isub, 1) := by decide +kernel
theorem dX9_isKnot_14 : decode cX9_isKnot 14 = .ok (.invokestatic 82, 3) := by decide +kernel
theorem dX9_isKnot_17 : decode cX9_isKnot 17 = .ok (.ireturn, 1) := by decide +kernel
theorem dX9_refuse_0 : decode cX9_refuse 0 = .ok (.bipush (-2), 2) := by decide +kernel
theorem dX9_refuse_2 : decode cX9_refuse 2 = .ok (.iload_n 1, 1) := by decide +kernel
theorem dX9_refuse_3 : decode cX9_refuse 3 = .ok (.isub, 1) := by decide +kernel
theorem dX9_refuse_4 : decode cX9_refuse 4 = .ok (.istore_n 3, 1) := by decide +kernel
theorem dX9_refuse_5 : decode cX9_refuse 5 = .ok (.iload_n 3, 1) := by decide +kernel
theorem dX9_refuse_6 : decode cX9_refuse 6 = .ok (.ifCond .lt 22, 3) := by decide +kernel
theorem dX9_refuse_9 : decode cX9_refuse 9 = .ok (.iload_n 3, 1) := by decide +kernel
theorem dX9_refuse_10 : decode cX9_refuse 10 = .ok (.aload_n 0, 1) := by decide +kernel
theorem dX9_refuse_11 : decode cX9_refuse 11 = .ok (.getfield 20, 3) := by decide +kernel
theorem dX9_refuse_14 : decode cX9_refuse 14 = .ok (.arraylength, 1) := by decide +kernel
theorem dX9_refuse_15 : decode cX9_refuse 15 = .ok (.if_icmp .ge 13, 3) := by decide +kernel
theorem dX9_refuse_18 : decode cX9_refuse 18 = .ok (.aload_n 0, 1) := by decide +kernel
theorem dX9_refuse_19 : decode cX9_refuse 19 = .ok (.getfield 20, 3) := by decide +kernel
theorem dX9_refuse_22 : decode cX9_refuse 22 = .ok (.iload_n 3, 1) := by decide +kernel
theorem dX9_refuse_23 : decode cX9_refuse 23 = .ok (.dup2, 1) := by decide +kernel
theorem dX9_refuse_24 : decode cX9_refuse 24 = .ok (.iaload, 1) := by decide +kernel
theorem dX9_refuse_25 : decode cX9_refuse 25 = .ok (.iconst 1, 1) := by decide +kernel
theorem dX9_refuse_26 : decode cX9_refuse 26 = .ok (.iadd, 1) := by decide +kernel
theorem dX9_refuse_27 : decode cX9_refuse 27 = .ok (.iastore, 1) := by decide +kernel
theorem dX9_refuse_28 : decode cX9_refuse 28 = .ok (.iload_n 2, 1) := by decide +kernel
theorem dX9_refuse_29 : decode cX9_refuse 29 = .ok (.ireturn, 1) := by decide +kernel
theorem dX9_keepFraction_0 : decode cX9_keepFraction 0 = .ok (.iload_n 1, 1) := by decide +kernel
theorem dX9_keepFraction_1 : decode cX9_keepFraction 1 = .ok (.istore_n 3, 1) := by decide +kernel
theorem dX9_keepFraction_2 : decode cX9_keepFraction 2 = .ok (.iload_n 2, 1) := by decide +kernel
theorem dX9_keepFraction_3 : decode cX9_keepFraction 3 = .ok (.istore 4, 2) := by decide +kernel
theorem dX9_keepFraction_5 : decode cX9_keepFraction 5 = .ok (.iconst 0, 1) := by decide +kernel
theorem dX9_keepFraction_6 : decode cX9_keepFraction 6 = .ok (.istore 5, 2) := by decide +kernel
theorem dX9_keepFraction_8 : decode cX9_keepFraction 8 = .ok (.iload 5, 2) := by decide +kernel
theorem dX9_keepFraction_10 : decode cX9_keepFraction 10 = .ok (.bipush 64, 2) := by decide +kernel
theorem dX9_keepFraction_12 : decode cX9_keepFraction 12 = .ok (.if_icmp .ge 27, 3) := by decide +kernel
theorem dX9_keepFraction_15 : decode cX9_keepFraction 15 = .ok (.iload 4, 2) := by decide +kernel
theorem dX9_keepFraction_17 : decode cX9_keepFraction 17 = .ok (.ifCond .eq 22, 3) := by decide +kernel
theorem dX9_keepFraction_20 : decode cX9_keepFraction 20 = .ok (.iload_n 3, 1) := by decide +kernel
theorem dX9_keepFraction_21 : decode cX9_keepFraction 21 = .ok (.iload 4, 2) := by decide +kernel
theorem dX9_keepFraction_23 : decode cX9_keepFraction 23 = .ok (.irem, 1) := by decide +kernel
theorem dX9_keepFraction_24 : decode cX9_keepFraction 24 = .ok (.istore 6, 2) := by decide +kernel
theorem dX9_keepFraction_26 : decode cX9_keepFraction 26 = .ok (.iload 4, 2) := by decide +kernel
theorem dX9_keepFraction_28 : decode cX9_keepFraction 28 = .ok (.istore_n 3, 1) := by decide +kernel
theorem dX9_keepFraction_29 : decode cX9_keepFraction 29 = .ok (.iload 6, 2) := by decide +kernel
theorem dX9_keepFraction_31 : decode cX9_keepFraction 31 = .ok (.istore 4, 2) := by decide +kernel
theorem dX9_keepFraction_33 : decode cX9_keepFraction 33 = .ok (.iinc 5 1, 3) := by decide +kernel
theorem dX9_keepFraction_36 : decode cX9_keepFraction 36 = .ok (.goto (-28), 3) := by decide +kernel
theorem dX9_keepFraction_39 : decode cX9_keepFraction 39 = .ok (.iload_n 3, 1) := by decide +kernel
theorem dX9_keepFraction_40 : decode cX9_keepFraction 40 = .ok (.ifCond .le 17, 3) := by decide +kernel
theorem dX9_keepFraction_43 : decode cX9_keepFraction 43 = .ok (.aload_n 0, 1) := by decide +kernel
theorem dX9_keepFraction_44 : decode cX9_keepFraction 44 = .ok (.iload_n 1, 1) := by decide +kernel
theorem dX9_keepFraction_45 : decode cX9_keepFraction 45 = .ok (.iload_n 3, 1) := by decide +kernel
theorem dX9_keepFraction_46 : decode cX9_keepFraction 46 = .ok (.idiv, 1) := by decide +kernel
theorem dX9_keepFraction_47 : decode cX9_keepFraction 47 = .ok (.putfield 260, 3) := by decide +kernel
theorem dX9_keepFraction_50 : decode cX9_keepFraction 50 = .ok (.aload_n 0, 1) := by decide +kernel
theorem dX9_keepFraction_51 : decode cX9_keepFraction 51 = .ok (.iload_n 2, 1) := by decide +kernel
theorem dX9_keepFraction_52 : decode cX9_keepFraction 52 = .ok (.iload_n 3, 1) := by decide +kernel
theorem dX9_keepFraction_53 : decode cX9_keepFraction 53 = .ok (.idiv, 1) := by decide +kernel
theorem dX9_keepFraction_54 : decode cX9_keepFraction 54 = .ok (.putfield 24, 3) := by decide +kernel
theorem dX9_keepFraction_57 : decode cX9_keepFraction 57 = .ok (.return_, 1) := by decide +kernel
set_option maxRecDepth 20000 in
theorem ggX9_howMany_X2_wayCount : GoodIn wsX9_howMany wsX2_wayCount := goodIn_r _ [11, 12, 13, 14, 15, 16, 17, 18, 19, 59, 60, 61, 62, 63, 64, 65] (by decide +kernel) (by decide +kernel)
set_option maxRecDepth 20000 in
theorem gX9_howMany_X2_wayCount : GoodIn wsX9_howMany (wsV RX9 290 RX2 yX2_wayCount wsX2_wayCount) := goodIn_app (goodIn_of _ (by decide +kernel)) ggX9_howMany_X2_wayCount
set_option maxRecDepth 20000 in
theorem ggX9_howMany_X2_people : GoodIn wsX9_howMany wsX2_people := goodIn_r _ [23, 24, 25, 26, 27, 28, 29, 30, 59, 60, 61, 62, 63, 64, 65, 66, 67] (by decide +kernel) (by decide +kernel)
set_option maxRecDepth 20000 in
theorem gX9_howMany_X2_people : GoodIn wsX9_howMany (wsV RX9 120 RX2 yX2_people wsX2_people) := goodIn_app (goodIn_of _ (by decide +kernel)) ggX9_howMany_X2_people
set_option maxRecDepth 20000 in
theorem ggX9_howMany_X2_gos : GoodIn wsX9_howMany wsX2_gos := goodIn_r _ [34, 35, 25, 26, 27, 28, 29, 30, 59, 60, 61, 62, 63, 64, 65, 66, 67] (by decide +kernel) (by decide +kernel)
set_option maxRecDepth 20000 in
theorem gX9_howMany_X2_gos : GoodIn wsX9_howMany (wsV RX9 148 RX2 yX2_gos wsX2_gos) := goodIn_app (goodIn_of _ (by decide +kernel)) ggX9_howMany_X2_gos
set_option maxRecDepth 20000 in
theorem ggX9_howMany_X7_size : GoodIn wsX9_howMany wsX7_size := goodIn_r _ [29, 30, 66, 67] (by decide +kernel) (by decide +kernel)
set_option maxRecDepth 20000 in
theorem gX9_howMany_X7_size : GoodIn wsX9_howMany (wsV RX9 127 RX7 yX7_size wsX7_size) := goodIn_app (goodIn_of _ (by decide +kernel)) ggX9_howMany_X7_size
theorem dX9_howMany_0 : decode cX9_howMany 0 = .ok (.iload_n 1, 1) := by decide +kernel
theorem dX9_howMany_1 : decode cX9_howMany 1 = .ok (.tableswitch 105 0 5 #[39, 50, 61, 72, 83, 94], 39) := by decide +kernel
theorem dX9_howMany_40 : decode cX9_howMany 40 = .ok (.aload_n 0, 1) := by decide +kernel
theorem dX9_howMany_41 : decode cX9_howMany 41 = .ok (.getfield 10, 3) := by decide +kernel
theorem dX9_howMany_44 : decode cX9_howMany 44 = .ok (.getfield 93, 3) := by decide +kernel
theorem dX9_howMany_47 : decode cX9_howMany 47 = .ok (.invokevirtual 290, 3) := by decide +kernel
theorem dX9_howMany_50 : decode cX9_howMany 50 = .ok (.ireturn, 1) := by decide +kernel
theorem dX9_howMany_51 : decode cX9_howMany 51 = .ok (.aload_n 0, 1) := by decide +kernel
theorem dX9_howMany_52 : decode cX9_howMany 52 = .ok (.getfield 10, 3) := by decide +kernel
theorem dX9_howMany_55 : decode cX9_howMany 55 = .ok (.getfield 93, 3) := by decide +kernel
theorem dX9_howMany_58 : decode cX9_howMany 58 = .ok (.invokevirtual 120, 3) := by decide +kernel
theorem dX9_howMany_61 : decode cX9_howMany 61 = .ok (.ireturn, 1) := by decide +kernel
theorem dX9_howMany_62 : decode cX9_howMany 62 = .ok (.aload_n 0, 1) := by decide +kernel
theorem dX9_howMany_63 : decode cX9_howMany 63 = .ok (.getfield 10, 3) := by decide +kernel
theorem dX9_howMany_66 : decode cX9_howMany 66 = .ok (.getfield 93, 3) := by decide +kernel
theorem dX9_howMany_69 : decode cX9_howMany 69 = .ok (.invokevirtual 148, 3) := by decide +kernel
theorem dX9_howMany_72 : decode cX9_howMany 72 = .ok (.ireturn, 1) := by decide +kernel
theorem dX9_howMany_73 : decode cX9_howMany 73 = .ok (.aload_n 0, 1) := by decide +kernel
theorem dX9_howMany_74 : decode cX9_howMany 74 = .ok (.getfield 10, 3) := by decide +kernel
theorem dX9_howMany_77 : decode cX9_howMany 77 = .ok (.getfield 124, 3) := by decide +kernel
theorem dX9_howMany_80 : decode cX9_howMany 80 = .ok (.invokevirtual 127, 3) := by decide +kernel
theorem dX9_howMany_83 : decode cX9_howMany 83 = .ok (.ireturn, 1) := by decide +kernel
theorem dX9_howMany_84 : decode cX9_howMany 84 = .ok (.aload_n 0, 1) := by decide +kernel
theorem dX9_howMany_85 : decode cX9_howMany 85 = .ok (.getfield 10, 3) := by decide +kernel
theorem dX9_howMany_88 : decode cX9_howMany 88 = .ok (.getfield 182, 3) := by decide +kernel
theorem dX9_howMany_91 : decode cX9_howMany 91 = .ok (.invokevirtual 127, 3) := by decide +kernel
theorem dX9_howMany_94 : decode cX9_howMany 94 = .ok (.ireturn, 1) := by decide +kernel
theorem dX9_howMany_95 : decode cX9_howMany 95 = .ok (.aload_n 0, 1) := by decide +kernel
theorem dX9_howMany_96 : decode cX9_howMany 96 = .ok (.getfield 10, 3) := by decide +kernel
theorem dX9_howMany_99 : decode cX9_howMany 99 = .ok (.getfield 185, 3) := by decide +kernel
theorem dX9_howMany_102 : decode cX9_howMany 102 = .ok (.invokevirtual 127, 3) := by decide +kernel
theorem dX9_howMany_105 : decode cX9_howMany 105 = .ok (.ireturn, 1) := by decide +kernel
theorem dX9_howMany_106 : decode cX9_howMany 106 = .ok (.aload_n 0, 1) := by decide +kernel
theorem dX9_howMany_107 : decode cX9_howMany 107 = .ok (.getfield 10, 3) := by decide +kernel
theorem dX9_howMany_110 : decode cX9_howMany 110 = .ok (.getfield 245, 3) := by decide +kernel
theorem dX9_howMany_113 : decode cX9_howMany 113 = .ok (.invokevirtual 127, 3) := by decide +kernel
theorem dX9_howMany_116 : decode cX9_howMany 116 = .ok (.ireturn, 1) := by decide +kernel
theorem dX9_mix_0 : decode cX9_mix 0 = .ok (.ldc2_w 293, 3) := by decide +kernel
theorem dX9_mix_3 : decode cX9_mix 3 = .ok (.lload_n 0, 1) := by decide +kernel
theorem dX9_mix_4 : decode cX9_mix 4 = .ok (.lmul, 1) := by decide +kernel
theorem dX9_mix_5 : decode cX9_mix 5 = .ok (.iload_n 2, 1) := by decide +kernel
theorem dX9_mix_6 : decode cX9_mix 6 = .ok (.i2l, 1) := by decide +kernel
theorem dX9_mix_7 : decode cX9_mix 7 = .ok (.ladd, 1) := by decide +kernel
theorem dX9_mix_8 : decode cX9_mix 8 = .ok (.lreturn, 1) := by decide +kernel
set_option maxRecDepth 20000 in
theorem ggX9_mixAll_X7_size : GoodIn wsX9_mixAll wsX7_size := goodIn_r _ [5, 6, 17, 18] (by decide +kernel) (by decide +kernel)
set_option maxRecDepth 20000 in
theorem gX9_mixAll_X7_size : GoodIn wsX9_mixAll (wsV RX9 127 RX7 yX7_size wsX7_size) := goodIn_app (goodIn_of _ (by decide +kernel)) ggX9_mixAll_X7_size
set_option maxRecDepth 20000 in
theorem ggX9_mixAll_X7_get : GoodIn wsX9_mixAll wsX7_get := goodIn_r _ [10, 6, 11, 17, 18] (by decide +kernel) (by decide +kernel)
set_option maxRecDepth 20000 in
theorem gX9_mixAll_X7_get : GoodIn wsX9_mixAll (wsV RX9 224 RX7 yX7_get wsX7_get) := goodIn_app (goodIn_of _ (by decide +kernel)) ggX9_mixAll_X7_get
set_option maxRecDepth 20000 in
theorem ggX9_mixAll_X9_mix : GoodIn wsX9_mixAll wsX9_mix := goodIn_r _ [15, 16] (by decide +kernel) (by decide +kernel)
set_option maxRecDepth 20000 in
theorem gX9_mixAll_X9_mix : GoodIn wsX9_mixAll (va_wsS RX9 274 yX9_mix wsX9_mix) := goodIn_app (goodIn_of _ (by decide +kernel)) ggX9_mixAll_X9_mix
theorem dX9_mixAll_0 : decode cX9_mixAll 0 = .ok (.lload_n 0, 1) := by decide +kernel
theorem dX9_mixAll_1 : decode cX9_mixAll 1 = .ok (.lstore_n 3, 1) := by decide +kernel
theorem dX9_mixAll_2 : decode cX9_mixAll 2 = .ok (.iconst 0, 1) := by decide +kernel
theorem dX9_mixAll_3 : decode cX9_mixAll 3 = .ok (.istore 5, 2) := by decide +kernel
theorem dX9_mixAll_5 : decode cX9_mixAll 5 = .ok (.iload 5, 2) := by decide +kernel
theorem dX9_mixAll_7 : decode cX9_mixAll 7 = .ok (.aload_n 2, 1) := by decide +kernel
theorem dX9_mixAll_8 : decode cX9_mixAll 8 = .ok (.invokevirtual 127, 3) := by decide +kernel
theorem dX9_mixAll_11 : decode cX9_mixAll 11 = .ok (.if_icmp .ge 20, 3) := by decide +kernel
theorem dX9_mixAll_14 : decode cX9_mixAll 14 = .ok (.lload_n 3, 1) := by decide +kernel
theorem dX9_mixAll_15 : decode cX9_mixAll 15 = .ok (.aload_n 2, 1) := by decide +kernel
theorem dX9_mixAll_16 : decode cX9_mixAll 16 = .ok (.iload 5, 2) := by decide +kernel
theorem dX9_mixAll_18 : decode cX9_mixAll 18 = .ok (.invokevirtual 224, 3) := by decide +kernel
theorem dX9_mixAll_21 : decode cX9_mixAll 21 = .ok (.invokestatic 274, 3) := by decide +kernel
theorem dX9_mixAll_24 : decode cX9_mixAll 24 = .ok (.lstore_n 3, 1) := by decide +kernel
theorem dX9_mixAll_25 : decode cX9_mixAll 25 = .ok (.iinc 5 1, 3) := by decide +kernel
theorem dX9_mixAll_28 : decode cX9_mixAll 28 = .ok (.goto (-23), 3) := by decide +kernel
theorem dX9_mixAll_31 : decode cX9_mixAll 31 = .ok (.lload_n 3, 1) := by decide +kernel
theorem dX9_mixAll_32 : decode cX9_mixAll 32 = .ok (.lreturn, 1) := by decide +kernel
set_option maxRecDepth 20000 in
theorem ggX9_mixPairs_X7_size : GoodIn wsX9_mixPairs wsX7_size := goodIn_r _ [5, 6, 17, 18] (by decide +kernel) (by decide +kernel)
set_option maxRecDepth 20000 in
theorem gX9_mixPairs_X7_size : GoodIn wsX9_mixPairs (wsV RX9 127 RX7 yX7_size wsX7_size) := goodIn_app (goodIn_of _ (by decide +kernel)) ggX9_mixPairs_X7_size
set_option maxRecDepth 20000 in
theorem ggX9_mixPairs_X7_get : GoodIn wsX9_mixPairs wsX7_get := goodIn_r _ [10, 6, 11, 17, 18] (by decide +kernel) (by decide +kernel)
set_option maxRecDepth 20000 in
theorem gX9_mixPairs_X7_get : GoodIn wsX9_mixPairs (wsV RX9 224 RX7 yX7_get wsX7_get) := goodIn_app (goodIn_of _ (by decide +kernel)) ggX9_mixPairs_X7_get
set_option maxRecDepth 20000 in
theorem ggX9_mixPairs_X9_mix : GoodIn wsX9_mixPairs wsX9_mix := goodIn_r _ [15, 16] (by decide +kernel) (by decide +kernel)
set_option maxRecDepth 20000 in
theorem gX9_mixPairs_X9_mix : GoodIn wsX9_mixPairs (va_wsS RX9 274 yX9_mix wsX9_mix) := goodIn_app (goodIn_of _ (by decide +kernel)) ggX9_mixPairs_X9_mix
theorem dX9_mixPairs_0 : decode cX9_mixPairs 0 = .ok (.lload_n 0, 1) := by decide +kernel
theorem dX9_mixPairs_1 : decode cX9_mixPairs 1 = .ok (.lstore 4, 2) := by decide +kernel
theorem dX9_mixPairs_3 : decode cX9_mixPairs 3 = .ok (.iconst 0, 1) := by decide +kernel
theorem dX9_mixPairs_4 : decode cX9_mixPairs 4 = .ok (.istore 6, 2) := by decide +kernel
theorem dX9_mixPairs_6 : decode cX9_mixPairs 6 = .ok (.iload 6, 2) := by decide +kernel
theorem dX9_mixPairs_8 : decode cX9_mixPairs 8 = .ok (.aload_n 2, 1) := by decide +kernel
theorem dX9_mixPairs_9 : decode cX9_mixPairs 9 = .ok (.invokevirtual 127, 3) := by decide +kernel
theorem dX9_mixPairs_12 : decode cX9_mixPairs 12 = .ok (.if_icmp .ge 31, 3) := by decide +kernel
theorem dX9_mixPairs_15 : decode cX9_mixPairs 15 = .ok (.lload 4, 2) := by decide +kernel
theorem dX9_mixPairs_17 : decode cX9_mixPairs 17 = .ok (.aload_n 2, 1) := by decide +kernel
theorem dX9_mixPairs_18 : decode cX9_mixPairs 18 = .ok (.iload 6, 2) := by decide +kernel
theorem dX9_mixPairs_20 : decode cX9_mixPairs 20 = .ok (.invokevirtual 224, 3) := by decide +kernel
theorem dX9_mixPairs_23 : decode cX9_mixPairs 23 = .ok (.invokestatic 274, 3) := by decide +kernel
theorem dX9_mixPairs_26 : decode cX9_mixPairs 26 = .ok (.aload_n 3, 1) := by decide +kernel
theorem dX9_mixPairs_27 : decode cX9_mixPairs 27 = .ok (.iload 6, 2) := by decide +kernel
theorem dX9_mixPairs_29 : decode cX9_mixPairs 29 = .ok (.invokevirtual 224, 3) := by decide +kernel
theorem dX9_mixPairs_32 : decode cX9_mixPairs 32 = .ok (.invokestatic 274, 3) := by decide +kernel
theorem dX9_mixPairs_35 : decode cX9_mixPairs 35 = .ok (.lstore 4, 2) := by decide +kernel
theorem dX9_mixPairs_37 : decode cX9_mixPairs 37 = .ok (.iinc 6 1, 3) := by decide +kernel
theorem dX9_mixPairs_40 : decode cX9_mixPairs 40 = .ok (.goto (-34), 3) := by decide +kernel
theorem dX9_mixPairs_43 : decode cX9_mixPairs 43 = .ok (.lload 4, 2) := by decide +kernel
theorem dX9_mixPairs_45 : decode cX9_mixPairs 45 = .ok (.lreturn, 1) := by decide +kernel
set_option maxRecDepth 20000 in
theorem ggX9_mixLand_X2_hasWay : GoodIn wsX9_mixLand wsX2_hasWay := goodIn_r _ [11, 12, 13, 14, 15, 16, 17, 18, 19, 20, 10, 21, 46, 47, 48, 49, 50, 51, 52] (by decide +kernel) (by decide +kernel)
set_option maxRecDepth 20000 in
theorem gX9_mixLand_X2_hasWay : GoodIn wsX9_mixLand (wsV RX9 97 RX2 yX2_hasWay wsX2_hasWay) := goodIn_app (goodIn_of _ (by decide +kernel)) ggX9_mixLand_X2_hasWay
set_option maxRecDepth 20000 in
theorem ggX9_mixLand_X9_mix : GoodIn wsX9_mixLand wsX9_mix := goodIn_r _ [24, 25] (by decide +kernel) (by decide +kernel)
set_option maxRecDepth 20000 in
theorem gX9_mixLand_X9_mix : GoodIn wsX9_mixLand (va_wsS RX9 274 yX9_mix wsX9_mix) := goodIn_app (goodIn_of _ (by decide +kernel)) ggX9_mixLand_X9_mix
set_option maxRecDepth 20000 in
theorem ggX9_mixLand_X9_mixPairs : GoodIn wsX9_mixLand wsX9_mixPairs := goodIn_r _ [28, 29, 30, 31, 32, 33, 34, 35, 36, 37, 38, 39, 22, 23, 14, 24, 25, 53, 54] (by decide +kernel) (by decide +kernel)
set_option maxRecDepth 20000 in
theorem gX9_mixLand_X9_mixPairs : GoodIn wsX9_mixLand (va_wsS RX9 286 yX9_mixPairs wsX9_mixPairs) := goodIn_app (goodIn_of _ (by decide +kernel)) ggX9_mixLand_X9_mixPairs
set_option maxRecDepth 20000 in
theorem ggX9_mixLand_X2_gos : GoodIn wsX9_mixLand wsX2_gos := goodIn_r _ [43, 44, 45, 30, 31, 32, 33, 34, 46, 47, 48, 49, 50, 51, 52, 53, 54] (by decide +kernel) (by decide +kernel)
set_option maxRecDepth 20000 in
theorem gX9_mixLand_X2_gos : GoodIn wsX9_mixLand (wsV RX9 148 RX2 yX2_gos wsX2_gos) := goodIn_app (goodIn_of _ (by decide +kernel)) ggX9_mixLand_X2_gos
set_option maxRecDepth 20000 in
theorem ggX9_mixLand_X7_get : GoodIn wsX9_mixLand wsX7_get := goodIn_r _ [38, 34, 39, 53, 54] (by decide +kernel) (by decide +kernel)
set_option maxRecDepth 20000 in
theorem gX9_mixLand_X7_get : GoodIn wsX9_mixLand (wsV RX9 224 RX7 yX7_get wsX7_get) := goodIn_app (goodIn_of _ (by decide +kernel)) ggX9_mixLand_X7_get
theorem dX9_mixLand_0 : decode cX9_mixLand 0 = .ok (.lload_n 0, 1) := by decide +kernel
theorem dX9_mixLand_1 : decode cX9_mixLand 1 = .ok (.lstore_n 3, 1) := by decide +kernel
theorem dX9_mixLand_2 : decode cX9_mixLand 2 = .ok (.iconst 0, 1) := by decide +kernel
theorem dX9_mixLand_3 : decode cX9_mixLand 3 = .ok (.istore 5, 2) := by decide +kernel
theorem dX9_mixLand_5 : decode cX9_mixLand 5 = .ok (.iload 5, 2) := by decide +kernel
theorem dX9_mixLand_7 : decode cX9_mixLand 7 = .ok (.iconst 4, 1) := by decide +kernel
theorem dX9_mixLand_8 : decode cX9_mixLand 8 = .ok (.if_icmp .ge 46, 3) := by decide +kernel
theorem dX9_mixLand_11 : decode cX9_mixLand 11 = .ok (.iconst 0, 1) := by decide +kernel
theorem dX9_mixLand_12 : decode cX9_mixLand 12 = .ok (.istore 6, 2) := by decide +kernel
theorem dX9_mixLand_14 : decode cX9_mixLand 14 = .ok (.iload 6, 2) := by decide +kernel
theorem dX9_mixLand_16 : decode cX9_mixLand 16 = .ok (.iload 5, 2) := by decide +kernel
theorem dX9_mixLand_18 : decode cX9_mixLand 18 = .ok (.if_icmp .ge 30, 3) := by decide +kernel
theorem dX9_mixLand_21 : decode cX9_mixLand 21 = .ok (.lload_n 3, 1) := by decide +kernel
theorem dX9_mixLand_22 : decode cX9_mixLand 22 = .ok (.aload_n 2, 1) := by decide +kernel
theorem dX9_mixLand_23 : decode cX9_mixLand 23 = .ok (.iload 5, 2) := by decide +kernel
theorem dX9_mixLand_25 : decode cX9_mixLand 25 = .ok (.iload 6, 2) := by decide +kernel
theorem dX9_mixLand_27 : decode cX9_mixLand 27 = .ok (.invokevirtual 97, 3) := by decide +kernel
theorem dX9_mixLand_30 : decode cX9_mixLand 30 = .ok (.ifCond .eq 7, 3) := by decide +kernel
theorem dX9_mixLand_33 : decode cX9_mixLand 33 = .ok (.iconst 1, 1) := by decide +kernel
theorem dX9_mixLand_34 : decode cX9_mixLand 34 = .ok (.goto 4, 3) := by decide +kernel
theorem dX9_mixLand_37 : decode cX9_mixLand 37 = .ok (.iconst 0, 1) := by decide +kernel
theorem dX9_mixLand_38 : decode cX9_mixLand 38 = .ok (.invokestatic 274, 3) := by decide +kernel
theorem dX9_mixLand_41 : decode cX9_mixLand 41 = .ok (.lstore_n 3, 1) := by decide +kernel
theorem dX9_mixLand_42 : decode cX9_mixLand 42 = .ok (.iinc 6 1, 3) := by decide +kernel
theorem dX9_mixLand_45 : decode cX9_mixLand 45 = .ok (.goto (-31), 3) := by decide +kernel
theorem dX9_mixLand_48 : decode cX9_mixLand 48 = .ok (.iinc 5 1, 3) := by decide +kernel
theorem dX9_mixLand_51 : decode cX9_mixLand 51 = .ok (.goto (-46), 3) := by decide +kernel
theorem dX9_mixLand_54 : decode cX9_mixLand 54 = .ok (.lload_n 3, 1) := by decide +kernel
theorem dX9_mixLand_55 : decode cX9_mixLand 55 = .ok (.aload_n 2, 1) := by decide +kernel
theorem dX9_mixLand_56 : decode cX9_mixLand 56 = .ok (.getfield 106, 3) := by decide +kernel
theorem dX9_mixLand_59 : decode cX9_mixLand 59 = .ok (.aload_n 2, 1) := by decide +kernel
theorem dX9_mixLand_60 : decode cX9_mixLand 60 = .ok (.getfield 295, 3) := by decide +kernel
theorem dX9_mixLand_63 : decode cX9_mixLand 63 = .ok (.invokestatic 286, 3) := by decide +kernel
theorem dX9_mixLand_66 : decode cX9_mixLand 66 = .ok (.lstore_n 3, 1) := by decide +kernel
theorem dX9_mixLand_67 : decode cX9_mixLand 67 = .ok (.iconst 0, 1) := by decide +kernel
theorem dX9_mixLand_68 : decode cX9_mixLand 68 = .ok (.istore 5, 2) := by decide +kernel
theorem dX9_mixLand_70 : decode cX9_mixLand 70 = .ok (.iload 5, 2) := by decide +kernel
theorem dX9_mixLand_72 : decode cX9_mixLand 72 = .ok (.aload_n 2, 1) := by decide +kernel
theorem dX9_mixLand_73 : decode cX9_mixLand 73 = .ok (.invokevirtual 148, 3) := by decide +kernel
theorem dX9_mixLand_76 : decode cX9_mixLand 76 = .ok (.if_icmp .ge 61, 3) := by decide +kernel
theorem dX9_mixLand_79 : decode cX9_mixLand 79 = .ok (.lload_n 3, 1) := by decide +kernel
theorem dX9_mixLand_80 : decode cX9_mixLand 80 = .ok (.aload_n 2, 1) := by decide +kernel
theorem dX9_mixLand_81 : decode cX9_mixLand 81 = .ok (.getfield 298, 3) := by decide +kernel
theorem dX9_mixLand_84 : decode cX9_mixLand 84 = .ok (.iload 5, 2) := by decide +kernel
theorem dX9_mixLand_86 : decode cX9_mixLand 86 = .ok (.invokevirtual 224, 3) := by decide +kernel
theorem dX9_mixLand_89 : decode cX9_mixLand 89 = .ok (.invokestatic 274, 3) := by decide +kernel
theorem dX9_mixLand_92 : decode cX9_mixLand 92 = .ok (.aload_n 2, 1) := by decide +kernel
theorem dX9_mixLand_93 : decode cX9_mixLand 93 = .ok (.getfield 301, 3) := by decide +kernel
theorem dX9_mixLand_96 : decode cX9_mixLand 96 = .ok (.iload 5, 2) := by decide +kernel
theorem dX9_mixLand_98 : decode cX9_mixLand 98 = .ok (.invokevirtual 224, 3) := by decide +kernel
theorem dX9_mixLand_101 : decode cX9_mixLand 101 = .ok (.invokestatic 274, 3) := by decide +kernel
theorem dX9_mixLand_104 : decode cX9_mixLand 104 = .ok (.lstore_n 3, 1) := by decide +kernel
theorem dX9_mixLand_105 : decode cX9_mixLand 105 = .ok (.lload_n 3, 1) := by decide +kernel
theorem dX9_mixLand_106 : decode cX9_mixLand 106 = .ok (.aload_n 2, 1) := by decide +kernel
theorem dX9_mixLand_107 : decode cX9_mixLand 107 = .ok (.getfield 304, 3) := by decide +kernel
theorem dX9_mixLand_110 : decode cX9_mixLand 110 = .ok (.iload 5, 2) := by decide +kernel
theorem dX9_mixLand_112 : decode cX9_mixLand 112 = .ok (.invokevirtual 224, 3) := by decide +kernel
theorem dX9_mixLand_115 : decode cX9_mixLand 115 = .ok (.invokestatic 274, 3) := by decide +kernel
theorem dX9_mixLand_118 : decode cX9_mixLand 118 = .ok (.aload_n 2, 1) := by decide +kernel
theorem dX9_mixLand_119 : decode cX9_mixLand 119 = .ok (.getfield 307, 3) := by decide +kernel
theorem dX9_mixLand_122 : decode cX9_mixLand 122 = .ok (.iload 5, 2) := by decide +kernel
theorem dX9_mixLand_124 : decode cX9_mixLand 124 = .ok (.invokevirtual 224, 3) := by decide +kernel
theorem dX9_mixLand_127 : decode cX9_mixLand 127 = .ok (.invokestatic 274, 3) := by decide +kernel
theorem dX9_mixLand_130 : decode cX9_mixLand 130 = .ok (.lstore_n 3, 1) := by decide +kernel
theorem dX9_mixLand_131 : decode cX9_mixLand 131 = .ok (.iinc 5 1, 3) := by decide +kernel
theorem dX9_mixLand_134 : decode cX9_mixLand 134 = .ok (.goto (-64), 3) := by decide +kernel
theorem dX9_mixLand_137 : decode cX9_mixLand 137 = .ok (.lload_n 3, 1) := by decide +kernel
theorem dX9_mixLand_138 : decode cX9_mixLand 138 = .ok (.lreturn, 1) := by decide +kernel
theorem dX10_init_0 : decode cX10_init 0 = .ok (.aload_n 0, 1) := by decide +kernel
theorem dX10_init_1 : decode cX10_init 1 = .ok (.invokespecial 1, 3) := by decide +kernel
theorem dX10_init_4 : decode cX10_init 4 = .ok (.aload_n 0, 1) := by decide +kernel
theorem dX10_init_5 : decode cX10_init 5 = .ok (.sipush 1080, 3) := by decide +kernel
theorem dX10_init_8 : decode cX10_init 8 = .ok (.newarray .int, 2) := by decide +kernel
theorem dX10_init_10 : decode cX10_init 10 = .ok (.putfield 7, 3) := by decide +kernel
theorem dX10_init_13 : decode cX10_init 13 = .ok (.aload_n 0, 1) := by decide +kernel
theorem dX10_init_14 : decode cX10_init 14 = .ok (.iconst 2, 1) := by decide +kernel
theorem dX10_init_15 : decode cX10_init 15 = .ok (.newarray .boolean, 2) := by decide +kernel
theorem dX10_init_17 : decode cX10_init 17 = .ok (.putfield 13, 3) := by decide +kernel
theorem dX10_init_20 : decode cX10_init 20 = .ok (.aload_n 0, 1) := by decide +kernel
theorem dX10_init_21 : decode cX10_init 21 = .ok (.iconst 3, 1) := by decide +kernel
theorem dX10_init_22 : decode cX10_init 22 = .ok (.newarray .int, 2) := by decide +kernel
theorem dX10_init_24 : decode cX10_init 24 = .ok (.putfield 17, 3) := by decide +kernel
theorem dX10_init_27 : decode cX10_init 27 = .ok (.aload_n 0, 1) := by decide +kernel
theorem dX10_init_28 : decode cX10_init 28 = .ok (.iconst 1, 1) := by decide +kernel
theorem dX10_init_29 : decode cX10_init 29 = .ok (.putfield 20, 3) := by decide +kernel
theorem dX10_init_32 : decode cX10_init 32 = .ok (.aload_n 0, 1) := by decide +kernel
theorem dX10_init_33 : decode cX10_init 33 = .ok (.bipush 16, 2) := by decide +kernel
theorem dX10_init_35 : decode cX10_init 35 = .ok (.newarray .int, 2) := by decide +kernel
theorem dX10_init_37 : decode cX10_init 37 = .ok (.putfield 24, 3) := by decide +kernel
theorem dX10_init_40 : decode cX10_init 40 = .ok (.aload_n 0, 1) := by decide +kernel
theorem dX10_init_41 : decode cX10_init 41 = .ok (.iconst 5, 1) := by decide +kernel
theorem dX10_init_42 : decode cX10_init 42 = .ok (.newarray .int, 2) := by decide +kernel
theorem dX10_init_44 : decode cX10_init 44 = .ok (.putfield 27, 3) := by decide +kernel
theorem dX10_init_47 : decode cX10_init 47 = .ok (.aload_n 0, 1) := by decide +kernel
theorem dX10_init_48 : decode cX10_init 48 = .ok (.iconst 5, 1) := by decide +kernel
theorem dX10_init_49 : decode cX10_init 49 = .ok (.newarray .int, 2) := by decide +kernel
theorem dX10_init_51 : decode cX10_init 51 = .ok (.putfield 30, 3) := by decide +kernel
theorem dX10_init_54 : decode cX10_init 54 = .ok (.aload_n 0, 1) := by decide +kernel
theorem dX10_init_55 : decode cX10_init 55 = .ok (.bipush 24, 2) := by decide +kernel
theorem dX10_init_57 : decode cX10_init 57 = .ok (.newarray .int, 2) := by decide +kernel
theorem dX10_init_59 : decode cX10_init 59 = .ok (.putfield 33, 3) := by decide +kernel
theorem dX10_init_62 : decode cX10_init 62 = .ok (.aload_n 0, 1) := by decide +kernel
theorem dX10_init_63 : decode cX10_init 63 = .ok (.bipush 24, 2) := by decide +kernel
theorem dX10_init_65 : decode cX10_init 65 = .ok (.newarray .int, 2) := by decide +kernel
theorem dX10_init_67 : decode cX10_init 67 = .ok (.putfield 36, 3) := by decide +kernel
theorem dX10_init_70 : decode cX10_init 70 = .ok (.aload_n 0, 1) := by decide +kernel
theorem dX10_init_71 : decode cX10_init 71 = .ok (.bipush 24, 2) := by decide +kernel
theorem dX10_init_73 : decode cX10_init 73 = .ok (.newarray .int, 2) := by decide +kernel
theorem dX10_init_75 : decode cX10_init 75 = .ok (.putfield 39, 3) := by decide +kernel
theorem dX10_init_78 : decode cX10_init 78 = .ok (.aload_n 0, 1) := by decide +kernel
theorem dX10_init_79 : decode cX10_init 79 = .ok (.bipush 24, 2) := by decide +kernel
theorem dX10_init_81 : decode cX10_init 81 = .ok (.newarray .int, 2) := by decide +kernel
theorem dX10_init_83 : decode cX10_init 83 = .ok (.putfield 42, 3) := by decide +kernel
theorem dX10_init_86 : decode cX10_init 86 = .ok (.aload_n 0, 1) := by decide +kernel
theorem dX10_init_87 : decode cX10_init 87 = .ok (.iconst 5, 1) := by decide +kernel
theorem dX10_init_88 : decode cX10_init 88 = .ok (.newarray .int, 2) := by decide +kernel
theorem dX10_init_90 : decode cX10_init 90 = .ok (.putfield 45, 3) := by decide +kernel
theorem dX10_init_93 : decode cX10_init 93 = .ok (.aload_n 0, 1) := by decide +kernel
theorem dX10_init_94 : decode cX10_init 94 = .ok (.iconst 5, 1) := by decide +kernel
theorem dX10_init_95 : decode cX10_init 95 = .ok (.newarray .int, 2) := by decide +kernel
theorem dX10_init_97 : decode cX10_init 97 = .ok (.putfield 48, 3) := by decide +kernel
theorem dX10_init_100 : decode cX10_init 100 = .ok (.aload_n 0, 1) := by decide +kernel
theorem dX10_init_101 : decode cX10_init 101 = .ok (.sipush 1056, 3) := by decide +kernel
theorem dX10_init_104 : decode cX10_init 104 = .ok (.newarray .int, 2) := by decide +kernel
theorem dX10_init_106 : decode cX10_init 106 = .ok (.putfield 51, 3) := by decide +kernel
theorem dX10_init_109 : decode cX10_init 109 = .ok (.aload_n 0, 1) := by decide +kernel
theorem dX10_init_110 : decode cX10_init 110 = .ok (.sipush 1056, 3) := by decide +kernel
theorem dX10_init_113 : decode cX10_init 113 = .ok (.newarray .int, 2) := by decide +kernel
theorem dX10_init_115 : decode cX10_init 115 = .ok (.putfield 54, 3) := by decide +kernel
theorem dX10_init_118 : decode cX10_init 118 = .ok (.aload_n 0, 1) := by decide +kernel
theorem dX10_init_119 : decode cX10_init 119 = .ok (.sipush 1056, 3) := by decide +kernel
theorem dX10_init_122 : decode cX10_init 122 = .ok (.newarray .int, 2) := by decide +kernel
theorem dX10_init_124 : decode cX10_init 124 = .ok (.putfield 57, 3) := by decide +kernel
theorem dX10_init_127 : decode cX10_init 127 = .ok (.aload_n 0, 1) := by decide +kernel
theorem dX10_init_128 : decode cX10_init 128 = .ok (.sipush 256, 3) := by decide +kernel
theorem dX10_init_131 : decode cX10_init 131 = .ok (.newarray .int, 2) := by decide +kernel
theorem dX10_init_133 : decode cX10_init 133 = .ok (.putfield 60, 3) := by decide +kernel
theorem dX10_init_136 : decode cX10_init 136 = .ok (.aload_n 0, 1) := by decide +kernel
theorem dX10_init_137 : decode cX10_init 137 = .ok (.sipush 256, 3) := by decide +kernel
theorem dX10_init_140 : decode cX10_init 140 = .ok (.newarray .int, 2) := by decide +kernel
theorem dX10_init_142 : decode cX10_init 142 = .ok (.putfield 63, 3) := by decide +kernel
theorem dX10_init_145 : decode cX10_init 145 = .ok (.aload_n 0, 1) := by decide +kernel
theorem dX10_init_146 : decode cX10_init 146 = .ok (.sipush 256, 3) := by decide +kernel
theorem dX10_init_149 : decode cX10_init 149 = .ok (.newarray .int, 2) := by decide +kernel
theorem dX10_init_151 : decode cX10_init 151 = .ok (.putfield 66, 3) := by decide +kernel
theorem dX10_init_154 : decode cX10_init 154 = .ok (.aload_n 0, 1) := by decide +kernel
theorem dX10_init_155 : decode cX10_init 155 = .ok (.sipush 1024, 3) := by decide +kernel
theorem dX10_init_158 : decode cX10_init 158 = .ok (.newarray .int, 2) := by decide +kernel
theorem dX10_init_160 : decode cX10_init 160 = .ok (.putfield 69, 3) := by decide +kernel
theorem dX10_init_163 : decode cX10_init 163 = .ok (.aload_n 0, 1) := by decide +kernel
theorem dX10_init_164 : decode cX10_init 164 = .ok (.sipush 1024, 3) := by decide +kernel
theorem dX10_init_167 : decode cX10_init 167 = .ok (.newarray .int, 2) := by decide +kernel
theorem dX10_init_169 : decode cX10_init 169 = .ok (.putfield 72, 3) := by decide +kernel
theorem dX10_init_172 : decode cX10_init 172 = .ok (.aload_n 0, 1) := by decide +kernel
theorem dX10_init_173 : decode cX10_init 173 = .ok (.bipush 16, 2) := by decide +kernel
theorem dX10_init_175 : decode cX10_init 175 = .ok (.newarray .int, 2) := by decide +kernel
theorem dX10_init_177 : decode cX10_init 177 = .ok (.putfield 75, 3) := by decide +kernel
theorem dX10_init_180 : decode cX10_init 180 = .ok (.aload_n 0, 1) := by decide +kernel
theorem dX10_init_181 : decode cX10_init 181 = .ok (.sipush 2197, 3) := by decide +kernel
theorem dX10_init_184 : decode cX10_init 184 = .ok (.newarray .int, 2) := by decide +kernel
theorem dX10_init_186 : decode cX10_init 186 = .ok (.putfield 78, 3) := by decide +kernel
theorem dX10_init_189 : decode cX10_init 189 = .ok (.aload_n 0, 1) := by decide +kernel
theorem dX10_init_190 : decode cX10_init 190 = .ok (.sipush 256, 3) := by decide +kernel
theorem dX10_init_193 : decode cX10_init 193 = .ok (.newarray .int, 2) := by decide +kernel
theorem dX10_init_195 : decode cX10_init 195 = .ok (.putfield 81, 3) := by decide +kernel
theorem dX10_init_198 : decode cX10_init 198 = .ok (.aload_n 0, 1) := by decide +kernel
theorem dX10_init_199 : decode cX10_init 199 = .ok (.getfield 7, 3) := by decide +kernel
theorem dX10_init_202 : decode cX10_init 202 = .ok (.iconst 0, 1) := by decide +kernel
theorem dX10_init_203 : decode cX10_init 203 = .ok (.bipush 6, 2) := by decide +kernel
theorem dX10_init_205 : decode cX10_init 205 = .ok (.iastore, 1) := by decide +kernel
theorem dX10_init_206 : decode cX10_init 206 = .ok (.aload_n 0, 1) := by decide +kernel
theorem dX10_init_207 : decode cX10_init 207 = .ok (.getfield 7, 3) := by decide +kernel
theorem dX10_init_210 : decode cX10_init 210 = .ok (.sipush 357, 3) := by decide +kernel
theorem dX10_init_213 : decode cX10_init 213 = .ok (.bipush 10, 2) := by decide +kernel
theorem dX10_init_215 : decode cX10_init 215 = .ok (.iastore, 1) := by decide +kernel
theorem dX10_init_216 : decode cX10_init 216 = .ok (.return_, 1) := by decide +kernel
theorem dX10_in_0 : decode cX10_in 0 = .ok (.iload_n 0, 1) := by decide +kernel
theorem dX10_in_1 : decode cX10_in 1 = .ok (.iload_n 1, 1) := by decide +kernel
theorem dX10_in_2 : decode cX10_in 2 = .ok (.if_icmp .lt 12, 3) := by decide +kernel
theorem dX10_in_5 : decode cX10_in 5 = .ok (.iload_n 0, 1) := by decide +kernel
theorem dX10_in_6 : decode cX10_in 6 = .ok (.iload_n 2, 1) := by decide +kernel
theorem dX10_in_7 : decode cX10_in 7 = .ok (.if_icmp .gt 7, 3) := by decide +kernel
theorem dX10_in_10 : decode cX10_in 10 = .ok (.iconst 1, 1) := by decide +kernel
theorem dX10_in_11 : decode cX10_in 11 = .ok (.goto 4, 3) := by decide +kernel
theorem dX10_in_14 : decode cX10_in 14 = .ok (.iconst 0, 1) := by decide +kernel
theorem dX10_in_15 : decode cX10_in 15 = .ok (.ireturn, 1) := by decide +kernel
theorem dX10_refuse_0 : decode cX10_refuse 0 = .ok (.aload_n 0, 1) := by decide +kernel
theorem dX10_refuse_1 : decode cX10_refuse 1 = .ok (.getfield 17, 3) := by decide +kernel
theorem dX10_refuse_4 : decode cX10_refuse 4 = .ok (.bipush (-2), 2) := by decide +kernel
theorem dX10_refuse_6 : decode cX10_refuse 6 = .ok (.iload_n 1, 1) := by decide +kernel
theorem dX10_refuse_7 : decode cX10_refuse 7 = .ok (.isub, 1) := by decide +kernel
theorem dX10_refuse_8 : decode cX10_refuse 8 = .ok (.dup2, 1) := by decide +kernel
theorem dX10_refuse_9 : decode cX10_refuse 9 = .ok (.iaload, 1) := by decide +kernel
theorem dX10_refuse_10 : decode cX10_refuse 10 = .ok (.iconst 1, 1) := by decide +kernel
theorem dX10_refuse_11 : decode cX10_refuse 11 = .ok (.iadd, 1) := by decide +kernel
theorem dX10_refuse_12 : decode cX10_refuse 12 = .ok (.iastore, 1) := by decide +kernel
theorem dX10_refuse_13 : decode cX10_refuse 13 = .ok (.iload_n 1, 1) := by decide +kernel
theorem dX10_refuse_14 : decode cX10_refuse 14 = .ok (.ireturn, 1) := by decide +kernel
set_option maxRecDepth 20000 in
theorem ggX10_refuseAs_X10_refuse : GoodIn wsX10_refuseAs wsX10_refuse := goodIn_r _ [5, 6, 7, 8, 9, 10, 11, 12, 13, 14, 15, 16, 17, 18, 19, 20, 21, 22, 23, 24, 25, 26, 27, 28, 29, 30, 31, 32, 33, 34, 35, 36, 37, 38, 39] (by decide +kernel) (by decide +kernel)
set_option maxRecDepth 20000 in
theorem gX10_refuseAs_X10_refuse : GoodIn wsX10_refuseAs (wsV RX10 84 RX10 yX10_refuse wsX10_refuse) := goodIn_app (goodIn_of _ (by decide +kernel)) ggX10_refuseAs_X10_refuse
theorem dX10_refuseAs_0 : decode cX10_refuseAs 0 = .ok (.aload_n 0, 1) := by decide +kernel
theorem dX10_refuseAs_1 : decode cX10_refuseAs 1 = .ok (.iload_n 1, 1) := by decide +kernel
theorem dX10_refuseAs_2 : decode cX10_refuseAs 2 = .ok (.invokevirtual 84, 3) := by decide +kernel
theorem dX10_refuseAs_5 : decode cX10_refuseAs 5 = .ok (.pop, 1) := by decide +kernel
theorem dX10_refuseAs_6 : decode cX10_refuseAs 6 = .ok (.iload_n 2, 1) := by decide +kernel
theorem dX10_refuseAs_7 : decode cX10_refuseAs 7 = .ok (.ireturn, 1) := by decide +kernel
theorem dX10_isPrime_0 : decode cX10_isPrime 0 = .ok (.iload_n 0, 1) := by decide +kernel
theorem dX10_isPrime_1 : decode cX10_isPrime 1 = .ok (.iconst 1, 1) := by decide +kernel
theorem dX10_isPrime_2 : decode cX10_isPrime 2 = .ok (.if_icmp .le 7, 3) := by decide +kernel
theorem dX10_isPrime_5 : decode cX10_isPrime 5 = .ok (.iconst 1, 1) := by decide +kernel
theorem dX10_isPrime_6 : decode cX10_isPrime 6 = .ok (.goto 4, 3) := by decide +kernel
theorem dX10_isPrime_9 : decode cX10_isPrime 9 = .ok (.iconst 0, 1) := by decide +kernel
theorem dX10_isPrime_10 : decode cX10_isPrime 10 = .ok (.istore_n 1, 1) := by decide +kernel
theorem dX10_isPrime_11 : decode cX10_isPrime 11 = .ok (.iconst 2, 1) := by decide +kernel
theorem dX10_isPrime_12 : decode cX10_isPrime 12 = .ok (.istore_n 2, 1) := by decide +kernel
theorem dX10_isPrime_13 : decode cX10_isPrime 13 = .ok (.iload_n 2, 1) := by decide +kernel
theorem dX10_isPrime_14 : decode cX10_isPrime 14 = .ok (.iload_n 0, 1) := by decide +kernel
theorem dX10_isPrime_15 : decode cX10_isPrime 15 = .ok (.if_icmp .ge 25, 3) := by decide +kernel
theorem dX10_isPrime_18 : decode cX10_isPrime 18 = .ok (.iload_n 1, 1) := by decide +kernel
theorem dX10_isPrime_19 : decode cX10_isPrime 19 = .ok (.ifCond .eq 13, 3) := by decide +kernel
theorem dX10_isPrime_22 : decode cX10_isPrime 22 = .ok (.iload_n 0, 1) := by decide +kernel
theorem dX10_isPrime_23 : decode cX10_isPrime 23 = .ok (.iload_n 2, 1) := by decide +kernel
theorem dX10_isPrime_24 : decode cX10_isPrime 24 = .ok (.irem, 1) := by decide +kernel
theorem dX10_isPrime_25 : decode cX10_isPrime 25 = .ok (.ifCond .eq 7, 3) := by decide +kernel
theorem dX10_isPrime_28 : decode cX10_isPrime 28 = .ok (.iconst 1, 1) := by decide +kernel
theorem dX10_isPrime_29 : decode cX10_isPrime 29 = .ok (.goto 4, 3) := by decide +kernel
theorem dX10_isPrime_32 : decode cX10_isPrime 32 = .ok (.iconst 0, 1) := by decide +kernel
theorem dX10_isPrime_33 : decode cX10_isPrime 33 = .ok (.istore_n 1, 1) := by decide +kernel
theorem dX10_isPrime_34 : decode cX10_isPrime 34 = .ok (.iinc 2 1, 3) := by decide +kernel
theorem dX10_isPrime_37 : decode cX10_isPrime 37 = .ok (.goto (-24), 3) := by decide +kernel
theorem dX10_isPrime_40 : decode cX10_isPrime 40 = .ok (.iload_n 1, 1) := by decide +kernel
theorem dX10_isPrime_41 : decode cX10_isPrime 41 = .ok (.ireturn, 1) := by decide +kernel
theorem dX10_isSquare_0 : decode cX10_isSquare 0 = .ok (.iconst 0, 1) := by decide +kernel
theorem dX10_isSquare_1 : decode cX10_isSquare 1 = .ok (.istore_n 1, 1) := by decide +kernel
theorem dX10_isSquare_2 : decode cX10_isSquare 2 = .ok (.iconst 1, 1) := by decide +kernel
theorem dX10_isSquare_3 : decode cX10_isSquare 3 = .ok (.istore_n 2, 1) := by decide +kernel
theorem dX10_isSquare_4 : decode cX10_isSquare 4 = .ok (.iload_n 2, 1) := by decide +kernel
theorem dX10_isSquare_5 : decode cX10_isSquare 5 = .ok (.bipush 10, 2) := by decide +kernel
theorem dX10_isSquare_7 : decode cX10_isSquare 7 = .ok (.if_icmp .ge 26, 3) := by decide +kernel
theorem dX10_isSquare_10 : decode cX10_isSquare 10 = .ok (.iload_n 1, 1) := by decide +kernel
theorem dX10_isSquare_11 : decode cX10_isSquare 11 = .ok (.ifCond .ne 10, 3) := by decide +kernel
theorem dX10_isSquare_14 : decode cX10_isSquare 14 = .ok (.iload_n 2, 1) := by decide +kernel
theorem dX10_isSquare_15 : decode cX10_isSquare 15 = .ok (.iload_n 2, 1) := by decide +kernel
theorem dX10_isSquare_16 : decode cX10_isSquare 16 = .ok (.imul, 1) := by decide +kernel
theorem dX10_isSquare_17 : decode cX10_isSquare 17 = .ok (.iload_n 0, 1) := by decide +kernel
theorem dX10_isSquare_18 : decode cX10_isSquare 18 = .ok (.if_icmp .ne 7, 3) := by decide +kernel
theorem dX10_isSquare_21 : decode cX10_isSquare 21 = .ok (.iconst 1, 1) := by decide +kernel
theorem dX10_isSquare_22 : decode cX10_isSquare 22 = .ok (.goto 4, 3) := by decide +kernel
theorem dX10_isSquare_25 : decode cX10_isSquare 25 = .ok (.iconst 0, 1) := by decide +kernel
theorem dX10_isSquare_26 : decode cX10_isSquare 26 = .ok (.istore_n 1, 1) := by decide +kernel
theorem dX10_isSquare_27 : decode cX10_isSquare 27 = .ok (.iinc 2 1, 3) := by decide +kernel
theorem dX10_isSquare_30 : decode cX10_isSquare 30 = .ok (.goto (-26), 3) := by decide +kernel
theorem dX10_isSquare_33 : decode cX10_isSquare 33 = .ok (.iload_n 1, 1) := by decide +kernel
theorem dX10_isSquare_34 : decode cX10_isSquare 34 = .ok (.ireturn, 1) := by decide +kernel
set_option maxRecDepth 20000 in
theorem ggX10_may_X10_isPrime : GoodIn wsX10_may wsX10_isPrime := goodIn_r _ [5] (by decide +kernel) (by decide +kernel)
set_option maxRecDepth 20000 in
theorem gX10_may_X10_isPrime : GoodIn wsX10_may (va_wsS RX10 88 yX10_isPrime wsX10_isPrime) := goodIn_app (goodIn_of _ (by decide +kernel)) ggX10_may_X10_isPrime
set_option maxRecDepth 20000 in
theorem ggX10_may_X10_isSquare : GoodIn wsX10_may wsX10_isSquare := goodIn_r _ [8] (by decide +kernel) (by decide +kernel)
set_option maxRecDepth 20000 in
theorem gX10_may_X10_isSquare : GoodIn wsX10_may (va_wsS RX10 92 yX10_isSquare wsX10_isSquare) := goodIn_app (goodIn_of _ (by decide +kernel)) ggX10_may_X10_isSquare
set_option maxRecDepth 20000 in
theorem ggX10_may_X10_in : GoodIn wsX10_may wsX10_in := goodIn_r _ [11] (by decide +kernel) (by decide +kernel)
set_option maxRecDepth 20000 in
theorem gX10_may_X10_in : GoodIn wsX10_may (va_wsS RX10 95 yX10_in wsX10_in) := goodIn_app (goodIn_of _ (by decide +kernel)) ggX10_may_X10_in
theorem dX10_may_0 : decode cX10_may 0 = .ok (.iload_n 1, 1) := by decide +kernel
theorem dX10_may_1 : decode cX10_may 1 = .ok (.tableswitch 53 0 2 #[27, 32, 37], 27) := by decide +kernel
theorem dX10_may_28 : decode cX10_may 28 = .ok (.iload_n 2, 1) := by decide +kernel
theorem dX10_may_29 : decode cX10_may 29 = .ok (.invokestatic 88, 3) := by decide +kernel
theorem dX10_may_32 : decode cX10_may 32 = .ok (.ireturn, 1) := by decide +kernel
theorem dX10_may_33 : decode cX10_may 33 = .ok (.iload_n 2, 1) := by decide +kernel
theorem dX10_may_34 : decode cX10_may 34 = .ok (.invokestatic 92, 3) := by decide +kernel
theorem dX10_may_37 : decode cX10_may 37 = .ok (.ireturn, 1) := by decide +kernel
theorem dX10_may_38 : decode cX10_may 38 = .ok (.iload_n 2, 1) := by decide +kernel
theorem dX10_may_39 : decode cX10_may 39 = .ok (.ifCond .le 13, 3) := by decide +kernel
theorem dX10_may_42 : decode cX10_may 42 = .ok (.iload_n 2, 1) := by decide +kernel
theorem dX10_may_43 : decode cX10_may 43 = .ok (.iconst 2, 1) := by decide +kernel
theorem dX10_may_44 : decode cX10_may 44 = .ok (.irem, 1) := by decide +kernel
theorem dX10_may_45 : decode cX10_may 45 = .ok (.ifCond .ne 7, 3) := by decide +kernel
theorem dX10_may_48 : decode cX10_may 48 = .ok (.iconst 1, 1) := by decide +kernel
theorem dX10_may_49 : decode cX10_may 49 = .ok (.goto 4, 3) := by decide +kernel
theorem dX10_may_52 : decode cX10_may 52 = .ok (.iconst 0, 1) := by decide +kernel
theorem dX10_may_53 : decode cX10_may 53 = .ok (.ireturn, 1) := by decide +kernel
theorem dX10_may_54 : decode cX10_may 54 = .ok (.iload_n 2, 1) := by decide +kernel
theorem dX10_may_55 : decode cX10_may 55 = .ok (.iconst 1, 1) := by decide +kernel
theorem dX10_may_56 : decode cX10_may 56 = .ok (.bipush 20, 2) := by decide +kernel
theorem dX10_may_58 : decode cX10_may 58 = .ok (.invokestatic 95, 3) := by decide +kernel
theorem dX10_may_61 : decode cX10_may 61 = .ok (.ifCond .eq 23, 3) := by decide +kernel
theorem dX10_may_64 : decode cX10_may 64 = .ok (.aload_n 0, 1) := by decide +kernel
theorem dX10_may_65 : decode cX10_may 65 = .ok (.getfield 7, 3) := by decide +kernel
theorem dX10_may_68 : decode cX10_may 68 = .ok (.iconst 0, 1) := by decide +kernel
theorem dX10_may_69 : decode cX10_may 69 = .ok (.iaload, 1) := by decide +kernel
theorem dX10_may_70 : decode cX10_may 70 = .ok (.iload_n 2, 1) := by decide +kernel
theorem dX10_may_71 : decode cX10_may 71 = .ok (.iconst 1, 1) := by decide +kernel
theorem dX10_may_72 : decode cX10_may 72 = .ok (.isub, 1) := by decide +kernel
theorem dX10_may_73 : decode cX10_may 73 = .ok (.ishr, 1) := by decide +kernel
theorem dX10_may_74 : decode cX10_may 74 = .ok (.iconst 1, 1) := by decide +kernel
theorem dX10_may_75 : decode cX10_may 75 = .ok (.iand, 1) := by decide +kernel
theorem dX10_may_76 : decode cX10_may 76 = .ok (.iconst 1, 1) := by decide +kernel
theorem dX10_may_77 : decode cX10_may 77 = .ok (.if_icmp .ne 7, 3) := by decide +kernel
theorem dX10_may_80 : decode cX10_may 80 = .ok (.iconst 1, 1) := by decide +kernel
theorem dX10_may_81 : decode cX10_may 81 = .ok (.goto 4, 3) := by decide +kernel
theorem dX10_may_84 : decode cX10_may 84 = .ok (.iconst 0, 1) := by decide +kernel
theorem dX10_may_85 : decode cX10_may 85 = .ok (.ireturn, 1) := by decide +kernel
set_option maxRecDepth 20000 in
theorem ggX10_isRule_X10_in : GoodIn wsX10_isRule wsX10_in := goodIn_r _ [4] (by decide +kernel) (by decide +kernel)
set_option maxRecDepth 20000 in
theorem gX10_isRule_X10_in : GoodIn wsX10_isRule (va_wsS RX10 95 yX10_in wsX10_in) := goodIn_app (goodIn_of _ (by decide +kernel)) ggX10_isRule_X10_in
theorem dX10_isRule_0 : decode cX10_isRule 0 = .ok (.iload_n 0, 1) := by decide +kernel
theorem dX10_isRule_1 : decode cX10_isRule 1 = .ok (.iconst 0, 1) := by decide +kernel
theorem dX10_isRule_2 : decode cX10_isRule 2 = .ok (.iconst 3, 1) := by decide +kernel
theorem dX10_isRule_3 : decode cX10_isRule 3 = .ok (.invokestatic 95, 3) := by decide +kernel
theorem dX10_isRule_6 : decode cX10_isRule 6 = .ok (.ireturn, 1) := by decide +kernel
set_option maxRecDepth 20000 in
theorem ggX10_told_X10_in : GoodIn wsX10_told wsX10_in := goodIn_r _ [6] (by decide +kernel) (by decide +kernel)
set_option maxRecDepth 20000 in
theorem gX10_told_X10_in : GoodIn wsX10_told (va_wsS RX10 95 yX10_in wsX10_in) := goodIn_app (goodIn_of _ (by decide +kernel)) ggX10_told_X10_in
set_option maxRecDepth 20000 in
theorem ggX10_told_X10_refuse : GoodIn wsX10_told wsX10_refuse := goodIn_r _ [10, 11, 12, 13, 14, 15, 16, 17, 18, 19, 20, 21, 22, 23, 24, 25, 26, 27, 28, 29, 30, 31, 32, 33, 34, 35, 36, 37, 38, 39, 40, 41, 42, 43, 44] (by decide +kernel) (by decide +kernel)
set_option maxRecDepth 20000 in
theorem gX10_told_X10_refuse : GoodIn wsX10_told (wsV RX10 84 RX10 yX10_refuse wsX10_refuse) := goodIn_app (goodIn_of _ (by decide +kernel)) ggX10_told_X10_refuse
theorem dX10_told_0 : decode cX10_told 0 = .ok (.iload_n 1, 1) := by decide +kernel
theorem dX10_told_1 : decode cX10_told 1 = .ok (.iconst 0, 1) := by decide +kernel
theorem dX10_told_2 : decode cX10_told 2 = .ok (.ldc 99, 2) := by decide +kernel
theorem dX10_told_4 : decode cX10_told 4 = .ok (.invokestatic 95, 3) := by decide +kernel
theorem dX10_told_7 : decode cX10_told 7 = .ok (.ifCond .ne 10, 3) := by decide +kernel
theorem dX10_told_10 : decode cX10_told 10 = .ok (.aload_n 0, 1) := by decide +kernel
theorem dX10_told_11 : decode cX10_told 11 = .ok (.bipush (-2), 2) := by decide +kernel
theorem dX10_told_13 : decode cX10_told 13 = .ok (.invokevirtual 84, 3) := by decide +kernel
theorem dX10_told_16 : decode cX10_told 16 = .ok (.ireturn, 1) := by decide +kernel
theorem dX10_told_17 : decode cX10_told 17 = .ok (.aload_n 0, 1) := by decide +kernel
theorem dX10_told_18 : decode cX10_told 18 = .ok (.getfield 7, 3) := by decide +kernel
theorem dX10_told_21 : decode cX10_told 21 = .ok (.iconst 0, 1) := by decide +kernel
theorem dX10_told_22 : decode cX10_told 22 = .ok (.iaload, 1) := by decide +kernel
theorem dX10_told_23 : decode cX10_told 23 = .ok (.istore_n 2, 1) := by decide +kernel
theorem dX10_told_24 : decode cX10_told 24 = .ok (.aload_n 0, 1) := by decide +kernel
theorem dX10_told_25 : decode cX10_told 25 = .ok (.getfield 7, 3) := by decide +kernel
theorem dX10_told_28 : decode cX10_told 28 = .ok (.iconst 0, 1) := by decide +kernel
theorem dX10_told_29 : decode cX10_told 29 = .ok (.iload_n 1, 1) := by decide +kernel
theorem dX10_told_30 : decode cX10_told 30 = .ok (.iastore, 1) := by decide +kernel
theorem dX10_told_31 : decode cX10_told 31 = .ok (.iload_n 2, 1) := by decide +kernel
theorem dX10_told_32 : decode cX10_told 32 = .ok (.ireturn, 1) := by decide +kernel
set_option maxRecDepth 20000 in
theorem ggX10_allowed_X10_isRule : GoodIn wsX10_allowed wsX10_isRule := goodIn_r _ [4, 5, 6, 3, 7] (by decide +kernel) (by decide +kernel)
set_option maxRecDepth 20000 in
theorem gX10_allowed_X10_isRule : GoodIn wsX10_allowed (va_wsS RX10 100 yX10_isRule wsX10_isRule) := goodIn_app (goodIn_of _ (by decide +kernel)) ggX10_allowed_X10_isRule
set_option maxRecDepth 20000 in
theorem ggX10_allowed_X10_in : GoodIn wsX10_allowed wsX10_in := goodIn_r _ [7] (by decide +kernel) (by decide +kernel)
set_option maxRecDepth 20000 in
theorem gX10_allowed_X10_in : GoodIn wsX10_allowed (va_wsS RX10 95 yX10_in wsX10_in) := goodIn_app (goodIn_of _ (by decide +kernel)) ggX10_allowed_X10_in
set_option maxRecDepth 20000 in
theorem ggX10_allowed_X10_may : GoodIn wsX10_allowed wsX10_may := goodIn_r _ [11, 12, 13, 14, 3, 15, 16, 17, 18, 5, 6, 7, 24, 25, 26, 27, 28, 29, 30, 31, 32, 33, 34, 35, 36, 37, 38, 39, 40, 41, 42, 43, 44, 45, 46, 47, 48, 49, 50, 51, 52, 53, 54, 55, 56] (by decide +kernel) (by decide +kernel)
set_option maxRecDepth 20000 in
theorem gX10_allowed_X10_may : GoodIn wsX10_allowed (wsV RX10 103 RX10 yX10_may wsX10_may) := goodIn_app (goodIn_of _ (by decide +kernel)) ggX10_allowed_X10_may
set_option maxRecDepth 20000 in
theorem ggX10_allowed_X10_refuse : GoodIn wsX10_allowed wsX10_refuse := goodIn_r _ [22, 23, 24, 25, 26, 27, 28, 29, 30, 31, 32, 33, 34, 35, 36, 37, 38, 39, 40, 41, 42, 43, 44, 45, 46, 47, 48, 49, 50, 51, 52, 53, 54, 55, 56] (by decide +kernel) (by decide +kernel)
set_option maxRecDepth 20000 in
theorem gX10_allowed_X10_refuse : GoodIn wsX10_allowed (wsV RX10 84 RX10 yX10_refuse wsX10_refuse) := goodIn_app (goodIn_of _ (by decide +kernel)) ggX10_allowed_X10_refuse
theorem dX10_allowed_0 : decode cX10_allowed 0 = .ok (.iload_n 1, 1) := by decide +kernel
theorem dX10_allowed_1 : decode cX10_allowed 1 = .ok (.invokestatic 100, 3) := by decide +kernel
theorem dX10_allowed_4 : decode cX10_allowed 4 = .ok (.ifCond .eq 30, 3) := by decide +kernel
theorem dX10_allowed_7 : decode cX10_allowed 7 = .ok (.iload_n 2, 1) := by decide +kernel
theorem dX10_allowed_8 : decode cX10_allowed 8 = .ok (.iconst 1, 1) := by decide +kernel
theorem dX10_allowed_9 : decode cX10_allowed 9 = .ok (.bipush 99, 2) := by decide +kernel
theorem dX10_allowed_11 : decode cX10_allowed 11 = .ok (.invokestatic 95, 3) := by decide +kernel
theorem dX10_allowed_14 : decode cX10_allowed 14 = .ok (.ifCond .eq 20, 3) := by decide +kernel
theorem dX10_allowed_17 : decode cX10_allowed 17 = .ok (.aload_n 0, 1) := by decide +kernel
theorem dX10_allowed_18 : decode cX10_allowed 18 = .ok (.iload_n 1, 1) := by decide +kernel
theorem dX10_allowed_19 : decode cX10_allowed 19 = .ok (.iload_n 2, 1) := by decide +kernel
theorem dX10_allowed_20 : decode cX10_allowed 20 = .ok (.invokevirtual 103, 3) := by decide +kernel
theorem dX10_allowed_23 : decode cX10_allowed 23 = .ok (.ifCond .eq 7, 3) := by decide +kernel
theorem dX10_allowed_26 : decode cX10_allowed 26 = .ok (.iconst 1, 1) := by decide +kernel
theorem dX10_allowed_27 : decode cX10_allowed 27 = .ok (.goto 13, 3) := by decide +kernel
theorem dX10_allowed_30 : decode cX10_allowed 30 = .ok (.iconst 0, 1) := by decide +kernel
theorem dX10_allowed_31 : decode cX10_allowed 31 = .ok (.goto 9, 3) := by decide +kernel
theorem dX10_allowed_34 : decode cX10_allowed 34 = .ok (.aload_n 0, 1) := by decide +kernel
theorem dX10_allowed_35 : decode cX10_allowed 35 = .ok (.bipush (-2), 2) := by decide +kernel
theorem dX10_allowed_37 : decode cX10_allowed 37 = .ok (.invokevirtual 84, 3) := by decide +kernel
theorem dX10_allowed_40 : decode cX10_allowed 40 = .ok (.ireturn, 1) := by decide +kernel
theorem dX10_hasWay_0 : decode cX10_hasWay 0 = .ok (.aload_n 0, 1) := by decide +kernel
theorem dX10_hasWay_1 : decode cX10_hasWay 1 = .ok (.getfield 7, 3) := by decide +kernel
theorem dX10_hasWay_4 : decode cX10_hasWay 4 = .ok (.bipush 7, 2) := by decide +kernel
theorem dX10_hasWay_6 : decode cX10_hasWay 6 = .ok (.iconst 4, 1) := by decide +kernel
theorem dX10_hasWay_7 : decode cX10_hasWay 7 = .ok (.iload_n 1, 1) := by decide +kernel
theorem dX10_hasWay_8 : decode cX10_hasWay 8 = .ok (.imul, 1) := by decide +kernel
theorem dX10_hasWay_9 : decode cX10_hasWay 9 = .ok (.iadd, 1) := by decide +kernel
theorem dX10_hasWay_10 : decode cX10_hasWay 10 = .ok (.iload_n 2, 1) := by decide +kernel
theorem dX10_hasWay_11 : decode cX10_hasWay 11 = .ok (.iadd, 1) := by decide +kernel
theorem dX10_hasWay_12 : decode cX10_hasWay 12 = .ok (.iaload, 1) := by decide +kernel
theorem dX10_hasWay_13 : decode cX10_hasWay 13 = .ok (.iconst 1, 1) := by decide +kernel
theorem dX10_hasWay_14 : decode cX10_hasWay 14 = .ok (.if_icmp .ne 7, 3) := by decide +kernel
theorem dX10_hasWay_17 : decode cX10_hasWay 17 = .ok (.iconst 1, 1) := by decide +kernel
theorem dX10_hasWay_18 : decode cX10_hasWay 18 = .ok (.goto 4, 3) := by decide +kernel
theorem dX10_hasWay_21 : decode cX10_hasWay 21 = .ok (.iconst 0, 1) := by decide +kernel
theorem dX10_hasWay_22 : decode cX10_hasWay 22 = .ok (.ireturn, 1) := by decide +kernel
theorem dX10_setWay_0 : decode cX10_setWay 0 = .ok (.aload_n 0, 1) := by decide +kernel
theorem dX10_setWay_1 : decode cX10_setWay 1 = .ok (.getfield 7, 3) := by decide +kernel
theorem dX10_setWay_4 : decode cX10_setWay 4 = .ok (.bipush 7, 2) := by decide +kernel
theorem dX10_setWay_6 : decode cX10_setWay 6 = .ok (.iconst 4, 1) := by decide +kernel
theorem dX10_setWay_7 : decode cX10_setWay 7 = .ok (.iload_n 1, 1) := by decide +kernel
theorem dX10_setWay_8 : decode cX10_setWay 8 = .ok (.imul, 1) := by decide +kernel
theorem dX10_setWay_9 : decode cX10_setWay 9 = .ok (.iadd, 1) := by decide +kernel
theorem dX10_setWay_10 : decode cX10_setWay 10 = .ok (.iload_n 2, 1) := by decide +kernel
theorem dX10_setWay_11 : decode cX10_setWay 11 = .ok (.iadd, 1) := by decide +kernel
theorem dX10_setWay_12 : decode cX10_setWay 12 = .ok (.iload_n 3, 1) := by decide +kernel
theorem dX10_setWay_13 : decode cX10_setWay 13 = .ok (.iastore, 1) := by decide +kernel
theorem dX10_setWay_14 : decode cX10_setWay 14 = .ok (.aload_n 0, 1) := by decide +kernel
theorem dX10_setWay_15 : decode cX10_setWay 15 = .ok (.getfield 7, 3) := by decide +kernel
theorem dX10_setWay_18 : decode cX10_setWay 18 = .ok (.bipush 7, 2) := by decide +kernel
theorem dX10_setWay_20 : decode cX10_setWay 20 = .ok (.iconst 4, 1) := by decide +kernel
theorem dX10_setWay_21 : decode cX10_setWay 21 = .ok (.iload_n 2, 1) := by decide +kernel
theorem dX10_setWay_22 : decode cX10_setWay 22 = .ok (.imul, 1) := by decide +kernel
theorem dX10_setWay_23 : decode cX10_setWay 23 = .ok (.iadd, 1) := by decide +kernel
theorem dX10_setWay_24 : decode cX10_setWay 24 = .ok (.iload_n 1, 1) := by decide +kernel
theorem dX10_setWay_25 : decode cX10_setWay 25 = .ok (.iadd, 1) := by decide +kernel
theorem dX10_setWay_26 : decode cX10_setWay 26 = .ok (.iload_n 3, 1) := by decide +kernel
theorem dX10_setWay_27 : decode cX10_setWay 27 = .ok (.iastore, 1) := by decide +kernel
theorem dX10_setWay_28 : decode cX10_setWay 28 = .ok (.return_, 1) := by decide +kernel
set_option maxRecDepth 20000 in
theorem ggX10_way_X10_in : GoodIn wsX10_way wsX10_in := goodIn_r _ [4] (by decide +kernel) (by decide +kernel)
set_option maxRecDepth 20000 in
theorem gX10_way_X10_in : GoodIn wsX10_way (va_wsS RX10 95 yX10_in wsX10_in) := goodIn_app (goodIn_of _ (by decide +kernel)) ggX10_way_X10_in
set_option maxRecDepth 20000 in
theorem ggX10_way_X10_refuse : GoodIn wsX10_way wsX10_refuse := goodIn_r _ [8, 9, 19, 20, 21, 22, 23, 24, 25, 26, 27, 28, 29, 30, 31, 32, 33, 34, 35, 36, 37, 38, 39, 40, 41, 42, 43, 44, 45, 46, 47, 48, 49, 50, 51] (by decide +kernel) (by decide +kernel)
set_option maxRecDepth 20000 in
theorem gX10_way_X10_refuse : GoodIn wsX10_way (wsV RX10 84 RX10 yX10_refuse wsX10_refuse) := goodIn_app (goodIn_of _ (by decide +kernel)) ggX10_way_X10_refuse
set_option maxRecDepth 20000 in
theorem ggX10_way_X10_hasWay : GoodIn wsX10_way wsX10_hasWay := goodIn_r _ [13, 14, 19, 20, 21, 22, 23, 24, 25, 26, 27, 28, 29, 30, 31, 32, 33, 34, 35, 36, 37, 38, 39, 40, 41, 42, 43, 44, 45, 46, 47, 48, 49, 50, 51] (by decide +kernel) (by decide +kernel)
set_option maxRecDepth 20000 in
theorem gX10_way_X10_hasWay : GoodIn wsX10_way (wsV RX10 107 RX10 yX10_hasWay wsX10_hasWay) := goodIn_app (goodIn_of _ (by decide +kernel)) ggX10_way_X10_hasWay
set_option maxRecDepth 20000 in
theorem ggX10_way_X10_setWay : GoodIn wsX10_way wsX10_setWay := goodIn_r _ [18, 14, 19, 20, 21, 22, 23, 24, 25, 26, 27, 28, 29, 30, 31, 32, 33, 34, 35, 36, 37, 38, 39, 40, 41, 42, 43, 44, 45, 46, 47, 48, 49, 50, 51] (by decide +kernel) (by decide +kernel)
set_option maxRecDepth 20000 in
theorem gX10_way_X10_setWay : GoodIn wsX10_way (wsV RX10 110 RX10 yX10_setWay wsX10_setWay) := goodIn_app (goodIn_of _ (by decide +kernel)) ggX10_way_X10_setWay
theorem dX10_way_0 : decode cX10_way 0 = .ok (.iload_n 1, 1) := by decide +kernel
theorem dX10_way_1 : decode cX10_way 1 = .ok (.iconst 0, 1) := by decide +kernel
theorem dX10_way_2 : decode cX10_way 2 = .ok (.iconst 3, 1) := by decide +kernel
theorem dX10_way_3 : decode cX10_way 3 = .ok (.invokestatic 95, 3) := by decide +kernel
theorem dX10_way_6 : decode cX10_way 6 = .ok (.ifCond .eq 17, 3) := by decide +kernel
theorem dX10_way_9 : decode cX10_way 9 = .ok (.iload_n 2, 1) := by decide +kernel
theorem dX10_way_10 : decode cX10_way 10 = .ok (.iconst 0, 1) := by decide +kernel
theorem dX10_way_11 : decode cX10_way 11 = .ok (.iconst 3, 1) := by decide +kernel
theorem dX10_way_12 : decode cX10_way 12 = .ok (.invokestatic 95, 3) := by decide +kernel
theorem dX10_way_15 : decode cX10_way 15 = .ok (.ifCond .eq 8, 3) := by decide +kernel
theorem dX10_way_18 : decode cX10_way 18 = .ok (.iload_n 1, 1) := by decide +kernel
theorem dX10_way_19 : decode cX10_way 19 = .ok (.iload_n 2, 1) := by decide +kernel
theorem dX10_way_20 : decode cX10_way 20 = .ok (.if_icmp .ne 10, 3) := by decide +kernel
theorem dX10_way_23 : decode cX10_way 23 = .ok (.aload_n 0, 1) := by decide +kernel
theorem dX10_way_24 : decode cX10_way 24 = .ok (.bipush (-2), 2) := by decide +kernel
theorem dX10_way_26 : decode cX10_way 26 = .ok (.invokevirtual 84, 3) := by decide +kernel
theorem dX10_way_29 : decode cX10_way 29 = .ok (.ireturn, 1) := by decide +kernel
theorem dX10_way_30 : decode cX10_way 30 = .ok (.aload_n 0, 1) := by decide +kernel
theorem dX10_way_31 : decode cX10_way 31 = .ok (.iload_n 1, 1) := by decide +kernel
theorem dX10_way_32 : decode cX10_way 32 = .ok (.iload_n 2, 1) := by decide +kernel
theorem dX10_way_33 : decode cX10_way 33 = .ok (.invokevirtual 107, 3) := by decide +kernel
theorem dX10_way_36 : decode cX10_way 36 = .ok (.iload_n 3, 1) := by decide +kernel
theorem dX10_way_37 : decode cX10_way 37 = .ok (.if_icmp .ne 10, 3) := by decide +kernel
theorem dX10_way_40 : decode cX10_way 40 = .ok (.aload_n 0, 1) := by decide +kernel
theorem dX10_way_41 : decode cX10_way 41 = .ok (.bipush (-3), 2) := by decide +kernel
theorem dX10_way_43 : decode cX10_way 43 = .ok (.invokevirtual 84, 3) := by decide +kernel
theorem dX10_way_46 : decode cX10_way 46 = .ok (.ireturn, 1) := by decide +kernel
theorem dX10_way_47 : decode cX10_way 47 = .ok (.aload_n 0, 1) := by decide +kernel
theorem dX10_way_48 : decode cX10_way 48 = .ok (.iload_n 1, 1) := by decide +kernel
theorem dX10_way_49 : decode cX10_way 49 = .ok (.iload_n 2, 1) := by decide +kernel
theorem dX10_way_50 : decode cX10_way 50 = .ok (.iload_n 3, 1) := by decide +kernel
theorem dX10_way_51 : decode cX10_way 51 = .ok (.ifCond .eq 7, 3) := by decide +kernel
theorem dX10_way_54 : decode cX10_way 54 = .ok (.iconst 1, 1) := by decide +kernel
theorem dX10_way_55 : decode cX10_way 55 = .ok (.goto 4, 3) := by decide +kernel
theorem dX10_way_58 : decode cX10_way 58 = .ok (.iconst 0, 1) := by decide +kernel
theorem dX10_way_59 : decode cX10_way 59 = .ok (.invokevirtual 110, 3) := by decide +kernel
theorem dX10_way_62 : decode cX10_way 62 = .ok (.iconst 1, 1) := by decide +kernel
theorem dX10_way_63 : decode cX10_way 63 = .ok (.ireturn, 1) := by decide +kernel
set_option maxRecDepth 20000 in
theorem ggX10_one_X10_in : GoodIn wsX10_one wsX10_in := goodIn_r _ [5] (by decide +kernel) (by decide +kernel)
set_option maxRecDepth 20000 in
theorem gX10_one_X10_in : GoodIn wsX10_one (va_wsS RX10 95 yX10_in wsX10_in) := goodIn_app (goodIn_of _ (by decide +kernel)) ggX10_one_X10_in
set_option maxRecDepth 20000 in
theorem ggX10_one_X10_refuse : GoodIn wsX10_one wsX10_refuse := goodIn_r _ [9, 10, 11, 12, 13, 14, 15, 16, 17, 18, 19, 20, 21, 22, 23, 24, 25, 26, 27, 28, 29, 30, 31, 32, 33, 34, 35, 36, 37, 38, 39, 40, 41, 42, 43] (by decide +kernel) (by decide +kernel)
set_option maxRecDepth 20000 in
theorem gX10_one_X10_refuse : GoodIn wsX10_one (wsV RX10 84 RX10 yX10_refuse wsX10_refuse) := goodIn_app (goodIn_of _ (by decide +kernel)) ggX10_one_X10_refuse
theorem dX10_one_0 : decode cX10_one 0 = .ok (.iload_n 1, 1) := by decide +kernel
theorem dX10_one_1 : decode cX10_one 1 = .ok (.iconst 0, 1) := by decide +kernel
theorem dX10_one_2 : decode cX10_one 2 = .ok (.iconst 3, 1) := by decide +kernel
theorem dX10_one_3 : decode cX10_one 3 = .ok (.invokestatic 95, 3) := by decide +kernel
theorem dX10_one_6 : decode cX10_one 6 = .ok (.ifCond .eq 12, 3) := by decide +kernel
theorem dX10_one_9 : decode cX10_one 9 = .ok (.iload_n 2, 1) := by decide +kernel
theorem dX10_one_10 : decode cX10_one 10 = .ok (.iconst 0, 1) := by decide +kernel
theorem dX10_one_11 : decode cX10_one 11 = .ok (.iconst 3, 1) := by decide +kernel
theorem dX10_one_12 : decode cX10_one 12 = .ok (.invokestatic 95, 3) := by decide +kernel
theorem dX10_one_15 : decode cX10_one 15 = .ok (.ifCond .ne 10, 3) := by decide +kernel
theorem dX10_one_18 : decode cX10_one 18 = .ok (.aload_n 0, 1) := by decide +kernel
theorem dX10_one_19 : decode cX10_one 19 = .ok (.bipush (-2), 2) := by decide +kernel
theorem dX10_one_21 : decode cX10_one 21 = .ok (.invokevirtual 84, 3) := by decide +kernel
theorem dX10_one_24 : decode cX10_one 24 = .ok (.ireturn, 1) := by decide +kernel
theorem dX10_one_25 : decode cX10_one 25 = .ok (.aload_n 0, 1) := by decide +kernel
theorem dX10_one_26 : decode cX10_one 26 = .ok (.getfield 7, 3) := by decide +kernel
theorem dX10_one_29 : decode cX10_one 29 = .ok (.iconst 1, 1) := by decide +kernel
theorem dX10_one_30 : decode cX10_one 30 = .ok (.iaload, 1) := by decide +kernel
theorem dX10_one_31 : decode cX10_one 31 = .ok (.istore_n 3, 1) := by decide +kernel
theorem dX10_one_32 : decode cX10_one 32 = .ok (.iload_n 3, 1) := by decide +kernel
theorem dX10_one_33 : decode cX10_one 33 = .ok (.iconst 5, 1) := by decide +kernel
theorem dX10_one_34 : decode cX10_one 34 = .ok (.if_icmp .ne 10, 3) := by decide +kernel
theorem dX10_one_37 : decode cX10_one 37 = .ok (.aload_n 0, 1) := by decide +kernel
theorem dX10_one_38 : decode cX10_one 38 = .ok (.bipush (-4), 2) := by decide +kernel
theorem dX10_one_40 : decode cX10_one 40 = .ok (.invokevirtual 84, 3) := by decide +kernel
theorem dX10_one_43 : decode cX10_one 43 = .ok (.ireturn, 1) := by decide +kernel
theorem dX10_one_44 : decode cX10_one 44 = .ok (.aload_n 0, 1) := by decide +kernel
theorem dX10_one_45 : decode cX10_one 45 = .ok (.getfield 7, 3) := by decide +kernel
theorem dX10_one_48 : decode cX10_one 48 = .ok (.bipush 23, 2) := by decide +kernel
theorem dX10_one_50 : decode cX10_one 50 = .ok (.iload_n 3, 1) := by decide +kernel
theorem dX10_one_51 : decode cX10_one 51 = .ok (.iadd, 1) := by decide +kernel
theorem dX10_one_52 : decode cX10_one 52 = .ok (.iload_n 1, 1) := by decide +kernel
theorem dX10_one_53 : decode cX10_one 53 = .ok (.iastore, 1) := by decide +kernel
theorem dX10_one_54 : decode cX10_one 54 = .ok (.aload_n 0, 1) := by decide +kernel
theorem dX10_one_55 : decode cX10_one 55 = .ok (.getfield 7, 3) := by decide +kernel
theorem dX10_one_58 : decode cX10_one 58 = .ok (.bipush 28, 2) := by decide +kernel
theorem dX10_one_60 : decode cX10_one 60 = .ok (.iload_n 3, 1) := by decide +kernel
theorem dX10_one_61 : decode cX10_one 61 = .ok (.iadd, 1) := by decide +kernel
theorem dX10_one_62 : decode cX10_one 62 = .ok (.iload_n 2, 1) := by decide +kernel
theorem dX10_one_63 : decode cX10_one 63 = .ok (.iastore, 1) := by decide +kernel
theorem dX10_one_64 : decode cX10_one 64 = .ok (.aload_n 0, 1) := by decide +kernel
theorem dX10_one_65 : decode cX10_one 65 = .ok (.getfield 7, 3) := by decide +kernel
theorem dX10_one_68 : decode cX10_one 68 = .ok (.iconst 1, 1) := by decide +kernel
theorem dX10_one_69 : decode cX10_one 69 = .ok (.dup2, 1) := by decide +kernel
theorem dX10_one_70 : decode cX10_one 70 = .ok (.iaload, 1) := by decide +kernel
theorem dX10_one_71 : decode cX10_one 71 = .ok (.iconst 1, 1) := by decide +kernel
theorem dX10_one_72 : decode cX10_one 72 = .ok (.iadd, 1) := by decide +kernel
theorem dX10_one_73 : decode cX10_one 73 = .ok (.iastore, 1) := by decide +kernel
theorem dX10_one_74 : decode cX10_one 74 = .ok (.iload_n 3, 1) := by decide +kernel
theorem dX10_one_75 : decode cX10_one 75 = .ok (.ireturn, 1) := by decide +kernel
set_option maxRecDepth 20000 in
theorem ggX10_isPerson_X10_in : GoodIn wsX10_isPerson wsX10_in := goodIn_r _ [5] (by decide +kernel) (by decide +kernel)
set_option maxRecDepth 20000 in
theorem gX10_isPerson_X10_in : GoodIn wsX10_isPerson (va_wsS RX10 95 yX10_in wsX10_in) := goodIn_app (goodIn_of _ (by decide +kernel)) ggX10_isPerson_X10_in
theorem dX10_isPerson_0 : decode cX10_isPerson 0 = .ok (.iload_n 1, 1) := by decide +kernel
theorem dX10_isPerson_1 : decode cX10_isPerson 1 = .ok (.iconst 0, 1) := by decide +kernel
theorem dX10_isPerson_2 : decode cX10_isPerson 2 = .ok (.aload_n 0, 1) := by decide +kernel
theorem dX10_isPerson_3 : decode cX10_isPerson 3 = .ok (.getfield 7, 3) := by decide +kernel
theorem dX10_isPerson_6 : decode cX10_isPerson 6 = .ok (.iconst 1, 1) := by decide +kernel
theorem dX10_isPerson_7 : decode cX10_isPerson 7 = .ok (.iaload, 1) := by decide +kernel
theorem dX10_isPerson_8 : decode cX10_isPerson 8 = .ok (.iconst 1, 1) := by decide +kernel
theorem dX10_isPerson_9 : decode cX10_isPerson 9 = .ok (.isub, 1) := by decide +kernel
theorem dX10_isPerson_10 : decode cX10_isPerson 10 = .ok (.invokestatic 95, 3) := by decide +kernel
theorem dX10_isPerson_13 : decode cX10_isPerson 13 = .ok (.ireturn, 1) := by decide +kernel
set_option maxRecDepth 20000 in
theorem ggX10_type_X10_in : GoodIn wsX10_type wsX10_in := goodIn_r _ [6] (by decide +kernel) (by decide +kernel)
set_option maxRecDepth 20000 in
theorem gX10_type_X10_in : GoodIn wsX10_type (va_wsS RX10 95 yX10_in wsX10_in) := goodIn_app (goodIn_of _ (by decide +kernel)) ggX10_type_X10_in
set_option maxRecDepth 20000 in
theorem ggX10_type_X10_refuse : GoodIn wsX10_type wsX10_refuse := goodIn_r _ [10, 11, 12, 13, 14, 15, 16, 17, 18, 19, 20, 21, 22, 23, 24, 25, 26, 27, 28, 29, 30, 31, 32, 33, 34, 35, 36, 37, 38, 39, 40, 41, 42, 43, 44] (by decide +kernel) (by decide +kernel)
set_option maxRecDepth 20000 in
theorem gX10_type_X10_refuse : GoodIn wsX10_type (wsV RX10 84 RX10 yX10_refuse wsX10_refuse) := goodIn_app (goodIn_of _ (by decide +kernel)) ggX10_type_X10_refuse
theorem dX10_type_0 : decode cX10_type 0 = .ok (.iload_n 3, 1) := by decide +kernel
theorem dX10_type_1 : decode cX10_type 1 = .ok (.iconst 1, 1) := by decide +kernel
theorem dX10_type_2 : decode cX10_type 2 = .ok (.bipush 8, 2) := by decide +kernel
theorem dX10_type_4 : decode cX10_type 4 = .ok (.invokestatic 95, 3) := by decide +kernel
theorem dX10_type_7 : decode cX10_type 7 = .ok (.ifCond .ne 10, 3) := by decide +kernel
theorem dX10_type_10 : decode cX10_type 10 = .ok (.aload_n 0, 1) := by decide +kernel
theorem dX10_type_11 : decode cX10_type 11 = .ok (.bipush (-2), 2) := by decide +kernel
theorem dX10_type_13 : decode cX10_type 13 = .ok (.invokevirtual 84, 3) := by decide +kernel
theorem dX10_type_16 : decode cX10_type 16 = .ok (.ireturn, 1) := by decide +kernel
theorem dX10_type_17 : decode cX10_type 17 = .ok (.aload_n 0, 1) := by decide +kernel
theorem dX10_type_18 : decode cX10_type 18 = .ok (.getfield 7, 3) := by decide +kernel
theorem dX10_type_21 : decode cX10_type 21 = .ok (.iconst 3, 1) := by decide +kernel
theorem dX10_type_22 : decode cX10_type 22 = .ok (.iaload, 1) := by decide +kernel
theorem dX10_type_23 : decode cX10_type 23 = .ok (.iload_n 3, 1) := by decide +kernel
theorem dX10_type_24 : decode cX10_type 24 = .ok (.iadd, 1) := by decide +kernel
theorem dX10_type_25 : decode cX10_type 25 = .ok (.sipush 200, 3) := by decide +kernel
theorem dX10_type_28 : decode cX10_type 28 = .ok (.if_icmp .le 10, 3) := by decide +kernel
theorem dX10_type_31 : decode cX10_type 31 = .ok (.aload_n 0, 1) := by decide +kernel
theorem dX10_type_32 : decode cX10_type 32 = .ok (.bipush (-4), 2) := by decide +kernel
theorem dX10_type_34 : decode cX10_type 34 = .ok (.invokevirtual 84, 3) := by decide +kernel
theorem dX10_type_37 : decode cX10_type 37 = .ok (.ireturn, 1) := by decide +kernel
theorem dX10_type_38 : decode cX10_type 38 = .ok (.iload_n 3, 1) := by decide +kernel
theorem dX10_type_39 : decode cX10_type 39 = .ok (.iconst 1, 1) := by decide +kernel
theorem dX10_type_40 : decode cX10_type 40 = .ok (.isub, 1) := by decide +kernel
theorem dX10_type_41 : decode cX10_type 41 = .ok (.istore 4, 2) := by decide +kernel
theorem dX10_type_43 : decode cX10_type 43 = .ok (.iload 4, 2) := by decide +kernel
theorem dX10_type_45 : decode cX10_type 45 = .ok (.ifCond .lt 46, 3) := by decide +kernel
theorem dX10_type_48 : decode cX10_type 48 = .ok (.aload_n 0, 1) := by decide +kernel
theorem dX10_type_49 : decode cX10_type 49 = .ok (.getfield 7, 3) := by decide +kernel
theorem dX10_type_52 : decode cX10_type 52 = .ok (.sipush 129, 3) := by decide +kernel
theorem dX10_type_55 : decode cX10_type 55 = .ok (.aload_n 0, 1) := by decide +kernel
theorem dX10_type_56 : decode cX10_type 56 = .ok (.getfield 7, 3) := by decide +kernel
theorem dX10_type_59 : decode cX10_type 59 = .ok (.iconst 3, 1) := by decide +kernel
theorem dX10_type_60 : decode cX10_type 60 = .ok (.iaload, 1) := by decide +kernel
theorem dX10_type_61 : decode cX10_type 61 = .ok (.iadd, 1) := by decide +kernel
theorem dX10_type_62 : decode cX10_type 62 = .ok (.lload_n 1, 1) := by decide +kernel
theorem dX10_type_63 : decode cX10_type 63 = .ok (.bipush 8, 2) := by decide +kernel
theorem dX10_type_65 : decode cX10_type 65 = .ok (.iload 4, 2) := by decide +kernel
theorem dX10_type_67 : decode cX10_type 67 = .ok (.imul, 1) := by decide +kernel
theorem dX10_type_68 : decode cX10_type 68 = .ok (.lshr, 1) := by decide +kernel
theorem dX10_type_69 : decode cX10_type 69 = .ok (.ldc2_w 114, 3) := by decide +kernel
theorem dX10_type_72 : decode cX10_type 72 = .ok (.land, 1) := by decide +kernel
theorem dX10_type_73 : decode cX10_type 73 = .ok (.l2i, 1) := by decide +kernel
theorem dX10_type_74 : decode cX10_type 74 = .ok (.iastore, 1) := by decide +kernel
theorem dX10_type_75 : decode cX10_type 75 = .ok (.aload_n 0, 1) := by decide +kernel
theorem dX10_type_76 : decode cX10_type 76 = .ok (.getfield 7, 3) := by decide +kernel
theorem dX10_type_79 : decode cX10_type 79 = .ok (.iconst 3, 1) := by decide +kernel
theorem dX10_type_80 : decode cX10_type 80 = .ok (.dup2, 1) := by decide +kernel
theorem dX10_type_81 : decode cX10_type 81 = .ok (.iaload, 1) := by decide +kernel
theorem dX10_type_82 : decode cX10_type 82 = .ok (.iconst 1, 1) := by decide +kernel
theorem dX10_type_83 : decode cX10_type 83 = .ok (.iadd, 1) := by decide +kernel
theorem dX10_type_84 : decode cX10_type 84 = .ok (.iastore, 1) := by decide +kernel
theorem dX10_type_85 : decode cX10_type 85 = .ok (.iinc 4 (-1), 3) := by decide +kernel
theorem dX10_type_88 : decode cX10_type 88 = .ok (.goto (-45), 3) := by decide +kernel
theorem dX10_type_91 : decode cX10_type 91 = .ok (.aload_n 0, 1) := by decide +kernel
theorem dX10_type_92 : decode cX10_type 92 = .ok (.getfield 7, 3) := by decide +kernel
theorem dX10_type_95 : decode cX10_type 95 = .ok (.iconst 3, 1) := by decide +kernel
theorem dX10_type_96 : decode cX10_type 96 = .ok (.iaload, 1) := by decide +kernel
theorem dX10_type_97 : decode cX10_type 97 = .ok (.ireturn, 1) := by decide +kernel
theorem dX10_clear_0 : decode cX10_clear 0 = .ok (.aload_n 0, 1) := by decide +kernel
theorem dX10_clear_1 : decode cX10_clear 1 = .ok (.getfield 7, 3) := by decide +kernel
theorem dX10_clear_4 : decode cX10_clear 4 = .ok (.iconst 3, 1) := by decide +kernel
theorem dX10_clear_5 : decode cX10_clear 5 = .ok (.iaload, 1) := by decide +kernel
theorem dX10_clear_6 : decode cX10_clear 6 = .ok (.istore_n 1, 1) := by decide +kernel
theorem dX10_clear_7 : decode cX10_clear 7 = .ok (.aload_n 0, 1) := by decide +kernel
theorem dX10_clear_8 : decode cX10_clear 8 = .ok (.getfield 7, 3) := by decide +kernel
theorem dX10_clear_11 : decode cX10_clear 11 = .ok (.iconst 3, 1) := by decide +kernel
theorem dX10_clear_12 : decode cX10_clear 12 = .ok (.iconst 0, 1) := by decide +kernel
theorem dX10_clear_13 : decode cX10_clear 13 = .ok (.iastore, 1) := by decide +kernel
theorem dX10_clear_14 : decode cX10_clear 14 = .ok (.iload_n 1, 1) := by decide +kernel
theorem dX10_clear_15 : decode cX10_clear 15 = .ok (.ireturn, 1) := by decide +kernel
theorem dX10_here_0 : decode cX10_here 0 = .ok (.aload_n 0, 1) := by decide +kernel
theorem dX10_here_1 : decode cX10_here 1 = .ok (.getfield 116, 3) := by decide +kernel
theorem dX10_here_4 : decode cX10_here 4 = .ok (.aload_n 0, 1) := by decide +kernel
theorem dX10_here_5 : decode cX10_here 5 = .ok (.getfield 7, 3) := by decide +kernel
theorem dX10_here_8 : decode cX10_here 8 = .ok (.iconst 3, 1) := by decide +kernel
theorem dX10_here_9 : decode cX10_here 9 = .ok (.iaload, 1) := by decide +kernel
theorem dX10_here_10 : decode cX10_here 10 = .ok (.if_icmp .ge 19, 3) := by decide +kernel
theorem dX10_here_13 : decode cX10_here 13 = .ok (.aload_n 0, 1) := by decide +kernel
theorem dX10_here_14 : decode cX10_here 14 = .ok (.getfield 7, 3) := by decide +kernel
theorem dX10_here_17 : decode cX10_here 17 = .ok (.sipush 129, 3) := by decide +kernel
theorem dX10_here_20 : decode cX10_here 20 = .ok (.aload_n 0, 1) := by decide +kernel
theorem dX10_here_21 : decode cX10_here 21 = .ok (.getfield 116, 3) := by decide +kernel
theorem dX10_here_24 : decode cX10_here 24 = .ok (.iadd, 1) := by decide +kernel
theorem dX10_here_25 : decode cX10_here 25 = .ok (.iaload, 1) := by decide +kernel
theorem dX10_here_26 : decode cX10_here 26 = .ok (.goto 4, 3) := by decide +kernel
theorem dX10_here_29 : decode cX10_here 29 = .ok (.iconst (-1), 1) := by decide +kernel
theorem dX10_here_30 : decode cX10_here 30 = .ok (.ireturn, 1) := by decide +kernel
set_option maxRecDepth 20000 in
theorem ggX10_next_X10_here : GoodIn wsX10_next wsX10_here := goodIn_r _ [9, 1, 10, 14, 15, 16, 17, 18, 19, 20, 21, 22, 23, 24, 25, 26, 27, 28, 29, 30, 31, 32, 33, 34, 35, 36, 37, 38, 39, 40, 41, 42, 43, 44, 45, 46] (by decide +kernel) (by decide +kernel)
set_option maxRecDepth 20000 in
theorem gX10_next_X10_here : GoodIn wsX10_next (wsV RX10 119 RX10 yX10_here wsX10_here) := goodIn_app (goodIn_of _ (by decide +kernel)) ggX10_next_X10_here
set_option maxRecDepth 20000 in
theorem ggX10_next_X10_in : GoodIn wsX10_next wsX10_in := goodIn_r _ [13] (by decide +kernel) (by decide +kernel)
set_option maxRecDepth 20000 in
theorem gX10_next_X10_in : GoodIn wsX10_next (va_wsS RX10 95 yX10_in wsX10_in) := goodIn_app (goodIn_of _ (by decide +kernel)) ggX10_next_X10_in
theorem dX10_next_0 : decode cX10_next 0 = .ok (.aload_n 0, 1) := by decide +kernel
theorem dX10_next_1 : decode cX10_next 1 = .ok (.invokevirtual 119, 3) := by decide +kernel
theorem dX10_next_4 : decode cX10_next 4 = .ok (.bipush 32, 2) := by decide +kernel
theorem dX10_next_6 : decode cX10_next 6 = .ok (.if_icmp .ne 16, 3) := by decide +kernel
theorem dX10_next_9 : decode cX10_next 9 = .ok (.aload_n 0, 1) := by decide +kernel
theorem dX10_next_10 : decode cX10_next 10 = .ok (.dup, 1) := by decide +kernel
theorem dX10_next_11 : decode cX10_next 11 = .ok (.getfield 116, 3) := by decide +kernel
theorem dX10_next_14 : decode cX10_next 14 = .ok (.iconst 1, 1) := by decide +kernel
theorem dX10_next_15 : decode cX10_next 15 = .ok (.iadd, 1) := by decide +kernel
theorem dX10_next_16 : decode cX10_next 16 = .ok (.putfield 116, 3) := by decide +kernel
theorem dX10_next_19 : decode cX10_next 19 = .ok (.goto (-19), 3) := by decide +kernel
theorem dX10_next_22 : decode cX10_next 22 = .ok (.aload_n 0, 1) := by decide +kernel
theorem dX10_next_23 : decode cX10_next 23 = .ok (.aload_n 0, 1) := by decide +kernel
theorem dX10_next_24 : decode cX10_next 24 = .ok (.getfield 116, 3) := by decide +kernel
theorem dX10_next_27 : decode cX10_next 27 = .ok (.putfield 123, 3) := by decide +kernel
theorem dX10_next_30 : decode cX10_next 30 = .ok (.aload_n 0, 1) := by decide +kernel
theorem dX10_next_31 : decode cX10_next 31 = .ok (.iconst 0, 1) := by decide +kernel
theorem dX10_next_32 : decode cX10_next 32 = .ok (.putfield 126, 3) := by decide +kernel
theorem dX10_next_35 : decode cX10_next 35 = .ok (.aload_n 0, 1) := by decide +kernel
theorem dX10_next_36 : decode cX10_next 36 = .ok (.invokevirtual 119, 3) := by decide +kernel
theorem dX10_next_39 : decode cX10_next 39 = .ok (.istore_n 1, 1) := by decide +kernel
theorem dX10_next_40 : decode cX10_next 40 = .ok (.iload_n 1, 1) := by decide +kernel
theorem dX10_next_41 : decode cX10_next 41 = .ok (.ifCond .ge 11, 3) := by decide +kernel
theorem dX10_next_44 : decode cX10_next 44 = .ok (.aload_n 0, 1) := by decide +kernel
theorem dX10_next_45 : decode cX10_next 45 = .ok (.iconst 3, 1) := by decide +kernel
theorem dX10_next_46 : decode cX10_next 46 = .ok (.putfield 129, 3) := by decide +kernel
theorem dX10_next_49 : decode cX10_next 49 = .ok (.goto 244, 3) := by decide +kernel
theorem dX10_next_52 : decode cX10_next 52 = .ok (.iload_n 1, 1) := by decide +kernel
theorem dX10_next_53 : decode cX10_next 53 = .ok (.bipush 97, 2) := by decide +kernel
theorem dX10_next_55 : decode cX10_next 55 = .ok (.bipush 122, 2) := by decide +kernel
theorem dX10_next_57 : decode cX10_next 57 = .ok (.invokestatic 95, 3) := by decide +kernel
theorem dX10_next_60 : decode cX10_next 60 = .ok (.ifCond .eq 104, 3) := by decide +kernel
theorem dX10_next_63 : decode cX10_next 63 = .ok (.iconst 0, 1) := by decide +kernel
theorem dX10_next_64 : decode cX10_next 64 = .ok (.istore_n 2, 1) := by decide +kernel
theorem dX10_next_65 : decode cX10_next 65 = .ok (.aload_n 0, 1) := by decide +kernel
theorem dX10_next_66 : decode cX10_next 66 = .ok (.invokevirtual 119, 3) := by decide +kernel
theorem dX10_next_69 : decode cX10_next 69 = .ok (.bipush 97, 2) := by decide +kernel
theorem dX10_next_71 : decode cX10_next 71 = .ok (.bipush 122, 2) := by decide +kernel
theorem dX10_next_73 : decode cX10_next 73 = .ok (.invokestatic 95, 3) := by decide +kernel
theorem dX10_next_76 : decode cX10_next 76 = .ok (.ifCond .eq 46, 3) := by decide +kernel
theorem dX10_next_79 : decode cX10_next 79 = .ok (.aload_n 0, 1) := by decide +kernel
theorem dX10_next_80 : decode cX10_next 80 = .ok (.getfield 116, 3) := by decide +kernel
theorem dX10_next_83 : decode cX10_next 83 = .ok (.aload_n 0, 1) := by decide +kernel
theorem dX10_next_84 : decode cX10_next 84 = .ok (.getfield 123, 3) := by decide +kernel
theorem dX10_next_87 : decode cX10_next 87 = .ok (.isub, 1) := by decide +kernel
theorem dX10_next_88 : decode cX10_next 88 = .ok (.iconst 3, 1) := by decide +kernel
theorem dX10_next_89 : decode cX10_next 89 = .ok (.if_icmp .ge 18, 3) := by decide +kernel
theorem dX10_next_92 : decode cX10_next 92 = .ok (.bipush 27, 2) := by decide +kernel
theorem dX10_next_94 : decode cX10_next 94 = .ok (.iload_n 2, 1) := by decide +kernel
theorem dX10_next_95 : decode cX10_next 95 = .ok (.imul, 1) := by decide +kernel
theorem dX10_next_96 : decode cX10_next 96 = .ok (.aload_n 0, 1) := by decide +kernel
theorem dX10_next_97 : decode cX10_next 97 = .ok (.invokevirtual 119, 3) := by decide +kernel
theorem dX10_next_100 : decode cX10_next 100 = .ok (.iadd, 1) := by decide +kernel
theorem dX10_next_101 : decode cX10_next 101 = .ok (.bipush 96, 2) := by decide +kernel
theorem dX10_next_103 : decode cX10_next 103 = .ok (.isub, 1) := by decide +kernel
theorem dX10_next_104 : decode cX10_next 104 = .ok (.goto 4, 3) := by decide +kernel
theorem dX10_next_107 : decode cX10_next 107 = .ok (.iconst (-1), 1) := by decide +kernel
theorem dX10_next_108 : decode cX10_next 108 = .ok (.istore_n 2, 1) := by decide +kernel
theorem dX10_next_109 : decode cX10_next 109 = .ok (.aload_n 0, 1) := by decide +kernel
theorem dX10_next_110 : decode cX10_next 110 = .ok (.dup, 1) := by decide +kernel
theorem dX10_next_111 : decode cX10_next 111 = .ok (.getfield 116, 3) := by decide +kernel
theorem dX10_next_114 : decode cX10_next 114 = .ok (.iconst 1, 1) := by decide +kernel
theorem dX10_next_115 : decode cX10_next 115 = .ok (.iadd, 1) := by decide +kernel
theorem dX10_next_116 : decode cX10_next 116 = .ok (.putfield 116, 3) := by decide +kernel
theorem dX10_next_119 : decode cX10_next 119 = .ok (.goto (-54), 3) := by decide +kernel
theorem dX10_next_122 : decode cX10_next 122 = .ok (.aload_n 0, 1) := by decide +kernel
theorem dX10_next_123 : decode cX10_next 123 = .ok (.iload_n 2, 1) := by decide +kernel
theorem dX10_next_124 : decode cX10_next 124 = .ok (.sipush 16819, 3) := by decide +kernel
theorem dX10_next_127 : decode cX10_next 127 = .ok (.if_icmp .ne 7, 3) := by decide +kernel
theorem dX10_next_130 : decode cX10_next 130 = .ok (.iconst 0, 1) := by decide +kernel
theorem dX10_next_131 : decode cX10_next 131 = .ok (.goto 27, 3) := by decide +kernel
theorem dX10_next_134 : decode cX10_next 134 = .ok (.iload_n 2, 1) := by decide +kernel
theorem dX10_next_135 : decode cX10_next 135 = .ok (.sipush 11318, 3) := by decide +kernel
theorem dX10_next_138 : decode cX10_next 138 = .ok (.if_icmp .ne 7, 3) := by decide +kernel
theorem dX10_next_141 : decode cX10_next 141 = .ok (.iconst 1, 1) := by decide +kernel
theorem dX10_next_142 : decode cX10_next 142 = .ok (.goto 16, 3) := by decide +kernel
theorem dX10_next_145 : decode cX10_next 145 = .ok (.iload_n 2, 1) := by decide +kernel
theorem dX10_next_146 : decode cX10_next 146 = .ok (.sipush 204, 3) := by decide +kernel
theorem dX10_next_149 : decode cX10_next 149 = .ok (.if_icmp .ne 7, 3) := by decide +kernel
theorem dX10_next_152 : decode cX10_next 152 = .ok (.iconst 2, 1) := by decide +kernel
theorem dX10_next_153 : decode cX10_next 153 = .ok (.goto 5, 3) := by decide +kernel
theorem dX10_next_156 : decode cX10_next 156 = .ok (.bipush 6, 2) := by decide +kernel
theorem dX10_next_158 : decode cX10_next 158 = .ok (.putfield 129, 3) := by decide +kernel
theorem dX10_next_161 : decode cX10_next 161 = .ok (.goto 132, 3) := by decide +kernel
theorem dX10_next_164 : decode cX10_next 164 = .ok (.iload_n 1, 1) := by decide +kernel
theorem dX10_next_165 : decode cX10_next 165 = .ok (.bipush 48, 2) := by decide +kernel
theorem dX10_next_167 : decode cX10_next 167 = .ok (.bipush 57, 2) := by decide +kernel
theorem dX10_next_169 : decode cX10_next 169 = .ok (.invokestatic 95, 3) := by decide +kernel
theorem dX10_next_172 : decode cX10_next 172 = .ok (.ifCond .eq 95, 3) := by decide +kernel
theorem dX10_next_175 : decode cX10_next 175 = .ok (.aload_n 0, 1) := by decide +kernel
theorem dX10_next_176 : decode cX10_next 176 = .ok (.invokevirtual 119, 3) := by decide +kernel
theorem dX10_next_179 : decode cX10_next 179 = .ok (.bipush 48, 2) := by decide +kernel
theorem dX10_next_181 : decode cX10_next 181 = .ok (.bipush 57, 2) := by decide +kernel
theorem dX10_next_183 : decode cX10_next 183 = .ok (.invokestatic 95, 3) := by decide +kernel
theorem dX10_next_186 : decode cX10_next 186 = .ok (.ifCond .eq 55, 3) := by decide +kernel
theorem dX10_next_189 : decode cX10_next 189 = .ok (.aload_n 0, 1) := by decide +kernel
theorem dX10_next_190 : decode cX10_next 190 = .ok (.aload_n 0, 1) := by decide +kernel
theorem dX10_next_191 : decode cX10_next 191 = .ok (.getfield 116, 3) := by decide +kernel
theorem dX10_next_194 : decode cX10_next 194 = .ok (.aload_n 0, 1) := by decide +kernel
theorem dX10_next_195 : decode cX10_next 195 = .ok (.getfield 123, 3) := by decide +kernel
theorem dX10_next_198 : decode cX10_next 198 = .ok (.isub, 1) := by decide +kernel
theorem dX10_next_199 : decode cX10_next 199 = .ok (.iconst 2, 1) := by decide +kernel
theorem dX10_next_200 : decode cX10_next 200 = .ok (.if_icmp .ge 21, 3) := by decide +kernel
theorem dX10_next_203 : decode cX10_next 203 = .ok (.bipush 10, 2) := by decide +kernel
theorem dX10_next_205 : decode cX10_next 205 = .ok (.aload_n 0, 1) := by decide +kernel
theorem dX10_next_206 : decode cX10_next 206 = .ok (.getfield 126, 3) := by decide +kernel
theorem dX10_next_209 : decode cX10_next 209 = .ok (.imul, 1) := by decide +kernel
theorem dX10_next_210 : decode cX10_next 210 = .ok (.aload_n 0, 1) := by decide +kernel
theorem dX10_next_211 : decode cX10_next 211 = .ok (.invokevirtual 119, 3) := by decide +kernel
theorem dX10_next_214 : decode cX10_next 214 = .ok (.iadd, 1) := by decide +kernel
theorem dX10_next_215 : decode cX10_next 215 = .ok (.bipush 48, 2) := by decide +kernel
theorem dX10_next_217 : decode cX10_next 217 = .ok (.isub, 1) := by decide +kernel
theorem dX10_next_218 : decode cX10_next 218 = .ok (.goto 7, 3) := by decide +kernel
theorem dX10_next_221 : decode cX10_next 221 = .ok (.aload_n 0, 1) := by decide +kernel
theorem dX10_next_222 : decode cX10_next 222 = .ok (.getfield 126, 3) := by decide +kernel
theorem dX10_next_225 : decode cX10_next 225 = .ok (.putfield 126, 3) := by decide +kernel
theorem dX10_next_228 : decode cX10_next 228 = .ok (.aload_n 0, 1) := by decide +kernel
theorem dX10_next_229 : decode cX10_next 229 = .ok (.dup, 1) := by decide +kernel
theorem dX10_next_230 : decode cX10_next 230 = .ok (.getfield 116, 3) := by decide +kernel
theorem dX10_next_233 : decode cX10_next 233 = .ok (.iconst 1, 1) := by decide +kernel
theorem dX10_next_234 : decode cX10_next 234 = .ok (.iadd, 1) := by decide +kernel
theorem dX10_next_235 : decode cX10_next 235 = .ok (.putfield 116, 3) := by decide +kernel
theorem dX10_next_238 : decode cX10_next 238 = .ok (.goto (-63), 3) := by decide +kernel
theorem dX10_next_241 : decode cX10_next 241 = .ok (.aload_n 0, 1) := by decide +kernel
theorem dX10_next_242 : decode cX10_next 242 = .ok (.aload_n 0, 1) := by decide +kernel
theorem dX10_next_243 : decode cX10_next 243 = .ok (.getfield 116, 3) := by decide +kernel
theorem dX10_next_246 : decode cX10_next 246 = .ok (.aload_n 0, 1) := by decide +kernel
theorem dX10_next_247 : decode cX10_next 247 = .ok (.getfield 123, 3) := by decide +kernel
theorem dX10_next_250 : decode cX10_next 250 = .ok (.isub, 1) := by decide +kernel
theorem dX10_next_251 : decode cX10_next 251 = .ok (.iconst 2, 1) := by decide +kernel
theorem dX10_next_252 : decode cX10_next 252 = .ok (.if_icmp .le 8, 3) := by decide +kernel
theorem dX10_next_255 : decode cX10_next 255 = .ok (.bipush 6, 2) := by decide +kernel
theorem dX10_next_257 : decode cX10_next 257 = .ok (.goto 4, 3) := by decide +kernel
theorem dX10_next_260 : decode cX10_next 260 = .ok (.iconst 4, 1) := by decide +kernel
theorem dX10_next_261 : decode cX10_next 261 = .ok (.putfield 129, 3) := by decide +kernel
theorem dX10_next_264 : decode cX10_next 264 = .ok (.goto 29, 3) := by decide +kernel
theorem dX10_next_267 : decode cX10_next 267 = .ok (.aload_n 0, 1) := by decide +kernel
theorem dX10_next_268 : decode cX10_next 268 = .ok (.dup, 1) := by decide +kernel
theorem dX10_next_269 : decode cX10_next 269 = .ok (.getfield 116, 3) := by decide +kernel
theorem dX10_next_272 : decode cX10_next 272 = .ok (.iconst 1, 1) := by decide +kernel
theorem dX10_next_273 : decode cX10_next 273 = .ok (.iadd, 1) := by decide +kernel
theorem dX10_next_274 : decode cX10_next 274 = .ok (.putfield 116, 3) := by decide +kernel
theorem dX10_next_277 : decode cX10_next 277 = .ok (.aload_n 0, 1) := by decide +kernel
theorem dX10_next_278 : decode cX10_next 278 = .ok (.iload_n 1, 1) := by decide +kernel
theorem dX10_next_279 : decode cX10_next 279 = .ok (.bipush 59, 2) := by decide +kernel
theorem dX10_next_281 : decode cX10_next 281 = .ok (.if_icmp .ne 7, 3) := by decide +kernel
theorem dX10_next_284 : decode cX10_next 284 = .ok (.iconst 5, 1) := by decide +kernel
theorem dX10_next_285 : decode cX10_next 285 = .ok (.goto 5, 3) := by decide +kernel
theorem dX10_next_288 : decode cX10_next 288 = .ok (.bipush 6, 2) := by decide +kernel
theorem dX10_next_290 : decode cX10_next 290 = .ok (.putfield 129, 3) := by decide +kernel
theorem dX10_next_293 : decode cX10_next 293 = .ok (.return_, 1) := by decide +kernel
set_option maxRecDepth 20000 in
theorem ggX10_due_X10_next : GoodIn wsX10_due wsX10_next := goodIn_r _ [8, 9, 3, 1, 10, 11, 12, 13, 7, 14, 15, 16, 17, 18, 19, 20, 21, 22, 23, 24, 25, 26, 27, 28, 29, 30, 31, 32, 33, 34, 35, 36, 37, 38, 39, 40, 41, 42, 43, 44, 45, 46, 47, 48, 49, 50, 51] (by decide +kernel) (by decide +kernel)
set_option maxRecDepth 20000 in
theorem gX10_due_X10_next : GoodIn wsX10_due (wsV RX10 135 RX10 yX10_next wsX10_next) := goodIn_app (goodIn_of _ (by decide +kernel)) ggX10_due_X10_next
theorem dX10_due_0 : decode cX10_due 0 = .ok (.aload_n 0, 1) := by decide +kernel
theorem dX10_due_1 : decode cX10_due 1 = .ok (.getfield 126, 3) := by decide +kernel
theorem dX10_due_4 : decode cX10_due 4 = .ok (.istore_n 2, 1) := by decide +kernel
theorem dX10_due_5 : decode cX10_due 5 = .ok (.aload_n 0, 1) := by decide +kernel
theorem dX10_due_6 : decode cX10_due 6 = .ok (.getfield 132, 3) := by decide +kernel
theorem dX10_due_9 : decode cX10_due 9 = .ok (.iconst (-1), 1) := by decide +kernel
theorem dX10_due_10 : decode cX10_due 10 = .ok (.if_icmp .ne 22, 3) := by decide +kernel
theorem dX10_due_13 : decode cX10_due 13 = .ok (.iload_n 1, 1) := by decide +kernel
theorem dX10_due_14 : decode cX10_due 14 = .ok (.ifCond .eq 10, 3) := by decide +kernel
theorem dX10_due_17 : decode cX10_due 17 = .ok (.aload_n 0, 1) := by decide +kernel
theorem dX10_due_18 : decode cX10_due 18 = .ok (.invokevirtual 135, 3) := by decide +kernel
theorem dX10_due_21 : decode cX10_due 21 = .ok (.goto 11, 3) := by decide +kernel
theorem dX10_due_24 : decode cX10_due 24 = .ok (.aload_n 0, 1) := by decide +kernel
theorem dX10_due_25 : decode cX10_due 25 = .ok (.aload_n 0, 1) := by decide +kernel
theorem dX10_due_26 : decode cX10_due 26 = .ok (.getfield 123, 3) := by decide +kernel
theorem dX10_due_29 : decode cX10_due 29 = .ok (.putfield 132, 3) := by decide +kernel
theorem dX10_due_32 : decode cX10_due 32 = .ok (.iload_n 2, 1) := by decide +kernel
theorem dX10_due_33 : decode cX10_due 33 = .ok (.ireturn, 1) := by decide +kernel
set_option maxRecDepth 20000 in
theorem ggX10_number_X10_in : GoodIn wsX10_number wsX10_in := goodIn_r _ [6] (by decide +kernel) (by decide +kernel)
set_option maxRecDepth 20000 in
theorem gX10_number_X10_in : GoodIn wsX10_number (va_wsS RX10 95 yX10_in wsX10_in) := goodIn_app (goodIn_of _ (by decide +kernel)) ggX10_number_X10_in
set_option maxRecDepth 20000 in
theorem ggX10_number_X10_due : GoodIn wsX10_number wsX10_due := goodIn_r _ [10, 2, 11, 12, 13, 14, 15, 5, 16, 17, 1, 18, 19, 20, 21, 22, 3, 4, 6, 23, 24, 25, 26, 27, 28, 29, 30, 31, 32, 33, 34, 35, 36, 37, 38, 39, 40, 41, 42, 43, 44, 45, 46, 47, 48, 49, 50, 51, 52, 53, 54, 55] (by decide +kernel) (by decide +kernel)
set_option maxRecDepth 20000 in
theorem gX10_number_X10_due : GoodIn wsX10_number (wsV RX10 138 RX10 yX10_due wsX10_due) := goodIn_app (goodIn_of _ (by decide +kernel)) ggX10_number_X10_due
theorem dX10_number_0 : decode cX10_number 0 = .ok (.aload_n 0, 1) := by decide +kernel
theorem dX10_number_1 : decode cX10_number 1 = .ok (.aload_n 0, 1) := by decide +kernel
theorem dX10_number_2 : decode cX10_number 2 = .ok (.getfield 129, 3) := by decide +kernel
theorem dX10_number_5 : decode cX10_number 5 = .ok (.iconst 4, 1) := by decide +kernel
theorem dX10_number_6 : decode cX10_number 6 = .ok (.if_icmp .ne 19, 3) := by decide +kernel
theorem dX10_number_9 : decode cX10_number 9 = .ok (.aload_n 0, 1) := by decide +kernel
theorem dX10_number_10 : decode cX10_number 10 = .ok (.getfield 126, 3) := by decide +kernel
theorem dX10_number_13 : decode cX10_number 13 = .ok (.iload_n 1, 1) := by decide +kernel
theorem dX10_number_14 : decode cX10_number 14 = .ok (.iload_n 2, 1) := by decide +kernel
theorem dX10_number_15 : decode cX10_number 15 = .ok (.invokestatic 95, 3) := by decide +kernel
theorem dX10_number_18 : decode cX10_number 18 = .ok (.ifCond .eq 7, 3) := by decide +kernel
theorem dX10_number_21 : decode cX10_number 21 = .ok (.iconst 1, 1) := by decide +kernel
theorem dX10_number_22 : decode cX10_number 22 = .ok (.goto 4, 3) := by decide +kernel
theorem dX10_number_25 : decode cX10_number 25 = .ok (.iconst 0, 1) := by decide +kernel
theorem dX10_number_26 : decode cX10_number 26 = .ok (.invokevirtual 138, 3) := by decide +kernel
theorem dX10_number_29 : decode cX10_number 29 = .ok (.ireturn, 1) := by decide +kernel
set_option maxRecDepth 20000 in
theorem ggX10_readWay_X10_number : GoodIn wsX10_readWay wsX10_number := goodIn_r _ [9, 2, 3, 10, 11, 8, 12, 13, 14, 15, 16, 1, 17, 18, 19, 20, 21, 22, 23, 24, 25, 26, 27, 28, 29, 30, 31, 32, 33, 34, 35, 36, 37, 38, 39, 40, 41, 42, 43, 44, 45, 46, 47, 48, 49, 50, 51, 52, 53, 54, 55, 56, 57, 58, 59, 60] (by decide +kernel) (by decide +kernel)
set_option maxRecDepth 20000 in
theorem gX10_readWay_X10_number : GoodIn wsX10_readWay (wsV RX10 142 RX10 yX10_number wsX10_number) := goodIn_app (goodIn_of _ (by decide +kernel)) ggX10_readWay_X10_number
set_option maxRecDepth 20000 in
theorem ggX10_readWay_X10_in : GoodIn wsX10_readWay wsX10_in := goodIn_r _ [12] (by decide +kernel) (by decide +kernel)
set_option maxRecDepth 20000 in
theorem gX10_readWay_X10_in : GoodIn wsX10_readWay (va_wsS RX10 95 yX10_in wsX10_in) := goodIn_app (goodIn_of _ (by decide +kernel)) ggX10_readWay_X10_in
set_option maxRecDepth 20000 in
theorem ggX10_readWay_X10_due : GoodIn wsX10_readWay wsX10_due := goodIn_r _ [16, 3, 1, 17, 18, 19, 20, 8, 21, 22, 2, 23, 24, 25, 26, 27, 10, 11, 12, 28, 29, 30, 31, 32, 33, 34, 35, 36, 37, 38, 39, 40, 41, 42, 43, 44, 45, 46, 47, 48, 49, 50, 51, 52, 53, 54, 55, 56, 57, 58, 59, 60] (by decide +kernel) (by decide +kernel)
set_option maxRecDepth 20000 in
theorem gX10_readWay_X10_due : GoodIn wsX10_readWay (wsV RX10 138 RX10 yX10_due wsX10_due) := goodIn_app (goodIn_of _ (by decide +kernel)) ggX10_readWay_X10_due
theorem dX10_readWay_0 : decode cX10_readWay 0 = .ok (.aload_n 0, 1) := by decide +kernel
theorem dX10_readWay_1 : decode cX10_readWay 1 = .ok (.iconst 0, 1) := by decide +kernel
theorem dX10_readWay_2 : decode cX10_readWay 2 = .ok (.iconst 3, 1) := by decide +kernel
theorem dX10_readWay_3 : decode cX10_readWay 3 = .ok (.invokevirtual 142, 3) := by decide +kernel
theorem dX10_readWay_6 : decode cX10_readWay 6 = .ok (.istore_n 1, 1) := by decide +kernel
theorem dX10_readWay_7 : decode cX10_readWay 7 = .ok (.aload_n 0, 1) := by decide +kernel
theorem dX10_readWay_8 : decode cX10_readWay 8 = .ok (.getfield 132, 3) := by decide +kernel
theorem dX10_readWay_11 : decode cX10_readWay 11 = .ok (.iconst (-1), 1) := by decide +kernel
theorem dX10_readWay_12 : decode cX10_readWay 12 = .ok (.if_icmp .ne 51, 3) := by decide +kernel
theorem dX10_readWay_15 : decode cX10_readWay 15 = .ok (.aload_n 0, 1) := by decide +kernel
theorem dX10_readWay_16 : decode cX10_readWay 16 = .ok (.getfield 129, 3) := by decide +kernel
theorem dX10_readWay_19 : decode cX10_readWay 19 = .ok (.iconst 4, 1) := by decide +kernel
theorem dX10_readWay_20 : decode cX10_readWay 20 = .ok (.if_icmp .ne 43, 3) := by decide +kernel
theorem dX10_readWay_23 : decode cX10_readWay 23 = .ok (.aload_n 0, 1) := by decide +kernel
theorem dX10_readWay_24 : decode cX10_readWay 24 = .ok (.getfield 126, 3) := by decide +kernel
theorem dX10_readWay_27 : decode cX10_readWay 27 = .ok (.iconst 0, 1) := by decide +kernel
theorem dX10_readWay_28 : decode cX10_readWay 28 = .ok (.iconst 3, 1) := by decide +kernel
theorem dX10_readWay_29 : decode cX10_readWay 29 = .ok (.invokestatic 95, 3) := by decide +kernel
theorem dX10_readWay_32 : decode cX10_readWay 32 = .ok (.ifCond .eq 31, 3) := by decide +kernel
theorem dX10_readWay_35 : decode cX10_readWay 35 = .ok (.aload_n 0, 1) := by decide +kernel
theorem dX10_readWay_36 : decode cX10_readWay 36 = .ok (.getfield 126, 3) := by decide +kernel
theorem dX10_readWay_39 : decode cX10_readWay 39 = .ok (.iload_n 1, 1) := by decide +kernel
theorem dX10_readWay_40 : decode cX10_readWay 40 = .ok (.if_icmp .eq 23, 3) := by decide +kernel
theorem dX10_readWay_43 : decode cX10_readWay 43 = .ok (.aload_n 0, 1) := by decide +kernel
theorem dX10_readWay_44 : decode cX10_readWay 44 = .ok (.getfield 24, 3) := by decide +kernel
theorem dX10_readWay_47 : decode cX10_readWay 47 = .ok (.iconst 4, 1) := by decide +kernel
theorem dX10_readWay_48 : decode cX10_readWay 48 = .ok (.iload_n 1, 1) := by decide +kernel
theorem dX10_readWay_49 : decode cX10_readWay 49 = .ok (.imul, 1) := by decide +kernel
theorem dX10_readWay_50 : decode cX10_readWay 50 = .ok (.aload_n 0, 1) := by decide +kernel
theorem dX10_readWay_51 : decode cX10_readWay 51 = .ok (.getfield 126, 3) := by decide +kernel
theorem dX10_readWay_54 : decode cX10_readWay 54 = .ok (.iadd, 1) := by decide +kernel
theorem dX10_readWay_55 : decode cX10_readWay 55 = .ok (.iaload, 1) := by decide +kernel
theorem dX10_readWay_56 : decode cX10_readWay 56 = .ok (.ifCond .ne 7, 3) := by decide +kernel
theorem dX10_readWay_59 : decode cX10_readWay 59 = .ok (.iconst 1, 1) := by decide +kernel
theorem dX10_readWay_60 : decode cX10_readWay 60 = .ok (.goto 4, 3) := by decide +kernel
theorem dX10_readWay_63 : decode cX10_readWay 63 = .ok (.iconst 0, 1) := by decide +kernel
theorem dX10_readWay_64 : decode cX10_readWay 64 = .ok (.istore_n 2, 1) := by decide +kernel
theorem dX10_readWay_65 : decode cX10_readWay 65 = .ok (.aload_n 0, 1) := by decide +kernel
theorem dX10_readWay_66 : decode cX10_readWay 66 = .ok (.iload_n 2, 1) := by decide +kernel
theorem dX10_readWay_67 : decode cX10_readWay 67 = .ok (.invokevirtual 138, 3) := by decide +kernel
theorem dX10_readWay_70 : decode cX10_readWay 70 = .ok (.istore_n 3, 1) := by decide +kernel
theorem dX10_readWay_71 : decode cX10_readWay 71 = .ok (.aload_n 0, 1) := by decide +kernel
theorem dX10_readWay_72 : decode cX10_readWay 72 = .ok (.getfield 132, 3) := by decide +kernel
theorem dX10_readWay_75 : decode cX10_readWay 75 = .ok (.iconst (-1), 1) := by decide +kernel
theorem dX10_readWay_76 : decode cX10_readWay 76 = .ok (.if_icmp .ne 25, 3) := by decide +kernel
theorem dX10_readWay_79 : decode cX10_readWay 79 = .ok (.aload_n 0, 1) := by decide +kernel
theorem dX10_readWay_80 : decode cX10_readWay 80 = .ok (.getfield 24, 3) := by decide +kernel
theorem dX10_readWay_83 : decode cX10_readWay 83 = .ok (.iconst 4, 1) := by decide +kernel
theorem dX10_readWay_84 : decode cX10_readWay 84 = .ok (.iload_n 1, 1) := by decide +kernel
theorem dX10_readWay_85 : decode cX10_readWay 85 = .ok (.imul, 1) := by decide +kernel
theorem dX10_readWay_86 : decode cX10_readWay 86 = .ok (.iload_n 3, 1) := by decide +kernel
theorem dX10_readWay_87 : decode cX10_readWay 87 = .ok (.iadd, 1) := by decide +kernel
theorem dX10_readWay_88 : decode cX10_readWay 88 = .ok (.iconst 1, 1) := by decide +kernel
theorem dX10_readWay_89 : decode cX10_readWay 89 = .ok (.iastore, 1) := by decide +kernel
theorem dX10_readWay_90 : decode cX10_readWay 90 = .ok (.aload_n 0, 1) := by decide +kernel
theorem dX10_readWay_91 : decode cX10_readWay 91 = .ok (.getfield 24, 3) := by decide +kernel
theorem dX10_readWay_94 : decode cX10_readWay 94 = .ok (.iconst 4, 1) := by decide +kernel
theorem dX10_readWay_95 : decode cX10_readWay 95 = .ok (.iload_n 3, 1) := by decide +kernel
theorem dX10_readWay_96 : decode cX10_readWay 96 = .ok (.imul, 1) := by decide +kernel
theorem dX10_readWay_97 : decode cX10_readWay 97 = .ok (.iload_n 1, 1) := by decide +kernel
theorem dX10_readWay_98 : decode cX10_readWay 98 = .ok (.iadd, 1) := by decide +kernel
theorem dX10_readWay_99 : decode cX10_readWay 99 = .ok (.iconst 1, 1) := by decide +kernel
theorem dX10_readWay_100 : decode cX10_readWay 100 = .ok (.iastore, 1) := by decide +kernel
theorem dX10_readWay_101 : decode cX10_readWay 101 = .ok (.return_, 1) := by decide +kernel
set_option maxRecDepth 20000 in
theorem ggX10_readGo_X10_number : GoodIn wsX10_readGo wsX10_number := goodIn_r _ [14, 6, 7, 15, 16, 13, 17, 18, 19, 20, 21, 5, 22, 23, 24, 25, 26, 27, 28, 29, 30, 31, 32, 33, 34, 35, 36, 37, 38, 39, 40, 41, 42, 43, 44, 45, 46, 47, 48, 49, 50, 51, 52, 53, 54, 55, 56, 57, 58, 59, 60, 61, 62, 63, 64, 65] (by decide +kernel) (by decide +kernel)
set_option maxRecDepth 20000 in
theorem gX10_readGo_X10_number : GoodIn wsX10_readGo (wsV RX10 142 RX10 yX10_number wsX10_number) := goodIn_app (goodIn_of _ (by decide +kernel)) ggX10_readGo_X10_number
set_option maxRecDepth 20000 in
theorem ggX10_readGo_X10_in : GoodIn wsX10_readGo wsX10_in := goodIn_r _ [17] (by decide +kernel) (by decide +kernel)
set_option maxRecDepth 20000 in
theorem gX10_readGo_X10_in : GoodIn wsX10_readGo (va_wsS RX10 95 yX10_in wsX10_in) := goodIn_app (goodIn_of _ (by decide +kernel)) ggX10_readGo_X10_in
set_option maxRecDepth 20000 in
theorem ggX10_readGo_X10_due : GoodIn wsX10_readGo wsX10_due := goodIn_r _ [21, 7, 5, 22, 23, 24, 25, 13, 26, 27, 6, 28, 29, 30, 31, 32, 15, 16, 17, 33, 34, 35, 36, 37, 38, 39, 40, 41, 42, 43, 44, 45, 46, 47, 48, 49, 50, 51, 52, 53, 54, 55, 56, 57, 58, 59, 60, 61, 62, 63, 64, 65] (by decide +kernel) (by decide +kernel)
set_option maxRecDepth 20000 in
theorem gX10_readGo_X10_due : GoodIn wsX10_readGo (wsV RX10 138 RX10 yX10_due wsX10_due) := goodIn_app (goodIn_of _ (by decide +kernel)) ggX10_readGo_X10_due
theorem dX10_readGo_0 : decode cX10_readGo 0 = .ok (.aload_n 0, 1) := by decide +kernel
theorem dX10_readGo_1 : decode cX10_readGo 1 = .ok (.getfield 33, 3) := by decide +kernel
theorem dX10_readGo_4 : decode cX10_readGo 4 = .ok (.aload_n 0, 1) := by decide +kernel
theorem dX10_readGo_5 : decode cX10_readGo 5 = .ok (.getfield 146, 3) := by decide +kernel
theorem dX10_readGo_8 : decode cX10_readGo 8 = .ok (.aload_n 0, 1) := by decide +kernel
theorem dX10_readGo_9 : decode cX10_readGo 9 = .ok (.aload_n 0, 1) := by decide +kernel
theorem dX10_readGo_10 : decode cX10_readGo 10 = .ok (.getfield 146, 3) := by decide +kernel
theorem dX10_readGo_13 : decode cX10_readGo 13 = .ok (.ifCond .ne 7, 3) := by decide +kernel
theorem dX10_readGo_16 : decode cX10_readGo 16 = .ok (.iconst 0, 1) := by decide +kernel
theorem dX10_readGo_17 : decode cX10_readGo 17 = .ok (.goto 14, 3) := by decide +kernel
theorem dX10_readGo_20 : decode cX10_readGo 20 = .ok (.aload_n 0, 1) := by decide +kernel
theorem dX10_readGo_21 : decode cX10_readGo 21 = .ok (.getfield 33, 3) := by decide +kernel
theorem dX10_readGo_24 : decode cX10_readGo 24 = .ok (.aload_n 0, 1) := by decide +kernel
theorem dX10_readGo_25 : decode cX10_readGo 25 = .ok (.getfield 146, 3) := by decide +kernel
theorem dX10_readGo_28 : decode cX10_readGo 28 = .ok (.iconst 1, 1) := by decide +kernel
theorem dX10_readGo_29 : decode cX10_readGo 29 = .ok (.isub, 1) := by decide +kernel
theorem dX10_readGo_30 : decode cX10_readGo 30 = .ok (.iaload, 1) := by decide +kernel
theorem dX10_readGo_31 : decode cX10_readGo 31 = .ok (.bipush 23, 2) := by decide +kernel
theorem dX10_readGo_33 : decode cX10_readGo 33 = .ok (.invokevirtual 142, 3) := by decide +kernel
theorem dX10_readGo_36 : decode cX10_readGo 36 = .ok (.iastore, 1) := by decide +kernel
theorem dX10_readGo_37 : decode cX10_readGo 37 = .ok (.aload_n 0, 1) := by decide +kernel
theorem dX10_readGo_38 : decode cX10_readGo 38 = .ok (.getfield 36, 3) := by decide +kernel
theorem dX10_readGo_41 : decode cX10_readGo 41 = .ok (.aload_n 0, 1) := by decide +kernel
theorem dX10_readGo_42 : decode cX10_readGo 42 = .ok (.getfield 146, 3) := by decide +kernel
theorem dX10_readGo_45 : decode cX10_readGo 45 = .ok (.aload_n 0, 1) := by decide +kernel
theorem dX10_readGo_46 : decode cX10_readGo 46 = .ok (.iconst 0, 1) := by decide +kernel
theorem dX10_readGo_47 : decode cX10_readGo 47 = .ok (.iconst 3, 1) := by decide +kernel
theorem dX10_readGo_48 : decode cX10_readGo 48 = .ok (.invokevirtual 142, 3) := by decide +kernel
theorem dX10_readGo_51 : decode cX10_readGo 51 = .ok (.iastore, 1) := by decide +kernel
theorem dX10_readGo_52 : decode cX10_readGo 52 = .ok (.aload_n 0, 1) := by decide +kernel
theorem dX10_readGo_53 : decode cX10_readGo 53 = .ok (.getfield 39, 3) := by decide +kernel
theorem dX10_readGo_56 : decode cX10_readGo 56 = .ok (.aload_n 0, 1) := by decide +kernel
theorem dX10_readGo_57 : decode cX10_readGo 57 = .ok (.getfield 146, 3) := by decide +kernel
theorem dX10_readGo_60 : decode cX10_readGo 60 = .ok (.aload_n 0, 1) := by decide +kernel
theorem dX10_readGo_61 : decode cX10_readGo 61 = .ok (.iconst 0, 1) := by decide +kernel
theorem dX10_readGo_62 : decode cX10_readGo 62 = .ok (.iconst 3, 1) := by decide +kernel
theorem dX10_readGo_63 : decode cX10_readGo 63 = .ok (.invokevirtual 142, 3) := by decide +kernel
theorem dX10_readGo_66 : decode cX10_readGo 66 = .ok (.iastore, 1) := by decide +kernel
theorem dX10_readGo_67 : decode cX10_readGo 67 = .ok (.iconst 0, 1) := by decide +kernel
theorem dX10_readGo_68 : decode cX10_readGo 68 = .ok (.istore_n 1, 1) := by decide +kernel
theorem dX10_readGo_69 : decode cX10_readGo 69 = .ok (.aload_n 0, 1) := by decide +kernel
theorem dX10_readGo_70 : decode cX10_readGo 70 = .ok (.getfield 132, 3) := by decide +kernel
theorem dX10_readGo_73 : decode cX10_readGo 73 = .ok (.iconst (-1), 1) := by decide +kernel
theorem dX10_readGo_74 : decode cX10_readGo 74 = .ok (.if_icmp .ne 84, 3) := by decide +kernel
theorem dX10_readGo_77 : decode cX10_readGo 77 = .ok (.iload_n 1, 1) := by decide +kernel
theorem dX10_readGo_78 : decode cX10_readGo 78 = .ok (.ifCond .eq 11, 3) := by decide +kernel
theorem dX10_readGo_81 : decode cX10_readGo 81 = .ok (.aload_n 0, 1) := by decide +kernel
theorem dX10_readGo_82 : decode cX10_readGo 82 = .ok (.getfield 129, 3) := by decide +kernel
theorem dX10_readGo_85 : decode cX10_readGo 85 = .ok (.iconst 5, 1) := by decide +kernel
theorem dX10_readGo_86 : decode cX10_readGo 86 = .ok (.if_icmp .eq 72, 3) := by decide +kernel
theorem dX10_readGo_89 : decode cX10_readGo 89 = .ok (.aload_n 0, 1) := by decide +kernel
theorem dX10_readGo_90 : decode cX10_readGo 90 = .ok (.getfield 129, 3) := by decide +kernel
theorem dX10_readGo_93 : decode cX10_readGo 93 = .ok (.iconst 4, 1) := by decide +kernel
theorem dX10_readGo_94 : decode cX10_readGo 94 = .ok (.if_icmp .ne 35, 3) := by decide +kernel
theorem dX10_readGo_97 : decode cX10_readGo 97 = .ok (.aload_n 0, 1) := by decide +kernel
theorem dX10_readGo_98 : decode cX10_readGo 98 = .ok (.getfield 126, 3) := by decide +kernel
theorem dX10_readGo_101 : decode cX10_readGo 101 = .ok (.iconst 0, 1) := by decide +kernel
theorem dX10_readGo_102 : decode cX10_readGo 102 = .ok (.aload_n 0, 1) := by decide +kernel
theorem dX10_readGo_103 : decode cX10_readGo 103 = .ok (.getfield 149, 3) := by decide +kernel
theorem dX10_readGo_106 : decode cX10_readGo 106 = .ok (.iconst 1, 1) := by decide +kernel
theorem dX10_readGo_107 : decode cX10_readGo 107 = .ok (.isub, 1) := by decide +kernel
theorem dX10_readGo_108 : decode cX10_readGo 108 = .ok (.invokestatic 95, 3) := by decide +kernel
theorem dX10_readGo_111 : decode cX10_readGo 111 = .ok (.ifCond .eq 18, 3) := by decide +kernel
theorem dX10_readGo_114 : decode cX10_readGo 114 = .ok (.iload_n 1, 1) := by decide +kernel
theorem dX10_readGo_115 : decode cX10_readGo 115 = .ok (.aload_n 0, 1) := by decide +kernel
theorem dX10_readGo_116 : decode cX10_readGo 116 = .ok (.getfield 126, 3) := by decide +kernel
theorem dX10_readGo_119 : decode cX10_readGo 119 = .ok (.ishr, 1) := by decide +kernel
theorem dX10_readGo_120 : decode cX10_readGo 120 = .ok (.iconst 1, 1) := by decide +kernel
theorem dX10_readGo_121 : decode cX10_readGo 121 = .ok (.iand, 1) := by decide +kernel
theorem dX10_readGo_122 : decode cX10_readGo 122 = .ok (.ifCond .ne 7, 3) := by decide +kernel
theorem dX10_readGo_125 : decode cX10_readGo 125 = .ok (.iconst 1, 1) := by decide +kernel
theorem dX10_readGo_126 : decode cX10_readGo 126 = .ok (.goto 4, 3) := by decide +kernel
theorem dX10_readGo_129 : decode cX10_readGo 129 = .ok (.iconst 0, 1) := by decide +kernel
theorem dX10_readGo_130 : decode cX10_readGo 130 = .ok (.istore_n 2, 1) := by decide +kernel
theorem dX10_readGo_131 : decode cX10_readGo 131 = .ok (.aload_n 0, 1) := by decide +kernel
theorem dX10_readGo_132 : decode cX10_readGo 132 = .ok (.iload_n 2, 1) := by decide +kernel
theorem dX10_readGo_133 : decode cX10_readGo 133 = .ok (.invokevirtual 138, 3) := by decide +kernel
theorem dX10_readGo_136 : decode cX10_readGo 136 = .ok (.istore_n 3, 1) := by decide +kernel
theorem dX10_readGo_137 : decode cX10_readGo 137 = .ok (.iload_n 1, 1) := by decide +kernel
theorem dX10_readGo_138 : decode cX10_readGo 138 = .ok (.aload_n 0, 1) := by decide +kernel
theorem dX10_readGo_139 : decode cX10_readGo 139 = .ok (.getfield 132, 3) := by decide +kernel
theorem dX10_readGo_142 : decode cX10_readGo 142 = .ok (.iconst (-1), 1) := by decide +kernel
theorem dX10_readGo_143 : decode cX10_readGo 143 = .ok (.if_icmp .ne 9, 3) := by decide +kernel
theorem dX10_readGo_146 : decode cX10_readGo 146 = .ok (.iconst 1, 1) := by decide +kernel
theorem dX10_readGo_147 : decode cX10_readGo 147 = .ok (.iload_n 3, 1) := by decide +kernel
theorem dX10_readGo_148 : decode cX10_readGo 148 = .ok (.ishl, 1) := by decide +kernel
theorem dX10_readGo_149 : decode cX10_readGo 149 = .ok (.goto 4, 3) := by decide +kernel
theorem dX10_readGo_152 : decode cX10_readGo 152 = .ok (.iconst 0, 1) := by decide +kernel
theorem dX10_readGo_153 : decode cX10_readGo 153 = .ok (.ior, 1) := by decide +kernel
theorem dX10_readGo_154 : decode cX10_readGo 154 = .ok (.istore_n 1, 1) := by decide +kernel
theorem dX10_readGo_155 : decode cX10_readGo 155 = .ok (.goto (-86), 3) := by decide +kernel
theorem dX10_readGo_158 : decode cX10_readGo 158 = .ok (.aload_n 0, 1) := by decide +kernel
theorem dX10_readGo_159 : decode cX10_readGo 159 = .ok (.getfield 42, 3) := by decide +kernel
theorem dX10_readGo_162 : decode cX10_readGo 162 = .ok (.aload_n 0, 1) := by decide +kernel
theorem dX10_readGo_163 : decode cX10_readGo 163 = .ok (.getfield 146, 3) := by decide +kernel
theorem dX10_readGo_166 : decode cX10_readGo 166 = .ok (.iload_n 1, 1) := by decide +kernel
theorem dX10_readGo_167 : decode cX10_readGo 167 = .ok (.iastore, 1) := by decide +kernel
theorem dX10_readGo_168 : decode cX10_readGo 168 = .ok (.aload_n 0, 1) := by decide +kernel
theorem dX10_readGo_169 : decode cX10_readGo 169 = .ok (.dup, 1) := by decide +kernel
theorem dX10_readGo_170 : decode cX10_readGo 170 = .ok (.getfield 146, 3) := by decide +kernel
theorem dX10_readGo_173 : decode cX10_readGo 173 = .ok (.iconst 1, 1) := by decide +kernel
theorem dX10_readGo_174 : decode cX10_readGo 174 = .ok (.iadd, 1) := by decide +kernel
theorem dX10_readGo_175 : decode cX10_readGo 175 = .ok (.putfield 146, 3) := by decide +kernel
theorem dX10_readGo_178 : decode cX10_readGo 178 = .ok (.return_, 1) := by decide +kernel
set_option maxRecDepth 20000 in
theorem ggX10_readItem_X10_due : GoodIn wsX10_readItem wsX10_due := goodIn_r _ [11, 12, 4, 13, 14, 15, 16, 10, 17, 18, 1, 19, 20, 21, 22, 23, 24, 25, 26, 44, 45, 46, 47, 48, 49, 50, 51, 52, 53, 54, 55, 56, 57, 58, 59, 60, 61, 62, 63, 64, 65, 66, 67, 68, 69, 70, 71, 72, 73, 74, 75, 76] (by decide +kernel) (by decide +kernel)
set_option maxRecDepth 20000 in
theorem gX10_readItem_X10_due : GoodIn wsX10_readItem (wsV RX10 138 RX10 yX10_due wsX10_due) := goodIn_app (goodIn_of _ (by decide +kernel)) ggX10_readItem_X10_due
set_option maxRecDepth 20000 in
theorem ggX10_readItem_X10_readWay : GoodIn wsX10_readItem wsX10_readWay := goodIn_r _ [30, 4, 1, 12, 31, 32, 33, 34, 10, 35, 24, 25, 26, 7, 8, 9, 11, 13, 14, 15, 16, 17, 18, 19, 20, 21, 22, 23, 44, 45, 46, 47, 48, 49, 50, 51, 52, 53, 54, 55, 56, 57, 58, 59, 60, 61, 62, 63, 64, 65, 66, 67, 68, 69, 70, 71, 72, 73, 74, 75, 76] (by decide +kernel) (by decide +kernel)
set_option maxRecDepth 20000 in
theorem gX10_readItem_X10_readWay : GoodIn wsX10_readItem (wsV RX10 152 RX10 yX10_readWay wsX10_readWay) := goodIn_app (goodIn_of _ (by decide +kernel)) ggX10_readItem_X10_readWay
set_option maxRecDepth 20000 in
theorem ggX10_readItem_X10_number : GoodIn wsX10_readItem wsX10_number := goodIn_r _ [35, 1, 12, 24, 25, 10, 26, 7, 8, 9, 11, 4, 13, 14, 15, 16, 17, 18, 19, 20, 21, 22, 23, 44, 45, 46, 47, 48, 49, 50, 51, 52, 53, 54, 55, 56, 57, 58, 59, 60, 61, 62, 63, 64, 65, 66, 67, 68, 69, 70, 71, 72, 73, 74, 75, 76] (by decide +kernel) (by decide +kernel)
set_option maxRecDepth 20000 in
theorem gX10_readItem_X10_number : GoodIn wsX10_readItem (wsV RX10 142 RX10 yX10_number wsX10_number) := goodIn_app (goodIn_of _ (by decide +kernel)) ggX10_readItem_X10_number
set_option maxRecDepth 20000 in
theorem ggX10_readItem_X10_readGo : GoodIn wsX10_readItem wsX10_readGo := goodIn_r _ [39, 40, 3, 41, 42, 4, 1, 12, 2, 43, 32, 33, 34, 10, 35, 24, 25, 26, 7, 8, 9, 11, 13, 14, 15, 16, 17, 18, 19, 20, 21, 22, 23, 44, 45, 46, 47, 48, 49, 50, 51, 52, 53, 54, 55, 56, 57, 58, 59, 60, 61, 62, 63, 64, 65, 66, 67, 68, 69, 70, 71, 72, 73, 74, 75, 76] (by decide +kernel) (by decide +kernel)
set_option maxRecDepth 20000 in
theorem gX10_readItem_X10_readGo : GoodIn wsX10_readItem (wsV RX10 155 RX10 yX10_readGo wsX10_readGo) := goodIn_app (goodIn_of _ (by decide +kernel)) ggX10_readItem_X10_readGo
theorem dX10_readItem_0 : decode cX10_readItem 0 = .ok (.aload_n 0, 1) := by decide +kernel
theorem dX10_readItem_1 : decode cX10_readItem 1 = .ok (.getfield 129, 3) := by decide +kernel
theorem dX10_readItem_4 : decode cX10_readItem 4 = .ok (.istore_n 1, 1) := by decide +kernel
theorem dX10_readItem_5 : decode cX10_readItem 5 = .ok (.aload_n 0, 1) := by decide +kernel
theorem dX10_readItem_6 : decode cX10_readItem 6 = .ok (.iload_n 1, 1) := by decide +kernel
theorem dX10_readItem_7 : decode cX10_readItem 7 = .ok (.ifCond .eq 30, 3) := by decide +kernel
theorem dX10_readItem_10 : decode cX10_readItem 10 = .ok (.iload_n 1, 1) := by decide +kernel
theorem dX10_readItem_11 : decode cX10_readItem 11 = .ok (.iconst 1, 1) := by decide +kernel
theorem dX10_readItem_12 : decode cX10_readItem 12 = .ok (.if_icmp .ne 11, 3) := by decide +kernel
theorem dX10_readItem_15 : decode cX10_readItem 15 = .ok (.aload_n 0, 1) := by decide +kernel
theorem dX10_readItem_16 : decode cX10_readItem 16 = .ok (.getfield 149, 3) := by decide +kernel
theorem dX10_readItem_19 : decode cX10_readItem 19 = .ok (.iconst 5, 1) := by decide +kernel
theorem dX10_readItem_20 : decode cX10_readItem 20 = .ok (.if_icmp .lt 17, 3) := by decide +kernel
theorem dX10_readItem_23 : decode cX10_readItem 23 = .ok (.iload_n 1, 1) := by decide +kernel
theorem dX10_readItem_24 : decode cX10_readItem 24 = .ok (.iconst 2, 1) := by decide +kernel
theorem dX10_readItem_25 : decode cX10_readItem 25 = .ok (.if_icmp .ne 16, 3) := by decide +kernel
theorem dX10_readItem_28 : decode cX10_readItem 28 = .ok (.aload_n 0, 1) := by decide +kernel
theorem dX10_readItem_29 : decode cX10_readItem 29 = .ok (.getfield 146, 3) := by decide +kernel
theorem dX10_readItem_32 : decode cX10_readItem 32 = .ok (.bipush 24, 2) := by decide +kernel
theorem dX10_readItem_34 : decode cX10_readItem 34 = .ok (.if_icmp .ge 7, 3) := by decide +kernel
theorem dX10_readItem_37 : decode cX10_readItem 37 = .ok (.iconst 1, 1) := by decide +kernel
theorem dX10_readItem_38 : decode cX10_readItem 38 = .ok (.goto 4, 3) := by decide +kernel
theorem dX10_readItem_41 : decode cX10_readItem 41 = .ok (.iconst 0, 1) := by decide +kernel
theorem dX10_readItem_42 : decode cX10_readItem 42 = .ok (.invokevirtual 138, 3) := by decide +kernel
theorem dX10_readItem_45 : decode cX10_readItem 45 = .ok (.pop, 1) := by decide +kernel
theorem dX10_readItem_46 : decode cX10_readItem 46 = .ok (.aload_n 0, 1) := by decide +kernel
theorem dX10_readItem_47 : decode cX10_readItem 47 = .ok (.getfield 132, 3) := by decide +kernel
theorem dX10_readItem_50 : decode cX10_readItem 50 = .ok (.iconst (-1), 1) := by decide +kernel
theorem dX10_readItem_51 : decode cX10_readItem 51 = .ok (.if_icmp .eq 4, 3) := by decide +kernel
theorem dX10_readItem_54 : decode cX10_readItem 54 = .ok (.return_, 1) := by decide +kernel
theorem dX10_readItem_55 : decode cX10_readItem 55 = .ok (.iload_n 1, 1) := by decide +kernel
theorem dX10_readItem_56 : decode cX10_readItem 56 = .ok (.ifCond .ne 10, 3) := by decide +kernel
theorem dX10_readItem_59 : decode cX10_readItem 59 = .ok (.aload_n 0, 1) := by decide +kernel
theorem dX10_readItem_60 : decode cX10_readItem 60 = .ok (.invokevirtual 152, 3) := by decide +kernel
theorem dX10_readItem_63 : decode cX10_readItem 63 = .ok (.goto 55, 3) := by decide +kernel
theorem dX10_readItem_66 : decode cX10_readItem 66 = .ok (.iload_n 1, 1) := by decide +kernel
theorem dX10_readItem_67 : decode cX10_readItem 67 = .ok (.iconst 1, 1) := by decide +kernel
theorem dX10_readItem_68 : decode cX10_readItem 68 = .ok (.if_icmp .ne 46, 3) := by decide +kernel
theorem dX10_readItem_71 : decode cX10_readItem 71 = .ok (.aload_n 0, 1) := by decide +kernel
theorem dX10_readItem_72 : decode cX10_readItem 72 = .ok (.getfield 27, 3) := by decide +kernel
theorem dX10_readItem_75 : decode cX10_readItem 75 = .ok (.aload_n 0, 1) := by decide +kernel
theorem dX10_readItem_76 : decode cX10_readItem 76 = .ok (.getfield 149, 3) := by decide +kernel
theorem dX10_readItem_79 : decode cX10_readItem 79 = .ok (.aload_n 0, 1) := by decide +kernel
theorem dX10_readItem_80 : decode cX10_readItem 80 = .ok (.iconst 0, 1) := by decide +kernel
theorem dX10_readItem_81 : decode cX10_readItem 81 = .ok (.iconst 3, 1) := by decide +kernel
theorem dX10_readItem_82 : decode cX10_readItem 82 = .ok (.invokevirtual 142, 3) := by decide +kernel
theorem dX10_readItem_85 : decode cX10_readItem 85 = .ok (.iastore, 1) := by decide +kernel
theorem dX10_readItem_86 : decode cX10_readItem 86 = .ok (.aload_n 0, 1) := by decide +kernel
theorem dX10_readItem_87 : decode cX10_readItem 87 = .ok (.getfield 30, 3) := by decide +kernel
theorem dX10_readItem_90 : decode cX10_readItem 90 = .ok (.aload_n 0, 1) := by decide +kernel
theorem dX10_readItem_91 : decode cX10_readItem 91 = .ok (.getfield 149, 3) := by decide +kernel
theorem dX10_readItem_94 : decode cX10_readItem 94 = .ok (.aload_n 0, 1) := by decide +kernel
theorem dX10_readItem_95 : decode cX10_readItem 95 = .ok (.iconst 0, 1) := by decide +kernel
theorem dX10_readItem_96 : decode cX10_readItem 96 = .ok (.iconst 3, 1) := by decide +kernel
theorem dX10_readItem_97 : decode cX10_readItem 97 = .ok (.invokevirtual 142, 3) := by decide +kernel
theorem dX10_readItem_100 : decode cX10_readItem 100 = .ok (.iastore, 1) := by decide +kernel
theorem dX10_readItem_101 : decode cX10_readItem 101 = .ok (.aload_n 0, 1) := by decide +kernel
theorem dX10_readItem_102 : decode cX10_readItem 102 = .ok (.dup, 1) := by decide +kernel
theorem dX10_readItem_103 : decode cX10_readItem 103 = .ok (.getfield 149, 3) := by decide +kernel
theorem dX10_readItem_106 : decode cX10_readItem 106 = .ok (.iconst 1, 1) := by decide +kernel
theorem dX10_readItem_107 : decode cX10_readItem 107 = .ok (.iadd, 1) := by decide +kernel
theorem dX10_readItem_108 : decode cX10_readItem 108 = .ok (.putfield 149, 3) := by decide +kernel
theorem dX10_readItem_111 : decode cX10_readItem 111 = .ok (.goto 7, 3) := by decide +kernel
theorem dX10_readItem_114 : decode cX10_readItem 114 = .ok (.aload_n 0, 1) := by decide +kernel
theorem dX10_readItem_115 : decode cX10_readItem 115 = .ok (.invokevirtual 155, 3) := by decide +kernel
theorem dX10_readItem_118 : decode cX10_readItem 118 = .ok (.aload_n 0, 1) := by decide +kernel
theorem dX10_readItem_119 : decode cX10_readItem 119 = .ok (.aload_n 0, 1) := by decide +kernel
theorem dX10_readItem_120 : decode cX10_readItem 120 = .ok (.getfield 129, 3) := by decide +kernel
theorem dX10_readItem_123 : decode cX10_readItem 123 = .ok (.iconst 5, 1) := by decide +kernel
theorem dX10_readItem_124 : decode cX10_readItem 124 = .ok (.if_icmp .ne 7, 3) := by decide +kernel
theorem dX10_readItem_127 : decode cX10_readItem 127 = .ok (.iconst 1, 1) := by decide +kernel
theorem dX10_readItem_128 : decode cX10_readItem 128 = .ok (.goto 4, 3) := by decide +kernel
theorem dX10_readItem_131 : decode cX10_readItem 131 = .ok (.iconst 0, 1) := by decide +kernel
theorem dX10_readItem_132 : decode cX10_readItem 132 = .ok (.invokevirtual 138, 3) := by decide +kernel
theorem dX10_readItem_135 : decode cX10_readItem 135 = .ok (.pop, 1) := by decide +kernel
theorem dX10_readItem_136 : decode cX10_readItem 136 = .ok (.return_, 1) := by decide +kernel
set_option maxRecDepth 20000 in
theorem ggX10_read_X10_next : GoodIn wsX10_read wsX10_next := goodIn_r _ [18, 1, 19, 20, 6, 21, 22, 23, 17, 24, 7, 25, 26, 27, 48, 49, 50, 51, 52, 53, 54, 55, 56, 57, 58, 59, 60, 61, 62, 63, 64, 65, 66, 67, 68, 69, 70, 71, 72, 73, 74, 75, 76, 77, 78, 79, 80] (by decide +kernel) (by decide +kernel)
set_option maxRecDepth 20000 in
theorem gX10_read_X10_next : GoodIn wsX10_read (wsV RX10 135 RX10 yX10_next wsX10_next) := goodIn_app (goodIn_of _ (by decide +kernel)) ggX10_read_X10_next
set_option maxRecDepth 20000 in
theorem ggX10_read_X10_readItem : GoodIn wsX10_read wsX10_readItem := goodIn_r _ [31, 6, 3, 4, 2, 8, 9, 32, 33, 34, 17, 35, 20, 19, 14, 15, 16, 18, 1, 21, 22, 23, 24, 7, 25, 26, 27, 36, 37, 38, 39, 5, 40, 41, 42, 43, 44, 45, 46, 47, 10, 11, 12, 13, 48, 49, 50, 51, 52, 53, 54, 55, 56, 57, 58, 59, 60, 61, 62, 63, 64, 65, 66, 67, 68, 69, 70, 71, 72, 73, 74, 75, 76, 77, 78, 79, 80] (by decide +kernel) (by decide +kernel)
set_option maxRecDepth 20000 in
theorem gX10_read_X10_readItem : GoodIn wsX10_read (wsV RX10 158 RX10 yX10_readItem wsX10_readItem) := goodIn_app (goodIn_of _ (by decide +kernel)) ggX10_read_X10_readItem
theorem dX10_read_0 : decode cX10_read 0 = .ok (.aload_n 0, 1) := by decide +kernel
theorem dX10_read_1 : decode cX10_read 1 = .ok (.iconst 0, 1) := by decide +kernel
theorem dX10_read_2 : decode cX10_read 2 = .ok (.putfield 116, 3) := by decide +kernel
theorem dX10_read_5 : decode cX10_read 5 = .ok (.aload_n 0, 1) := by decide +kernel
theorem dX10_read_6 : decode cX10_read 6 = .ok (.iconst (-1), 1) := by decide +kernel
theorem dX10_read_7 : decode cX10_read 7 = .ok (.putfield 132, 3) := by decide +kernel
theorem dX10_read_10 : decode cX10_read 10 = .ok (.aload_n 0, 1) := by decide +kernel
theorem dX10_read_11 : decode cX10_read 11 = .ok (.iconst 0, 1) := by decide +kernel
theorem dX10_read_12 : decode cX10_read 12 = .ok (.putfield 149, 3) := by decide +kernel
theorem dX10_read_15 : decode cX10_read 15 = .ok (.aload_n 0, 1) := by decide +kernel
theorem dX10_read_16 : decode cX10_read 16 = .ok (.iconst 0, 1) := by decide +kernel
theorem dX10_read_17 : decode cX10_read 17 = .ok (.putfield 146, 3) := by decide +kernel
theorem dX10_read_20 : decode cX10_read 20 = .ok (.iconst 0, 1) := by decide +kernel
theorem dX10_read_21 : decode cX10_read 21 = .ok (.istore_n 1, 1) := by decide +kernel
theorem dX10_read_22 : decode cX10_read 22 = .ok (.iload_n 1, 1) := by decide +kernel
theorem dX10_read_23 : decode cX10_read 23 = .ok (.bipush 16, 2) := by decide +kernel
theorem dX10_read_25 : decode cX10_read 25 = .ok (.if_icmp .ge 16, 3) := by decide +kernel
theorem dX10_read_28 : decode cX10_read 28 = .ok (.aload_n 0, 1) := by decide +kernel
theorem dX10_read_29 : decode cX10_read 29 = .ok (.getfield 24, 3) := by decide +kernel
theorem dX10_read_32 : decode cX10_read 32 = .ok (.iload_n 1, 1) := by decide +kernel
theorem dX10_read_33 : decode cX10_read 33 = .ok (.iconst 0, 1) := by decide +kernel
theorem dX10_read_34 : decode cX10_read 34 = .ok (.iastore, 1) := by decide +kernel
theorem dX10_read_35 : decode cX10_read 35 = .ok (.iinc 1 1, 3) := by decide +kernel
theorem dX10_read_38 : decode cX10_read 38 = .ok (.goto (-16), 3) := by decide +kernel
theorem dX10_read_41 : decode cX10_read 41 = .ok (.aload_n 0, 1) := by decide +kernel
theorem dX10_read_42 : decode cX10_read 42 = .ok (.invokevirtual 135, 3) := by decide +kernel
theorem dX10_read_45 : decode cX10_read 45 = .ok (.aload_n 0, 1) := by decide +kernel
theorem dX10_read_46 : decode cX10_read 46 = .ok (.getfield 132, 3) := by decide +kernel
theorem dX10_read_49 : decode cX10_read 49 = .ok (.iconst (-1), 1) := by decide +kernel
theorem dX10_read_50 : decode cX10_read 50 = .ok (.if_icmp .ne 18, 3) := by decide +kernel
theorem dX10_read_53 : decode cX10_read 53 = .ok (.aload_n 0, 1) := by decide +kernel
theorem dX10_read_54 : decode cX10_read 54 = .ok (.getfield 129, 3) := by decide +kernel
theorem dX10_read_57 : decode cX10_read 57 = .ok (.iconst 3, 1) := by decide +kernel
theorem dX10_read_58 : decode cX10_read 58 = .ok (.if_icmp .eq 10, 3) := by decide +kernel
theorem dX10_read_61 : decode cX10_read 61 = .ok (.aload_n 0, 1) := by decide +kernel
theorem dX10_read_62 : decode cX10_read 62 = .ok (.invokevirtual 158, 3) := by decide +kernel
theorem dX10_read_65 : decode cX10_read 65 = .ok (.goto (-20), 3) := by decide +kernel
theorem dX10_read_68 : decode cX10_read 68 = .ok (.aload_n 0, 1) := by decide +kernel
theorem dX10_read_69 : decode cX10_read 69 = .ok (.getfield 132, 3) := by decide +kernel
theorem dX10_read_72 : decode cX10_read 72 = .ok (.iconst (-1), 1) := by decide +kernel
theorem dX10_read_73 : decode cX10_read 73 = .ok (.if_icmp .eq 11, 3) := by decide +kernel
theorem dX10_read_76 : decode cX10_read 76 = .ok (.bipush (-10), 2) := by decide +kernel
theorem dX10_read_78 : decode cX10_read 78 = .ok (.aload_n 0, 1) := by decide +kernel
theorem dX10_read_79 : decode cX10_read 79 = .ok (.getfield 132, 3) := by decide +kernel
theorem dX10_read_82 : decode cX10_read 82 = .ok (.isub, 1) := by decide +kernel
theorem dX10_read_83 : decode cX10_read 83 = .ok (.ireturn, 1) := by decide +kernel
