theorem dX9_openTo_58 : decode cX9_openTo 58 = .ok (.ifCond .eq 25, 3) := by decide +kernel
theorem dX9_openTo_61 : decode cX9_openTo 61 = .ok (.aload_n 0, 1) := by decide +kernel
theorem dX9_openTo_62 : decode cX9_openTo 62 = .ok (.getfield 32, 3) := by decide +kernel
theorem dX9_openTo_65 : decode cX9_openTo 65 = .ok (.getfield 109, 3) := by decide +kernel
theorem dX9_openTo_68 : decode cX9_openTo 68 = .ok (.iload_n 1, 1) := by decide +kernel
theorem dX9_openTo_69 : decode cX9_openTo 69 = .ok (.iaload, 1) := by decide +kernel
theorem dX9_openTo_70 : decode cX9_openTo 70 = .ok (.iload_n 3, 1) := by decide +kernel
theorem dX9_openTo_71 : decode cX9_openTo 71 = .ok (.invokestatic 112, 3) := by decide +kernel
theorem dX9_openTo_74 : decode cX9_openTo 74 = .ok (.ifCond .eq 9, 3) := by decide +kernel
theorem dX9_openTo_77 : decode cX9_openTo 77 = .ok (.iload_n 2, 1) := by decide +kernel
theorem dX9_openTo_78 : decode cX9_openTo 78 = .ok (.iconst 1, 1) := by decide +kernel
theorem dX9_openTo_79 : decode cX9_openTo 79 = .ok (.iload_n 3, 1) := by decide +kernel
theorem dX9_openTo_80 : decode cX9_openTo 80 = .ok (.ishl, 1) := by decide +kernel
theorem dX9_openTo_81 : decode cX9_openTo 81 = .ok (.ior, 1) := by decide +kernel
theorem dX9_openTo_82 : decode cX9_openTo 82 = .ok (.istore_n 2, 1) := by decide +kernel
theorem dX9_openTo_83 : decode cX9_openTo 83 = .ok (.iinc 3 1, 3) := by decide +kernel
theorem dX9_openTo_86 : decode cX9_openTo 86 = .ok (.goto (-82), 3) := by decide +kernel
theorem dX9_openTo_89 : decode cX9_openTo 89 = .ok (.iload_n 2, 1) := by decide +kernel
theorem dX9_openTo_90 : decode cX9_openTo 90 = .ok (.ireturn, 1) := by decide +kernel
set_option maxRecDepth 20000 in
theorem ggX9_findSooner_X11_cell : GoodIn wsX9_findSooner wsX11_cell := goodIn_r _ [7] rfl (by decide +kernel)
set_option maxRecDepth 20000 in
theorem gX9_findSooner_X11_cell_n92 : GoodIn wsX9_findSooner (wsX11_cell) := ggX9_findSooner_X11_cell
set_option maxRecDepth 20000 in
theorem ggX9_findSooner_X11_has : GoodIn wsX9_findSooner wsX11_has := goodIn_r _ [9] rfl (by decide +kernel)
set_option maxRecDepth 20000 in
theorem gX9_findSooner_X11_has_n112 : GoodIn wsX9_findSooner (wsX11_has) := ggX9_findSooner_X11_has
theorem dX9_findSooner_0 : decode cX9_findSooner 0 = .ok (.iconst 0, 1) := by decide +kernel
theorem dX9_findSooner_1 : decode cX9_findSooner 1 = .ok (.istore_n 2, 1) := by decide +kernel
theorem dX9_findSooner_2 : decode cX9_findSooner 2 = .ok (.iload_n 2, 1) := by decide +kernel
theorem dX9_findSooner_3 : decode cX9_findSooner 3 = .ok (.aload_n 0, 1) := by decide +kernel
theorem dX9_findSooner_4 : decode cX9_findSooner 4 = .ok (.getfield 32, 3) := by decide +kernel
theorem dX9_findSooner_7 : decode cX9_findSooner 7 = .ok (.getfield 51, 3) := by decide +kernel
theorem dX9_findSooner_10 : decode cX9_findSooner 10 = .ok (.if_icmp .ge 100, 3) := by decide +kernel
theorem dX9_findSooner_13 : decode cX9_findSooner 13 = .ok (.aload_n 0, 1) := by decide +kernel
theorem dX9_findSooner_14 : decode cX9_findSooner 14 = .ok (.getfield 36, 3) := by decide +kernel
theorem dX9_findSooner_17 : decode cX9_findSooner 17 = .ok (.getfield 106, 3) := by decide +kernel
theorem dX9_findSooner_20 : decode cX9_findSooner 20 = .ok (.iload_n 1, 1) := by decide +kernel
theorem dX9_findSooner_21 : decode cX9_findSooner 21 = .ok (.iload_n 2, 1) := by decide +kernel
theorem dX9_findSooner_22 : decode cX9_findSooner 22 = .ok (.invokestatic 92, 3) := by decide +kernel
theorem dX9_findSooner_25 : decode cX9_findSooner 25 = .ok (.iaload, 1) := by decide +kernel
theorem dX9_findSooner_26 : decode cX9_findSooner 26 = .ok (.istore_n 3, 1) := by decide +kernel
theorem dX9_findSooner_27 : decode cX9_findSooner 27 = .ok (.iconst 0, 1) := by decide +kernel
theorem dX9_findSooner_28 : decode cX9_findSooner 28 = .ok (.istore 4, 2) := by decide +kernel
theorem dX9_findSooner_30 : decode cX9_findSooner 30 = .ok (.iconst 0, 1) := by decide +kernel
theorem dX9_findSooner_31 : decode cX9_findSooner 31 = .ok (.istore 5, 2) := by decide +kernel
theorem dX9_findSooner_33 : decode cX9_findSooner 33 = .ok (.iload 5, 2) := by decide +kernel
theorem dX9_findSooner_35 : decode cX9_findSooner 35 = .ok (.aload_n 0, 1) := by decide +kernel
theorem dX9_findSooner_36 : decode cX9_findSooner 36 = .ok (.getfield 32, 3) := by decide +kernel
theorem dX9_findSooner_39 : decode cX9_findSooner 39 = .ok (.getfield 51, 3) := by decide +kernel
theorem dX9_findSooner_42 : decode cX9_findSooner 42 = .ok (.if_icmp .ge 50, 3) := by decide +kernel
theorem dX9_findSooner_45 : decode cX9_findSooner 45 = .ok (.aload_n 0, 1) := by decide +kernel
theorem dX9_findSooner_46 : decode cX9_findSooner 46 = .ok (.getfield 15, 3) := by decide +kernel
theorem dX9_findSooner_49 : decode cX9_findSooner 49 = .ok (.iload_n 1, 1) := by decide +kernel
theorem dX9_findSooner_50 : decode cX9_findSooner 50 = .ok (.iaload, 1) := by decide +kernel
theorem dX9_findSooner_51 : decode cX9_findSooner 51 = .ok (.iload 5, 2) := by decide +kernel
theorem dX9_findSooner_53 : decode cX9_findSooner 53 = .ok (.invokestatic 112, 3) := by decide +kernel
theorem dX9_findSooner_56 : decode cX9_findSooner 56 = .ok (.ifCond .eq 30, 3) := by decide +kernel
theorem dX9_findSooner_59 : decode cX9_findSooner 59 = .ok (.aload_n 0, 1) := by decide +kernel
theorem dX9_findSooner_60 : decode cX9_findSooner 60 = .ok (.getfield 36, 3) := by decide +kernel
theorem dX9_findSooner_63 : decode cX9_findSooner 63 = .ok (.getfield 106, 3) := by decide +kernel
theorem dX9_findSooner_66 : decode cX9_findSooner 66 = .ok (.iload_n 1, 1) := by decide +kernel
theorem dX9_findSooner_67 : decode cX9_findSooner 67 = .ok (.iload 5, 2) := by decide +kernel
theorem dX9_findSooner_69 : decode cX9_findSooner 69 = .ok (.invokestatic 92, 3) := by decide +kernel
theorem dX9_findSooner_72 : decode cX9_findSooner 72 = .ok (.iaload, 1) := by decide +kernel
theorem dX9_findSooner_73 : decode cX9_findSooner 73 = .ok (.iload_n 3, 1) := by decide +kernel
theorem dX9_findSooner_74 : decode cX9_findSooner 74 = .ok (.if_icmp .ge 12, 3) := by decide +kernel
theorem dX9_findSooner_77 : decode cX9_findSooner 77 = .ok (.iload 4, 2) := by decide +kernel
theorem dX9_findSooner_79 : decode cX9_findSooner 79 = .ok (.iconst 1, 1) := by decide +kernel
theorem dX9_findSooner_80 : decode cX9_findSooner 80 = .ok (.iload 5, 2) := by decide +kernel
theorem dX9_findSooner_82 : decode cX9_findSooner 82 = .ok (.ishl, 1) := by decide +kernel
theorem dX9_findSooner_83 : decode cX9_findSooner 83 = .ok (.ior, 1) := by decide +kernel
theorem dX9_findSooner_84 : decode cX9_findSooner 84 = .ok (.istore 4, 2) := by decide +kernel
theorem dX9_findSooner_86 : decode cX9_findSooner 86 = .ok (.iinc 5 1, 3) := by decide +kernel
theorem dX9_findSooner_89 : decode cX9_findSooner 89 = .ok (.goto (-56), 3) := by decide +kernel
theorem dX9_findSooner_92 : decode cX9_findSooner 92 = .ok (.aload_n 0, 1) := by decide +kernel
theorem dX9_findSooner_93 : decode cX9_findSooner 93 = .ok (.getfield 19, 3) := by decide +kernel
theorem dX9_findSooner_96 : decode cX9_findSooner 96 = .ok (.iload_n 1, 1) := by decide +kernel
theorem dX9_findSooner_97 : decode cX9_findSooner 97 = .ok (.iload_n 2, 1) := by decide +kernel
theorem dX9_findSooner_98 : decode cX9_findSooner 98 = .ok (.invokestatic 92, 3) := by decide +kernel
theorem dX9_findSooner_101 : decode cX9_findSooner 101 = .ok (.iload 4, 2) := by decide +kernel
theorem dX9_findSooner_103 : decode cX9_findSooner 103 = .ok (.iastore, 1) := by decide +kernel
theorem dX9_findSooner_104 : decode cX9_findSooner 104 = .ok (.iinc 2 1, 3) := by decide +kernel
theorem dX9_findSooner_107 : decode cX9_findSooner 107 = .ok (.goto (-105), 3) := by decide +kernel
theorem dX9_findSooner_110 : decode cX9_findSooner 110 = .ok (.aload_n 0, 1) := by decide +kernel
theorem dX9_findSooner_111 : decode cX9_findSooner 111 = .ok (.getfield 19, 3) := by decide +kernel
theorem dX9_findSooner_114 : decode cX9_findSooner 114 = .ok (.iload_n 1, 1) := by decide +kernel
theorem dX9_findSooner_115 : decode cX9_findSooner 115 = .ok (.iload_n 1, 1) := by decide +kernel
theorem dX9_findSooner_116 : decode cX9_findSooner 116 = .ok (.invokestatic 92, 3) := by decide +kernel
theorem dX9_findSooner_119 : decode cX9_findSooner 119 = .ok (.aload_n 0, 1) := by decide +kernel
theorem dX9_findSooner_120 : decode cX9_findSooner 120 = .ok (.getfield 15, 3) := by decide +kernel
theorem dX9_findSooner_123 : decode cX9_findSooner 123 = .ok (.iload_n 1, 1) := by decide +kernel
theorem dX9_findSooner_124 : decode cX9_findSooner 124 = .ok (.iaload, 1) := by decide +kernel
theorem dX9_findSooner_125 : decode cX9_findSooner 125 = .ok (.iastore, 1) := by decide +kernel
theorem dX9_findSooner_126 : decode cX9_findSooner 126 = .ok (.return_, 1) := by decide +kernel
set_option maxRecDepth 20000 in
theorem ggX9_settle_X2_allNodes : GoodIn wsX9_settle wsX2_allNodes := goodIn_r _ [16, 17, 54, 55, 56, 57, 58, 59, 60, 61, 62] rfl (by decide +kernel)
set_option maxRecDepth 20000 in
theorem gX9_settle_X2_allNodes : GoodIn wsX9_settle (wsV RX9 116 RX2 yX2_allNodes wsX2_allNodes) := goodIn_app (goodIn_of _ (by decide +kernel)) ggX9_settle_X2_allNodes
set_option maxRecDepth 20000 in
theorem ggX9_settle_X11_leastNode : GoodIn wsX9_settle wsX11_leastNode := goodIn_r _ [20, 21, 22, 23, 24, 25, 26, 27] rfl (by decide +kernel)
set_option maxRecDepth 20000 in
theorem gX9_settle_X11_leastNode_n120 : GoodIn wsX9_settle (wsX11_leastNode) := ggX9_settle_X11_leastNode
set_option maxRecDepth 20000 in
theorem ggX9_settle_X11_cell : GoodIn wsX9_settle wsX11_cell := goodIn_r _ [29] rfl (by decide +kernel)
set_option maxRecDepth 20000 in
theorem gX9_settle_X11_cell_n92 : GoodIn wsX9_settle (wsX11_cell) := ggX9_settle_X11_cell
set_option maxRecDepth 20000 in
theorem ggX9_settle_X9_isTempted : GoodIn wsX9_settle wsX9_isTempted := goodIn_r _ [34, 8, 1, 35, 19, 36, 44, 45, 46, 47, 48, 49, 50, 51, 52, 53, 54, 55, 56, 57, 58, 59, 60, 61, 62] rfl (by decide +kernel)
set_option maxRecDepth 20000 in
theorem gX9_settle_X9_isTempted : GoodIn wsX9_settle (wsV RX9 123 RX9 yX9_isTempted wsX9_isTempted) := goodIn_app (goodIn_of _ (by decide +kernel)) ggX9_settle_X9_isTempted
set_option maxRecDepth 20000 in
theorem ggX9_settle_X9_settle : GoodIn wsX9_settle wsX9_settle := goodIn_r _ [0, 1, 2, 3, 4, 5, 6, 7, 8, 9, 10, 11, 12, 13, 14, 15, 16, 17, 18, 19, 20, 21, 22, 23, 24, 25, 26, 27, 28, 29, 30, 31, 32, 33, 34, 35, 36, 37, 38, 39, 40, 41, 42, 43, 44, 45, 46, 47, 48, 49, 50, 51, 52, 53, 54, 55, 56, 57, 58, 59, 60, 61, 62] rfl (by decide +kernel)
set_option maxRecDepth 20000 in
theorem gX9_settle_X9_settle : GoodIn wsX9_settle (wsV RX9 69 RX9 yX9_settle wsX9_settle) := goodIn_app (goodIn_of _ (by decide +kernel)) ggX9_settle_X9_settle
set_option maxRecDepth 20000 in
theorem ggX9_settle_X11_has : GoodIn wsX9_settle wsX11_has := goodIn_r _ [36] rfl (by decide +kernel)
set_option maxRecDepth 20000 in
theorem gX9_settle_X11_has_n112 : GoodIn wsX9_settle (wsX11_has) := ggX9_settle_X11_has
set_option maxRecDepth 20000 in
theorem ggX9_settle_X9_canPair : GoodIn wsX9_settle wsX9_canPair := goodIn_r _ [43, 8, 9, 28, 19, 29, 30, 31, 32, 33, 34, 1, 35, 36, 44, 45, 46, 47, 48, 49, 50, 51, 52, 53, 54, 55, 56, 57, 58, 59, 60, 61, 62] rfl (by decide +kernel)
set_option maxRecDepth 20000 in
theorem gX9_settle_X9_canPair : GoodIn wsX9_settle (wsV RX9 126 RX9 yX9_canPair wsX9_canPair) := goodIn_app (goodIn_of _ (by decide +kernel)) ggX9_settle_X9_canPair
theorem dX9_settle_0 : decode cX9_settle 0 = .ok (.aload_n 0, 1) := by decide +kernel
theorem dX9_settle_1 : decode cX9_settle 1 = .ok (.getfield 32, 3) := by decide +kernel
theorem dX9_settle_4 : decode cX9_settle 4 = .ok (.invokevirtual 116, 3) := by decide +kernel
theorem dX9_settle_7 : decode cX9_settle 7 = .ok (.iload_n 1, 1) := by decide +kernel
theorem dX9_settle_8 : decode cX9_settle 8 = .ok (.iconst (-1), 1) := by decide +kernel
theorem dX9_settle_9 : decode cX9_settle 9 = .ok (.ixor, 1) := by decide +kernel
theorem dX9_settle_10 : decode cX9_settle 10 = .ok (.iand, 1) := by decide +kernel
theorem dX9_settle_11 : decode cX9_settle 11 = .ok (.istore 5, 2) := by decide +kernel
theorem dX9_settle_13 : decode cX9_settle 13 = .ok (.iload 4, 2) := by decide +kernel
theorem dX9_settle_15 : decode cX9_settle 15 = .ok (.bipush 16, 2) := by decide +kernel
theorem dX9_settle_17 : decode cX9_settle 17 = .ok (.if_icmp .le 4, 3) := by decide +kernel
theorem dX9_settle_20 : decode cX9_settle 20 = .ok (.return_, 1) := by decide +kernel
theorem dX9_settle_21 : decode cX9_settle 21 = .ok (.iload 5, 2) := by decide +kernel
theorem dX9_settle_23 : decode cX9_settle 23 = .ok (.ifCond .ne 26, 3) := by decide +kernel
theorem dX9_settle_26 : decode cX9_settle 26 = .ok (.aload_n 0, 1) := by decide +kernel
theorem dX9_settle_27 : decode cX9_settle 27 = .ok (.dup, 1) := by decide +kernel
theorem dX9_settle_28 : decode cX9_settle 28 = .ok (.getfield 62, 3) := by decide +kernel
theorem dX9_settle_31 : decode cX9_settle 31 = .ok (.iconst 1, 1) := by decide +kernel
theorem dX9_settle_32 : decode cX9_settle 32 = .ok (.iadd, 1) := by decide +kernel
theorem dX9_settle_33 : decode cX9_settle 33 = .ok (.putfield 62, 3) := by decide +kernel
theorem dX9_settle_36 : decode cX9_settle 36 = .ok (.aload_n 0, 1) := by decide +kernel
theorem dX9_settle_37 : decode cX9_settle 37 = .ok (.aload_n 0, 1) := by decide +kernel
theorem dX9_settle_38 : decode cX9_settle 38 = .ok (.getfield 65, 3) := by decide +kernel
theorem dX9_settle_41 : decode cX9_settle 41 = .ok (.lload_n 2, 1) := by decide +kernel
theorem dX9_settle_42 : decode cX9_settle 42 = .ok (.invokestatic 100, 3) := by decide +kernel
theorem dX9_settle_45 : decode cX9_settle 45 = .ok (.putfield 65, 3) := by decide +kernel
theorem dX9_settle_48 : decode cX9_settle 48 = .ok (.return_, 1) := by decide +kernel
theorem dX9_settle_49 : decode cX9_settle 49 = .ok (.iload 5, 2) := by decide +kernel
theorem dX9_settle_51 : decode cX9_settle 51 = .ok (.invokestatic 120, 3) := by decide +kernel
theorem dX9_settle_54 : decode cX9_settle 54 = .ok (.istore 6, 2) := by decide +kernel
theorem dX9_settle_56 : decode cX9_settle 56 = .ok (.aload_n 0, 1) := by decide +kernel
theorem dX9_settle_57 : decode cX9_settle 57 = .ok (.getfield 22, 3) := by decide +kernel
theorem dX9_settle_60 : decode cX9_settle 60 = .ok (.iload 6, 2) := by decide +kernel
theorem dX9_settle_62 : decode cX9_settle 62 = .ok (.aload_n 0, 1) := by decide +kernel
theorem dX9_settle_63 : decode cX9_settle 63 = .ok (.getfield 19, 3) := by decide +kernel
theorem dX9_settle_66 : decode cX9_settle 66 = .ok (.iload 6, 2) := by decide +kernel
theorem dX9_settle_68 : decode cX9_settle 68 = .ok (.iload 6, 2) := by decide +kernel
theorem dX9_settle_70 : decode cX9_settle 70 = .ok (.invokestatic 92, 3) := by decide +kernel
theorem dX9_settle_73 : decode cX9_settle 73 = .ok (.iaload, 1) := by decide +kernel
theorem dX9_settle_74 : decode cX9_settle 74 = .ok (.iastore, 1) := by decide +kernel
theorem dX9_settle_75 : decode cX9_settle 75 = .ok (.aload_n 0, 1) := by decide +kernel
theorem dX9_settle_76 : decode cX9_settle 76 = .ok (.iload 6, 2) := by decide +kernel
theorem dX9_settle_78 : decode cX9_settle 78 = .ok (.iload_n 1, 1) := by decide +kernel
theorem dX9_settle_79 : decode cX9_settle 79 = .ok (.invokevirtual 123, 3) := by decide +kernel
theorem dX9_settle_82 : decode cX9_settle 82 = .ok (.ifCond .ne 18, 3) := by decide +kernel
theorem dX9_settle_85 : decode cX9_settle 85 = .ok (.aload_n 0, 1) := by decide +kernel
theorem dX9_settle_86 : decode cX9_settle 86 = .ok (.iload_n 1, 1) := by decide +kernel
theorem dX9_settle_87 : decode cX9_settle 87 = .ok (.iconst 1, 1) := by decide +kernel
theorem dX9_settle_88 : decode cX9_settle 88 = .ok (.iload 6, 2) := by decide +kernel
theorem dX9_settle_90 : decode cX9_settle 90 = .ok (.ishl, 1) := by decide +kernel
theorem dX9_settle_91 : decode cX9_settle 91 = .ok (.ior, 1) := by decide +kernel
theorem dX9_settle_92 : decode cX9_settle 92 = .ok (.lload_n 2, 1) := by decide +kernel
theorem dX9_settle_93 : decode cX9_settle 93 = .ok (.iload 4, 2) := by decide +kernel
theorem dX9_settle_95 : decode cX9_settle 95 = .ok (.iconst 1, 1) := by decide +kernel
theorem dX9_settle_96 : decode cX9_settle 96 = .ok (.iadd, 1) := by decide +kernel
theorem dX9_settle_97 : decode cX9_settle 97 = .ok (.invokevirtual 69, 3) := by decide +kernel
theorem dX9_settle_100 : decode cX9_settle 100 = .ok (.aload_n 0, 1) := by decide +kernel
theorem dX9_settle_101 : decode cX9_settle 101 = .ok (.getfield 15, 3) := by decide +kernel
theorem dX9_settle_104 : decode cX9_settle 104 = .ok (.iload 6, 2) := by decide +kernel
theorem dX9_settle_106 : decode cX9_settle 106 = .ok (.iaload, 1) := by decide +kernel
theorem dX9_settle_107 : decode cX9_settle 107 = .ok (.iload 5, 2) := by decide +kernel
theorem dX9_settle_109 : decode cX9_settle 109 = .ok (.iand, 1) := by decide +kernel
theorem dX9_settle_110 : decode cX9_settle 110 = .ok (.istore 7, 2) := by decide +kernel
theorem dX9_settle_112 : decode cX9_settle 112 = .ok (.iload 6, 2) := by decide +kernel
theorem dX9_settle_114 : decode cX9_settle 114 = .ok (.iconst 1, 1) := by decide +kernel
theorem dX9_settle_115 : decode cX9_settle 115 = .ok (.iadd, 1) := by decide +kernel
theorem dX9_settle_116 : decode cX9_settle 116 = .ok (.istore 8, 2) := by decide +kernel
theorem dX9_settle_118 : decode cX9_settle 118 = .ok (.iload 8, 2) := by decide +kernel
theorem dX9_settle_120 : decode cX9_settle 120 = .ok (.aload_n 0, 1) := by decide +kernel
theorem dX9_settle_121 : decode cX9_settle 121 = .ok (.getfield 32, 3) := by decide +kernel
theorem dX9_settle_124 : decode cX9_settle 124 = .ok (.getfield 51, 3) := by decide +kernel
theorem dX9_settle_127 : decode cX9_settle 127 = .ok (.if_icmp .ge 68, 3) := by decide +kernel
theorem dX9_settle_130 : decode cX9_settle 130 = .ok (.iload 7, 2) := by decide +kernel
theorem dX9_settle_132 : decode cX9_settle 132 = .ok (.iload 8, 2) := by decide +kernel
theorem dX9_settle_134 : decode cX9_settle 134 = .ok (.invokestatic 112, 3) := by decide +kernel
theorem dX9_settle_137 : decode cX9_settle 137 = .ok (.ifCond .eq 52, 3) := by decide +kernel
theorem dX9_settle_140 : decode cX9_settle 140 = .ok (.aload_n 0, 1) := by decide +kernel
theorem dX9_settle_141 : decode cX9_settle 141 = .ok (.iload 6, 2) := by decide +kernel
theorem dX9_settle_143 : decode cX9_settle 143 = .ok (.iload 8, 2) := by decide +kernel
theorem dX9_settle_145 : decode cX9_settle 145 = .ok (.iload_n 1, 1) := by decide +kernel
theorem dX9_settle_146 : decode cX9_settle 146 = .ok (.invokevirtual 126, 3) := by decide +kernel
theorem dX9_settle_149 : decode cX9_settle 149 = .ok (.ifCond .eq 40, 3) := by decide +kernel
theorem dX9_settle_152 : decode cX9_settle 152 = .ok (.iconst 1, 1) := by decide +kernel
theorem dX9_settle_153 : decode cX9_settle 153 = .ok (.iload 6, 2) := by decide +kernel
theorem dX9_settle_155 : decode cX9_settle 155 = .ok (.ishl, 1) := by decide +kernel
theorem dX9_settle_156 : decode cX9_settle 156 = .ok (.iconst 1, 1) := by decide +kernel
theorem dX9_settle_157 : decode cX9_settle 157 = .ok (.iload 8, 2) := by decide +kernel
theorem dX9_settle_159 : decode cX9_settle 159 = .ok (.ishl, 1) := by decide +kernel
theorem dX9_settle_160 : decode cX9_settle 160 = .ok (.ior, 1) := by decide +kernel
theorem dX9_settle_161 : decode cX9_settle 161 = .ok (.istore 9, 2) := by decide +kernel
theorem dX9_settle_163 : decode cX9_settle 163 = .ok (.aload_n 0, 1) := by decide +kernel
theorem dX9_settle_164 : decode cX9_settle 164 = .ok (.iload_n 1, 1) := by decide +kernel
theorem dX9_settle_165 : decode cX9_settle 165 = .ok (.iload 9, 2) := by decide +kernel
theorem dX9_settle_167 : decode cX9_settle 167 = .ok (.ior, 1) := by decide +kernel
theorem dX9_settle_168 : decode cX9_settle 168 = .ok (.lload_n 2, 1) := by decide +kernel
theorem dX9_settle_169 : decode cX9_settle 169 = .ok (.aload_n 0, 1) := by decide +kernel
theorem dX9_settle_170 : decode cX9_settle 170 = .ok (.getfield 9, 3) := by decide +kernel
theorem dX9_settle_173 : decode cX9_settle 173 = .ok (.iload 6, 2) := by decide +kernel
theorem dX9_settle_175 : decode cX9_settle 175 = .ok (.iload 8, 2) := by decide +kernel
theorem dX9_settle_177 : decode cX9_settle 177 = .ok (.invokestatic 92, 3) := by decide +kernel
theorem dX9_settle_180 : decode cX9_settle 180 = .ok (.laload, 1) := by decide +kernel
theorem dX9_settle_181 : decode cX9_settle 181 = .ok (.lor, 1) := by decide +kernel
theorem dX9_settle_182 : decode cX9_settle 182 = .ok (.iload 4, 2) := by decide +kernel
theorem dX9_settle_184 : decode cX9_settle 184 = .ok (.iconst 1, 1) := by decide +kernel
theorem dX9_settle_185 : decode cX9_settle 185 = .ok (.iadd, 1) := by decide +kernel
theorem dX9_settle_186 : decode cX9_settle 186 = .ok (.invokevirtual 69, 3) := by decide +kernel
theorem dX9_settle_189 : decode cX9_settle 189 = .ok (.iinc 8 1, 3) := by decide +kernel
theorem dX9_settle_192 : decode cX9_settle 192 = .ok (.goto (-74), 3) := by decide +kernel
theorem dX9_settle_195 : decode cX9_settle 195 = .ok (.return_, 1) := by decide +kernel
set_option maxRecDepth 20000 in
theorem ggX9_canPair_X11_cell : GoodIn wsX9_canPair wsX11_cell := goodIn_r _ [5] rfl (by decide +kernel)
set_option maxRecDepth 20000 in
theorem gX9_canPair_X11_cell_n92 : GoodIn wsX9_canPair (wsX11_cell) := ggX9_canPair_X11_cell
set_option maxRecDepth 20000 in
theorem ggX9_canPair_X9_isTempted : GoodIn wsX9_canPair wsX9_isTempted := goodIn_r _ [10, 1, 11, 12, 4, 13, 14, 15, 16, 17, 18, 19, 20, 21, 22, 23, 24, 25, 26, 27, 28, 29, 30, 31, 32] rfl (by decide +kernel)
set_option maxRecDepth 20000 in
theorem gX9_canPair_X9_isTempted : GoodIn wsX9_canPair (wsV RX9 123 RX9 yX9_isTempted wsX9_isTempted) := goodIn_app (goodIn_of _ (by decide +kernel)) ggX9_canPair_X9_isTempted
theorem dX9_canPair_0 : decode cX9_canPair 0 = .ok (.aload_n 0, 1) := by decide +kernel
theorem dX9_canPair_1 : decode cX9_canPair 1 = .ok (.getfield 22, 3) := by decide +kernel
theorem dX9_canPair_4 : decode cX9_canPair 4 = .ok (.iload_n 1, 1) := by decide +kernel
theorem dX9_canPair_5 : decode cX9_canPair 5 = .ok (.aload_n 0, 1) := by decide +kernel
theorem dX9_canPair_6 : decode cX9_canPair 6 = .ok (.getfield 19, 3) := by decide +kernel
theorem dX9_canPair_9 : decode cX9_canPair 9 = .ok (.iload_n 1, 1) := by decide +kernel
theorem dX9_canPair_10 : decode cX9_canPair 10 = .ok (.iload_n 2, 1) := by decide +kernel
theorem dX9_canPair_11 : decode cX9_canPair 11 = .ok (.invokestatic 92, 3) := by decide +kernel
theorem dX9_canPair_14 : decode cX9_canPair 14 = .ok (.iaload, 1) := by decide +kernel
theorem dX9_canPair_15 : decode cX9_canPair 15 = .ok (.iastore, 1) := by decide +kernel
theorem dX9_canPair_16 : decode cX9_canPair 16 = .ok (.aload_n 0, 1) := by decide +kernel
theorem dX9_canPair_17 : decode cX9_canPair 17 = .ok (.getfield 22, 3) := by decide +kernel
theorem dX9_canPair_20 : decode cX9_canPair 20 = .ok (.iload_n 2, 1) := by decide +kernel
theorem dX9_canPair_21 : decode cX9_canPair 21 = .ok (.aload_n 0, 1) := by decide +kernel
theorem dX9_canPair_22 : decode cX9_canPair 22 = .ok (.getfield 19, 3) := by decide +kernel
theorem dX9_canPair_25 : decode cX9_canPair 25 = .ok (.iload_n 2, 1) := by decide +kernel
theorem dX9_canPair_26 : decode cX9_canPair 26 = .ok (.iload_n 1, 1) := by decide +kernel
theorem dX9_canPair_27 : decode cX9_canPair 27 = .ok (.invokestatic 92, 3) := by decide +kernel
theorem dX9_canPair_30 : decode cX9_canPair 30 = .ok (.iaload, 1) := by decide +kernel
theorem dX9_canPair_31 : decode cX9_canPair 31 = .ok (.iastore, 1) := by decide +kernel
theorem dX9_canPair_32 : decode cX9_canPair 32 = .ok (.aload_n 0, 1) := by decide +kernel
theorem dX9_canPair_33 : decode cX9_canPair 33 = .ok (.iload_n 1, 1) := by decide +kernel
theorem dX9_canPair_34 : decode cX9_canPair 34 = .ok (.iload_n 3, 1) := by decide +kernel
theorem dX9_canPair_35 : decode cX9_canPair 35 = .ok (.invokevirtual 123, 3) := by decide +kernel
theorem dX9_canPair_38 : decode cX9_canPair 38 = .ok (.ifCond .ne 16, 3) := by decide +kernel
theorem dX9_canPair_41 : decode cX9_canPair 41 = .ok (.aload_n 0, 1) := by decide +kernel
theorem dX9_canPair_42 : decode cX9_canPair 42 = .ok (.iload_n 2, 1) := by decide +kernel
theorem dX9_canPair_43 : decode cX9_canPair 43 = .ok (.iload_n 3, 1) := by decide +kernel
theorem dX9_canPair_44 : decode cX9_canPair 44 = .ok (.invokevirtual 123, 3) := by decide +kernel
theorem dX9_canPair_47 : decode cX9_canPair 47 = .ok (.ifCond .ne 7, 3) := by decide +kernel
theorem dX9_canPair_50 : decode cX9_canPair 50 = .ok (.iconst 1, 1) := by decide +kernel
theorem dX9_canPair_51 : decode cX9_canPair 51 = .ok (.goto 4, 3) := by decide +kernel
theorem dX9_canPair_54 : decode cX9_canPair 54 = .ok (.iconst 0, 1) := by decide +kernel
theorem dX9_canPair_55 : decode cX9_canPair 55 = .ok (.ireturn, 1) := by decide +kernel
set_option maxRecDepth 20000 in
theorem ggX9_isTempted_X11_has : GoodIn wsX9_isTempted wsX11_has := goodIn_r _ [5] rfl (by decide +kernel)
set_option maxRecDepth 20000 in
theorem gX9_isTempted_X11_has_n112 : GoodIn wsX9_isTempted (wsX11_has) := ggX9_isTempted_X11_has
theorem dX9_isTempted_0 : decode cX9_isTempted 0 = .ok (.aload_n 0, 1) := by decide +kernel
theorem dX9_isTempted_1 : decode cX9_isTempted 1 = .ok (.getfield 22, 3) := by decide +kernel
theorem dX9_isTempted_4 : decode cX9_isTempted 4 = .ok (.iload_n 1, 1) := by decide +kernel
theorem dX9_isTempted_5 : decode cX9_isTempted 5 = .ok (.iaload, 1) := by decide +kernel
theorem dX9_isTempted_6 : decode cX9_isTempted 6 = .ok (.iload_n 2, 1) := by decide +kernel
theorem dX9_isTempted_7 : decode cX9_isTempted 7 = .ok (.iand, 1) := by decide +kernel
theorem dX9_isTempted_8 : decode cX9_isTempted 8 = .ok (.istore_n 3, 1) := by decide +kernel
theorem dX9_isTempted_9 : decode cX9_isTempted 9 = .ok (.iload_n 3, 1) := by decide +kernel
theorem dX9_isTempted_10 : decode cX9_isTempted 10 = .ok (.ifCond .ne 5, 3) := by decide +kernel
theorem dX9_isTempted_13 : decode cX9_isTempted 13 = .ok (.iconst 0, 1) := by decide +kernel
theorem dX9_isTempted_14 : decode cX9_isTempted 14 = .ok (.ireturn, 1) := by decide +kernel
theorem dX9_isTempted_15 : decode cX9_isTempted 15 = .ok (.iconst 0, 1) := by decide +kernel
theorem dX9_isTempted_16 : decode cX9_isTempted 16 = .ok (.istore 4, 2) := by decide +kernel
theorem dX9_isTempted_18 : decode cX9_isTempted 18 = .ok (.iload 4, 2) := by decide +kernel
theorem dX9_isTempted_20 : decode cX9_isTempted 20 = .ok (.aload_n 0, 1) := by decide +kernel
theorem dX9_isTempted_21 : decode cX9_isTempted 21 = .ok (.getfield 32, 3) := by decide +kernel
theorem dX9_isTempted_24 : decode cX9_isTempted 24 = .ok (.getfield 51, 3) := by decide +kernel
theorem dX9_isTempted_27 : decode cX9_isTempted 27 = .ok (.if_icmp .ge 34, 3) := by decide +kernel
theorem dX9_isTempted_30 : decode cX9_isTempted 30 = .ok (.iload_n 3, 1) := by decide +kernel
theorem dX9_isTempted_31 : decode cX9_isTempted 31 = .ok (.iload 4, 2) := by decide +kernel
theorem dX9_isTempted_33 : decode cX9_isTempted 33 = .ok (.invokestatic 112, 3) := by decide +kernel
theorem dX9_isTempted_36 : decode cX9_isTempted 36 = .ok (.ifCond .eq 19, 3) := by decide +kernel
theorem dX9_isTempted_39 : decode cX9_isTempted 39 = .ok (.aload_n 0, 1) := by decide +kernel
theorem dX9_isTempted_40 : decode cX9_isTempted 40 = .ok (.getfield 22, 3) := by decide +kernel
theorem dX9_isTempted_43 : decode cX9_isTempted 43 = .ok (.iload 4, 2) := by decide +kernel
theorem dX9_isTempted_45 : decode cX9_isTempted 45 = .ok (.iaload, 1) := by decide +kernel
theorem dX9_isTempted_46 : decode cX9_isTempted 46 = .ok (.iload_n 1, 1) := by decide +kernel
theorem dX9_isTempted_47 : decode cX9_isTempted 47 = .ok (.invokestatic 112, 3) := by decide +kernel
theorem dX9_isTempted_50 : decode cX9_isTempted 50 = .ok (.ifCond .eq 5, 3) := by decide +kernel
theorem dX9_isTempted_53 : decode cX9_isTempted 53 = .ok (.iconst 1, 1) := by decide +kernel
theorem dX9_isTempted_54 : decode cX9_isTempted 54 = .ok (.ireturn, 1) := by decide +kernel
theorem dX9_isTempted_55 : decode cX9_isTempted 55 = .ok (.iinc 4 1, 3) := by decide +kernel
theorem dX9_isTempted_58 : decode cX9_isTempted 58 = .ok (.goto (-40), 3) := by decide +kernel
theorem dX9_isTempted_61 : decode cX9_isTempted 61 = .ok (.iconst 0, 1) := by decide +kernel
theorem dX9_isTempted_62 : decode cX9_isTempted 62 = .ok (.ireturn, 1) := by decide +kernel
set_option maxRecDepth 20000 in
theorem ggX10_init_X0_init : GoodIn wsX10_init wsX0_init := goodIn_r _ [16, 17, 2, 3, 18, 19, 20, 21, 22, 23, 11, 24, 25, 26, 27, 28, 29, 30, 31, 32, 33, 34, 46, 47, 48, 49, 50, 51, 52, 35, 36, 37, 38, 39] rfl (by decide +kernel)
set_option maxRecDepth 20000 in
theorem gX10_init_X0_init_n11 : GoodIn wsX10_init (wsX0_init) := ggX10_init_X0_init
theorem dX10_init_0 : decode cX10_init 0 = .ok (.aload_n 0, 1) := by decide +kernel
theorem dX10_init_1 : decode cX10_init 1 = .ok (.invokespecial 3, 3) := by decide +kernel
theorem dX10_init_4 : decode cX10_init 4 = .ok (.aload_n 0, 1) := by decide +kernel
theorem dX10_init_5 : decode cX10_init 5 = .ok (.new 9, 3) := by decide +kernel
theorem dX10_init_8 : decode cX10_init 8 = .ok (.dup, 1) := by decide +kernel
theorem dX10_init_9 : decode cX10_init 9 = .ok (.invokespecial 11, 3) := by decide +kernel
theorem dX10_init_12 : decode cX10_init 12 = .ok (.putfield 12, 3) := by decide +kernel
theorem dX10_init_15 : decode cX10_init 15 = .ok (.aload_n 0, 1) := by decide +kernel
theorem dX10_init_16 : decode cX10_init 16 = .ok (.iconst 5, 1) := by decide +kernel
theorem dX10_init_17 : decode cX10_init 17 = .ok (.newarray .boolean, 2) := by decide +kernel
theorem dX10_init_19 : decode cX10_init 19 = .ok (.putfield 18, 3) := by decide +kernel
theorem dX10_init_22 : decode cX10_init 22 = .ok (.aload_n 0, 1) := by decide +kernel
theorem dX10_init_23 : decode cX10_init 23 = .ok (.iconst 5, 1) := by decide +kernel
theorem dX10_init_24 : decode cX10_init 24 = .ok (.newarray .boolean, 2) := by decide +kernel
theorem dX10_init_26 : decode cX10_init 26 = .ok (.putfield 22, 3) := by decide +kernel
theorem dX10_init_29 : decode cX10_init 29 = .ok (.aload_n 0, 1) := by decide +kernel
theorem dX10_init_30 : decode cX10_init 30 = .ok (.iconst 5, 1) := by decide +kernel
theorem dX10_init_31 : decode cX10_init 31 = .ok (.newarray .long, 2) := by decide +kernel
theorem dX10_init_33 : decode cX10_init 33 = .ok (.putfield 25, 3) := by decide +kernel
theorem dX10_init_36 : decode cX10_init 36 = .ok (.aload_n 0, 1) := by decide +kernel
theorem dX10_init_37 : decode cX10_init 37 = .ok (.iconst (-1), 1) := by decide +kernel
theorem dX10_init_38 : decode cX10_init 38 = .ok (.putfield 29, 3) := by decide +kernel
theorem dX10_init_41 : decode cX10_init 41 = .ok (.aload_n 0, 1) := by decide +kernel
theorem dX10_init_42 : decode cX10_init 42 = .ok (.aload_n 1, 1) := by decide +kernel
theorem dX10_init_43 : decode cX10_init 43 = .ok (.putfield 33, 3) := by decide +kernel
theorem dX10_init_46 : decode cX10_init 46 = .ok (.return_, 1) := by decide +kernel
set_option maxRecDepth 20000 in
theorem ggX10_refresh_X2_allNodes : GoodIn wsX10_refresh wsX2_allNodes := goodIn_r _ [9, 10, 64, 65, 66, 67, 68, 69, 70, 71, 72] rfl (by decide +kernel)
set_option maxRecDepth 20000 in
theorem gX10_refresh_X2_allNodes : GoodIn wsX10_refresh (wsV RX10 44 RX2 yX2_allNodes wsX2_allNodes) := goodIn_app (goodIn_of _ (by decide +kernel)) ggX10_refresh_X2_allNodes
set_option maxRecDepth 20000 in
theorem ggX10_refresh_X7_build : GoodIn wsX10_refresh wsX7_build := goodIn_r _ [15, 16, 17, 18, 19, 20, 14, 21, 22, 23, 24, 25, 26, 27, 28, 29, 30, 31, 32, 33, 34, 35, 36, 37, 38, 39, 40, 41, 42, 43, 44, 45, 46, 47, 48, 49, 50, 51, 52, 53, 54, 55, 56, 57, 78, 79, 80, 81, 82, 83, 84] rfl (by decide +kernel)
set_option maxRecDepth 20000 in
theorem gX10_refresh_X7_build : GoodIn wsX10_refresh (wsV RX10 52 RX7 yX7_build wsX7_build) := goodIn_app (goodIn_of _ (by decide +kernel)) ggX10_refresh_X7_build
theorem dX10_refresh_0 : decode cX10_refresh 0 = .ok (.aload_n 0, 1) := by decide +kernel
theorem dX10_refresh_1 : decode cX10_refresh 1 = .ok (.getfield 29, 3) := by decide +kernel
theorem dX10_refresh_4 : decode cX10_refresh 4 = .ok (.aload_n 0, 1) := by decide +kernel
theorem dX10_refresh_5 : decode cX10_refresh 5 = .ok (.getfield 33, 3) := by decide +kernel
theorem dX10_refresh_8 : decode cX10_refresh 8 = .ok (.getfield 37, 3) := by decide +kernel
theorem dX10_refresh_11 : decode cX10_refresh 11 = .ok (.if_icmp .eq 59, 3) := by decide +kernel
theorem dX10_refresh_14 : decode cX10_refresh 14 = .ok (.aload_n 0, 1) := by decide +kernel
theorem dX10_refresh_15 : decode cX10_refresh 15 = .ok (.aload_n 0, 1) := by decide +kernel
theorem dX10_refresh_16 : decode cX10_refresh 16 = .ok (.getfield 33, 3) := by decide +kernel
theorem dX10_refresh_19 : decode cX10_refresh 19 = .ok (.getfield 37, 3) := by decide +kernel
theorem dX10_refresh_22 : decode cX10_refresh 22 = .ok (.putfield 29, 3) := by decide +kernel
theorem dX10_refresh_25 : decode cX10_refresh 25 = .ok (.aload_n 0, 1) := by decide +kernel
theorem dX10_refresh_26 : decode cX10_refresh 26 = .ok (.getfield 12, 3) := by decide +kernel
theorem dX10_refresh_29 : decode cX10_refresh 29 = .ok (.getfield 40, 3) := by decide +kernel
theorem dX10_refresh_32 : decode cX10_refresh 32 = .ok (.aload_n 0, 1) := by decide +kernel
theorem dX10_refresh_33 : decode cX10_refresh 33 = .ok (.getfield 33, 3) := by decide +kernel
theorem dX10_refresh_36 : decode cX10_refresh 36 = .ok (.invokevirtual 44, 3) := by decide +kernel
theorem dX10_refresh_39 : decode cX10_refresh 39 = .ok (.aload_n 0, 1) := by decide +kernel
theorem dX10_refresh_40 : decode cX10_refresh 40 = .ok (.getfield 33, 3) := by decide +kernel
theorem dX10_refresh_43 : decode cX10_refresh 43 = .ok (.getfield 48, 3) := by decide +kernel
theorem dX10_refresh_46 : decode cX10_refresh 46 = .ok (.iconst 1, 1) := by decide +kernel
theorem dX10_refresh_47 : decode cX10_refresh 47 = .ok (.invokevirtual 52, 3) := by decide +kernel
theorem dX10_refresh_50 : decode cX10_refresh 50 = .ok (.iconst 0, 1) := by decide +kernel
theorem dX10_refresh_51 : decode cX10_refresh 51 = .ok (.istore_n 1, 1) := by decide +kernel
theorem dX10_refresh_52 : decode cX10_refresh 52 = .ok (.iload_n 1, 1) := by decide +kernel
theorem dX10_refresh_53 : decode cX10_refresh 53 = .ok (.iconst 4, 1) := by decide +kernel
theorem dX10_refresh_54 : decode cX10_refresh 54 = .ok (.if_icmp .gt 16, 3) := by decide +kernel
theorem dX10_refresh_57 : decode cX10_refresh 57 = .ok (.aload_n 0, 1) := by decide +kernel
theorem dX10_refresh_58 : decode cX10_refresh 58 = .ok (.getfield 18, 3) := by decide +kernel
theorem dX10_refresh_61 : decode cX10_refresh 61 = .ok (.iload_n 1, 1) := by decide +kernel
theorem dX10_refresh_62 : decode cX10_refresh 62 = .ok (.iconst 0, 1) := by decide +kernel
theorem dX10_refresh_63 : decode cX10_refresh 63 = .ok (.bastore, 1) := by decide +kernel
theorem dX10_refresh_64 : decode cX10_refresh 64 = .ok (.iinc 1 1, 3) := by decide +kernel
theorem dX10_refresh_67 : decode cX10_refresh 67 = .ok (.goto (-15), 3) := by decide +kernel
theorem dX10_refresh_70 : decode cX10_refresh 70 = .ok (.return_, 1) := by decide +kernel
set_option maxRecDepth 20000 in
theorem ggX10_exists_X10_learn : GoodIn wsX10_exists wsX10_learn := goodIn_r _ [6, 7, 8, 1, 9, 10, 11, 12, 5, 13, 14, 15, 16, 17, 18, 19, 20, 21, 22, 23, 24, 25, 26, 27, 28, 29, 30, 31, 32, 33, 34, 35, 36, 37, 38, 39, 40, 41, 42, 43, 44, 45, 46, 47, 48, 49, 50, 51, 52, 53, 54, 55, 56, 57, 58, 59, 60, 61, 62, 63, 64, 65, 66, 67, 68, 69, 70, 71, 72, 73, 74, 75, 76, 77, 78, 79, 80, 81, 82, 83, 84, 85, 86, 87, 88, 89, 90, 91, 92, 93, 94, 95, 96, 97, 98, 99, 100, 101, 102, 103, 104, 105, 106, 107, 108, 109, 110, 111, 112, 113, 114, 115, 116, 117, 118, 119, 120, 121, 122, 123, 124] rfl (by decide +kernel)
set_option maxRecDepth 20000 in
theorem gX10_exists_X10_learn : GoodIn wsX10_exists (wsV RX10 58 RX10 yX10_learn wsX10_learn) := goodIn_app (goodIn_of _ (by decide +kernel)) ggX10_exists_X10_learn
theorem dX10_exists_0 : decode cX10_exists 0 = .ok (.aload_n 0, 1) := by decide +kernel
theorem dX10_exists_1 : decode cX10_exists 1 = .ok (.iload_n 1, 1) := by decide +kernel
theorem dX10_exists_2 : decode cX10_exists 2 = .ok (.invokevirtual 58, 3) := by decide +kernel
theorem dX10_exists_5 : decode cX10_exists 5 = .ok (.aload_n 0, 1) := by decide +kernel
theorem dX10_exists_6 : decode cX10_exists 6 = .ok (.getfield 22, 3) := by decide +kernel
theorem dX10_exists_9 : decode cX10_exists 9 = .ok (.iload_n 1, 1) := by decide +kernel
theorem dX10_exists_10 : decode cX10_exists 10 = .ok (.baload, 1) := by decide +kernel
theorem dX10_exists_11 : decode cX10_exists 11 = .ok (.ireturn, 1) := by decide +kernel
set_option maxRecDepth 20000 in
theorem ggX10_chosen_X10_learn : GoodIn wsX10_chosen wsX10_learn := goodIn_r _ [6, 7, 8, 9, 1, 10, 11, 12, 5, 13, 14, 15, 16, 17, 18, 19, 20, 21, 22, 23, 24, 25, 26, 27, 28, 29, 30, 31, 32, 33, 34, 35, 36, 37, 38, 39, 40, 41, 42, 43, 44, 45, 46, 47, 48, 49, 50, 51, 52, 53, 54, 55, 56, 57, 58, 59, 60, 61, 62, 63, 64, 65, 66, 67, 68, 69, 70, 71, 72, 73, 74, 75, 76, 77, 78, 79, 80, 81, 82, 83, 84, 85, 86, 87, 88, 89, 90, 91, 92, 93, 94, 95, 96, 97, 98, 99, 100, 101, 102, 103, 104, 105, 106, 107, 108, 109, 110, 111, 112, 113, 114, 115, 116, 117, 118, 119, 120, 121, 122, 123, 124] rfl (by decide +kernel)
set_option maxRecDepth 20000 in
theorem gX10_chosen_X10_learn : GoodIn wsX10_chosen (wsV RX10 58 RX10 yX10_learn wsX10_learn) := goodIn_app (goodIn_of _ (by decide +kernel)) ggX10_chosen_X10_learn
theorem dX10_chosen_0 : decode cX10_chosen 0 = .ok (.aload_n 0, 1) := by decide +kernel
theorem dX10_chosen_1 : decode cX10_chosen 1 = .ok (.iload_n 1, 1) := by decide +kernel
theorem dX10_chosen_2 : decode cX10_chosen 2 = .ok (.invokevirtual 58, 3) := by decide +kernel
theorem dX10_chosen_5 : decode cX10_chosen 5 = .ok (.aload_n 0, 1) := by decide +kernel
theorem dX10_chosen_6 : decode cX10_chosen 6 = .ok (.getfield 25, 3) := by decide +kernel
theorem dX10_chosen_9 : decode cX10_chosen 9 = .ok (.iload_n 1, 1) := by decide +kernel
theorem dX10_chosen_10 : decode cX10_chosen 10 = .ok (.laload, 1) := by decide +kernel
theorem dX10_chosen_11 : decode cX10_chosen 11 = .ok (.lreturn, 1) := by decide +kernel
set_option maxRecDepth 20000 in
theorem ggX10_learn_X10_offerArcs : GoodIn wsX10_learn wsX10_offerArcs := goodIn_r _ [9, 2, 10, 11, 12, 13, 14, 15, 16, 17, 18, 19, 20, 21, 22, 23, 24, 25, 26, 27, 28, 29, 30, 31, 32, 33, 34, 35, 36, 37, 94, 95, 96, 97, 98, 99, 100, 101, 102, 103, 104, 105, 106, 107, 108, 109, 110, 111, 112, 113] rfl (by decide +kernel)
set_option maxRecDepth 20000 in
theorem gX10_learn_X10_offerArcs : GoodIn wsX10_learn (wsV RX10 62 RX10 yX10_offerArcs wsX10_offerArcs) := goodIn_app (goodIn_of _ (by decide +kernel)) ggX10_learn_X10_offerArcs
set_option maxRecDepth 20000 in
theorem ggX10_learn_X10_leavingOf : GoodIn wsX10_learn wsX10_leavingOf := goodIn_r _ [40] rfl (by decide +kernel)
set_option maxRecDepth 20000 in
theorem gX10_learn_X10_leavingOf : GoodIn wsX10_learn (va_wsS RX10 65 yX10_leavingOf wsX10_leavingOf) := goodIn_app (goodIn_of _ (by decide +kernel)) ggX10_learn_X10_leavingOf
set_option maxRecDepth 20000 in
theorem ggX10_learn_X0_choose : GoodIn wsX10_learn wsX0_choose := goodIn_r _ [44, 45, 46, 47, 17, 48, 49, 50, 14, 51, 16, 18, 52, 30, 53, 54, 55, 56, 57, 58, 59, 60, 61, 62, 63, 64, 65, 66, 67, 68, 69, 70, 71, 72, 73, 74, 75, 76, 77, 78, 79, 80, 81, 82, 83, 84, 36, 37, 85, 27, 28, 109, 110, 111, 112, 113, 114, 115, 116, 117, 118, 119, 120] rfl (by decide +kernel)
set_option maxRecDepth 20000 in
theorem gX10_learn_X0_choose : GoodIn wsX10_learn (wsV RX10 69 RX0 yX0_choose wsX0_choose) := goodIn_app (goodIn_of _ (by decide +kernel)) ggX10_learn_X0_choose
set_option maxRecDepth 20000 in
theorem ggX10_learn_X0_found : GoodIn wsX10_learn wsX0_found := goodIn_r _ [89, 45, 47, 17, 109, 110, 111, 112, 113, 114, 115, 116, 117, 118, 119, 120] rfl (by decide +kernel)
set_option maxRecDepth 20000 in
theorem gX10_learn_X0_found : GoodIn wsX10_learn (wsV RX10 72 RX0 yX0_found wsX0_found) := goodIn_app (goodIn_of _ (by decide +kernel)) ggX10_learn_X0_found
set_option maxRecDepth 20000 in
theorem ggX10_learn_X0_chosen : GoodIn wsX10_learn wsX0_chosen := goodIn_r _ [93, 45, 46, 109, 110, 111, 112, 113, 114, 115, 116, 117, 118, 119, 120] rfl (by decide +kernel)
set_option maxRecDepth 20000 in
theorem gX10_learn_X0_chosen : GoodIn wsX10_learn (wsV RX10 75 RX0 yX0_chosen wsX0_chosen) := goodIn_app (goodIn_of _ (by decide +kernel)) ggX10_learn_X0_chosen
theorem dX10_learn_0 : decode cX10_learn 0 = .ok (.aload_n 0, 1) := by decide +kernel
theorem dX10_learn_1 : decode cX10_learn 1 = .ok (.getfield 18, 3) := by decide +kernel
theorem dX10_learn_4 : decode cX10_learn 4 = .ok (.iload_n 1, 1) := by decide +kernel
theorem dX10_learn_5 : decode cX10_learn 5 = .ok (.baload, 1) := by decide +kernel
theorem dX10_learn_6 : decode cX10_learn 6 = .ok (.ifCond .ne 52, 3) := by decide +kernel
theorem dX10_learn_9 : decode cX10_learn 9 = .ok (.aload_n 0, 1) := by decide +kernel
theorem dX10_learn_10 : decode cX10_learn 10 = .ok (.getfield 18, 3) := by decide +kernel
theorem dX10_learn_13 : decode cX10_learn 13 = .ok (.iload_n 1, 1) := by decide +kernel
theorem dX10_learn_14 : decode cX10_learn 14 = .ok (.iconst 1, 1) := by decide +kernel
theorem dX10_learn_15 : decode cX10_learn 15 = .ok (.bastore, 1) := by decide +kernel
theorem dX10_learn_16 : decode cX10_learn 16 = .ok (.aload_n 0, 1) := by decide +kernel
theorem dX10_learn_17 : decode cX10_learn 17 = .ok (.iload_n 1, 1) := by decide +kernel
theorem dX10_learn_18 : decode cX10_learn 18 = .ok (.invokevirtual 62, 3) := by decide +kernel
theorem dX10_learn_21 : decode cX10_learn 21 = .ok (.aload_n 0, 1) := by decide +kernel
theorem dX10_learn_22 : decode cX10_learn 22 = .ok (.getfield 12, 3) := by decide +kernel
theorem dX10_learn_25 : decode cX10_learn 25 = .ok (.iload_n 1, 1) := by decide +kernel
theorem dX10_learn_26 : decode cX10_learn 26 = .ok (.invokestatic 65, 3) := by decide +kernel
theorem dX10_learn_29 : decode cX10_learn 29 = .ok (.invokevirtual 69, 3) := by decide +kernel
theorem dX10_learn_32 : decode cX10_learn 32 = .ok (.aload_n 0, 1) := by decide +kernel
theorem dX10_learn_33 : decode cX10_learn 33 = .ok (.getfield 22, 3) := by decide +kernel
theorem dX10_learn_36 : decode cX10_learn 36 = .ok (.iload_n 1, 1) := by decide +kernel
theorem dX10_learn_37 : decode cX10_learn 37 = .ok (.aload_n 0, 1) := by decide +kernel
theorem dX10_learn_38 : decode cX10_learn 38 = .ok (.getfield 12, 3) := by decide +kernel
theorem dX10_learn_41 : decode cX10_learn 41 = .ok (.invokevirtual 72, 3) := by decide +kernel
theorem dX10_learn_44 : decode cX10_learn 44 = .ok (.bastore, 1) := by decide +kernel
theorem dX10_learn_45 : decode cX10_learn 45 = .ok (.aload_n 0, 1) := by decide +kernel
theorem dX10_learn_46 : decode cX10_learn 46 = .ok (.getfield 25, 3) := by decide +kernel
theorem dX10_learn_49 : decode cX10_learn 49 = .ok (.iload_n 1, 1) := by decide +kernel
theorem dX10_learn_50 : decode cX10_learn 50 = .ok (.aload_n 0, 1) := by decide +kernel
theorem dX10_learn_51 : decode cX10_learn 51 = .ok (.getfield 12, 3) := by decide +kernel
theorem dX10_learn_54 : decode cX10_learn 54 = .ok (.invokevirtual 75, 3) := by decide +kernel
theorem dX10_learn_57 : decode cX10_learn 57 = .ok (.lastore, 1) := by decide +kernel
theorem dX10_learn_58 : decode cX10_learn 58 = .ok (.return_, 1) := by decide +kernel
set_option maxRecDepth 20000 in
theorem ggX10_offerArcs_X0_forgetOffers : GoodIn wsX10_offerArcs wsX0_forgetOffers := goodIn_r _ [7, 8, 9, 10, 11, 12, 13, 14, 15, 16, 17, 45, 46, 47, 48, 49] rfl (by decide +kernel)
set_option maxRecDepth 20000 in
theorem gX10_offerArcs_X0_forgetOffers : GoodIn wsX10_offerArcs (wsV RX10 79 RX0 yX0_forgetOffers wsX0_forgetOffers) := goodIn_app (goodIn_of _ (by decide +kernel)) ggX10_offerArcs_X0_forgetOffers
set_option maxRecDepth 20000 in
theorem ggX10_offerArcs_X0_gainOf : GoodIn wsX10_offerArcs wsX0_gainOf := goodIn_r _ [20] rfl (by decide +kernel)
set_option maxRecDepth 20000 in
theorem gX10_offerArcs_X0_gainOf : GoodIn wsX10_offerArcs (va_wsS RX10 91 yX0_gainOf wsX0_gainOf) := goodIn_app (goodIn_of _ (by decide +kernel)) ggX10_offerArcs_X0_gainOf
set_option maxRecDepth 20000 in
theorem ggX10_offerArcs_X11_markOf : GoodIn wsX10_offerArcs wsX11_markOf := goodIn_r _ [23] rfl (by decide +kernel)
set_option maxRecDepth 20000 in
theorem gX10_offerArcs_X11_markOf_n101 : GoodIn wsX10_offerArcs (wsX11_markOf) := ggX10_offerArcs_X11_markOf
set_option maxRecDepth 20000 in
theorem ggX10_offerArcs_X0_offer : GoodIn wsX10_offerArcs wsX0_offer := goodIn_r _ [27, 8, 10, 28, 22, 29, 45, 46, 47, 48, 49] rfl (by decide +kernel)
set_option maxRecDepth 20000 in
theorem gX10_offerArcs_X0_offer : GoodIn wsX10_offerArcs (wsV RX10 105 RX0 yX0_offer wsX0_offer) := goodIn_app (goodIn_of _ (by decide +kernel)) ggX10_offerArcs_X0_offer
theorem dX10_offerArcs_0 : decode cX10_offerArcs 0 = .ok (.aload_n 0, 1) := by decide +kernel
theorem dX10_offerArcs_1 : decode cX10_offerArcs 1 = .ok (.getfield 12, 3) := by decide +kernel
theorem dX10_offerArcs_4 : decode cX10_offerArcs 4 = .ok (.invokevirtual 79, 3) := by decide +kernel
theorem dX10_offerArcs_7 : decode cX10_offerArcs 7 = .ok (.iconst 0, 1) := by decide +kernel
theorem dX10_offerArcs_8 : decode cX10_offerArcs 8 = .ok (.istore_n 2, 1) := by decide +kernel
theorem dX10_offerArcs_9 : decode cX10_offerArcs 9 = .ok (.iload_n 2, 1) := by decide +kernel
theorem dX10_offerArcs_10 : decode cX10_offerArcs 10 = .ok (.aload_n 0, 1) := by decide +kernel
theorem dX10_offerArcs_11 : decode cX10_offerArcs 11 = .ok (.getfield 33, 3) := by decide +kernel
theorem dX10_offerArcs_14 : decode cX10_offerArcs 14 = .ok (.getfield 82, 3) := by decide +kernel
theorem dX10_offerArcs_17 : decode cX10_offerArcs 17 = .ok (.if_icmp .ge 65, 3) := by decide +kernel
theorem dX10_offerArcs_20 : decode cX10_offerArcs 20 = .ok (.aload_n 0, 1) := by decide +kernel
theorem dX10_offerArcs_21 : decode cX10_offerArcs 21 = .ok (.getfield 33, 3) := by decide +kernel
theorem dX10_offerArcs_24 : decode cX10_offerArcs 24 = .ok (.getfield 85, 3) := by decide +kernel
theorem dX10_offerArcs_27 : decode cX10_offerArcs 27 = .ok (.iload_n 2, 1) := by decide +kernel
theorem dX10_offerArcs_28 : decode cX10_offerArcs 28 = .ok (.baload, 1) := by decide +kernel
theorem dX10_offerArcs_29 : decode cX10_offerArcs 29 = .ok (.ifCond .eq 47, 3) := by decide +kernel
theorem dX10_offerArcs_32 : decode cX10_offerArcs 32 = .ok (.iload_n 1, 1) := by decide +kernel
theorem dX10_offerArcs_33 : decode cX10_offerArcs 33 = .ok (.aload_n 0, 1) := by decide +kernel
theorem dX10_offerArcs_34 : decode cX10_offerArcs 34 = .ok (.getfield 33, 3) := by decide +kernel
theorem dX10_offerArcs_37 : decode cX10_offerArcs 37 = .ok (.getfield 88, 3) := by decide +kernel
theorem dX10_offerArcs_40 : decode cX10_offerArcs 40 = .ok (.iload_n 2, 1) := by decide +kernel
theorem dX10_offerArcs_41 : decode cX10_offerArcs 41 = .ok (.iaload, 1) := by decide +kernel
theorem dX10_offerArcs_42 : decode cX10_offerArcs 42 = .ok (.invokestatic 91, 3) := by decide +kernel
theorem dX10_offerArcs_45 : decode cX10_offerArcs 45 = .ok (.istore_n 3, 1) := by decide +kernel
theorem dX10_offerArcs_46 : decode cX10_offerArcs 46 = .ok (.aload_n 0, 1) := by decide +kernel
theorem dX10_offerArcs_47 : decode cX10_offerArcs 47 = .ok (.getfield 12, 3) := by decide +kernel
theorem dX10_offerArcs_50 : decode cX10_offerArcs 50 = .ok (.aload_n 0, 1) := by decide +kernel
theorem dX10_offerArcs_51 : decode cX10_offerArcs 51 = .ok (.getfield 33, 3) := by decide +kernel
theorem dX10_offerArcs_54 : decode cX10_offerArcs 54 = .ok (.getfield 95, 3) := by decide +kernel
theorem dX10_offerArcs_57 : decode cX10_offerArcs 57 = .ok (.iload_n 2, 1) := by decide +kernel
theorem dX10_offerArcs_58 : decode cX10_offerArcs 58 = .ok (.iaload, 1) := by decide +kernel
theorem dX10_offerArcs_59 : decode cX10_offerArcs 59 = .ok (.aload_n 0, 1) := by decide +kernel
theorem dX10_offerArcs_60 : decode cX10_offerArcs 60 = .ok (.getfield 33, 3) := by decide +kernel
theorem dX10_offerArcs_63 : decode cX10_offerArcs 63 = .ok (.getfield 98, 3) := by decide +kernel
theorem dX10_offerArcs_66 : decode cX10_offerArcs 66 = .ok (.iload_n 2, 1) := by decide +kernel
theorem dX10_offerArcs_67 : decode cX10_offerArcs 67 = .ok (.iaload, 1) := by decide +kernel
theorem dX10_offerArcs_68 : decode cX10_offerArcs 68 = .ok (.iload_n 3, 1) := by decide +kernel
theorem dX10_offerArcs_69 : decode cX10_offerArcs 69 = .ok (.iload_n 2, 1) := by decide +kernel
theorem dX10_offerArcs_70 : decode cX10_offerArcs 70 = .ok (.invokestatic 101, 3) := by decide +kernel
theorem dX10_offerArcs_73 : decode cX10_offerArcs 73 = .ok (.invokevirtual 105, 3) := by decide +kernel
theorem dX10_offerArcs_76 : decode cX10_offerArcs 76 = .ok (.iinc 2 1, 3) := by decide +kernel
theorem dX10_offerArcs_79 : decode cX10_offerArcs 79 = .ok (.goto (-70), 3) := by decide +kernel
theorem dX10_offerArcs_82 : decode cX10_offerArcs 82 = .ok (.return_, 1) := by decide +kernel
theorem dX10_leavingOf_0 : decode cX10_leavingOf 0 = .ok (.iload_n 0, 1) := by decide +kernel
theorem dX10_leavingOf_1 : decode cX10_leavingOf 1 = .ok (.tableswitch 39 0 4 #[35, 35, 39, 39, 37], 35) := by decide +kernel
theorem dX10_leavingOf_36 : decode cX10_leavingOf 36 = .ok (.iconst 0, 1) := by decide +kernel
theorem dX10_leavingOf_37 : decode cX10_leavingOf 37 = .ok (.ireturn, 1) := by decide +kernel
theorem dX10_leavingOf_38 : decode cX10_leavingOf 38 = .ok (.iconst 2, 1) := by decide +kernel
theorem dX10_leavingOf_39 : decode cX10_leavingOf 39 = .ok (.ireturn, 1) := by decide +kernel
theorem dX10_leavingOf_40 : decode cX10_leavingOf 40 = .ok (.iconst 1, 1) := by decide +kernel
theorem dX10_leavingOf_41 : decode cX10_leavingOf 41 = .ok (.ireturn, 1) := by decide +kernel
set_option maxRecDepth 20000 in
theorem ggX11_init_X2_init : GoodIn wsX11_init wsX2_init := goodIn_r _ [13, 14, 2, 3, 15, 16, 17, 18, 19, 20, 21, 31, 32, 33, 34, 35, 36, 37, 38, 39] rfl (by decide +kernel)
set_option maxRecDepth 20000 in
theorem gX11_init_X2_init_n11 : GoodIn wsX11_init (wsX2_init) := ggX11_init_X2_init
set_option maxRecDepth 20000 in
theorem ggX11_init_X6_init : GoodIn wsX11_init wsX6_init := goodIn_r _ [24, 25, 2, 3, 15, 26, 27, 28, 29, 30, 48, 49] rfl (by decide +kernel)
set_option maxRecDepth 20000 in
theorem gX11_init_X6_init : GoodIn wsX11_init (wsX6_init) := ggX11_init_X6_init
theorem dX11_init_0 : decode cX11_init 0 = .ok (.aload_n 0, 1) := by decide +kernel
theorem dX11_init_1 : decode cX11_init 1 = .ok (.invokespecial 3, 3) := by decide +kernel
theorem dX11_init_4 : decode cX11_init 4 = .ok (.aload_n 0, 1) := by decide +kernel
theorem dX11_init_5 : decode cX11_init 5 = .ok (.new 9, 3) := by decide +kernel
theorem dX11_init_8 : decode cX11_init 8 = .ok (.dup, 1) := by decide +kernel
theorem dX11_init_9 : decode cX11_init 9 = .ok (.invokespecial 11, 3) := by decide +kernel
theorem dX11_init_12 : decode cX11_init 12 = .ok (.putfield 12, 3) := by decide +kernel
theorem dX11_init_15 : decode cX11_init 15 = .ok (.aload_n 0, 1) := by decide +kernel
theorem dX11_init_16 : decode cX11_init 16 = .ok (.new 16, 3) := by decide +kernel
theorem dX11_init_19 : decode cX11_init 19 = .ok (.dup, 1) := by decide +kernel
theorem dX11_init_20 : decode cX11_init 20 = .ok (.invokespecial 18, 3) := by decide +kernel
theorem dX11_init_23 : decode cX11_init 23 = .ok (.putfield 19, 3) := by decide +kernel
theorem dX11_init_26 : decode cX11_init 26 = .ok (.return_, 1) := by decide +kernel
set_option maxRecDepth 20000 in
theorem ggX11_node_X2_addNode : GoodIn wsX11_node wsX2_addNode := goodIn_r _ [6, 7, 8, 17, 18, 19, 20, 21, 22, 23, 24, 25] rfl (by decide +kernel)
set_option maxRecDepth 20000 in
theorem gX11_node_X2_addNode : GoodIn wsX11_node (wsV RX11 27 RX2 yX2_addNode wsX2_addNode) := goodIn_app (goodIn_of _ (by decide +kernel)) ggX11_node_X2_addNode
theorem dX11_node_0 : decode cX11_node 0 = .ok (.aload_n 0, 1) := by decide +kernel
theorem dX11_node_1 : decode cX11_node 1 = .ok (.getfield 12, 3) := by decide +kernel
theorem dX11_node_4 : decode cX11_node 4 = .ok (.getfield 23, 3) := by decide +kernel
theorem dX11_node_7 : decode cX11_node 7 = .ok (.bipush 16, 2) := by decide +kernel
theorem dX11_node_9 : decode cX11_node 9 = .ok (.if_icmp .ne 8, 3) := by decide +kernel
theorem dX11_node_12 : decode cX11_node 12 = .ok (.bipush (-4), 2) := by decide +kernel
theorem dX11_node_14 : decode cX11_node 14 = .ok (.goto 10, 3) := by decide +kernel
theorem dX11_node_17 : decode cX11_node 17 = .ok (.aload_n 0, 1) := by decide +kernel
theorem dX11_node_18 : decode cX11_node 18 = .ok (.getfield 12, 3) := by decide +kernel
theorem dX11_node_21 : decode cX11_node 21 = .ok (.invokevirtual 27, 3) := by decide +kernel
theorem dX11_node_24 : decode cX11_node 24 = .ok (.ireturn, 1) := by decide +kernel
set_option maxRecDepth 20000 in
theorem ggX11_arc_X2_isNode : GoodIn wsX11_arc wsX2_isNode := goodIn_r _ [6, 7, 32, 33, 34, 35, 36, 37, 38, 39, 40] rfl (by decide +kernel)
set_option maxRecDepth 20000 in
theorem gX11_arc_X2_isNode : GoodIn wsX11_arc (wsV RX11 31 RX2 yX2_isNode wsX2_isNode) := goodIn_app (goodIn_of _ (by decide +kernel)) ggX11_arc_X2_isNode
set_option maxRecDepth 20000 in
theorem ggX11_arc_X2_addArc : GoodIn wsX11_arc wsX2_addArc := goodIn_r _ [11, 12, 13, 14, 15, 16, 17, 18, 19, 20, 21, 5, 22, 23, 32, 33, 34, 35, 36, 37, 38, 39, 40] rfl (by decide +kernel)
set_option maxRecDepth 20000 in
theorem gX11_arc_X2_addArc : GoodIn wsX11_arc (wsV RX11 38 RX2 yX2_addArc wsX2_addArc) := goodIn_app (goodIn_of _ (by decide +kernel)) ggX11_arc_X2_addArc
theorem dX11_arc_0 : decode cX11_arc 0 = .ok (.aload_n 0, 1) := by decide +kernel
theorem dX11_arc_1 : decode cX11_arc 1 = .ok (.getfield 12, 3) := by decide +kernel
theorem dX11_arc_4 : decode cX11_arc 4 = .ok (.iload_n 1, 1) := by decide +kernel
theorem dX11_arc_5 : decode cX11_arc 5 = .ok (.invokevirtual 31, 3) := by decide +kernel
theorem dX11_arc_8 : decode cX11_arc 8 = .ok (.ifCond .eq 14, 3) := by decide +kernel
theorem dX11_arc_11 : decode cX11_arc 11 = .ok (.aload_n 0, 1) := by decide +kernel
theorem dX11_arc_12 : decode cX11_arc 12 = .ok (.getfield 12, 3) := by decide +kernel
theorem dX11_arc_15 : decode cX11_arc 15 = .ok (.iload_n 2, 1) := by decide +kernel
theorem dX11_arc_16 : decode cX11_arc 16 = .ok (.invokevirtual 31, 3) := by decide +kernel
theorem dX11_arc_19 : decode cX11_arc 19 = .ok (.ifCond .ne 5, 3) := by decide +kernel
theorem dX11_arc_22 : decode cX11_arc 22 = .ok (.iconst (-1), 1) := by decide +kernel
theorem dX11_arc_23 : decode cX11_arc 23 = .ok (.ireturn, 1) := by decide +kernel
theorem dX11_arc_24 : decode cX11_arc 24 = .ok (.iload_n 1, 1) := by decide +kernel
theorem dX11_arc_25 : decode cX11_arc 25 = .ok (.iload_n 2, 1) := by decide +kernel
theorem dX11_arc_26 : decode cX11_arc 26 = .ok (.if_icmp .eq 14, 3) := by decide +kernel
theorem dX11_arc_29 : decode cX11_arc 29 = .ok (.iload_n 3, 1) := by decide +kernel
theorem dX11_arc_30 : decode cX11_arc 30 = .ok (.ifCond .lt 10, 3) := by decide +kernel
theorem dX11_arc_33 : decode cX11_arc 33 = .ok (.iload_n 3, 1) := by decide +kernel
theorem dX11_arc_34 : decode cX11_arc 34 = .ok (.sipush 1000, 3) := by decide +kernel
theorem dX11_arc_37 : decode cX11_arc 37 = .ok (.if_icmp .le 6, 3) := by decide +kernel
theorem dX11_arc_40 : decode cX11_arc 40 = .ok (.bipush (-2), 2) := by decide +kernel
theorem dX11_arc_42 : decode cX11_arc 42 = .ok (.ireturn, 1) := by decide +kernel
theorem dX11_arc_43 : decode cX11_arc 43 = .ok (.aload_n 0, 1) := by decide +kernel
theorem dX11_arc_44 : decode cX11_arc 44 = .ok (.getfield 12, 3) := by decide +kernel
theorem dX11_arc_47 : decode cX11_arc 47 = .ok (.getfield 35, 3) := by decide +kernel
theorem dX11_arc_50 : decode cX11_arc 50 = .ok (.bipush 60, 2) := by decide +kernel
theorem dX11_arc_52 : decode cX11_arc 52 = .ok (.if_icmp .ne 8, 3) := by decide +kernel
theorem dX11_arc_55 : decode cX11_arc 55 = .ok (.bipush (-4), 2) := by decide +kernel
theorem dX11_arc_57 : decode cX11_arc 57 = .ok (.goto 13, 3) := by decide +kernel
theorem dX11_arc_60 : decode cX11_arc 60 = .ok (.aload_n 0, 1) := by decide +kernel
theorem dX11_arc_61 : decode cX11_arc 61 = .ok (.getfield 12, 3) := by decide +kernel
theorem dX11_arc_64 : decode cX11_arc 64 = .ok (.iload_n 1, 1) := by decide +kernel
theorem dX11_arc_65 : decode cX11_arc 65 = .ok (.iload_n 2, 1) := by decide +kernel
theorem dX11_arc_66 : decode cX11_arc 66 = .ok (.iload_n 3, 1) := by decide +kernel
theorem dX11_arc_67 : decode cX11_arc 67 = .ok (.invokevirtual 38, 3) := by decide +kernel
theorem dX11_arc_70 : decode cX11_arc 70 = .ok (.ireturn, 1) := by decide +kernel
set_option maxRecDepth 20000 in
theorem ggX11_cut_X2_isArc : GoodIn wsX11_cut wsX2_isArc := goodIn_r _ [6, 7, 8, 34, 35, 36, 37, 38, 39, 40, 41, 42] rfl (by decide +kernel)
set_option maxRecDepth 20000 in
theorem gX11_cut_X2_isArc : GoodIn wsX11_cut (wsV RX11 42 RX2 yX2_isArc wsX2_isArc) := goodIn_app (goodIn_of _ (by decide +kernel)) ggX11_cut_X2_isArc
set_option maxRecDepth 20000 in
theorem ggX11_cut_X2_removeArc : GoodIn wsX11_cut wsX2_removeArc := goodIn_r _ [12, 13, 14, 8, 15, 7, 16, 17, 18, 19, 20, 21, 22, 5, 23, 24, 25, 34, 35, 36, 37, 38, 39, 40, 41, 42] rfl (by decide +kernel)
set_option maxRecDepth 20000 in
theorem gX11_cut_X2_removeArc : GoodIn wsX11_cut (wsV RX11 45 RX2 yX2_removeArc wsX2_removeArc) := goodIn_app (goodIn_of _ (by decide +kernel)) ggX11_cut_X2_removeArc
theorem dX11_cut_0 : decode cX11_cut 0 = .ok (.aload_n 0, 1) := by decide +kernel
theorem dX11_cut_1 : decode cX11_cut 1 = .ok (.getfield 12, 3) := by decide +kernel
theorem dX11_cut_4 : decode cX11_cut 4 = .ok (.iload_n 1, 1) := by decide +kernel
theorem dX11_cut_5 : decode cX11_cut 5 = .ok (.invokevirtual 42, 3) := by decide +kernel
theorem dX11_cut_8 : decode cX11_cut 8 = .ok (.ifCond .ne 5, 3) := by decide +kernel
theorem dX11_cut_11 : decode cX11_cut 11 = .ok (.iconst (-1), 1) := by decide +kernel
theorem dX11_cut_12 : decode cX11_cut 12 = .ok (.ireturn, 1) := by decide +kernel
theorem dX11_cut_13 : decode cX11_cut 13 = .ok (.aload_n 0, 1) := by decide +kernel
theorem dX11_cut_14 : decode cX11_cut 14 = .ok (.getfield 12, 3) := by decide +kernel
theorem dX11_cut_17 : decode cX11_cut 17 = .ok (.iload_n 1, 1) := by decide +kernel
theorem dX11_cut_18 : decode cX11_cut 18 = .ok (.invokevirtual 45, 3) := by decide +kernel
theorem dX11_cut_21 : decode cX11_cut 21 = .ok (.aload_n 0, 1) := by decide +kernel
theorem dX11_cut_22 : decode cX11_cut 22 = .ok (.getfield 12, 3) := by decide +kernel
theorem dX11_cut_25 : decode cX11_cut 25 = .ok (.getfield 49, 3) := by decide +kernel
theorem dX11_cut_28 : decode cX11_cut 28 = .ok (.ireturn, 1) := by decide +kernel
set_option maxRecDepth 20000 in
theorem ggX11_clear_X2_removeAll : GoodIn wsX11_clear wsX2_removeAll := goodIn_r _ [7, 8, 9, 10, 11, 12, 13, 14, 15, 16, 33, 34, 35, 36, 37, 38, 39, 40, 41] rfl (by decide +kernel)
set_option maxRecDepth 20000 in
theorem gX11_clear_X2_removeAll : GoodIn wsX11_clear (wsV RX11 52 RX2 yX2_removeAll wsX2_removeAll) := goodIn_app (goodIn_of _ (by decide +kernel)) ggX11_clear_X2_removeAll
set_option maxRecDepth 20000 in
theorem ggX11_clear_X6_removeAll : GoodIn wsX11_clear wsX6_removeAll := goodIn_r _ [21, 22, 23, 24, 14, 15, 16, 42, 43] rfl (by decide +kernel)
set_option maxRecDepth 20000 in
theorem gX11_clear_X6_removeAll : GoodIn wsX11_clear (wsV RX11 55 RX6 yX6_removeAll wsX6_removeAll) := goodIn_app (goodIn_of _ (by decide +kernel)) ggX11_clear_X6_removeAll
theorem dX11_clear_0 : decode cX11_clear 0 = .ok (.aload_n 0, 1) := by decide +kernel
theorem dX11_clear_1 : decode cX11_clear 1 = .ok (.getfield 12, 3) := by decide +kernel
theorem dX11_clear_4 : decode cX11_clear 4 = .ok (.getfield 23, 3) := by decide +kernel
theorem dX11_clear_7 : decode cX11_clear 7 = .ok (.istore_n 1, 1) := by decide +kernel
theorem dX11_clear_8 : decode cX11_clear 8 = .ok (.aload_n 0, 1) := by decide +kernel
theorem dX11_clear_9 : decode cX11_clear 9 = .ok (.getfield 12, 3) := by decide +kernel
theorem dX11_clear_12 : decode cX11_clear 12 = .ok (.invokevirtual 52, 3) := by decide +kernel
theorem dX11_clear_15 : decode cX11_clear 15 = .ok (.aload_n 0, 1) := by decide +kernel
theorem dX11_clear_16 : decode cX11_clear 16 = .ok (.getfield 19, 3) := by decide +kernel
theorem dX11_clear_19 : decode cX11_clear 19 = .ok (.invokevirtual 55, 3) := by decide +kernel
theorem dX11_clear_22 : decode cX11_clear 22 = .ok (.iload_n 1, 1) := by decide +kernel
theorem dX11_clear_23 : decode cX11_clear 23 = .ok (.ireturn, 1) := by decide +kernel
set_option maxRecDepth 20000 in
theorem ggX11_pairs_X11_isWay : GoodIn wsX11_pairs wsX11_isWay := goodIn_r _ [4] rfl (by decide +kernel)
set_option maxRecDepth 20000 in
theorem gX11_pairs_X11_isWay : GoodIn wsX11_pairs (va_wsS RX11 56 yX11_isWay wsX11_isWay) := goodIn_app (goodIn_of _ (by decide +kernel)) ggX11_pairs_X11_isWay
set_option maxRecDepth 20000 in
theorem ggX11_pairs_X11_currentWays : GoodIn wsX11_pairs wsX11_currentWays := goodIn_r _ [8, 9, 10, 11, 12, 13, 14, 15, 16, 17, 18, 19, 20, 21, 22, 23, 24, 25, 26, 27, 28, 29, 30, 31, 32, 33, 34, 35, 36, 37, 38, 39, 40, 41, 42, 43, 44, 45, 46, 47, 48, 49, 50, 51, 52, 53, 54, 55, 56, 57, 58, 59, 60, 61, 62, 63, 64, 65, 66, 67, 68, 69, 70, 71, 3, 72, 73, 74, 75, 76, 77, 78, 79, 80, 81, 82, 83, 84, 85, 86, 87, 88, 89, 90, 91, 92, 93, 94, 95, 96, 97, 98, 99, 100, 178, 179, 180, 181, 182, 183, 184, 185, 186, 187, 188, 189, 190, 191, 192, 193, 194, 195, 196, 197, 198, 199, 200, 201, 202, 203, 204, 205, 206, 207, 208, 209, 210, 211, 212] rfl (by decide +kernel)
set_option maxRecDepth 20000 in
theorem gX11_pairs_X11_currentWays : GoodIn wsX11_pairs (wsV RX11 59 RX11 yX11_currentWays wsX11_currentWays) := goodIn_app (goodIn_of _ (by decide +kernel)) ggX11_pairs_X11_currentWays
set_option maxRecDepth 20000 in
theorem ggX11_pairs_X10_exists : GoodIn wsX11_pairs wsX10_exists := goodIn_r _ [104, 26, 105, 106, 107, 12, 108, 25, 23, 28, 109, 110, 111, 112, 30, 113, 114, 115, 22, 116, 39, 117, 40, 118, 119, 120, 121, 122, 123, 124, 125, 126, 127, 128, 3, 129, 130, 131, 132, 133, 73, 74, 134, 135, 136, 137, 138, 139, 140, 37, 42, 41, 141, 142, 143, 144, 84, 85, 86, 87, 88, 89, 90, 91, 92, 145, 146, 147, 148, 149, 80, 81, 36, 82, 83, 46, 66, 47, 48, 150, 151, 152, 153, 154, 155, 156, 157, 71, 72, 158, 159, 160, 161, 162, 163, 164, 165, 166, 186, 187, 188, 189, 190, 191, 204, 205, 206, 207, 208, 209, 210, 211, 212, 192, 193, 194, 195, 196, 197, 198, 199, 200, 201, 202, 203] rfl (by decide +kernel)
set_option maxRecDepth 20000 in
theorem gX11_pairs_X10_exists : GoodIn wsX11_pairs (wsV RX11 63 RX10 yX10_exists wsX10_exists) := goodIn_app (goodIn_of _ (by decide +kernel)) ggX11_pairs_X10_exists
set_option maxRecDepth 20000 in
theorem ggX11_pairs_X10_chosen : GoodIn wsX11_pairs wsX10_chosen := goodIn_r _ [170, 28, 105, 106, 107, 12, 108, 25, 23, 26, 109, 110, 111, 112, 30, 113, 114, 115, 22, 116, 39, 117, 40, 118, 119, 120, 121, 122, 123, 124, 125, 126, 127, 128, 3, 129, 130, 131, 132, 133, 73, 74, 134, 135, 136, 137, 138, 139, 140, 37, 42, 41, 141, 142, 143, 144, 84, 85, 86, 87, 88, 89, 90, 91, 92, 145, 146, 147, 148, 149, 80, 81, 36, 82, 83, 46, 66, 47, 48, 150, 151, 152, 153, 154, 155, 156, 157, 71, 72, 158, 159, 160, 161, 162, 163, 164, 165, 166, 186, 187, 188, 189, 190, 191, 204, 205, 206, 207, 208, 209, 210, 211, 212, 192, 193, 194, 195, 196, 197, 198, 199, 200, 201, 202, 203] rfl (by decide +kernel)
set_option maxRecDepth 20000 in
theorem gX11_pairs_X10_chosen : GoodIn wsX11_pairs (wsV RX11 68 RX10 yX10_chosen wsX10_chosen) := goodIn_app (goodIn_of _ (by decide +kernel)) ggX11_pairs_X10_chosen
set_option maxRecDepth 20000 in
theorem ggX11_pairs_J13_bitCount_95d88 : GoodIn wsX11_pairs wsJ13_bitCount_95d88 := goodIn_r _ [174, 175, 176, 177] rfl (by decide +kernel)
set_option maxRecDepth 20000 in
theorem gX11_pairs_J13_bitCount_95d88 : GoodIn wsX11_pairs (va_wsS RX11 72 yJ13_bitCount_95d88 wsJ13_bitCount_95d88) := goodIn_app (goodIn_of _ (by decide +kernel)) ggX11_pairs_J13_bitCount_95d88
theorem dX11_pairs_0 : decode cX11_pairs 0 = .ok (.iload_n 1, 1) := by decide +kernel
theorem dX11_pairs_1 : decode cX11_pairs 1 = .ok (.invokestatic 56, 3) := by decide +kernel
theorem dX11_pairs_4 : decode cX11_pairs 4 = .ok (.ifCond .ne 5, 3) := by decide +kernel
theorem dX11_pairs_7 : decode cX11_pairs 7 = .ok (.iconst (-1), 1) := by decide +kernel
theorem dX11_pairs_8 : decode cX11_pairs 8 = .ok (.ireturn, 1) := by decide +kernel
theorem dX11_pairs_9 : decode cX11_pairs 9 = .ok (.aload_n 0, 1) := by decide +kernel
theorem dX11_pairs_10 : decode cX11_pairs 10 = .ok (.invokevirtual 59, 3) := by decide +kernel
theorem dX11_pairs_13 : decode cX11_pairs 13 = .ok (.astore_n 2, 1) := by decide +kernel
theorem dX11_pairs_14 : decode cX11_pairs 14 = .ok (.aload_n 2, 1) := by decide +kernel
theorem dX11_pairs_15 : decode cX11_pairs 15 = .ok (.iload_n 1, 1) := by decide +kernel
theorem dX11_pairs_16 : decode cX11_pairs 16 = .ok (.invokevirtual 63, 3) := by decide +kernel
theorem dX11_pairs_19 : decode cX11_pairs 19 = .ok (.ifCond .eq 14, 3) := by decide +kernel
theorem dX11_pairs_22 : decode cX11_pairs 22 = .ok (.aload_n 2, 1) := by decide +kernel
theorem dX11_pairs_23 : decode cX11_pairs 23 = .ok (.iload_n 1, 1) := by decide +kernel
theorem dX11_pairs_24 : decode cX11_pairs 24 = .ok (.invokevirtual 68, 3) := by decide +kernel
theorem dX11_pairs_27 : decode cX11_pairs 27 = .ok (.invokestatic 72, 3) := by decide +kernel
theorem dX11_pairs_30 : decode cX11_pairs 30 = .ok (.goto 5, 3) := by decide +kernel
theorem dX11_pairs_33 : decode cX11_pairs 33 = .ok (.bipush (-3), 2) := by decide +kernel
theorem dX11_pairs_35 : decode cX11_pairs 35 = .ok (.ireturn, 1) := by decide +kernel
set_option maxRecDepth 20000 in
theorem ggX11_weight_X11_isWay : GoodIn wsX11_weight wsX11_isWay := goodIn_r _ [5] rfl (by decide +kernel)
set_option maxRecDepth 20000 in
theorem gX11_weight_X11_isWay : GoodIn wsX11_weight (va_wsS RX11 56 yX11_isWay wsX11_isWay) := goodIn_app (goodIn_of _ (by decide +kernel)) ggX11_weight_X11_isWay
set_option maxRecDepth 20000 in
theorem ggX11_weight_X11_currentWays : GoodIn wsX11_weight wsX11_currentWays := goodIn_r _ [9, 10, 11, 12, 13, 1, 14, 15, 16, 17, 18, 19, 20, 21, 22, 23, 24, 25, 26, 27, 28, 29, 30, 31, 32, 33, 34, 35, 36, 37, 38, 39, 40, 41, 42, 43, 44, 45, 46, 47, 48, 49, 50, 51, 52, 53, 54, 55, 56, 57, 58, 59, 60, 61, 62, 63, 64, 65, 66, 67, 68, 69, 70, 71, 4, 72, 73, 74, 75, 76, 77, 78, 79, 80, 81, 82, 83, 84, 85, 86, 87, 88, 89, 90, 91, 92, 93, 94, 95, 96, 97, 98, 99, 100, 177, 178, 179, 180, 181, 182, 183, 184, 185, 186, 187, 188, 189, 190, 191, 192, 193, 194, 195, 196, 197, 198, 199, 200, 201, 202, 203, 204, 205, 206, 207, 208, 209, 210, 211] rfl (by decide +kernel)
set_option maxRecDepth 20000 in
theorem gX11_weight_X11_currentWays : GoodIn wsX11_weight (wsV RX11 59 RX11 yX11_currentWays wsX11_currentWays) := goodIn_app (goodIn_of _ (by decide +kernel)) ggX11_weight_X11_currentWays
set_option maxRecDepth 20000 in
theorem ggX11_weight_X10_exists : GoodIn wsX11_weight wsX10_exists := goodIn_r _ [104, 26, 105, 106, 107, 13, 108, 25, 23, 28, 109, 110, 111, 112, 30, 113, 114, 115, 22, 116, 39, 117, 40, 118, 119, 120, 121, 122, 123, 124, 125, 126, 127, 128, 4, 129, 130, 131, 132, 133, 73, 74, 134, 135, 136, 137, 138, 139, 140, 37, 42, 41, 141, 142, 143, 144, 84, 85, 86, 87, 88, 89, 90, 91, 92, 145, 146, 147, 148, 149, 80, 81, 36, 82, 83, 46, 66, 47, 48, 150, 151, 152, 153, 154, 155, 156, 157, 71, 72, 158, 159, 160, 161, 162, 163, 164, 165, 166, 185, 186, 187, 188, 189, 190, 203, 204, 205, 206, 207, 208, 209, 210, 211, 191, 192, 193, 194, 195, 196, 197, 198, 199, 200, 201, 202] rfl (by decide +kernel)
set_option maxRecDepth 20000 in
theorem gX11_weight_X10_exists : GoodIn wsX11_weight (wsV RX11 63 RX10 yX10_exists wsX10_exists) := goodIn_app (goodIn_of _ (by decide +kernel)) ggX11_weight_X10_exists
set_option maxRecDepth 20000 in
theorem ggX11_weight_X10_chosen : GoodIn wsX11_weight wsX10_chosen := goodIn_r _ [170, 28, 105, 106, 107, 13, 108, 25, 23, 26, 109, 110, 111, 112, 30, 113, 114, 115, 22, 116, 39, 117, 40, 118, 119, 120, 121, 122, 123, 124, 125, 126, 127, 128, 4, 129, 130, 131, 132, 133, 73, 74, 134, 135, 136, 137, 138, 139, 140, 37, 42, 41, 141, 142, 143, 144, 84, 85, 86, 87, 88, 89, 90, 91, 92, 145, 146, 147, 148, 149, 80, 81, 36, 82, 83, 46, 66, 47, 48, 150, 151, 152, 153, 154, 155, 156, 157, 71, 72, 158, 159, 160, 161, 162, 163, 164, 165, 166, 185, 186, 187, 188, 189, 190, 203, 204, 205, 206, 207, 208, 209, 210, 211, 191, 192, 193, 194, 195, 196, 197, 198, 199, 200, 201, 202] rfl (by decide +kernel)
set_option maxRecDepth 20000 in
theorem gX11_weight_X10_chosen : GoodIn wsX11_weight (wsV RX11 68 RX10 yX10_chosen wsX10_chosen) := goodIn_app (goodIn_of _ (by decide +kernel)) ggX11_weight_X10_chosen
set_option maxRecDepth 20000 in
theorem ggX11_weight_X2_weightOf : GoodIn wsX11_weight wsX2_weightOf := goodIn_r _ [174, 175, 176, 128, 4, 129, 203, 204, 205, 206, 207, 208, 209, 210, 211] rfl (by decide +kernel)
set_option maxRecDepth 20000 in
theorem gX11_weight_X2_weightOf : GoodIn wsX11_weight (wsV RX11 78 RX2 yX2_weightOf wsX2_weightOf) := goodIn_app (goodIn_of _ (by decide +kernel)) ggX11_weight_X2_weightOf
theorem dX11_weight_0 : decode cX11_weight 0 = .ok (.iload_n 1, 1) := by decide +kernel
theorem dX11_weight_1 : decode cX11_weight 1 = .ok (.invokestatic 56, 3) := by decide +kernel
theorem dX11_weight_4 : decode cX11_weight 4 = .ok (.ifCond .ne 5, 3) := by decide +kernel
theorem dX11_weight_7 : decode cX11_weight 7 = .ok (.iconst (-1), 1) := by decide +kernel
theorem dX11_weight_8 : decode cX11_weight 8 = .ok (.ireturn, 1) := by decide +kernel
theorem dX11_weight_9 : decode cX11_weight 9 = .ok (.aload_n 0, 1) := by decide +kernel
theorem dX11_weight_10 : decode cX11_weight 10 = .ok (.invokevirtual 59, 3) := by decide +kernel
theorem dX11_weight_13 : decode cX11_weight 13 = .ok (.astore_n 2, 1) := by decide +kernel
theorem dX11_weight_14 : decode cX11_weight 14 = .ok (.aload_n 2, 1) := by decide +kernel
theorem dX11_weight_15 : decode cX11_weight 15 = .ok (.iload_n 1, 1) := by decide +kernel
theorem dX11_weight_16 : decode cX11_weight 16 = .ok (.invokevirtual 63, 3) := by decide +kernel
theorem dX11_weight_19 : decode cX11_weight 19 = .ok (.ifCond .eq 18, 3) := by decide +kernel
theorem dX11_weight_22 : decode cX11_weight 22 = .ok (.aload_n 0, 1) := by decide +kernel
theorem dX11_weight_23 : decode cX11_weight 23 = .ok (.getfield 12, 3) := by decide +kernel
theorem dX11_weight_26 : decode cX11_weight 26 = .ok (.aload_n 2, 1) := by decide +kernel
theorem dX11_weight_27 : decode cX11_weight 27 = .ok (.iload_n 1, 1) := by decide +kernel
theorem dX11_weight_28 : decode cX11_weight 28 = .ok (.invokevirtual 68, 3) := by decide +kernel
theorem dX11_weight_31 : decode cX11_weight 31 = .ok (.invokevirtual 78, 3) := by decide +kernel
theorem dX11_weight_34 : decode cX11_weight 34 = .ok (.goto 5, 3) := by decide +kernel
theorem dX11_weight_37 : decode cX11_weight 37 = .ok (.bipush (-3), 2) := by decide +kernel
theorem dX11_weight_39 : decode cX11_weight 39 = .ok (.ireturn, 1) := by decide +kernel
set_option maxRecDepth 20000 in
theorem ggX11_mate_X11_isWay : GoodIn wsX11_mate wsX11_isWay := goodIn_r _ [5] rfl (by decide +kernel)
set_option maxRecDepth 20000 in
theorem gX11_mate_X11_isWay : GoodIn wsX11_mate (va_wsS RX11 56 yX11_isWay wsX11_isWay) := goodIn_app (goodIn_of _ (by decide +kernel)) ggX11_mate_X11_isWay
set_option maxRecDepth 20000 in
theorem ggX11_mate_X2_isNode : GoodIn wsX11_mate wsX2_isNode := goodIn_r _ [10, 11, 190, 191, 192, 193, 194, 195, 196, 197, 198] rfl (by decide +kernel)
set_option maxRecDepth 20000 in
theorem gX11_mate_X2_isNode : GoodIn wsX11_mate (wsV RX11 31 RX2 yX2_isNode wsX2_isNode) := goodIn_app (goodIn_of _ (by decide +kernel)) ggX11_mate_X2_isNode
set_option maxRecDepth 20000 in
theorem ggX11_mate_X11_currentWays : GoodIn wsX11_mate wsX11_currentWays := goodIn_r _ [15, 16, 17, 18, 19, 1, 20, 21, 22, 23, 24, 25, 26, 27, 28, 29, 30, 31, 32, 33, 34, 35, 36, 37, 38, 39, 40, 41, 42, 43, 44, 45, 46, 47, 48, 49, 50, 51, 52, 53, 54, 55, 56, 57, 58, 59, 60, 61, 62, 63, 9, 64, 11, 65, 66, 67, 68, 69, 70, 71, 72, 73, 74, 75, 4, 76, 77, 78, 79, 80, 81, 82, 83, 84, 85, 86, 87, 88, 89, 90, 91, 92, 93, 94, 95, 96, 97, 98, 99, 100, 101, 102, 103, 104, 182, 183, 184, 185, 186, 187, 188, 189, 199, 200, 201, 202, 203, 204, 205, 206, 207, 208, 209, 210, 211, 212, 213, 214, 215, 216, 190, 191, 192, 193, 194, 195, 196, 197, 198] rfl (by decide +kernel)
set_option maxRecDepth 20000 in
theorem gX11_mate_X11_currentWays : GoodIn wsX11_mate (wsV RX11 59 RX11 yX11_currentWays wsX11_currentWays) := goodIn_app (goodIn_of _ (by decide +kernel)) ggX11_mate_X11_currentWays
set_option maxRecDepth 20000 in
theorem ggX11_mate_X10_exists : GoodIn wsX11_mate wsX10_exists := goodIn_r _ [108, 32, 109, 110, 111, 19, 112, 31, 29, 34, 113, 114, 115, 116, 36, 117, 118, 119, 28, 120, 45, 121, 46, 122, 123, 124, 125, 126, 127, 128, 129, 130, 131, 132, 4, 133, 134, 135, 136, 137, 77, 78, 138, 139, 140, 141, 142, 143, 144, 43, 48, 47, 145, 146, 147, 148, 88, 89, 90, 91, 92, 93, 94, 95, 96, 149, 150, 151, 152, 153, 84, 85, 42, 86, 87, 52, 70, 53, 54, 154, 155, 156, 157, 158, 159, 160, 161, 75, 76, 162, 163, 164, 165, 166, 167, 168, 169, 170, 199, 200, 201, 202, 203, 204, 190, 191, 192, 193, 194, 195, 196, 197, 198, 205, 206, 207, 208, 209, 210, 211, 212, 213, 214, 215, 216] rfl (by decide +kernel)
set_option maxRecDepth 20000 in
theorem gX11_mate_X10_exists : GoodIn wsX11_mate (wsV RX11 63 RX10 yX10_exists wsX10_exists) := goodIn_app (goodIn_of _ (by decide +kernel)) ggX11_mate_X10_exists
set_option maxRecDepth 20000 in
theorem ggX11_mate_X10_chosen : GoodIn wsX11_mate wsX10_chosen := goodIn_r _ [174, 34, 109, 110, 111, 19, 112, 31, 29, 32, 113, 114, 115, 116, 36, 117, 118, 119, 28, 120, 45, 121, 46, 122, 123, 124, 125, 126, 127, 128, 129, 130, 131, 132, 4, 133, 134, 135, 136, 137, 77, 78, 138, 139, 140, 141, 142, 143, 144, 43, 48, 47, 145, 146, 147, 148, 88, 89, 90, 91, 92, 93, 94, 95, 96, 149, 150, 151, 152, 153, 84, 85, 42, 86, 87, 52, 70, 53, 54, 154, 155, 156, 157, 158, 159, 160, 161, 75, 76, 162, 163, 164, 165, 166, 167, 168, 169, 170, 199, 200, 201, 202, 203, 204, 190, 191, 192, 193, 194, 195, 196, 197, 198, 205, 206, 207, 208, 209, 210, 211, 212, 213, 214, 215, 216] rfl (by decide +kernel)
set_option maxRecDepth 20000 in
theorem gX11_mate_X10_chosen : GoodIn wsX11_mate (wsV RX11 68 RX10 yX10_chosen wsX10_chosen) := goodIn_app (goodIn_of _ (by decide +kernel)) ggX11_mate_X10_chosen
set_option maxRecDepth 20000 in
theorem ggX11_mate_X2_arcAt : GoodIn wsX11_mate wsX2_arcAt := goodIn_r _ [178, 179, 180, 181, 132, 4, 133, 190, 191, 192, 193, 194, 195, 196, 197, 198] rfl (by decide +kernel)
set_option maxRecDepth 20000 in
theorem gX11_mate_X2_arcAt : GoodIn wsX11_mate (wsV RX11 81 RX2 yX2_arcAt wsX2_arcAt) := goodIn_app (goodIn_of _ (by decide +kernel)) ggX11_mate_X2_arcAt
theorem dX11_mate_0 : decode cX11_mate 0 = .ok (.iload_n 1, 1) := by decide +kernel
theorem dX11_mate_1 : decode cX11_mate 1 = .ok (.invokestatic 56, 3) := by decide +kernel
theorem dX11_mate_4 : decode cX11_mate 4 = .ok (.ifCond .eq 14, 3) := by decide +kernel
theorem dX11_mate_7 : decode cX11_mate 7 = .ok (.aload_n 0, 1) := by decide +kernel
theorem dX11_mate_8 : decode cX11_mate 8 = .ok (.getfield 12, 3) := by decide +kernel
theorem dX11_mate_11 : decode cX11_mate 11 = .ok (.iload_n 2, 1) := by decide +kernel
theorem dX11_mate_12 : decode cX11_mate 12 = .ok (.invokevirtual 31, 3) := by decide +kernel
theorem dX11_mate_15 : decode cX11_mate 15 = .ok (.ifCond .ne 5, 3) := by decide +kernel
theorem dX11_mate_18 : decode cX11_mate 18 = .ok (.iconst (-1), 1) := by decide +kernel
theorem dX11_mate_19 : decode cX11_mate 19 = .ok (.ireturn, 1) := by decide +kernel
theorem dX11_mate_20 : decode cX11_mate 20 = .ok (.aload_n 0, 1) := by decide +kernel
theorem dX11_mate_21 : decode cX11_mate 21 = .ok (.invokevirtual 59, 3) := by decide +kernel
theorem dX11_mate_24 : decode cX11_mate 24 = .ok (.astore_n 3, 1) := by decide +kernel
theorem dX11_mate_25 : decode cX11_mate 25 = .ok (.aload_n 3, 1) := by decide +kernel
theorem dX11_mate_26 : decode cX11_mate 26 = .ok (.iload_n 1, 1) := by decide +kernel
theorem dX11_mate_27 : decode cX11_mate 27 = .ok (.invokevirtual 63, 3) := by decide +kernel
theorem dX11_mate_30 : decode cX11_mate 30 = .ok (.ifCond .eq 19, 3) := by decide +kernel
theorem dX11_mate_33 : decode cX11_mate 33 = .ok (.aload_n 0, 1) := by decide +kernel
theorem dX11_mate_34 : decode cX11_mate 34 = .ok (.getfield 12, 3) := by decide +kernel
theorem dX11_mate_37 : decode cX11_mate 37 = .ok (.aload_n 3, 1) := by decide +kernel
theorem dX11_mate_38 : decode cX11_mate 38 = .ok (.iload_n 1, 1) := by decide +kernel
theorem dX11_mate_39 : decode cX11_mate 39 = .ok (.invokevirtual 68, 3) := by decide +kernel
theorem dX11_mate_42 : decode cX11_mate 42 = .ok (.iload_n 2, 1) := by decide +kernel
theorem dX11_mate_43 : decode cX11_mate 43 = .ok (.invokevirtual 81, 3) := by decide +kernel
theorem dX11_mate_46 : decode cX11_mate 46 = .ok (.goto 5, 3) := by decide +kernel
theorem dX11_mate_49 : decode cX11_mate 49 = .ok (.bipush (-3), 2) := by decide +kernel
theorem dX11_mate_51 : decode cX11_mate 51 = .ok (.ireturn, 1) := by decide +kernel
set_option maxRecDepth 20000 in
theorem ggX11_sort_X2_isNode : GoodIn wsX11_sort wsX2_isNode := goodIn_r _ [6, 7, 187, 188, 189, 190, 191, 192, 193, 194, 195] rfl (by decide +kernel)
set_option maxRecDepth 20000 in
theorem gX11_sort_X2_isNode : GoodIn wsX11_sort (wsV RX11 31 RX2 yX2_isNode wsX2_isNode) := goodIn_app (goodIn_of _ (by decide +kernel)) ggX11_sort_X2_isNode
set_option maxRecDepth 20000 in
theorem ggX11_sort_X11_currentSorts : GoodIn wsX11_sort wsX11_currentSorts := goodIn_r _ [12, 13, 14, 15, 16, 1, 17, 18, 19, 20, 21, 22, 23, 24, 25, 26, 27, 28, 29, 30, 31, 32, 33, 34, 35, 36, 37, 38, 11, 39, 40, 41, 42, 43, 44, 45, 46, 47, 48, 49, 50, 51, 52, 53, 54, 55, 56, 57, 58, 59, 60, 61, 62, 63, 64, 65, 66, 67, 68, 69, 70, 71, 72, 73, 74, 75, 76, 77, 78, 79, 80, 81, 82, 83, 84, 5, 85, 7, 86, 87, 88, 89, 90, 91, 92, 93, 94, 95, 96, 97, 98, 99, 100, 101, 102, 103, 104, 105, 106, 107, 108, 109, 110, 111, 112, 113, 114, 115, 116, 117, 118, 119, 120, 121, 122, 123, 124, 125, 126, 127, 128, 129, 130, 131, 132, 133, 134, 135, 136, 137, 138, 139, 140, 141, 142, 143, 144, 145, 146, 147, 148, 149, 150, 151, 152, 153, 154, 155, 156, 157, 158, 159, 160, 161, 162, 163, 164, 165, 166, 167, 168, 169, 170, 171, 172, 173, 174, 179, 180, 181, 182, 183, 184, 185, 186, 196, 197, 198, 199, 200, 201, 202, 203, 204, 205, 206, 207, 208, 209, 210, 211, 212, 213, 214, 215, 216, 217, 218, 219, 220, 221, 222, 223, 224, 225, 187, 188, 189, 190, 191, 192, 193, 194, 195] rfl (by decide +kernel)
set_option maxRecDepth 20000 in
theorem gX11_sort_X11_currentSorts : GoodIn wsX11_sort (wsV RX11 85 RX11 yX11_currentSorts wsX11_currentSorts) := goodIn_app (goodIn_of _ (by decide +kernel)) ggX11_sort_X11_currentSorts
set_option maxRecDepth 20000 in
theorem ggX11_sort_X8_sortOf : GoodIn wsX11_sort wsX8_sortOf := goodIn_r _ [178, 136, 130, 96, 11, 97, 196, 197, 198, 199, 200, 201, 202, 203] rfl (by decide +kernel)
set_option maxRecDepth 20000 in
theorem gX11_sort_X8_sortOf : GoodIn wsX11_sort (wsV RX11 89 RX8 yX8_sortOf wsX8_sortOf) := goodIn_app (goodIn_of _ (by decide +kernel)) ggX11_sort_X8_sortOf
theorem dX11_sort_0 : decode cX11_sort 0 = .ok (.aload_n 0, 1) := by decide +kernel
theorem dX11_sort_1 : decode cX11_sort 1 = .ok (.getfield 12, 3) := by decide +kernel
theorem dX11_sort_4 : decode cX11_sort 4 = .ok (.iload_n 1, 1) := by decide +kernel
theorem dX11_sort_5 : decode cX11_sort 5 = .ok (.invokevirtual 31, 3) := by decide +kernel
theorem dX11_sort_8 : decode cX11_sort 8 = .ok (.ifCond .eq 14, 3) := by decide +kernel
theorem dX11_sort_11 : decode cX11_sort 11 = .ok (.aload_n 0, 1) := by decide +kernel
theorem dX11_sort_12 : decode cX11_sort 12 = .ok (.invokevirtual 85, 3) := by decide +kernel
theorem dX11_sort_15 : decode cX11_sort 15 = .ok (.iload_n 1, 1) := by decide +kernel
theorem dX11_sort_16 : decode cX11_sort 16 = .ok (.invokevirtual 89, 3) := by decide +kernel
theorem dX11_sort_19 : decode cX11_sort 19 = .ok (.goto 4, 3) := by decide +kernel
theorem dX11_sort_22 : decode cX11_sort 22 = .ok (.iconst (-1), 1) := by decide +kernel
theorem dX11_sort_23 : decode cX11_sort 23 = .ok (.ireturn, 1) := by decide +kernel
set_option maxRecDepth 20000 in
theorem ggX11_piece_X2_isNode : GoodIn wsX11_piece wsX2_isNode := goodIn_r _ [6, 7, 199, 200, 201, 202, 203, 204, 205, 206, 207] rfl (by decide +kernel)
set_option maxRecDepth 20000 in
theorem gX11_piece_X2_isNode : GoodIn wsX11_piece (wsV RX11 31 RX2 yX2_isNode wsX2_isNode) := goodIn_app (goodIn_of _ (by decide +kernel)) ggX11_piece_X2_isNode
set_option maxRecDepth 20000 in
theorem ggX11_piece_X11_currentSorts : GoodIn wsX11_piece wsX11_currentSorts := goodIn_r _ [12, 13, 14, 15, 16, 1, 17, 18, 19, 20, 21, 22, 23, 24, 25, 26, 27, 28, 29, 30, 31, 32, 33, 34, 35, 36, 37, 38, 11, 39, 40, 41, 42, 43, 44, 45, 46, 47, 48, 49, 50, 51, 52, 53, 54, 55, 56, 57, 58, 59, 60, 61, 62, 63, 64, 65, 66, 67, 68, 69, 70, 71, 72, 73, 74, 75, 76, 77, 78, 79, 80, 81, 82, 83, 84, 5, 85, 7, 86, 87, 88, 89, 90, 91, 92, 93, 94, 95, 96, 97, 98, 99, 100, 101, 102, 103, 104, 105, 106, 107, 108, 109, 110, 111, 112, 113, 114, 115, 116, 117, 118, 119, 120, 121, 122, 123, 124, 125, 126, 127, 128, 129, 130, 131, 132, 133, 134, 135, 136, 137, 138, 139, 140, 141, 142, 143, 144, 145, 146, 147, 148, 149, 150, 151, 152, 153, 154, 155, 156, 157, 158, 159, 160, 161, 162, 163, 164, 165, 166, 167, 168, 169, 170, 171, 172, 173, 174, 183, 184, 185, 186, 187, 188, 189, 190, 191, 192, 193, 194, 195, 196, 197, 198, 208, 209, 210, 211, 212, 213, 214, 215, 216, 217, 218, 219, 220, 221, 222, 223, 224, 225, 226, 227, 228, 229, 199, 200, 201, 202, 203, 204, 205, 206, 207] rfl (by decide +kernel)
set_option maxRecDepth 20000 in
theorem gX11_piece_X11_currentSorts : GoodIn wsX11_piece (wsV RX11 85 RX11 yX11_currentSorts wsX11_currentSorts) := goodIn_app (goodIn_of _ (by decide +kernel)) ggX11_piece_X11_currentSorts
set_option maxRecDepth 20000 in
theorem ggX11_piece_X8_sortOf : GoodIn wsX11_piece wsX8_sortOf := goodIn_r _ [178, 136, 130, 96, 11, 97, 191, 192, 193, 194, 195, 196, 197, 198] rfl (by decide +kernel)
set_option maxRecDepth 20000 in
theorem gX11_piece_X8_sortOf : GoodIn wsX11_piece (wsV RX11 89 RX8 yX8_sortOf wsX8_sortOf) := goodIn_app (goodIn_of _ (by decide +kernel)) ggX11_piece_X8_sortOf
set_option maxRecDepth 20000 in
theorem ggX11_piece_X5_partOf : GoodIn wsX11_piece wsX5_partOf := goodIn_r _ [182, 35, 219, 220, 221, 222] rfl (by decide +kernel)
set_option maxRecDepth 20000 in
theorem gX11_piece_X5_partOf : GoodIn wsX11_piece (wsV RX11 99 RX5 yX5_partOf wsX5_partOf) := goodIn_app (goodIn_of _ (by decide +kernel)) ggX11_piece_X5_partOf
theorem dX11_piece_0 : decode cX11_piece 0 = .ok (.aload_n 0, 1) := by decide +kernel
theorem dX11_piece_1 : decode cX11_piece 1 = .ok (.getfield 12, 3) := by decide +kernel
theorem dX11_piece_4 : decode cX11_piece 4 = .ok (.iload_n 1, 1) := by decide +kernel
theorem dX11_piece_5 : decode cX11_piece 5 = .ok (.invokevirtual 31, 3) := by decide +kernel
theorem dX11_piece_8 : decode cX11_piece 8 = .ok (.ifCond .ne 5, 3) := by decide +kernel
theorem dX11_piece_11 : decode cX11_piece 11 = .ok (.iconst (-1), 1) := by decide +kernel
theorem dX11_piece_12 : decode cX11_piece 12 = .ok (.ireturn, 1) := by decide +kernel
theorem dX11_piece_13 : decode cX11_piece 13 = .ok (.aload_n 0, 1) := by decide +kernel
theorem dX11_piece_14 : decode cX11_piece 14 = .ok (.invokevirtual 85, 3) := by decide +kernel
theorem dX11_piece_17 : decode cX11_piece 17 = .ok (.astore_n 2, 1) := by decide +kernel
theorem dX11_piece_18 : decode cX11_piece 18 = .ok (.aload_n 2, 1) := by decide +kernel
theorem dX11_piece_19 : decode cX11_piece 19 = .ok (.iload_n 1, 1) := by decide +kernel
theorem dX11_piece_20 : decode cX11_piece 20 = .ok (.invokevirtual 89, 3) := by decide +kernel
theorem dX11_piece_23 : decode cX11_piece 23 = .ok (.iconst 1, 1) := by decide +kernel
theorem dX11_piece_24 : decode cX11_piece 24 = .ok (.if_icmp .ne 8, 3) := by decide +kernel
theorem dX11_piece_27 : decode cX11_piece 27 = .ok (.bipush (-3), 2) := by decide +kernel
theorem dX11_piece_29 : decode cX11_piece 29 = .ok (.goto 11, 3) := by decide +kernel
theorem dX11_piece_32 : decode cX11_piece 32 = .ok (.aload_n 2, 1) := by decide +kernel
theorem dX11_piece_33 : decode cX11_piece 33 = .ok (.getfield 95, 3) := by decide +kernel
theorem dX11_piece_36 : decode cX11_piece 36 = .ok (.iload_n 1, 1) := by decide +kernel
theorem dX11_piece_37 : decode cX11_piece 37 = .ok (.invokevirtual 99, 3) := by decide +kernel
theorem dX11_piece_40 : decode cX11_piece 40 = .ok (.ireturn, 1) := by decide +kernel
set_option maxRecDepth 20000 in
theorem ggX11_shape_X11_currentSorts : GoodIn wsX11_shape wsX11_currentSorts := goodIn_r _ [5, 6, 7, 8, 9, 10, 11, 12, 13, 14, 15, 16, 17, 18, 19, 20, 21, 22, 23, 24, 25, 26, 27, 28, 29, 30, 31, 32, 4, 33, 34, 35, 36, 37, 38, 39, 40, 41, 42, 43, 44, 45, 46, 47, 48, 49, 50, 51, 52, 53, 54, 55, 56, 57, 58, 59, 60, 61, 62, 63, 64, 65, 66, 67, 68, 69, 70, 71, 72, 73, 74, 75, 76, 77, 78, 79, 80, 81, 82, 83, 84, 85, 86, 87, 88, 89, 90, 91, 92, 93, 94, 95, 96, 97, 98, 99, 100, 101, 102, 103, 104, 105, 106, 107, 108, 109, 110, 111, 112, 113, 114, 115, 116, 117, 118, 119, 120, 121, 122, 123, 124, 125, 126, 127, 128, 129, 130, 131, 132, 133, 134, 135, 136, 137, 138, 139, 140, 141, 142, 143, 144, 145, 146, 147, 148, 149, 150, 151, 152, 153, 154, 155, 156, 157, 158, 159, 160, 161, 162, 163, 164, 165, 166, 167, 168, 169, 170, 183, 184, 185, 186, 187, 188, 189, 190, 171, 172, 173, 174, 175, 176, 177, 178, 191, 192, 193, 194, 195, 196, 197, 198, 199, 200, 201, 179, 180, 181, 182, 202, 203, 204, 205, 206, 207, 208, 209, 210, 211, 212, 213, 214, 215, 216, 217] rfl (by decide +kernel)
set_option maxRecDepth 20000 in
theorem gX11_shape_X11_currentSorts : GoodIn wsX11_shape (wsV RX11 85 RX11 yX11_currentSorts wsX11_currentSorts) := goodIn_app (goodIn_of _ (by decide +kernel)) ggX11_shape_X11_currentSorts
set_option maxRecDepth 20000 in
theorem ggX11_shape_J6_bitCount_0f7a4 : GoodIn wsX11_shape wsJ6_bitCount_0f7a4 := goodIn_r _ [110, 111, 112, 113] rfl (by decide +kernel)
set_option maxRecDepth 20000 in
theorem gX11_shape_J6_bitCount_0f7a4 : GoodIn wsX11_shape (va_wsS RX11 107 yJ6_bitCount_0f7a4 wsJ6_bitCount_0f7a4) := goodIn_app (goodIn_of _ (by decide +kernel)) ggX11_shape_J6_bitCount_0f7a4
theorem dX11_shape_0 : decode cX11_shape 0 = .ok (.iload_n 1, 1) := by decide +kernel
theorem dX11_shape_1 : decode cX11_shape 1 = .ok (.tableswitch 95 0 4 #[35, 46, 57, 65, 84], 35) := by decide +kernel
theorem dX11_shape_36 : decode cX11_shape 36 = .ok (.aload_n 0, 1) := by decide +kernel
theorem dX11_shape_37 : decode cX11_shape 37 = .ok (.invokevirtual 85, 3) := by decide +kernel
theorem dX11_shape_40 : decode cX11_shape 40 = .ok (.getfield 104, 3) := by decide +kernel
theorem dX11_shape_43 : decode cX11_shape 43 = .ok (.invokestatic 107, 3) := by decide +kernel
theorem dX11_shape_46 : decode cX11_shape 46 = .ok (.ireturn, 1) := by decide +kernel
theorem dX11_shape_47 : decode cX11_shape 47 = .ok (.aload_n 0, 1) := by decide +kernel
theorem dX11_shape_48 : decode cX11_shape 48 = .ok (.invokevirtual 85, 3) := by decide +kernel
theorem dX11_shape_51 : decode cX11_shape 51 = .ok (.getfield 95, 3) := by decide +kernel
theorem dX11_shape_54 : decode cX11_shape 54 = .ok (.getfield 111, 3) := by decide +kernel
theorem dX11_shape_57 : decode cX11_shape 57 = .ok (.ireturn, 1) := by decide +kernel
theorem dX11_shape_58 : decode cX11_shape 58 = .ok (.aload_n 0, 1) := by decide +kernel
theorem dX11_shape_59 : decode cX11_shape 59 = .ok (.invokevirtual 85, 3) := by decide +kernel
theorem dX11_shape_62 : decode cX11_shape 62 = .ok (.getfield 114, 3) := by decide +kernel
theorem dX11_shape_65 : decode cX11_shape 65 = .ok (.ireturn, 1) := by decide +kernel
theorem dX11_shape_66 : decode cX11_shape 66 = .ok (.aload_n 0, 1) := by decide +kernel
theorem dX11_shape_67 : decode cX11_shape 67 = .ok (.invokevirtual 85, 3) := by decide +kernel
theorem dX11_shape_70 : decode cX11_shape 70 = .ok (.getfield 117, 3) := by decide +kernel
theorem dX11_shape_73 : decode cX11_shape 73 = .ok (.getfield 120, 3) := by decide +kernel
theorem dX11_shape_76 : decode cX11_shape 76 = .ok (.ifCond .eq 7, 3) := by decide +kernel
theorem dX11_shape_79 : decode cX11_shape 79 = .ok (.iconst 1, 1) := by decide +kernel
theorem dX11_shape_80 : decode cX11_shape 80 = .ok (.goto 4, 3) := by decide +kernel
theorem dX11_shape_83 : decode cX11_shape 83 = .ok (.iconst 0, 1) := by decide +kernel
theorem dX11_shape_84 : decode cX11_shape 84 = .ok (.ireturn, 1) := by decide +kernel
theorem dX11_shape_85 : decode cX11_shape 85 = .ok (.aload_n 0, 1) := by decide +kernel
theorem dX11_shape_86 : decode cX11_shape 86 = .ok (.invokevirtual 85, 3) := by decide +kernel
theorem dX11_shape_89 : decode cX11_shape 89 = .ok (.getfield 117, 3) := by decide +kernel
theorem dX11_shape_92 : decode cX11_shape 92 = .ok (.getfield 124, 3) := by decide +kernel
theorem dX11_shape_95 : decode cX11_shape 95 = .ok (.ireturn, 1) := by decide +kernel
theorem dX11_shape_96 : decode cX11_shape 96 = .ok (.iconst (-1), 1) := by decide +kernel
theorem dX11_shape_97 : decode cX11_shape 97 = .ok (.ireturn, 1) := by decide +kernel
set_option maxRecDepth 20000 in
theorem ggX11_count_X11_currentCounts : GoodIn wsX11_count wsX11_currentCounts := goodIn_r _ [6, 7, 8, 9, 10, 11, 12, 13, 14, 15, 16, 17, 18, 19, 20, 21, 22, 23, 24, 25, 26, 27, 5, 28, 29, 30, 31, 32, 33, 34, 35, 36, 37, 38, 39, 40, 41, 42, 43, 44, 45, 46, 47, 48, 49, 50, 51, 52, 53, 54, 55, 56, 57, 58, 59, 60, 61, 62, 63, 64, 65, 66, 67, 68, 69, 70, 71, 72, 73, 74, 75, 76, 77, 78, 79, 80, 81, 82, 83, 84, 85, 86, 87, 88, 89, 90, 91, 92, 93, 94, 95, 96, 97, 98, 99, 100, 101, 102, 103, 104, 105, 106, 107, 108, 109, 110, 111, 112, 113, 114, 115, 116, 117, 118, 119, 120, 121, 122, 123, 124, 125, 126, 127, 128, 129, 130, 131, 132, 133, 134, 135, 136, 141, 142, 143, 144, 145, 146, 147, 148, 149, 150, 151, 152, 153, 154, 155, 156, 157, 158, 159, 160, 161, 162, 163, 164, 165, 166, 167, 168, 169, 170, 171, 172, 173, 174, 175, 176, 177, 178, 179, 180] rfl (by decide +kernel)
set_option maxRecDepth 20000 in
theorem gX11_count_X11_currentCounts : GoodIn wsX11_count (wsV RX11 129 RX11 yX11_currentCounts wsX11_currentCounts) := goodIn_app (goodIn_of _ (by decide +kernel)) ggX11_count_X11_currentCounts
set_option maxRecDepth 20000 in
theorem ggX11_count_X1_ofSize : GoodIn wsX11_count wsX1_ofSize := goodIn_r _ [140, 22, 21, 149, 150, 151, 152, 153] rfl (by decide +kernel)
set_option maxRecDepth 20000 in
theorem gX11_count_X1_ofSize : GoodIn wsX11_count (wsV RX11 133 RX1 yX1_ofSize wsX1_ofSize) := goodIn_app (goodIn_of _ (by decide +kernel)) ggX11_count_X1_ofSize
theorem dX11_count_0 : decode cX11_count 0 = .ok (.iload_n 1, 1) := by decide +kernel
theorem dX11_count_1 : decode cX11_count 1 = .ok (.ifCond .ge 7, 3) := by decide +kernel
theorem dX11_count_4 : decode cX11_count 4 = .ok (.ldc2_w 127, 3) := by decide +kernel
theorem dX11_count_7 : decode cX11_count 7 = .ok (.lreturn, 1) := by decide +kernel
theorem dX11_count_8 : decode cX11_count 8 = .ok (.iload_n 1, 1) := by decide +kernel
theorem dX11_count_9 : decode cX11_count 9 = .ok (.bipush 8, 2) := by decide +kernel
theorem dX11_count_11 : decode cX11_count 11 = .ok (.if_icmp .le 7, 3) := by decide +kernel
theorem dX11_count_14 : decode cX11_count 14 = .ok (.lconst 0, 1) := by decide +kernel
theorem dX11_count_15 : decode cX11_count 15 = .ok (.goto 11, 3) := by decide +kernel
theorem dX11_count_18 : decode cX11_count 18 = .ok (.aload_n 0, 1) := by decide +kernel
theorem dX11_count_19 : decode cX11_count 19 = .ok (.invokevirtual 129, 3) := by decide +kernel
theorem dX11_count_22 : decode cX11_count 22 = .ok (.iload_n 1, 1) := by decide +kernel
theorem dX11_count_23 : decode cX11_count 23 = .ok (.invokevirtual 133, 3) := by decide +kernel
theorem dX11_count_26 : decode cX11_count 26 = .ok (.lreturn, 1) := by decide +kernel
set_option maxRecDepth 20000 in
theorem ggX11_cover_X11_currentWays : GoodIn wsX11_cover wsX11_currentWays := goodIn_r _ [5, 6, 7, 8, 9, 10, 11, 12, 13, 14, 15, 16, 17, 18, 19, 20, 21, 22, 23, 24, 25, 26, 27, 28, 29, 30, 31, 32, 33, 34, 35, 36, 37, 38, 39, 40, 41, 42, 43, 44, 45, 46, 47, 48, 49, 50, 51, 52, 53, 54, 55, 56, 57, 58, 59, 60, 61, 62, 63, 64, 65, 66, 67, 68, 4, 69, 70, 71, 72, 73, 74, 75, 76, 77, 78, 79, 80, 81, 82, 83, 84, 85, 86, 87, 88, 89, 90, 91, 92, 93, 94, 95, 96, 97, 175, 176, 177, 178, 179, 180, 181, 182, 183, 184, 185, 186, 187, 188, 189, 190, 191, 192, 193, 194, 195, 196, 197, 198, 199, 200, 201, 202, 203, 204, 205, 206, 207, 208, 209] rfl (by decide +kernel)
set_option maxRecDepth 20000 in
theorem gX11_cover_X11_currentWays : GoodIn wsX11_cover (wsV RX11 59 RX11 yX11_currentWays wsX11_currentWays) := goodIn_app (goodIn_of _ (by decide +kernel)) ggX11_cover_X11_currentWays
set_option maxRecDepth 20000 in
theorem ggX11_cover_X10_exists : GoodIn wsX11_cover wsX10_exists := goodIn_r _ [101, 23, 102, 103, 104, 9, 105, 22, 20, 25, 106, 107, 108, 109, 27, 110, 111, 112, 19, 113, 36, 114, 37, 115, 116, 117, 118, 119, 120, 121, 122, 123, 124, 125, 4, 126, 127, 128, 129, 130, 70, 71, 131, 132, 133, 134, 135, 136, 137, 34, 39, 38, 138, 139, 140, 141, 81, 82, 83, 84, 85, 86, 87, 88, 89, 142, 143, 144, 145, 146, 77, 78, 33, 79, 80, 43, 63, 44, 45, 147, 148, 149, 150, 151, 152, 153, 154, 68, 69, 155, 156, 157, 158, 159, 160, 161, 162, 163, 183, 184, 185, 186, 187, 188, 201, 202, 203, 204, 205, 206, 207, 208, 209, 189, 190, 191, 192, 193, 194, 195, 196, 197, 198, 199, 200] rfl (by decide +kernel)
set_option maxRecDepth 20000 in
theorem gX11_cover_X10_exists : GoodIn wsX11_cover (wsV RX11 63 RX10 yX10_exists wsX10_exists) := goodIn_app (goodIn_of _ (by decide +kernel)) ggX11_cover_X10_exists
set_option maxRecDepth 20000 in
theorem ggX11_cover_X10_chosen : GoodIn wsX11_cover wsX10_chosen := goodIn_r _ [167, 25, 102, 103, 104, 9, 105, 22, 20, 23, 106, 107, 108, 109, 27, 110, 111, 112, 19, 113, 36, 114, 37, 115, 116, 117, 118, 119, 120, 121, 122, 123, 124, 125, 4, 126, 127, 128, 129, 130, 70, 71, 131, 132, 133, 134, 135, 136, 137, 34, 39, 38, 138, 139, 140, 141, 81, 82, 83, 84, 85, 86, 87, 88, 89, 142, 143, 144, 145, 146, 77, 78, 33, 79, 80, 43, 63, 44, 45, 147, 148, 149, 150, 151, 152, 153, 154, 68, 69, 155, 156, 157, 158, 159, 160, 161, 162, 163, 183, 184, 185, 186, 187, 188, 201, 202, 203, 204, 205, 206, 207, 208, 209, 189, 190, 191, 192, 193, 194, 195, 196, 197, 198, 199, 200] rfl (by decide +kernel)
set_option maxRecDepth 20000 in
theorem gX11_cover_X10_chosen : GoodIn wsX11_cover (wsV RX11 68 RX10 yX10_chosen wsX10_chosen) := goodIn_app (goodIn_of _ (by decide +kernel)) ggX11_cover_X10_chosen
set_option maxRecDepth 20000 in
theorem ggX11_cover_J13_bitCount_95d88 : GoodIn wsX11_cover wsJ13_bitCount_95d88 := goodIn_r _ [171, 172, 173, 174] rfl (by decide +kernel)
set_option maxRecDepth 20000 in
theorem gX11_cover_J13_bitCount_95d88 : GoodIn wsX11_cover (va_wsS RX11 72 yJ13_bitCount_95d88 wsJ13_bitCount_95d88) := goodIn_app (goodIn_of _ (by decide +kernel)) ggX11_cover_J13_bitCount_95d88
theorem dX11_cover_0 : decode cX11_cover 0 = .ok (.aload_n 0, 1) := by decide +kernel
theorem dX11_cover_1 : decode cX11_cover 1 = .ok (.invokevirtual 59, 3) := by decide +kernel
theorem dX11_cover_4 : decode cX11_cover 4 = .ok (.astore_n 1, 1) := by decide +kernel
theorem dX11_cover_5 : decode cX11_cover 5 = .ok (.aload_n 1, 1) := by decide +kernel
theorem dX11_cover_6 : decode cX11_cover 6 = .ok (.iconst 4, 1) := by decide +kernel
theorem dX11_cover_7 : decode cX11_cover 7 = .ok (.invokevirtual 63, 3) := by decide +kernel
theorem dX11_cover_10 : decode cX11_cover 10 = .ok (.ifCond .eq 14, 3) := by decide +kernel
theorem dX11_cover_13 : decode cX11_cover 13 = .ok (.aload_n 1, 1) := by decide +kernel
theorem dX11_cover_14 : decode cX11_cover 14 = .ok (.iconst 4, 1) := by decide +kernel
theorem dX11_cover_15 : decode cX11_cover 15 = .ok (.invokevirtual 68, 3) := by decide +kernel
theorem dX11_cover_18 : decode cX11_cover 18 = .ok (.invokestatic 72, 3) := by decide +kernel
theorem dX11_cover_21 : decode cX11_cover 21 = .ok (.goto 5, 3) := by decide +kernel
theorem dX11_cover_24 : decode cX11_cover 24 = .ok (.bipush (-3), 2) := by decide +kernel
theorem dX11_cover_26 : decode cX11_cover 26 = .ok (.ireturn, 1) := by decide +kernel
set_option maxRecDepth 20000 in
theorem ggX11_coverArc_X11_currentWays : GoodIn wsX11_coverArc wsX11_currentWays := goodIn_r _ [5, 6, 7, 8, 9, 10, 11, 12, 13, 14, 15, 16, 17, 18, 19, 20, 21, 22, 23, 24, 25, 26, 27, 28, 29, 30, 31, 32, 33, 34, 35, 36, 37, 38, 39, 40, 41, 42, 43, 44, 45, 46, 47, 48, 49, 50, 51, 52, 53, 54, 55, 56, 57, 58, 59, 60, 61, 62, 63, 64, 65, 66, 67, 68, 4, 69, 70, 71, 72, 73, 74, 75, 76, 77, 78, 79, 80, 81, 82, 83, 84, 85, 86, 87, 88, 89, 90, 91, 92, 93, 94, 95, 96, 97, 172, 173, 174, 175, 176, 177, 178, 179, 180, 181, 182, 183, 184, 185, 186, 187, 188, 189, 190, 191, 192, 193, 194, 195, 196, 197, 198, 199, 200, 201, 202, 203, 204, 205, 206] rfl (by decide +kernel)
set_option maxRecDepth 20000 in
theorem gX11_coverArc_X11_currentWays : GoodIn wsX11_coverArc (wsV RX11 59 RX11 yX11_currentWays wsX11_currentWays) := goodIn_app (goodIn_of _ (by decide +kernel)) ggX11_coverArc_X11_currentWays
set_option maxRecDepth 20000 in
theorem ggX11_coverArc_X10_exists : GoodIn wsX11_coverArc wsX10_exists := goodIn_r _ [101, 23, 102, 103, 104, 9, 105, 22, 20, 25, 106, 107, 108, 109, 27, 110, 111, 112, 19, 113, 36, 114, 37, 115, 116, 117, 118, 119, 120, 121, 122, 123, 124, 125, 4, 126, 127, 128, 129, 130, 70, 71, 131, 132, 133, 134, 135, 136, 137, 34, 39, 38, 138, 139, 140, 141, 81, 82, 83, 84, 85, 86, 87, 88, 89, 142, 143, 144, 145, 146, 77, 78, 33, 79, 80, 43, 63, 44, 45, 147, 148, 149, 150, 151, 152, 153, 154, 68, 69, 155, 156, 157, 158, 159, 160, 161, 162, 163, 180, 181, 182, 183, 184, 185, 198, 199, 200, 201, 202, 203, 204, 205, 206, 186, 187, 188, 189, 190, 191, 192, 193, 194, 195, 196, 197] rfl (by decide +kernel)
set_option maxRecDepth 20000 in
theorem gX11_coverArc_X10_exists : GoodIn wsX11_coverArc (wsV RX11 63 RX10 yX10_exists wsX10_exists) := goodIn_app (goodIn_of _ (by decide +kernel)) ggX11_coverArc_X10_exists
set_option maxRecDepth 20000 in
theorem ggX11_coverArc_X10_chosen : GoodIn wsX11_coverArc wsX10_chosen := goodIn_r _ [167, 25, 102, 103, 104, 9, 105, 22, 20, 23, 106, 107, 108, 109, 27, 110, 111, 112, 19, 113, 36, 114, 37, 115, 116, 117, 118, 119, 120, 121, 122, 123, 124, 125, 4, 126, 127, 128, 129, 130, 70, 71, 131, 132, 133, 134, 135, 136, 137, 34, 39, 38, 138, 139, 140, 141, 81, 82, 83, 84, 85, 86, 87, 88, 89, 142, 143, 144, 145, 146, 77, 78, 33, 79, 80, 43, 63, 44, 45, 147, 148, 149, 150, 151, 152, 153, 154, 68, 69, 155, 156, 157, 158, 159, 160, 161, 162, 163, 180, 181, 182, 183, 184, 185, 198, 199, 200, 201, 202, 203, 204, 205, 206, 186, 187, 188, 189, 190, 191, 192, 193, 194, 195, 196, 197] rfl (by decide +kernel)
set_option maxRecDepth 20000 in
theorem gX11_coverArc_X10_chosen : GoodIn wsX11_coverArc (wsV RX11 68 RX10 yX10_chosen wsX10_chosen) := goodIn_app (goodIn_of _ (by decide +kernel)) ggX11_coverArc_X10_chosen
set_option maxRecDepth 20000 in
theorem ggX11_coverArc_X11_arcInPlace : GoodIn wsX11_coverArc wsX11_arcInPlace := goodIn_r _ [170, 171, 125, 4, 126] rfl (by decide +kernel)
set_option maxRecDepth 20000 in
theorem gX11_coverArc_X11_arcInPlace : GoodIn wsX11_coverArc (va_wsS RX11 138 yX11_arcInPlace wsX11_arcInPlace) := goodIn_app (goodIn_of _ (by decide +kernel)) ggX11_coverArc_X11_arcInPlace
theorem dX11_coverArc_0 : decode cX11_coverArc 0 = .ok (.aload_n 0, 1) := by decide +kernel
theorem dX11_coverArc_1 : decode cX11_coverArc 1 = .ok (.invokevirtual 59, 3) := by decide +kernel
theorem dX11_coverArc_4 : decode cX11_coverArc 4 = .ok (.astore_n 2, 1) := by decide +kernel
theorem dX11_coverArc_5 : decode cX11_coverArc 5 = .ok (.aload_n 2, 1) := by decide +kernel
theorem dX11_coverArc_6 : decode cX11_coverArc 6 = .ok (.iconst 4, 1) := by decide +kernel
theorem dX11_coverArc_7 : decode cX11_coverArc 7 = .ok (.invokevirtual 63, 3) := by decide +kernel
theorem dX11_coverArc_10 : decode cX11_coverArc 10 = .ok (.ifCond .eq 15, 3) := by decide +kernel
theorem dX11_coverArc_13 : decode cX11_coverArc 13 = .ok (.aload_n 2, 1) := by decide +kernel
theorem dX11_coverArc_14 : decode cX11_coverArc 14 = .ok (.iconst 4, 1) := by decide +kernel
theorem dX11_coverArc_15 : decode cX11_coverArc 15 = .ok (.invokevirtual 68, 3) := by decide +kernel
theorem dX11_coverArc_18 : decode cX11_coverArc 18 = .ok (.iload_n 1, 1) := by decide +kernel
theorem dX11_coverArc_19 : decode cX11_coverArc 19 = .ok (.invokestatic 138, 3) := by decide +kernel
theorem dX11_coverArc_22 : decode cX11_coverArc 22 = .ok (.goto 5, 3) := by decide +kernel
theorem dX11_coverArc_25 : decode cX11_coverArc 25 = .ok (.bipush (-3), 2) := by decide +kernel
theorem dX11_coverArc_27 : decode cX11_coverArc 27 = .ok (.ireturn, 1) := by decide +kernel
set_option maxRecDepth 20000 in
theorem ggX11_hold_X11_currentHolds : GoodIn wsX11_hold wsX11_currentHolds := goodIn_r _ [5, 6, 7, 8, 9, 10, 11, 12, 13, 14, 15, 16, 17, 18, 19, 20, 21, 22, 23, 24, 25, 26, 27, 28, 29, 30, 31, 32, 33, 34, 35, 36, 37, 38, 39, 40, 41, 42, 4, 43, 44, 45, 46, 47, 48, 49, 50, 51, 52, 53, 54, 55, 56, 57, 63, 64, 65, 66, 67, 68, 69, 70, 59, 60, 61, 62, 71, 72, 73, 74, 75, 76, 77, 78, 79] rfl (by decide +kernel)
set_option maxRecDepth 20000 in
theorem gX11_hold_X11_currentHolds : GoodIn wsX11_hold (wsV RX11 141 RX11 yX11_currentHolds wsX11_currentHolds) := goodIn_app (goodIn_of _ (by decide +kernel)) ggX11_hold_X11_currentHolds
set_option maxRecDepth 20000 in
theorem ggX11_hold_J6_bitCount_0f7a4 : GoodIn wsX11_hold wsJ6_bitCount_0f7a4 := goodIn_r _ [47, 48, 49, 50] rfl (by decide +kernel)
set_option maxRecDepth 20000 in
theorem gX11_hold_J6_bitCount_0f7a4 : GoodIn wsX11_hold (va_wsS RX11 107 yJ6_bitCount_0f7a4 wsJ6_bitCount_0f7a4) := goodIn_app (goodIn_of _ (by decide +kernel)) ggX11_hold_J6_bitCount_0f7a4
theorem dX11_hold_0 : decode cX11_hold 0 = .ok (.aload_n 0, 1) := by decide +kernel
theorem dX11_hold_1 : decode cX11_hold 1 = .ok (.invokevirtual 141, 3) := by decide +kernel
theorem dX11_hold_4 : decode cX11_hold 4 = .ok (.getfield 145, 3) := by decide +kernel
theorem dX11_hold_7 : decode cX11_hold 7 = .ok (.invokestatic 107, 3) := by decide +kernel
theorem dX11_hold_10 : decode cX11_hold 10 = .ok (.ireturn, 1) := by decide +kernel
set_option maxRecDepth 20000 in
theorem ggX11_holdNode_X11_currentHolds : GoodIn wsX11_holdNode wsX11_currentHolds := goodIn_r _ [5, 6, 7, 8, 9, 10, 11, 12, 13, 14, 15, 16, 17, 18, 19, 20, 21, 22, 23, 24, 25, 26, 27, 28, 29, 30, 31, 32, 33, 34, 35, 36, 37, 38, 39, 40, 41, 42, 4, 43, 44, 45, 46, 47, 48, 49, 50, 51, 52, 53, 54, 55, 56, 57, 66, 67, 68, 69, 70, 71, 72, 73, 62, 63, 64, 65, 74, 75, 76, 77, 78, 79, 80, 81, 82] rfl (by decide +kernel)
set_option maxRecDepth 20000 in
theorem gX11_holdNode_X11_currentHolds : GoodIn wsX11_holdNode (wsV RX11 141 RX11 yX11_currentHolds wsX11_currentHolds) := goodIn_app (goodIn_of _ (by decide +kernel)) ggX11_holdNode_X11_currentHolds
set_option maxRecDepth 20000 in
theorem ggX11_holdNode_X11_nodeInPlace : GoodIn wsX11_holdNode wsX11_nodeInPlace := goodIn_r _ [60, 61, 42, 4, 43] rfl (by decide +kernel)
set_option maxRecDepth 20000 in
theorem gX11_holdNode_X11_nodeInPlace : GoodIn wsX11_holdNode (va_wsS RX11 149 yX11_nodeInPlace wsX11_nodeInPlace) := goodIn_app (goodIn_of _ (by decide +kernel)) ggX11_holdNode_X11_nodeInPlace
theorem dX11_holdNode_0 : decode cX11_holdNode 0 = .ok (.aload_n 0, 1) := by decide +kernel
theorem dX11_holdNode_1 : decode cX11_holdNode 1 = .ok (.invokevirtual 141, 3) := by decide +kernel
theorem dX11_holdNode_4 : decode cX11_holdNode 4 = .ok (.getfield 145, 3) := by decide +kernel
theorem dX11_holdNode_7 : decode cX11_holdNode 7 = .ok (.iload_n 1, 1) := by decide +kernel
theorem dX11_holdNode_8 : decode cX11_holdNode 8 = .ok (.invokestatic 149, 3) := by decide +kernel
theorem dX11_holdNode_11 : decode cX11_holdNode 11 = .ok (.ireturn, 1) := by decide +kernel
set_option maxRecDepth 20000 in
theorem ggX11_join_X2_allNodes : GoodIn wsX11_join wsX2_allNodes := goodIn_r _ [6, 7, 190, 191, 192, 193, 194, 195, 196, 197, 198] rfl (by decide +kernel)
set_option maxRecDepth 20000 in
theorem gX11_join_X2_allNodes : GoodIn wsX11_join (wsV RX11 153 RX2 yX2_allNodes wsX2_allNodes) := goodIn_app (goodIn_of _ (by decide +kernel)) ggX11_join_X2_allNodes
set_option maxRecDepth 20000 in
theorem ggX11_join_X11_currentJoins : GoodIn wsX11_join wsX11_currentJoins := goodIn_r _ [12, 13, 14, 15, 16, 1, 17, 18, 19, 20, 21, 22, 23, 24, 25, 26, 27, 28, 29, 30, 31, 32, 33, 34, 35, 36, 37, 38, 39, 40, 41, 42, 43, 44, 45, 46, 47, 48, 49, 50, 51, 52, 53, 54, 55, 56, 175, 176, 177, 178, 179, 180, 181, 182, 183, 184, 185, 186, 187, 188, 189, 199, 200, 201, 202, 203, 204, 205, 206, 207, 208, 209, 210, 190, 191, 192, 193, 194, 195, 196, 197, 198] rfl (by decide +kernel)
set_option maxRecDepth 20000 in
theorem gX11_join_X11_currentJoins : GoodIn wsX11_join (wsV RX11 156 RX11 yX11_currentJoins wsX11_currentJoins) := goodIn_app (goodIn_of _ (by decide +kernel)) ggX11_join_X11_currentJoins
set_option maxRecDepth 20000 in
theorem ggX11_join_X4_tell : GoodIn wsX11_join wsX4_tell := goodIn_r _ [60, 26, 28, 55, 61, 62, 63, 64, 16, 65, 56, 30, 66, 67, 68, 69, 25, 70, 38, 71, 40, 72, 73, 74, 75, 76, 77, 78, 79, 11, 80, 81, 82, 83, 84, 85, 86, 87, 88, 89, 90, 91, 92, 93, 94, 95, 96, 97, 98, 99, 100, 101, 36, 102, 103, 104, 105, 106, 107, 108, 49, 50, 109, 110, 111, 112, 113, 114, 115, 116, 117, 118, 119, 46, 47, 48, 120, 121, 122, 123, 124, 125, 126, 127, 128, 129, 130, 131, 132, 133, 134, 135, 136, 137, 138, 139, 140, 37, 42, 41, 141, 142, 143, 144, 145, 146, 147, 148, 149, 150, 151, 152, 153, 154, 155, 156, 157, 158, 159, 160, 161, 162, 163, 164, 165, 166, 167, 168, 183, 184, 185, 186, 187, 188, 189, 199, 200, 201, 202, 203, 190, 191, 192, 193, 194, 195, 196, 197, 198, 204, 205, 206, 207, 208, 209, 210] rfl (by decide +kernel)
set_option maxRecDepth 20000 in
theorem gX11_join_X4_tell : GoodIn wsX11_join (wsV RX11 160 RX4 yX4_tell wsX4_tell) := goodIn_app (goodIn_of _ (by decide +kernel)) ggX11_join_X4_tell
set_option maxRecDepth 20000 in
theorem ggX11_join_X2_weightOf : GoodIn wsX11_join wsX2_weightOf := goodIn_r _ [172, 173, 174, 79, 11, 80, 190, 191, 192, 193, 194, 195, 196, 197, 198] rfl (by decide +kernel)
set_option maxRecDepth 20000 in
theorem gX11_join_X2_weightOf : GoodIn wsX11_join (wsV RX11 78 RX2 yX2_weightOf wsX2_weightOf) := goodIn_app (goodIn_of _ (by decide +kernel)) ggX11_join_X2_weightOf
theorem dX11_join_0 : decode cX11_join 0 = .ok (.iload_n 1, 1) := by decide +kernel
theorem dX11_join_1 : decode cX11_join 1 = .ok (.aload_n 0, 1) := by decide +kernel
theorem dX11_join_2 : decode cX11_join 2 = .ok (.getfield 12, 3) := by decide +kernel
theorem dX11_join_5 : decode cX11_join 5 = .ok (.invokevirtual 153, 3) := by decide +kernel
theorem dX11_join_8 : decode cX11_join 8 = .ok (.iconst (-1), 1) := by decide +kernel
theorem dX11_join_9 : decode cX11_join 9 = .ok (.ixor, 1) := by decide +kernel
theorem dX11_join_10 : decode cX11_join 10 = .ok (.iand, 1) := by decide +kernel
theorem dX11_join_11 : decode cX11_join 11 = .ok (.ifCond .eq 6, 3) := by decide +kernel
theorem dX11_join_14 : decode cX11_join 14 = .ok (.bipush (-2), 2) := by decide +kernel
theorem dX11_join_16 : decode cX11_join 16 = .ok (.ireturn, 1) := by decide +kernel
theorem dX11_join_17 : decode cX11_join 17 = .ok (.aload_n 0, 1) := by decide +kernel
theorem dX11_join_18 : decode cX11_join 18 = .ok (.invokevirtual 156, 3) := by decide +kernel
theorem dX11_join_21 : decode cX11_join 21 = .ok (.astore_n 2, 1) := by decide +kernel
theorem dX11_join_22 : decode cX11_join 22 = .ok (.aload_n 2, 1) := by decide +kernel
theorem dX11_join_23 : decode cX11_join 23 = .ok (.iload_n 1, 1) := by decide +kernel
theorem dX11_join_24 : decode cX11_join 24 = .ok (.invokevirtual 160, 3) := by decide +kernel
theorem dX11_join_27 : decode cX11_join 27 = .ok (.ifCond .eq 17, 3) := by decide +kernel
theorem dX11_join_30 : decode cX11_join 30 = .ok (.aload_n 0, 1) := by decide +kernel
theorem dX11_join_31 : decode cX11_join 31 = .ok (.getfield 12, 3) := by decide +kernel
theorem dX11_join_34 : decode cX11_join 34 = .ok (.aload_n 2, 1) := by decide +kernel
theorem dX11_join_35 : decode cX11_join 35 = .ok (.getfield 165, 3) := by decide +kernel
theorem dX11_join_38 : decode cX11_join 38 = .ok (.invokevirtual 78, 3) := by decide +kernel
theorem dX11_join_41 : decode cX11_join 41 = .ok (.goto 5, 3) := by decide +kernel
theorem dX11_join_44 : decode cX11_join 44 = .ok (.bipush (-3), 2) := by decide +kernel
theorem dX11_join_46 : decode cX11_join 46 = .ok (.ireturn, 1) := by decide +kernel
set_option maxRecDepth 20000 in
theorem ggX11_joinArc_X4_refresh : GoodIn wsX11_joinArc wsX4_refresh := goodIn_r _ [6, 7, 8, 9, 10, 26, 27, 28, 29, 30, 31, 32, 33, 34, 35, 36, 37, 38, 39, 40, 41] rfl (by decide +kernel)
set_option maxRecDepth 20000 in
theorem gX11_joinArc_X4_refresh : GoodIn wsX11_joinArc (wsV RX11 173 RX4 yX4_refresh wsX4_refresh) := goodIn_app (goodIn_of _ (by decide +kernel)) ggX11_joinArc_X4_refresh
set_option maxRecDepth 20000 in
theorem ggX11_joinArc_X11_arcInPlace : GoodIn wsX11_joinArc wsX11_arcInPlace := goodIn_r _ [14, 15, 16, 13, 17] rfl (by decide +kernel)
set_option maxRecDepth 20000 in
theorem gX11_joinArc_X11_arcInPlace : GoodIn wsX11_joinArc (va_wsS RX11 138 yX11_arcInPlace wsX11_arcInPlace) := goodIn_app (goodIn_of _ (by decide +kernel)) ggX11_joinArc_X11_arcInPlace
theorem dX11_joinArc_0 : decode cX11_joinArc 0 = .ok (.aload_n 0, 1) := by decide +kernel
theorem dX11_joinArc_1 : decode cX11_joinArc 1 = .ok (.getfield 169, 3) := by decide +kernel
theorem dX11_joinArc_4 : decode cX11_joinArc 4 = .ok (.ifnonnull 6, 3) := by decide +kernel
theorem dX11_joinArc_7 : decode cX11_joinArc 7 = .ok (.bipush (-3), 2) := by decide +kernel
theorem dX11_joinArc_9 : decode cX11_joinArc 9 = .ok (.ireturn, 1) := by decide +kernel
theorem dX11_joinArc_10 : decode cX11_joinArc 10 = .ok (.aload_n 0, 1) := by decide +kernel
theorem dX11_joinArc_11 : decode cX11_joinArc 11 = .ok (.getfield 169, 3) := by decide +kernel
theorem dX11_joinArc_14 : decode cX11_joinArc 14 = .ok (.invokevirtual 173, 3) := by decide +kernel
theorem dX11_joinArc_17 : decode cX11_joinArc 17 = .ok (.aload_n 0, 1) := by decide +kernel
theorem dX11_joinArc_18 : decode cX11_joinArc 18 = .ok (.getfield 169, 3) := by decide +kernel
theorem dX11_joinArc_21 : decode cX11_joinArc 21 = .ok (.getfield 176, 3) := by decide +kernel
theorem dX11_joinArc_24 : decode cX11_joinArc 24 = .ok (.ifCond .eq 17, 3) := by decide +kernel
theorem dX11_joinArc_27 : decode cX11_joinArc 27 = .ok (.aload_n 0, 1) := by decide +kernel
theorem dX11_joinArc_28 : decode cX11_joinArc 28 = .ok (.getfield 169, 3) := by decide +kernel
theorem dX11_joinArc_31 : decode cX11_joinArc 31 = .ok (.getfield 165, 3) := by decide +kernel
theorem dX11_joinArc_34 : decode cX11_joinArc 34 = .ok (.iload_n 1, 1) := by decide +kernel
theorem dX11_joinArc_35 : decode cX11_joinArc 35 = .ok (.invokestatic 138, 3) := by decide +kernel
theorem dX11_joinArc_38 : decode cX11_joinArc 38 = .ok (.goto 5, 3) := by decide +kernel
theorem dX11_joinArc_41 : decode cX11_joinArc 41 = .ok (.bipush (-3), 2) := by decide +kernel
theorem dX11_joinArc_43 : decode cX11_joinArc 43 = .ok (.ireturn, 1) := by decide +kernel
set_option maxRecDepth 20000 in
theorem ggX11_rank_X2_isNode : GoodIn wsX11_rank wsX2_isNode := goodIn_r _ [7, 8, 27, 28, 29, 30, 31, 32, 33, 34, 35] rfl (by decide +kernel)
set_option maxRecDepth 20000 in
theorem gX11_rank_X2_isNode : GoodIn wsX11_rank (wsV RX11 31 RX2 yX2_isNode wsX2_isNode) := goodIn_app (goodIn_of _ (by decide +kernel)) ggX11_rank_X2_isNode
set_option maxRecDepth 20000 in
theorem ggX11_rank_X6_replace : GoodIn wsX11_rank wsX6_replace := goodIn_r _ [13, 14, 15, 16, 17, 18, 36, 37] rfl (by decide +kernel)
set_option maxRecDepth 20000 in
theorem gX11_rank_X6_replace : GoodIn wsX11_rank (wsV RX11 179 RX6 yX6_replace wsX6_replace) := goodIn_app (goodIn_of _ (by decide +kernel)) ggX11_rank_X6_replace
theorem dX11_rank_0 : decode cX11_rank 0 = .ok (.aload_n 0, 1) := by decide +kernel
theorem dX11_rank_1 : decode cX11_rank 1 = .ok (.getfield 12, 3) := by decide +kernel
theorem dX11_rank_4 : decode cX11_rank 4 = .ok (.iload_n 1, 1) := by decide +kernel
theorem dX11_rank_5 : decode cX11_rank 5 = .ok (.invokevirtual 31, 3) := by decide +kernel
theorem dX11_rank_8 : decode cX11_rank 8 = .ok (.ifCond .eq 14, 3) := by decide +kernel
theorem dX11_rank_11 : decode cX11_rank 11 = .ok (.aload_n 0, 1) := by decide +kernel
theorem dX11_rank_12 : decode cX11_rank 12 = .ok (.getfield 12, 3) := by decide +kernel
theorem dX11_rank_15 : decode cX11_rank 15 = .ok (.iload_n 2, 1) := by decide +kernel
theorem dX11_rank_16 : decode cX11_rank 16 = .ok (.invokevirtual 31, 3) := by decide +kernel
theorem dX11_rank_19 : decode cX11_rank 19 = .ok (.ifCond .ne 5, 3) := by decide +kernel
theorem dX11_rank_22 : decode cX11_rank 22 = .ok (.iconst (-1), 1) := by decide +kernel
theorem dX11_rank_23 : decode cX11_rank 23 = .ok (.ireturn, 1) := by decide +kernel
theorem dX11_rank_24 : decode cX11_rank 24 = .ok (.iload_n 1, 1) := by decide +kernel
theorem dX11_rank_25 : decode cX11_rank 25 = .ok (.iload_n 2, 1) := by decide +kernel
theorem dX11_rank_26 : decode cX11_rank 26 = .ok (.if_icmp .eq 14, 3) := by decide +kernel
theorem dX11_rank_29 : decode cX11_rank 29 = .ok (.iload_n 3, 1) := by decide +kernel
theorem dX11_rank_30 : decode cX11_rank 30 = .ok (.iconst (-1), 1) := by decide +kernel
theorem dX11_rank_31 : decode cX11_rank 31 = .ok (.if_icmp .lt 9, 3) := by decide +kernel
theorem dX11_rank_34 : decode cX11_rank 34 = .ok (.iload_n 3, 1) := by decide +kernel
theorem dX11_rank_35 : decode cX11_rank 35 = .ok (.bipush 99, 2) := by decide +kernel
theorem dX11_rank_37 : decode cX11_rank 37 = .ok (.if_icmp .le 6, 3) := by decide +kernel
theorem dX11_rank_40 : decode cX11_rank 40 = .ok (.bipush (-2), 2) := by decide +kernel
theorem dX11_rank_42 : decode cX11_rank 42 = .ok (.ireturn, 1) := by decide +kernel
theorem dX11_rank_43 : decode cX11_rank 43 = .ok (.aload_n 0, 1) := by decide +kernel
theorem dX11_rank_44 : decode cX11_rank 44 = .ok (.getfield 19, 3) := by decide +kernel
theorem dX11_rank_47 : decode cX11_rank 47 = .ok (.iload_n 1, 1) := by decide +kernel
theorem dX11_rank_48 : decode cX11_rank 48 = .ok (.iload_n 2, 1) := by decide +kernel
theorem dX11_rank_49 : decode cX11_rank 49 = .ok (.iload_n 3, 1) := by decide +kernel
theorem dX11_rank_50 : decode cX11_rank 50 = .ok (.invokevirtual 179, 3) := by decide +kernel
theorem dX11_rank_53 : decode cX11_rank 53 = .ok (.ireturn, 1) := by decide +kernel
set_option maxRecDepth 20000 in
theorem ggX11_stable_X11_currentStables : GoodIn wsX11_stable wsX11_currentStables := goodIn_r _ [6, 7, 8, 9, 10, 1, 11, 12, 13, 14, 15, 16, 17, 18, 19, 20, 21, 22, 23, 24, 25, 26, 27, 28, 29, 30, 31, 32, 33, 34, 35, 36, 37, 38, 39, 40, 41, 42, 43, 44, 45, 46, 5, 47, 48, 49, 50, 51, 52, 53, 54, 55, 56, 57, 58, 59, 60, 61, 62, 63, 64, 65, 66, 67, 68, 69, 70, 71, 72, 73, 74, 75, 76, 77, 78, 79, 80, 81, 82, 83, 84, 85, 86, 87, 88, 89, 90, 91, 92, 93, 94, 104, 105, 106, 107, 108, 109, 110, 111, 112, 113, 95, 96, 97, 98, 99, 100, 101, 102, 103, 114, 115] rfl (by decide +kernel)
set_option maxRecDepth 20000 in
theorem gX11_stable_X11_currentStables : GoodIn wsX11_stable (wsV RX11 182 RX11 yX11_currentStables wsX11_currentStables) := goodIn_app (goodIn_of _ (by decide +kernel)) ggX11_stable_X11_currentStables
theorem dX11_stable_0 : decode cX11_stable 0 = .ok (.aload_n 0, 1) := by decide +kernel
theorem dX11_stable_1 : decode cX11_stable 1 = .ok (.getfield 12, 3) := by decide +kernel
theorem dX11_stable_4 : decode cX11_stable 4 = .ok (.getfield 23, 3) := by decide +kernel
theorem dX11_stable_7 : decode cX11_stable 7 = .ok (.bipush 12, 2) := by decide +kernel
theorem dX11_stable_9 : decode cX11_stable 9 = .ok (.if_icmp .le 8, 3) := by decide +kernel
theorem dX11_stable_12 : decode cX11_stable 12 = .ok (.bipush (-4), 2) := by decide +kernel
theorem dX11_stable_14 : decode cX11_stable 14 = .ok (.goto 10, 3) := by decide +kernel
theorem dX11_stable_17 : decode cX11_stable 17 = .ok (.aload_n 0, 1) := by decide +kernel
theorem dX11_stable_18 : decode cX11_stable 18 = .ok (.invokevirtual 182, 3) := by decide +kernel
theorem dX11_stable_21 : decode cX11_stable 21 = .ok (.getfield 186, 3) := by decide +kernel
theorem dX11_stable_24 : decode cX11_stable 24 = .ok (.ireturn, 1) := by decide +kernel
set_option maxRecDepth 20000 in
theorem ggX11_stableMate_X2_isNode : GoodIn wsX11_stableMate wsX2_isNode := goodIn_r _ [6, 7, 106, 107, 108, 109, 110, 111, 112, 113, 114] rfl (by decide +kernel)
set_option maxRecDepth 20000 in
theorem gX11_stableMate_X2_isNode : GoodIn wsX11_stableMate (wsV RX11 31 RX2 yX2_isNode wsX2_isNode) := goodIn_app (goodIn_of _ (by decide +kernel)) ggX11_stableMate_X2_isNode
set_option maxRecDepth 20000 in
theorem ggX11_stableMate_X11_currentStables : GoodIn wsX11_stableMate wsX11_currentStables := goodIn_r _ [12, 13, 14, 15, 16, 1, 17, 18, 19, 20, 21, 22, 23, 24, 25, 26, 27, 28, 29, 30, 31, 32, 33, 34, 35, 36, 37, 38, 39, 40, 41, 42, 43, 44, 45, 46, 47, 48, 49, 50, 51, 52, 11, 53, 54, 55, 56, 57, 58, 59, 60, 61, 62, 63, 64, 65, 66, 67, 68, 69, 70, 71, 72, 5, 73, 7, 74, 75, 76, 77, 78, 79, 80, 81, 82, 83, 84, 85, 86, 87, 88, 89, 90, 98, 99, 100, 101, 102, 103, 104, 105, 115, 116, 117, 118, 119, 120, 121, 122, 123, 124, 106, 107, 108, 109, 110, 111, 112, 113, 114, 125, 126] rfl (by decide +kernel)
set_option maxRecDepth 20000 in
theorem gX11_stableMate_X11_currentStables : GoodIn wsX11_stableMate (wsV RX11 182 RX11 yX11_currentStables wsX11_currentStables) := goodIn_app (goodIn_of _ (by decide +kernel)) ggX11_stableMate_X11_currentStables
set_option maxRecDepth 20000 in
theorem ggX11_stableMate_X2_arcAt : GoodIn wsX11_stableMate wsX2_arcAt := goodIn_r _ [94, 95, 96, 97, 54, 11, 55, 106, 107, 108, 109, 110, 111, 112, 113, 114] rfl (by decide +kernel)
set_option maxRecDepth 20000 in
theorem gX11_stableMate_X2_arcAt : GoodIn wsX11_stableMate (wsV RX11 81 RX2 yX2_arcAt wsX2_arcAt) := goodIn_app (goodIn_of _ (by decide +kernel)) ggX11_stableMate_X2_arcAt
theorem dX11_stableMate_0 : decode cX11_stableMate 0 = .ok (.aload_n 0, 1) := by decide +kernel
theorem dX11_stableMate_1 : decode cX11_stableMate 1 = .ok (.getfield 12, 3) := by decide +kernel
theorem dX11_stableMate_4 : decode cX11_stableMate 4 = .ok (.iload_n 1, 1) := by decide +kernel
theorem dX11_stableMate_5 : decode cX11_stableMate 5 = .ok (.invokevirtual 31, 3) := by decide +kernel
theorem dX11_stableMate_8 : decode cX11_stableMate 8 = .ok (.ifCond .ne 5, 3) := by decide +kernel
theorem dX11_stableMate_11 : decode cX11_stableMate 11 = .ok (.iconst (-1), 1) := by decide +kernel
theorem dX11_stableMate_12 : decode cX11_stableMate 12 = .ok (.ireturn, 1) := by decide +kernel
theorem dX11_stableMate_13 : decode cX11_stableMate 13 = .ok (.aload_n 0, 1) := by decide +kernel
theorem dX11_stableMate_14 : decode cX11_stableMate 14 = .ok (.getfield 12, 3) := by decide +kernel
theorem dX11_stableMate_17 : decode cX11_stableMate 17 = .ok (.getfield 23, 3) := by decide +kernel
theorem dX11_stableMate_20 : decode cX11_stableMate 20 = .ok (.bipush 12, 2) := by decide +kernel
theorem dX11_stableMate_22 : decode cX11_stableMate 22 = .ok (.if_icmp .le 6, 3) := by decide +kernel
theorem dX11_stableMate_25 : decode cX11_stableMate 25 = .ok (.bipush (-4), 2) := by decide +kernel
theorem dX11_stableMate_27 : decode cX11_stableMate 27 = .ok (.ireturn, 1) := by decide +kernel
theorem dX11_stableMate_28 : decode cX11_stableMate 28 = .ok (.aload_n 0, 1) := by decide +kernel
theorem dX11_stableMate_29 : decode cX11_stableMate 29 = .ok (.invokevirtual 182, 3) := by decide +kernel
theorem dX11_stableMate_32 : decode cX11_stableMate 32 = .ok (.astore_n 2, 1) := by decide +kernel
theorem dX11_stableMate_33 : decode cX11_stableMate 33 = .ok (.aload_n 2, 1) := by decide +kernel
theorem dX11_stableMate_34 : decode cX11_stableMate 34 = .ok (.getfield 186, 3) := by decide +kernel
theorem dX11_stableMate_37 : decode cX11_stableMate 37 = .ok (.ifCond .ne 8, 3) := by decide +kernel
theorem dX11_stableMate_40 : decode cX11_stableMate 40 = .ok (.bipush (-3), 2) := by decide +kernel
theorem dX11_stableMate_42 : decode cX11_stableMate 42 = .ok (.goto 15, 3) := by decide +kernel
theorem dX11_stableMate_45 : decode cX11_stableMate 45 = .ok (.aload_n 0, 1) := by decide +kernel
theorem dX11_stableMate_46 : decode cX11_stableMate 46 = .ok (.getfield 12, 3) := by decide +kernel
theorem dX11_stableMate_49 : decode cX11_stableMate 49 = .ok (.aload_n 2, 1) := by decide +kernel
theorem dX11_stableMate_50 : decode cX11_stableMate 50 = .ok (.getfield 191, 3) := by decide +kernel
theorem dX11_stableMate_53 : decode cX11_stableMate 53 = .ok (.iload_n 1, 1) := by decide +kernel
theorem dX11_stableMate_54 : decode cX11_stableMate 54 = .ok (.invokevirtual 81, 3) := by decide +kernel
theorem dX11_stableMate_57 : decode cX11_stableMate 57 = .ok (.ireturn, 1) := by decide +kernel
theorem dX11_isWay_0 : decode cX11_isWay 0 = .ok (.iload_n 0, 1) := by decide +kernel
theorem dX11_isWay_1 : decode cX11_isWay 1 = .ok (.ifCond .lt 12, 3) := by decide +kernel
theorem dX11_isWay_4 : decode cX11_isWay 4 = .ok (.iload_n 0, 1) := by decide +kernel
theorem dX11_isWay_5 : decode cX11_isWay 5 = .ok (.iconst 4, 1) := by decide +kernel
theorem dX11_isWay_6 : decode cX11_isWay 6 = .ok (.if_icmp .ge 7, 3) := by decide +kernel
theorem dX11_isWay_9 : decode cX11_isWay 9 = .ok (.iconst 1, 1) := by decide +kernel
theorem dX11_isWay_10 : decode cX11_isWay 10 = .ok (.goto 4, 3) := by decide +kernel
theorem dX11_isWay_13 : decode cX11_isWay 13 = .ok (.iconst 0, 1) := by decide +kernel
theorem dX11_isWay_14 : decode cX11_isWay 14 = .ok (.ireturn, 1) := by decide +kernel
theorem dX11_has_0 : decode cX11_has 0 = .ok (.iload_n 0, 1) := by decide +kernel
theorem dX11_has_1 : decode cX11_has 1 = .ok (.iload_n 1, 1) := by decide +kernel
theorem dX11_has_2 : decode cX11_has 2 = .ok (.ishr, 1) := by decide +kernel
theorem dX11_has_3 : decode cX11_has 3 = .ok (.iconst 1, 1) := by decide +kernel
theorem dX11_has_4 : decode cX11_has 4 = .ok (.iand, 1) := by decide +kernel
theorem dX11_has_5 : decode cX11_has 5 = .ok (.ifCond .eq 7, 3) := by decide +kernel
theorem dX11_has_8 : decode cX11_has 8 = .ok (.iconst 1, 1) := by decide +kernel
theorem dX11_has_9 : decode cX11_has 9 = .ok (.goto 4, 3) := by decide +kernel
theorem dX11_has_12 : decode cX11_has 12 = .ok (.iconst 0, 1) := by decide +kernel
theorem dX11_has_13 : decode cX11_has 13 = .ok (.ireturn, 1) := by decide +kernel
set_option maxRecDepth 20000 in
theorem ggX11_leastNode_J6_bitCount_0f7a4 : GoodIn wsX11_leastNode wsJ6_bitCount_0f7a4 := goodIn_r _ [4, 5, 6, 7] rfl (by decide +kernel)
set_option maxRecDepth 20000 in
theorem gX11_leastNode_J6_bitCount_0f7a4 : GoodIn wsX11_leastNode (va_wsS RX11 107 yJ6_bitCount_0f7a4 wsJ6_bitCount_0f7a4) := goodIn_app (goodIn_of _ (by decide +kernel)) ggX11_leastNode_J6_bitCount_0f7a4
theorem dX11_leastNode_0 : decode cX11_leastNode 0 = .ok (.iload_n 0, 1) := by decide +kernel
theorem dX11_leastNode_1 : decode cX11_leastNode 1 = .ok (.iload_n 0, 1) := by decide +kernel
theorem dX11_leastNode_2 : decode cX11_leastNode 2 = .ok (.ineg, 1) := by decide +kernel
theorem dX11_leastNode_3 : decode cX11_leastNode 3 = .ok (.iand, 1) := by decide +kernel
theorem dX11_leastNode_4 : decode cX11_leastNode 4 = .ok (.iconst 1, 1) := by decide +kernel
theorem dX11_leastNode_5 : decode cX11_leastNode 5 = .ok (.isub, 1) := by decide +kernel
theorem dX11_leastNode_6 : decode cX11_leastNode 6 = .ok (.invokestatic 107, 3) := by decide +kernel
theorem dX11_leastNode_9 : decode cX11_leastNode 9 = .ok (.ireturn, 1) := by decide +kernel
theorem dX11_cell_0 : decode cX11_cell 0 = .ok (.iload_n 0, 1) := by decide +kernel
theorem dX11_cell_1 : decode cX11_cell 1 = .ok (.bipush 16, 2) := by decide +kernel
theorem dX11_cell_3 : decode cX11_cell 3 = .ok (.imul, 1) := by decide +kernel
theorem dX11_cell_4 : decode cX11_cell 4 = .ok (.iload_n 1, 1) := by decide +kernel
theorem dX11_cell_5 : decode cX11_cell 5 = .ok (.iadd, 1) := by decide +kernel
theorem dX11_cell_6 : decode cX11_cell 6 = .ok (.ireturn, 1) := by decide +kernel
theorem dX11_markOf_0 : decode cX11_markOf 0 = .ok (.lconst 1, 1) := by decide +kernel
theorem dX11_markOf_1 : decode cX11_markOf 1 = .ok (.bipush 59, 2) := by decide +kernel
theorem dX11_markOf_3 : decode cX11_markOf 3 = .ok (.iload_n 0, 1) := by decide +kernel
theorem dX11_markOf_4 : decode cX11_markOf 4 = .ok (.isub, 1) := by decide +kernel
theorem dX11_markOf_5 : decode cX11_markOf 5 = .ok (.lshl, 1) := by decide +kernel
theorem dX11_markOf_6 : decode cX11_markOf 6 = .ok (.lreturn, 1) := by decide +kernel
set_option maxRecDepth 20000 in
theorem ggX11_arcInPlace_X11_markOf : GoodIn wsX11_arcInPlace wsX11_markOf := goodIn_r _ [4] rfl (by decide +kernel)
set_option maxRecDepth 20000 in
theorem gX11_arcInPlace_X11_markOf : GoodIn wsX11_arcInPlace (va_wsS RX11 194 yX11_markOf wsX11_markOf) := goodIn_app (goodIn_of _ (by decide +kernel)) ggX11_arcInPlace_X11_markOf
theorem dX11_arcInPlace_0 : decode cX11_arcInPlace 0 = .ok (.iconst 0, 1) := by decide +kernel
theorem dX11_arcInPlace_1 : decode cX11_arcInPlace 1 = .ok (.istore_n 3, 1) := by decide +kernel
theorem dX11_arcInPlace_2 : decode cX11_arcInPlace 2 = .ok (.iconst 0, 1) := by decide +kernel
theorem dX11_arcInPlace_3 : decode cX11_arcInPlace 3 = .ok (.istore 4, 2) := by decide +kernel
theorem dX11_arcInPlace_5 : decode cX11_arcInPlace 5 = .ok (.iload 4, 2) := by decide +kernel
theorem dX11_arcInPlace_7 : decode cX11_arcInPlace 7 = .ok (.bipush 60, 2) := by decide +kernel
theorem dX11_arcInPlace_9 : decode cX11_arcInPlace 9 = .ok (.if_icmp .ge 32, 3) := by decide +kernel
theorem dX11_arcInPlace_12 : decode cX11_arcInPlace 12 = .ok (.lload_n 0, 1) := by decide +kernel
theorem dX11_arcInPlace_13 : decode cX11_arcInPlace 13 = .ok (.iload 4, 2) := by decide +kernel
theorem dX11_arcInPlace_15 : decode cX11_arcInPlace 15 = .ok (.invokestatic 194, 3) := by decide +kernel
theorem dX11_arcInPlace_18 : decode cX11_arcInPlace 18 = .ok (.land, 1) := by decide +kernel
theorem dX11_arcInPlace_19 : decode cX11_arcInPlace 19 = .ok (.lconst 0, 1) := by decide +kernel
theorem dX11_arcInPlace_20 : decode cX11_arcInPlace 20 = .ok (.lcmp, 1) := by decide +kernel
theorem dX11_arcInPlace_21 : decode cX11_arcInPlace 21 = .ok (.ifCond .eq 14, 3) := by decide +kernel
theorem dX11_arcInPlace_24 : decode cX11_arcInPlace 24 = .ok (.iload_n 3, 1) := by decide +kernel
theorem dX11_arcInPlace_25 : decode cX11_arcInPlace 25 = .ok (.iload_n 2, 1) := by decide +kernel
theorem dX11_arcInPlace_26 : decode cX11_arcInPlace 26 = .ok (.if_icmp .ne 6, 3) := by decide +kernel
theorem dX11_arcInPlace_29 : decode cX11_arcInPlace 29 = .ok (.iload 4, 2) := by decide +kernel
theorem dX11_arcInPlace_31 : decode cX11_arcInPlace 31 = .ok (.ireturn, 1) := by decide +kernel
theorem dX11_arcInPlace_32 : decode cX11_arcInPlace 32 = .ok (.iinc 3 1, 3) := by decide +kernel
theorem dX11_arcInPlace_35 : decode cX11_arcInPlace 35 = .ok (.iinc 4 1, 3) := by decide +kernel
theorem dX11_arcInPlace_38 : decode cX11_arcInPlace 38 = .ok (.goto (-33), 3) := by decide +kernel
theorem dX11_arcInPlace_41 : decode cX11_arcInPlace 41 = .ok (.iconst (-1), 1) := by decide +kernel
theorem dX11_arcInPlace_42 : decode cX11_arcInPlace 42 = .ok (.ireturn, 1) := by decide +kernel
set_option maxRecDepth 20000 in
theorem ggX11_nodeInPlace_X11_has : GoodIn wsX11_nodeInPlace wsX11_has := goodIn_r _ [4] rfl (by decide +kernel)
set_option maxRecDepth 20000 in
theorem gX11_nodeInPlace_X11_has : GoodIn wsX11_nodeInPlace (va_wsS RX11 197 yX11_has wsX11_has) := goodIn_app (goodIn_of _ (by decide +kernel)) ggX11_nodeInPlace_X11_has
theorem dX11_nodeInPlace_0 : decode cX11_nodeInPlace 0 = .ok (.iconst 0, 1) := by decide +kernel
theorem dX11_nodeInPlace_1 : decode cX11_nodeInPlace 1 = .ok (.istore_n 2, 1) := by decide +kernel
theorem dX11_nodeInPlace_2 : decode cX11_nodeInPlace 2 = .ok (.iconst 0, 1) := by decide +kernel
theorem dX11_nodeInPlace_3 : decode cX11_nodeInPlace 3 = .ok (.istore_n 3, 1) := by decide +kernel
theorem dX11_nodeInPlace_4 : decode cX11_nodeInPlace 4 = .ok (.iload_n 3, 1) := by decide +kernel
theorem dX11_nodeInPlace_5 : decode cX11_nodeInPlace 5 = .ok (.bipush 16, 2) := by decide +kernel
theorem dX11_nodeInPlace_7 : decode cX11_nodeInPlace 7 = .ok (.if_icmp .ge 27, 3) := by decide +kernel
theorem dX11_nodeInPlace_10 : decode cX11_nodeInPlace 10 = .ok (.iload_n 0, 1) := by decide +kernel
theorem dX11_nodeInPlace_11 : decode cX11_nodeInPlace 11 = .ok (.iload_n 3, 1) := by decide +kernel
theorem dX11_nodeInPlace_12 : decode cX11_nodeInPlace 12 = .ok (.invokestatic 197, 3) := by decide +kernel
theorem dX11_nodeInPlace_15 : decode cX11_nodeInPlace 15 = .ok (.ifCond .eq 13, 3) := by decide +kernel
theorem dX11_nodeInPlace_18 : decode cX11_nodeInPlace 18 = .ok (.iload_n 2, 1) := by decide +kernel
theorem dX11_nodeInPlace_19 : decode cX11_nodeInPlace 19 = .ok (.iload_n 1, 1) := by decide +kernel
theorem dX11_nodeInPlace_20 : decode cX11_nodeInPlace 20 = .ok (.if_icmp .ne 5, 3) := by decide +kernel
theorem dX11_nodeInPlace_23 : decode cX11_nodeInPlace 23 = .ok (.iload_n 3, 1) := by decide +kernel
theorem dX11_nodeInPlace_24 : decode cX11_nodeInPlace 24 = .ok (.ireturn, 1) := by decide +kernel
theorem dX11_nodeInPlace_25 : decode cX11_nodeInPlace 25 = .ok (.iinc 2 1, 3) := by decide +kernel
theorem dX11_nodeInPlace_28 : decode cX11_nodeInPlace 28 = .ok (.iinc 3 1, 3) := by decide +kernel
theorem dX11_nodeInPlace_31 : decode cX11_nodeInPlace 31 = .ok (.goto (-27), 3) := by decide +kernel
theorem dX11_nodeInPlace_34 : decode cX11_nodeInPlace 34 = .ok (.iconst (-1), 1) := by decide +kernel
theorem dX11_nodeInPlace_35 : decode cX11_nodeInPlace 35 = .ok (.ireturn, 1) := by decide +kernel
set_option maxRecDepth 20000 in
theorem ggX11_currentWays_X10_init : GoodIn wsX11_currentWays wsX10_init := goodIn_r _ [8, 9, 10, 11, 12, 13, 14, 15, 16, 17, 18, 19, 20, 21, 22, 23, 24, 25, 26, 27, 28, 29, 30, 31, 32, 33, 34, 35, 36, 37, 38, 39, 40, 41, 42, 108, 109, 110, 111, 112, 102, 103, 104, 105, 106, 107, 113, 114, 115, 116, 117, 118, 119] rfl (by decide +kernel)
set_option maxRecDepth 20000 in
theorem gX11_currentWays_X10_init : GoodIn wsX11_currentWays (wsX10_init) := ggX11_currentWays_X10_init
set_option maxRecDepth 20000 in
theorem ggX11_currentWays_X10_refresh : GoodIn wsX11_currentWays wsX10_refresh := goodIn_r _ [46, 21, 22, 15, 17, 47, 48, 49, 50, 51, 52, 53, 54, 55, 28, 56, 57, 58, 59, 60, 61, 62, 41, 42, 63, 64, 65, 66, 67, 68, 69, 70, 71, 72, 73, 74, 75, 76, 38, 39, 40, 77, 78, 79, 80, 81, 82, 83, 84, 85, 86, 87, 88, 89, 90, 91, 92, 93, 102, 103, 104, 105, 106, 107, 120, 121, 122, 123, 124, 125, 126, 127, 128, 108, 109, 110, 111, 112, 113, 114, 115, 116, 117, 118, 119] rfl (by decide +kernel)
set_option maxRecDepth 20000 in
theorem gX11_currentWays_X10_refresh : GoodIn wsX11_currentWays (wsV RX11 208 RX10 yX10_refresh wsX10_refresh) := goodIn_app (goodIn_of _ (by decide +kernel)) ggX11_currentWays_X10_refresh
theorem dX11_currentWays_0 : decode cX11_currentWays 0 = .ok (.aload_n 0, 1) := by decide +kernel
theorem dX11_currentWays_1 : decode cX11_currentWays 1 = .ok (.getfield 201, 3) := by decide +kernel
theorem dX11_currentWays_4 : decode cX11_currentWays 4 = .ok (.ifnonnull 18, 3) := by decide +kernel
theorem dX11_currentWays_7 : decode cX11_currentWays 7 = .ok (.aload_n 0, 1) := by decide +kernel
theorem dX11_currentWays_8 : decode cX11_currentWays 8 = .ok (.new 64, 3) := by decide +kernel
theorem dX11_currentWays_11 : decode cX11_currentWays 11 = .ok (.dup, 1) := by decide +kernel
theorem dX11_currentWays_12 : decode cX11_currentWays 12 = .ok (.aload_n 0, 1) := by decide +kernel
theorem dX11_currentWays_13 : decode cX11_currentWays 13 = .ok (.getfield 12, 3) := by decide +kernel
theorem dX11_currentWays_16 : decode cX11_currentWays 16 = .ok (.invokespecial 205, 3) := by decide +kernel
theorem dX11_currentWays_19 : decode cX11_currentWays 19 = .ok (.putfield 201, 3) := by decide +kernel
theorem dX11_currentWays_22 : decode cX11_currentWays 22 = .ok (.aload_n 0, 1) := by decide +kernel
theorem dX11_currentWays_23 : decode cX11_currentWays 23 = .ok (.getfield 201, 3) := by decide +kernel
theorem dX11_currentWays_26 : decode cX11_currentWays 26 = .ok (.invokevirtual 208, 3) := by decide +kernel
theorem dX11_currentWays_29 : decode cX11_currentWays 29 = .ok (.aload_n 0, 1) := by decide +kernel
theorem dX11_currentWays_30 : decode cX11_currentWays 30 = .ok (.getfield 201, 3) := by decide +kernel
theorem dX11_currentWays_33 : decode cX11_currentWays 33 = .ok (.areturn, 1) := by decide +kernel
set_option maxRecDepth 20000 in
theorem ggX11_currentSorts_X8_init : GoodIn wsX11_currentSorts wsX8_init := goodIn_r _ [8, 9, 10, 11, 12, 13, 14, 15, 16, 17, 18, 19, 20, 21, 22, 23, 24, 194, 195, 196, 197, 175, 176, 177, 178, 179, 180, 181, 182] rfl (by decide +kernel)
set_option maxRecDepth 20000 in
theorem gX11_currentSorts_X8_init : GoodIn wsX11_currentSorts (wsX8_init) := ggX11_currentSorts_X8_init
set_option maxRecDepth 20000 in
theorem ggX11_currentSorts_X11_currentWays : GoodIn wsX11_currentSorts wsX11_currentWays := goodIn_r _ [29, 30, 31, 32, 33, 5, 34, 35, 36, 37, 10, 11, 38, 39, 40, 41, 42, 43, 44, 45, 46, 47, 48, 49, 50, 51, 52, 53, 54, 55, 17, 56, 57, 58, 59, 60, 61, 62, 63, 64, 65, 66, 67, 68, 69, 70, 71, 72, 73, 74, 75, 76, 77, 78, 79, 80, 81, 82, 83, 84, 85, 86, 87, 88, 28, 89, 90, 91, 92, 93, 94, 95, 96, 97, 98, 99, 100, 101, 102, 103, 104, 105, 106, 107, 108, 109, 110, 111, 112, 113, 114, 115, 116, 117, 167, 168, 169, 170, 171, 172, 173, 174, 183, 184, 185, 186, 187, 188, 189, 190, 191, 192, 193, 198, 199, 200, 201, 202, 203, 204, 205, 206, 207, 208, 209, 210, 211, 212, 213] rfl (by decide +kernel)
set_option maxRecDepth 20000 in
theorem gX11_currentSorts_X11_currentWays : GoodIn wsX11_currentSorts (wsV RX11 59 RX11 yX11_currentWays wsX11_currentWays) := goodIn_app (goodIn_of _ (by decide +kernel)) ggX11_currentSorts_X11_currentWays
set_option maxRecDepth 20000 in
theorem ggX11_currentSorts_X8_refresh : GoodIn wsX11_currentSorts wsX8_refresh := goodIn_r _ [121, 19, 20, 15, 122, 16, 123, 124, 125, 4, 126, 18, 127, 128, 129, 130, 131, 132, 133, 134, 101, 28, 102, 103, 104, 105, 106, 107, 108, 109, 135, 136, 137, 138, 139, 97, 98, 54, 99, 100, 63, 83, 64, 65, 90, 91, 88, 89, 140, 141, 142, 143, 144, 145, 146, 147, 73, 74, 75, 76, 77, 148, 149, 150, 14, 151, 152, 153, 154, 155, 156, 157, 158, 159, 160, 161, 162, 163, 164, 165, 166, 24, 175, 176, 177, 178, 179, 180, 181, 182, 205, 206, 207, 208, 209, 210, 211, 212, 213, 198, 199, 200, 201, 202, 203, 204, 194, 195, 196, 197] rfl (by decide +kernel)
set_option maxRecDepth 20000 in
theorem gX11_currentSorts_X8_refresh : GoodIn wsX11_currentSorts (wsV RX11 224 RX8 yX8_refresh wsX8_refresh) := goodIn_app (goodIn_of _ (by decide +kernel)) ggX11_currentSorts_X8_refresh
theorem dX11_currentSorts_0 : decode cX11_currentSorts 0 = .ok (.aload_n 0, 1) := by decide +kernel
theorem dX11_currentSorts_1 : decode cX11_currentSorts 1 = .ok (.getfield 209, 3) := by decide +kernel
theorem dX11_currentSorts_4 : decode cX11_currentSorts 4 = .ok (.ifnonnull 18, 3) := by decide +kernel
theorem dX11_currentSorts_7 : decode cX11_currentSorts 7 = .ok (.aload_n 0, 1) := by decide +kernel
theorem dX11_currentSorts_8 : decode cX11_currentSorts 8 = .ok (.new 90, 3) := by decide +kernel
theorem dX11_currentSorts_11 : decode cX11_currentSorts 11 = .ok (.dup, 1) := by decide +kernel
theorem dX11_currentSorts_12 : decode cX11_currentSorts 12 = .ok (.aload_n 0, 1) := by decide +kernel
theorem dX11_currentSorts_13 : decode cX11_currentSorts 13 = .ok (.getfield 12, 3) := by decide +kernel
theorem dX11_currentSorts_16 : decode cX11_currentSorts 16 = .ok (.invokespecial 213, 3) := by decide +kernel
