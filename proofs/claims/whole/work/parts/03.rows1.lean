theorem dX4_findPaths_21 : decode cX4_findPaths 21 = .ok (.istore_n 1, 1) := by decide +kernel
theorem dX4_findPaths_22 : decode cX4_findPaths 22 = .ok (.iload_n 1, 1) := by decide +kernel
theorem dX4_findPaths_23 : decode cX4_findPaths 23 = .ok (.aload_n 0, 1) := by decide +kernel
theorem dX4_findPaths_24 : decode cX4_findPaths 24 = .ok (.getfield 26, 3) := by decide +kernel
theorem dX4_findPaths_27 : decode cX4_findPaths 27 = .ok (.getfield 72, 3) := by decide +kernel
theorem dX4_findPaths_30 : decode cX4_findPaths 30 = .ok (.if_icmp .ge 68, 3) := by decide +kernel
theorem dX4_findPaths_33 : decode cX4_findPaths 33 = .ok (.aload_n 0, 1) := by decide +kernel
theorem dX4_findPaths_34 : decode cX4_findPaths 34 = .ok (.getfield 26, 3) := by decide +kernel
theorem dX4_findPaths_37 : decode cX4_findPaths 37 = .ok (.getfield 75, 3) := by decide +kernel
theorem dX4_findPaths_40 : decode cX4_findPaths 40 = .ok (.iload_n 1, 1) := by decide +kernel
theorem dX4_findPaths_41 : decode cX4_findPaths 41 = .ok (.baload, 1) := by decide +kernel
theorem dX4_findPaths_42 : decode cX4_findPaths 42 = .ok (.ifCond .eq 50, 3) := by decide +kernel
theorem dX4_findPaths_45 : decode cX4_findPaths 45 = .ok (.aload_n 0, 1) := by decide +kernel
theorem dX4_findPaths_46 : decode cX4_findPaths 46 = .ok (.getfield 26, 3) := by decide +kernel
theorem dX4_findPaths_49 : decode cX4_findPaths 49 = .ok (.getfield 79, 3) := by decide +kernel
theorem dX4_findPaths_52 : decode cX4_findPaths 52 = .ok (.iload_n 1, 1) := by decide +kernel
theorem dX4_findPaths_53 : decode cX4_findPaths 53 = .ok (.iaload, 1) := by decide +kernel
theorem dX4_findPaths_54 : decode cX4_findPaths 54 = .ok (.sipush 1024, 3) := by decide +kernel
theorem dX4_findPaths_57 : decode cX4_findPaths 57 = .ok (.imul, 1) := by decide +kernel
theorem dX4_findPaths_58 : decode cX4_findPaths 58 = .ok (.iconst 1, 1) := by decide +kernel
theorem dX4_findPaths_59 : decode cX4_findPaths 59 = .ok (.iadd, 1) := by decide +kernel
theorem dX4_findPaths_60 : decode cX4_findPaths 60 = .ok (.ineg, 1) := by decide +kernel
theorem dX4_findPaths_61 : decode cX4_findPaths 61 = .ok (.istore_n 2, 1) := by decide +kernel
theorem dX4_findPaths_62 : decode cX4_findPaths 62 = .ok (.aload_n 0, 1) := by decide +kernel
theorem dX4_findPaths_63 : decode cX4_findPaths 63 = .ok (.getfield 12, 3) := by decide +kernel
theorem dX4_findPaths_66 : decode cX4_findPaths 66 = .ok (.aload_n 0, 1) := by decide +kernel
theorem dX4_findPaths_67 : decode cX4_findPaths 67 = .ok (.getfield 26, 3) := by decide +kernel
theorem dX4_findPaths_70 : decode cX4_findPaths 70 = .ok (.getfield 82, 3) := by decide +kernel
theorem dX4_findPaths_73 : decode cX4_findPaths 73 = .ok (.iload_n 1, 1) := by decide +kernel
theorem dX4_findPaths_74 : decode cX4_findPaths 74 = .ok (.iaload, 1) := by decide +kernel
theorem dX4_findPaths_75 : decode cX4_findPaths 75 = .ok (.aload_n 0, 1) := by decide +kernel
theorem dX4_findPaths_76 : decode cX4_findPaths 76 = .ok (.getfield 26, 3) := by decide +kernel
theorem dX4_findPaths_79 : decode cX4_findPaths 79 = .ok (.getfield 85, 3) := by decide +kernel
theorem dX4_findPaths_82 : decode cX4_findPaths 82 = .ok (.iload_n 1, 1) := by decide +kernel
theorem dX4_findPaths_83 : decode cX4_findPaths 83 = .ok (.iaload, 1) := by decide +kernel
theorem dX4_findPaths_84 : decode cX4_findPaths 84 = .ok (.iload_n 2, 1) := by decide +kernel
theorem dX4_findPaths_85 : decode cX4_findPaths 85 = .ok (.iload_n 1, 1) := by decide +kernel
theorem dX4_findPaths_86 : decode cX4_findPaths 86 = .ok (.invokestatic 88, 3) := by decide +kernel
theorem dX4_findPaths_89 : decode cX4_findPaths 89 = .ok (.invokevirtual 92, 3) := by decide +kernel
theorem dX4_findPaths_92 : decode cX4_findPaths 92 = .ok (.iinc 1 1, 3) := by decide +kernel
theorem dX4_findPaths_95 : decode cX4_findPaths 95 = .ok (.goto (-73), 3) := by decide +kernel
theorem dX4_findPaths_98 : decode cX4_findPaths 98 = .ok (.iconst 0, 1) := by decide +kernel
theorem dX4_findPaths_99 : decode cX4_findPaths 99 = .ok (.istore_n 1, 1) := by decide +kernel
theorem dX4_findPaths_100 : decode cX4_findPaths 100 = .ok (.iload_n 1, 1) := by decide +kernel
theorem dX4_findPaths_101 : decode cX4_findPaths 101 = .ok (.aload_n 0, 1) := by decide +kernel
theorem dX4_findPaths_102 : decode cX4_findPaths 102 = .ok (.getfield 26, 3) := by decide +kernel
theorem dX4_findPaths_105 : decode cX4_findPaths 105 = .ok (.getfield 96, 3) := by decide +kernel
theorem dX4_findPaths_108 : decode cX4_findPaths 108 = .ok (.if_icmp .ge 52, 3) := by decide +kernel
theorem dX4_findPaths_111 : decode cX4_findPaths 111 = .ok (.iconst 0, 1) := by decide +kernel
theorem dX4_findPaths_112 : decode cX4_findPaths 112 = .ok (.istore_n 2, 1) := by decide +kernel
theorem dX4_findPaths_113 : decode cX4_findPaths 113 = .ok (.iload_n 2, 1) := by decide +kernel
theorem dX4_findPaths_114 : decode cX4_findPaths 114 = .ok (.aload_n 0, 1) := by decide +kernel
theorem dX4_findPaths_115 : decode cX4_findPaths 115 = .ok (.getfield 26, 3) := by decide +kernel
theorem dX4_findPaths_118 : decode cX4_findPaths 118 = .ok (.getfield 96, 3) := by decide +kernel
theorem dX4_findPaths_121 : decode cX4_findPaths 121 = .ok (.if_icmp .ge 33, 3) := by decide +kernel
theorem dX4_findPaths_124 : decode cX4_findPaths 124 = .ok (.aload_n 0, 1) := by decide +kernel
theorem dX4_findPaths_125 : decode cX4_findPaths 125 = .ok (.getfield 12, 3) := by decide +kernel
theorem dX4_findPaths_128 : decode cX4_findPaths 128 = .ok (.getfield 99, 3) := by decide +kernel
theorem dX4_findPaths_131 : decode cX4_findPaths 131 = .ok (.iload_n 2, 1) := by decide +kernel
theorem dX4_findPaths_132 : decode cX4_findPaths 132 = .ok (.iload_n 1, 1) := by decide +kernel
theorem dX4_findPaths_133 : decode cX4_findPaths 133 = .ok (.invokestatic 102, 3) := by decide +kernel
theorem dX4_findPaths_136 : decode cX4_findPaths 136 = .ok (.iaload, 1) := by decide +kernel
theorem dX4_findPaths_137 : decode cX4_findPaths 137 = .ok (.ldc 106, 2) := by decide +kernel
theorem dX4_findPaths_139 : decode cX4_findPaths 139 = .ok (.if_icmp .eq 9, 3) := by decide +kernel
theorem dX4_findPaths_142 : decode cX4_findPaths 142 = .ok (.aload_n 0, 1) := by decide +kernel
theorem dX4_findPaths_143 : decode cX4_findPaths 143 = .ok (.iload_n 2, 1) := by decide +kernel
theorem dX4_findPaths_144 : decode cX4_findPaths 144 = .ok (.iload_n 1, 1) := by decide +kernel
theorem dX4_findPaths_145 : decode cX4_findPaths 145 = .ok (.invokevirtual 107, 3) := by decide +kernel
theorem dX4_findPaths_148 : decode cX4_findPaths 148 = .ok (.iinc 2 1, 3) := by decide +kernel
theorem dX4_findPaths_151 : decode cX4_findPaths 151 = .ok (.goto (-38), 3) := by decide +kernel
theorem dX4_findPaths_154 : decode cX4_findPaths 154 = .ok (.iinc 1 1, 3) := by decide +kernel
theorem dX4_findPaths_157 : decode cX4_findPaths 157 = .ok (.goto (-57), 3) := by decide +kernel
theorem dX4_findPaths_160 : decode cX4_findPaths 160 = .ok (.aload_n 0, 1) := by decide +kernel
theorem dX4_findPaths_161 : decode cX4_findPaths 161 = .ok (.invokevirtual 111, 3) := by decide +kernel
theorem dX4_findPaths_164 : decode cX4_findPaths 164 = .ok (.return_, 1) := by decide +kernel
set_option maxRecDepth 20000 in
theorem ggX4_lengthen_X11_cell : GoodIn wsX4_lengthen wsX11_cell := goodIn_r _ [6] rfl (by decide +kernel)
set_option maxRecDepth 20000 in
theorem gX4_lengthen_X11_cell_n102 : GoodIn wsX4_lengthen (wsX11_cell) := ggX4_lengthen_X11_cell
set_option maxRecDepth 20000 in
theorem ggX4_lengthen_X4_improve : GoodIn wsX4_lengthen wsX4_improve := goodIn_r _ [11, 1, 12, 13, 14, 15, 16, 17, 18, 19, 20, 21, 22, 23] rfl (by decide +kernel)
set_option maxRecDepth 20000 in
theorem gX4_lengthen_X4_improve : GoodIn wsX4_lengthen (wsV RX4 118 RX4 yX4_improve wsX4_improve) := goodIn_app (goodIn_of _ (by decide +kernel)) ggX4_lengthen_X4_improve
theorem dX4_lengthen_0 : decode cX4_lengthen 0 = .ok (.aload_n 0, 1) := by decide +kernel
theorem dX4_lengthen_1 : decode cX4_lengthen 1 = .ok (.getfield 12, 3) := by decide +kernel
theorem dX4_lengthen_4 : decode cX4_lengthen 4 = .ok (.getfield 99, 3) := by decide +kernel
theorem dX4_lengthen_7 : decode cX4_lengthen 7 = .ok (.iload_n 1, 1) := by decide +kernel
theorem dX4_lengthen_8 : decode cX4_lengthen 8 = .ok (.iload_n 2, 1) := by decide +kernel
theorem dX4_lengthen_9 : decode cX4_lengthen 9 = .ok (.invokestatic 102, 3) := by decide +kernel
theorem dX4_lengthen_12 : decode cX4_lengthen 12 = .ok (.iaload, 1) := by decide +kernel
theorem dX4_lengthen_13 : decode cX4_lengthen 13 = .ok (.istore_n 3, 1) := by decide +kernel
theorem dX4_lengthen_14 : decode cX4_lengthen 14 = .ok (.aload_n 0, 1) := by decide +kernel
theorem dX4_lengthen_15 : decode cX4_lengthen 15 = .ok (.getfield 12, 3) := by decide +kernel
theorem dX4_lengthen_18 : decode cX4_lengthen 18 = .ok (.getfield 114, 3) := by decide +kernel
theorem dX4_lengthen_21 : decode cX4_lengthen 21 = .ok (.iload_n 1, 1) := by decide +kernel
theorem dX4_lengthen_22 : decode cX4_lengthen 22 = .ok (.iload_n 2, 1) := by decide +kernel
theorem dX4_lengthen_23 : decode cX4_lengthen 23 = .ok (.invokestatic 102, 3) := by decide +kernel
theorem dX4_lengthen_26 : decode cX4_lengthen 26 = .ok (.laload, 1) := by decide +kernel
theorem dX4_lengthen_27 : decode cX4_lengthen 27 = .ok (.lstore 4, 2) := by decide +kernel
theorem dX4_lengthen_29 : decode cX4_lengthen 29 = .ok (.iconst 0, 1) := by decide +kernel
theorem dX4_lengthen_30 : decode cX4_lengthen 30 = .ok (.istore 6, 2) := by decide +kernel
theorem dX4_lengthen_32 : decode cX4_lengthen 32 = .ok (.iload 6, 2) := by decide +kernel
theorem dX4_lengthen_34 : decode cX4_lengthen 34 = .ok (.aload_n 0, 1) := by decide +kernel
theorem dX4_lengthen_35 : decode cX4_lengthen 35 = .ok (.getfield 26, 3) := by decide +kernel
theorem dX4_lengthen_38 : decode cX4_lengthen 38 = .ok (.getfield 96, 3) := by decide +kernel
theorem dX4_lengthen_41 : decode cX4_lengthen 41 = .ok (.if_icmp .ge 73, 3) := by decide +kernel
theorem dX4_lengthen_44 : decode cX4_lengthen 44 = .ok (.iload_n 2, 1) := by decide +kernel
theorem dX4_lengthen_45 : decode cX4_lengthen 45 = .ok (.iload 6, 2) := by decide +kernel
theorem dX4_lengthen_47 : decode cX4_lengthen 47 = .ok (.invokestatic 102, 3) := by decide +kernel
theorem dX4_lengthen_50 : decode cX4_lengthen 50 = .ok (.istore 7, 2) := by decide +kernel
theorem dX4_lengthen_52 : decode cX4_lengthen 52 = .ok (.iload 6, 2) := by decide +kernel
theorem dX4_lengthen_54 : decode cX4_lengthen 54 = .ok (.iload_n 1, 1) := by decide +kernel
theorem dX4_lengthen_55 : decode cX4_lengthen 55 = .ok (.if_icmp .eq 53, 3) := by decide +kernel
theorem dX4_lengthen_58 : decode cX4_lengthen 58 = .ok (.aload_n 0, 1) := by decide +kernel
theorem dX4_lengthen_59 : decode cX4_lengthen 59 = .ok (.getfield 12, 3) := by decide +kernel
theorem dX4_lengthen_62 : decode cX4_lengthen 62 = .ok (.getfield 99, 3) := by decide +kernel
theorem dX4_lengthen_65 : decode cX4_lengthen 65 = .ok (.iload 7, 2) := by decide +kernel
theorem dX4_lengthen_67 : decode cX4_lengthen 67 = .ok (.iaload, 1) := by decide +kernel
theorem dX4_lengthen_68 : decode cX4_lengthen 68 = .ok (.ldc 106, 2) := by decide +kernel
theorem dX4_lengthen_70 : decode cX4_lengthen 70 = .ok (.if_icmp .eq 38, 3) := by decide +kernel
theorem dX4_lengthen_73 : decode cX4_lengthen 73 = .ok (.aload_n 0, 1) := by decide +kernel
theorem dX4_lengthen_74 : decode cX4_lengthen 74 = .ok (.iload_n 1, 1) := by decide +kernel
theorem dX4_lengthen_75 : decode cX4_lengthen 75 = .ok (.iload 6, 2) := by decide +kernel
theorem dX4_lengthen_77 : decode cX4_lengthen 77 = .ok (.invokestatic 102, 3) := by decide +kernel
theorem dX4_lengthen_80 : decode cX4_lengthen 80 = .ok (.iload_n 3, 1) := by decide +kernel
theorem dX4_lengthen_81 : decode cX4_lengthen 81 = .ok (.aload_n 0, 1) := by decide +kernel
theorem dX4_lengthen_82 : decode cX4_lengthen 82 = .ok (.getfield 12, 3) := by decide +kernel
theorem dX4_lengthen_85 : decode cX4_lengthen 85 = .ok (.getfield 99, 3) := by decide +kernel
theorem dX4_lengthen_88 : decode cX4_lengthen 88 = .ok (.iload 7, 2) := by decide +kernel
theorem dX4_lengthen_90 : decode cX4_lengthen 90 = .ok (.iaload, 1) := by decide +kernel
theorem dX4_lengthen_91 : decode cX4_lengthen 91 = .ok (.iadd, 1) := by decide +kernel
theorem dX4_lengthen_92 : decode cX4_lengthen 92 = .ok (.lload 4, 2) := by decide +kernel
theorem dX4_lengthen_94 : decode cX4_lengthen 94 = .ok (.aload_n 0, 1) := by decide +kernel
theorem dX4_lengthen_95 : decode cX4_lengthen 95 = .ok (.getfield 12, 3) := by decide +kernel
theorem dX4_lengthen_98 : decode cX4_lengthen 98 = .ok (.getfield 114, 3) := by decide +kernel
theorem dX4_lengthen_101 : decode cX4_lengthen 101 = .ok (.iload 7, 2) := by decide +kernel
theorem dX4_lengthen_103 : decode cX4_lengthen 103 = .ok (.laload, 1) := by decide +kernel
theorem dX4_lengthen_104 : decode cX4_lengthen 104 = .ok (.ladd, 1) := by decide +kernel
theorem dX4_lengthen_105 : decode cX4_lengthen 105 = .ok (.invokevirtual 118, 3) := by decide +kernel
theorem dX4_lengthen_108 : decode cX4_lengthen 108 = .ok (.iinc 6 1, 3) := by decide +kernel
theorem dX4_lengthen_111 : decode cX4_lengthen 111 = .ok (.goto (-79), 3) := by decide +kernel
theorem dX4_lengthen_114 : decode cX4_lengthen 114 = .ok (.return_, 1) := by decide +kernel
theorem dX4_improve_0 : decode cX4_improve 0 = .ok (.iload_n 2, 1) := by decide +kernel
theorem dX4_improve_1 : decode cX4_improve 1 = .ok (.aload_n 0, 1) := by decide +kernel
theorem dX4_improve_2 : decode cX4_improve 2 = .ok (.getfield 12, 3) := by decide +kernel
theorem dX4_improve_5 : decode cX4_improve 5 = .ok (.getfield 99, 3) := by decide +kernel
theorem dX4_improve_8 : decode cX4_improve 8 = .ok (.iload_n 1, 1) := by decide +kernel
theorem dX4_improve_9 : decode cX4_improve 9 = .ok (.iaload, 1) := by decide +kernel
theorem dX4_improve_10 : decode cX4_improve 10 = .ok (.if_icmp .gt 30, 3) := by decide +kernel
theorem dX4_improve_13 : decode cX4_improve 13 = .ok (.iload_n 2, 1) := by decide +kernel
theorem dX4_improve_14 : decode cX4_improve 14 = .ok (.aload_n 0, 1) := by decide +kernel
theorem dX4_improve_15 : decode cX4_improve 15 = .ok (.getfield 12, 3) := by decide +kernel
theorem dX4_improve_18 : decode cX4_improve 18 = .ok (.getfield 99, 3) := by decide +kernel
theorem dX4_improve_21 : decode cX4_improve 21 = .ok (.iload_n 1, 1) := by decide +kernel
theorem dX4_improve_22 : decode cX4_improve 22 = .ok (.iaload, 1) := by decide +kernel
theorem dX4_improve_23 : decode cX4_improve 23 = .ok (.if_icmp .ne 37, 3) := by decide +kernel
theorem dX4_improve_26 : decode cX4_improve 26 = .ok (.lload_n 3, 1) := by decide +kernel
theorem dX4_improve_27 : decode cX4_improve 27 = .ok (.aload_n 0, 1) := by decide +kernel
theorem dX4_improve_28 : decode cX4_improve 28 = .ok (.getfield 12, 3) := by decide +kernel
theorem dX4_improve_31 : decode cX4_improve 31 = .ok (.getfield 114, 3) := by decide +kernel
theorem dX4_improve_34 : decode cX4_improve 34 = .ok (.iload_n 1, 1) := by decide +kernel
theorem dX4_improve_35 : decode cX4_improve 35 = .ok (.laload, 1) := by decide +kernel
theorem dX4_improve_36 : decode cX4_improve 36 = .ok (.lcmp, 1) := by decide +kernel
theorem dX4_improve_37 : decode cX4_improve 37 = .ok (.ifCond .le 23, 3) := by decide +kernel
theorem dX4_improve_40 : decode cX4_improve 40 = .ok (.aload_n 0, 1) := by decide +kernel
theorem dX4_improve_41 : decode cX4_improve 41 = .ok (.getfield 12, 3) := by decide +kernel
theorem dX4_improve_44 : decode cX4_improve 44 = .ok (.getfield 99, 3) := by decide +kernel
theorem dX4_improve_47 : decode cX4_improve 47 = .ok (.iload_n 1, 1) := by decide +kernel
theorem dX4_improve_48 : decode cX4_improve 48 = .ok (.iload_n 2, 1) := by decide +kernel
theorem dX4_improve_49 : decode cX4_improve 49 = .ok (.iastore, 1) := by decide +kernel
theorem dX4_improve_50 : decode cX4_improve 50 = .ok (.aload_n 0, 1) := by decide +kernel
theorem dX4_improve_51 : decode cX4_improve 51 = .ok (.getfield 12, 3) := by decide +kernel
theorem dX4_improve_54 : decode cX4_improve 54 = .ok (.getfield 114, 3) := by decide +kernel
theorem dX4_improve_57 : decode cX4_improve 57 = .ok (.iload_n 1, 1) := by decide +kernel
theorem dX4_improve_58 : decode cX4_improve 58 = .ok (.lload_n 3, 1) := by decide +kernel
theorem dX4_improve_59 : decode cX4_improve 59 = .ok (.lastore, 1) := by decide +kernel
theorem dX4_improve_60 : decode cX4_improve 60 = .ok (.return_, 1) := by decide +kernel
set_option maxRecDepth 20000 in
theorem ggX4_findReached_X11_cell : GoodIn wsX4_findReached wsX11_cell := goodIn_r _ [6] rfl (by decide +kernel)
set_option maxRecDepth 20000 in
theorem gX4_findReached_X11_cell_n102 : GoodIn wsX4_findReached (wsX11_cell) := ggX4_findReached_X11_cell
theorem dX4_findReached_0 : decode cX4_findReached 0 = .ok (.iconst 0, 1) := by decide +kernel
theorem dX4_findReached_1 : decode cX4_findReached 1 = .ok (.istore_n 1, 1) := by decide +kernel
theorem dX4_findReached_2 : decode cX4_findReached 2 = .ok (.iload_n 1, 1) := by decide +kernel
theorem dX4_findReached_3 : decode cX4_findReached 3 = .ok (.bipush 16, 2) := by decide +kernel
theorem dX4_findReached_5 : decode cX4_findReached 5 = .ok (.if_icmp .ge 60, 3) := by decide +kernel
theorem dX4_findReached_8 : decode cX4_findReached 8 = .ok (.aload_n 0, 1) := by decide +kernel
theorem dX4_findReached_9 : decode cX4_findReached 9 = .ok (.getfield 18, 3) := by decide +kernel
theorem dX4_findReached_12 : decode cX4_findReached 12 = .ok (.iload_n 1, 1) := by decide +kernel
theorem dX4_findReached_13 : decode cX4_findReached 13 = .ok (.iconst 0, 1) := by decide +kernel
theorem dX4_findReached_14 : decode cX4_findReached 14 = .ok (.iastore, 1) := by decide +kernel
theorem dX4_findReached_15 : decode cX4_findReached 15 = .ok (.iconst 0, 1) := by decide +kernel
theorem dX4_findReached_16 : decode cX4_findReached 16 = .ok (.istore_n 2, 1) := by decide +kernel
theorem dX4_findReached_17 : decode cX4_findReached 17 = .ok (.iload_n 2, 1) := by decide +kernel
theorem dX4_findReached_18 : decode cX4_findReached 18 = .ok (.bipush 16, 2) := by decide +kernel
theorem dX4_findReached_20 : decode cX4_findReached 20 = .ok (.if_icmp .ge 39, 3) := by decide +kernel
theorem dX4_findReached_23 : decode cX4_findReached 23 = .ok (.aload_n 0, 1) := by decide +kernel
theorem dX4_findReached_24 : decode cX4_findReached 24 = .ok (.getfield 12, 3) := by decide +kernel
theorem dX4_findReached_27 : decode cX4_findReached 27 = .ok (.getfield 99, 3) := by decide +kernel
theorem dX4_findReached_30 : decode cX4_findReached 30 = .ok (.iload_n 1, 1) := by decide +kernel
theorem dX4_findReached_31 : decode cX4_findReached 31 = .ok (.iload_n 2, 1) := by decide +kernel
theorem dX4_findReached_32 : decode cX4_findReached 32 = .ok (.invokestatic 102, 3) := by decide +kernel
theorem dX4_findReached_35 : decode cX4_findReached 35 = .ok (.iaload, 1) := by decide +kernel
theorem dX4_findReached_36 : decode cX4_findReached 36 = .ok (.ldc 106, 2) := by decide +kernel
theorem dX4_findReached_38 : decode cX4_findReached 38 = .ok (.if_icmp .eq 15, 3) := by decide +kernel
theorem dX4_findReached_41 : decode cX4_findReached 41 = .ok (.aload_n 0, 1) := by decide +kernel
theorem dX4_findReached_42 : decode cX4_findReached 42 = .ok (.getfield 18, 3) := by decide +kernel
theorem dX4_findReached_45 : decode cX4_findReached 45 = .ok (.iload_n 1, 1) := by decide +kernel
theorem dX4_findReached_46 : decode cX4_findReached 46 = .ok (.dup2, 1) := by decide +kernel
theorem dX4_findReached_47 : decode cX4_findReached 47 = .ok (.iaload, 1) := by decide +kernel
theorem dX4_findReached_48 : decode cX4_findReached 48 = .ok (.iconst 1, 1) := by decide +kernel
theorem dX4_findReached_49 : decode cX4_findReached 49 = .ok (.iload_n 2, 1) := by decide +kernel
theorem dX4_findReached_50 : decode cX4_findReached 50 = .ok (.ishl, 1) := by decide +kernel
theorem dX4_findReached_51 : decode cX4_findReached 51 = .ok (.ior, 1) := by decide +kernel
theorem dX4_findReached_52 : decode cX4_findReached 52 = .ok (.iastore, 1) := by decide +kernel
theorem dX4_findReached_53 : decode cX4_findReached 53 = .ok (.iinc 2 1, 3) := by decide +kernel
theorem dX4_findReached_56 : decode cX4_findReached 56 = .ok (.goto (-39), 3) := by decide +kernel
theorem dX4_findReached_59 : decode cX4_findReached 59 = .ok (.iinc 1 1, 3) := by decide +kernel
theorem dX4_findReached_62 : decode cX4_findReached 62 = .ok (.goto (-60), 3) := by decide +kernel
theorem dX4_findReached_65 : decode cX4_findReached 65 = .ok (.return_, 1) := by decide +kernel
theorem dX5_init_0 : decode cX5_init 0 = .ok (.aload_n 0, 1) := by decide +kernel
theorem dX5_init_1 : decode cX5_init 1 = .ok (.invokespecial 3, 3) := by decide +kernel
theorem dX5_init_4 : decode cX5_init 4 = .ok (.aload_n 0, 1) := by decide +kernel
theorem dX5_init_5 : decode cX5_init 5 = .ok (.bipush 16, 2) := by decide +kernel
theorem dX5_init_7 : decode cX5_init 7 = .ok (.newarray .int, 2) := by decide +kernel
theorem dX5_init_9 : decode cX5_init 9 = .ok (.putfield 9, 3) := by decide +kernel
theorem dX5_init_12 : decode cX5_init 12 = .ok (.return_, 1) := by decide +kernel
theorem dX5_partOf_0 : decode cX5_partOf 0 = .ok (.aload_n 0, 1) := by decide +kernel
theorem dX5_partOf_1 : decode cX5_partOf 1 = .ok (.getfield 9, 3) := by decide +kernel
theorem dX5_partOf_4 : decode cX5_partOf 4 = .ok (.iload_n 1, 1) := by decide +kernel
theorem dX5_partOf_5 : decode cX5_partOf 5 = .ok (.iaload, 1) := by decide +kernel
theorem dX5_partOf_6 : decode cX5_partOf 6 = .ok (.ireturn, 1) := by decide +kernel
set_option maxRecDepth 20000 in
theorem ggX5_split_X11_has : GoodIn wsX5_split wsX11_has := goodIn_r _ [6] rfl (by decide +kernel)
set_option maxRecDepth 20000 in
theorem gX5_split_X11_has_n31 : GoodIn wsX5_split (wsX11_has) := ggX5_split_X11_has
set_option maxRecDepth 20000 in
theorem ggX5_split_X5_grow : GoodIn wsX5_split wsX5_grow := goodIn_r _ [11, 3, 12, 13, 10, 14, 4, 5, 6, 31, 32, 33, 34, 35, 36, 37, 38, 39, 27, 28, 29, 30] rfl (by decide +kernel)
set_option maxRecDepth 20000 in
theorem gX5_split_X5_grow : GoodIn wsX5_split (wsV RX5 35 RX5 yX5_grow wsX5_grow) := goodIn_app (goodIn_of _ (by decide +kernel)) ggX5_split_X5_grow
set_option maxRecDepth 20000 in
theorem ggX5_split_J6_bitCount_0f7a4 : GoodIn wsX5_split wsJ6_bitCount_0f7a4 := goodIn_r _ [18, 19, 20, 21] rfl (by decide +kernel)
set_option maxRecDepth 20000 in
theorem gX5_split_J6_bitCount_0f7a4 : GoodIn wsX5_split (va_wsS RX5 39 yJ6_bitCount_0f7a4 wsJ6_bitCount_0f7a4) := goodIn_app (goodIn_of _ (by decide +kernel)) ggX5_split_J6_bitCount_0f7a4
set_option maxRecDepth 20000 in
theorem ggX5_split_X5_number : GoodIn wsX5_split wsX5_number := goodIn_r _ [25, 26, 1, 4, 5, 6, 27, 28, 29, 30] rfl (by decide +kernel)
set_option maxRecDepth 20000 in
theorem gX5_split_X5_number : GoodIn wsX5_split (wsV RX5 45 RX5 yX5_number wsX5_number) := goodIn_app (goodIn_of _ (by decide +kernel)) ggX5_split_X5_number
theorem dX5_split_0 : decode cX5_split 0 = .ok (.aload_n 0, 1) := by decide +kernel
theorem dX5_split_1 : decode cX5_split 1 = .ok (.iconst 0, 1) := by decide +kernel
theorem dX5_split_2 : decode cX5_split 2 = .ok (.putfield 15, 3) := by decide +kernel
theorem dX5_split_5 : decode cX5_split 5 = .ok (.aload_n 0, 1) := by decide +kernel
theorem dX5_split_6 : decode cX5_split 6 = .ok (.iconst 0, 1) := by decide +kernel
theorem dX5_split_7 : decode cX5_split 7 = .ok (.putfield 19, 3) := by decide +kernel
theorem dX5_split_10 : decode cX5_split 10 = .ok (.aload_n 0, 1) := by decide +kernel
theorem dX5_split_11 : decode cX5_split 11 = .ok (.iconst 1, 1) := by decide +kernel
theorem dX5_split_12 : decode cX5_split 12 = .ok (.putfield 22, 3) := by decide +kernel
theorem dX5_split_15 : decode cX5_split 15 = .ok (.iconst 0, 1) := by decide +kernel
theorem dX5_split_16 : decode cX5_split 16 = .ok (.istore_n 3, 1) := by decide +kernel
theorem dX5_split_17 : decode cX5_split 17 = .ok (.iconst 0, 1) := by decide +kernel
theorem dX5_split_18 : decode cX5_split 18 = .ok (.istore 4, 2) := by decide +kernel
theorem dX5_split_20 : decode cX5_split 20 = .ok (.iload 4, 2) := by decide +kernel
theorem dX5_split_22 : decode cX5_split 22 = .ok (.aload_n 1, 1) := by decide +kernel
theorem dX5_split_23 : decode cX5_split 23 = .ok (.getfield 26, 3) := by decide +kernel
theorem dX5_split_26 : decode cX5_split 26 = .ok (.if_icmp .ge 59, 3) := by decide +kernel
theorem dX5_split_29 : decode cX5_split 29 = .ok (.iload_n 2, 1) := by decide +kernel
theorem dX5_split_30 : decode cX5_split 30 = .ok (.iload_n 3, 1) := by decide +kernel
theorem dX5_split_31 : decode cX5_split 31 = .ok (.iconst (-1), 1) := by decide +kernel
theorem dX5_split_32 : decode cX5_split 32 = .ok (.ixor, 1) := by decide +kernel
theorem dX5_split_33 : decode cX5_split 33 = .ok (.iand, 1) := by decide +kernel
theorem dX5_split_34 : decode cX5_split 34 = .ok (.iload 4, 2) := by decide +kernel
theorem dX5_split_36 : decode cX5_split 36 = .ok (.invokestatic 31, 3) := by decide +kernel
theorem dX5_split_39 : decode cX5_split 39 = .ok (.ifCond .eq 40, 3) := by decide +kernel
theorem dX5_split_42 : decode cX5_split 42 = .ok (.aload_n 0, 1) := by decide +kernel
theorem dX5_split_43 : decode cX5_split 43 = .ok (.aload_n 1, 1) := by decide +kernel
theorem dX5_split_44 : decode cX5_split 44 = .ok (.iload_n 2, 1) := by decide +kernel
theorem dX5_split_45 : decode cX5_split 45 = .ok (.iload 4, 2) := by decide +kernel
theorem dX5_split_47 : decode cX5_split 47 = .ok (.invokevirtual 35, 3) := by decide +kernel
theorem dX5_split_50 : decode cX5_split 50 = .ok (.istore 5, 2) := by decide +kernel
theorem dX5_split_52 : decode cX5_split 52 = .ok (.iload_n 3, 1) := by decide +kernel
theorem dX5_split_53 : decode cX5_split 53 = .ok (.iload 5, 2) := by decide +kernel
theorem dX5_split_55 : decode cX5_split 55 = .ok (.ior, 1) := by decide +kernel
theorem dX5_split_56 : decode cX5_split 56 = .ok (.istore_n 3, 1) := by decide +kernel
theorem dX5_split_57 : decode cX5_split 57 = .ok (.aload_n 0, 1) := by decide +kernel
theorem dX5_split_58 : decode cX5_split 58 = .ok (.dup, 1) := by decide +kernel
theorem dX5_split_59 : decode cX5_split 59 = .ok (.getfield 19, 3) := by decide +kernel
theorem dX5_split_62 : decode cX5_split 62 = .ok (.iload 5, 2) := by decide +kernel
theorem dX5_split_64 : decode cX5_split 64 = .ok (.invokestatic 39, 3) := by decide +kernel
theorem dX5_split_67 : decode cX5_split 67 = .ok (.iconst 2, 1) := by decide +kernel
theorem dX5_split_68 : decode cX5_split 68 = .ok (.irem, 1) := by decide +kernel
theorem dX5_split_69 : decode cX5_split 69 = .ok (.iadd, 1) := by decide +kernel
theorem dX5_split_70 : decode cX5_split 70 = .ok (.putfield 19, 3) := by decide +kernel
theorem dX5_split_73 : decode cX5_split 73 = .ok (.aload_n 0, 1) := by decide +kernel
theorem dX5_split_74 : decode cX5_split 74 = .ok (.iload 5, 2) := by decide +kernel
theorem dX5_split_76 : decode cX5_split 76 = .ok (.invokevirtual 45, 3) := by decide +kernel
theorem dX5_split_79 : decode cX5_split 79 = .ok (.iinc 4 1, 3) := by decide +kernel
theorem dX5_split_82 : decode cX5_split 82 = .ok (.goto (-62), 3) := by decide +kernel
theorem dX5_split_85 : decode cX5_split 85 = .ok (.return_, 1) := by decide +kernel
set_option maxRecDepth 20000 in
theorem ggX5_grow_X5_besideLayer : GoodIn wsX5_grow wsX5_besideLayer := goodIn_r _ [5, 6, 7, 8, 9, 10, 11, 12, 13, 14, 15, 16, 17] rfl (by decide +kernel)
set_option maxRecDepth 20000 in
theorem gX5_grow_X5_besideLayer : GoodIn wsX5_grow (va_wsS RX5 49 yX5_besideLayer wsX5_besideLayer) := goodIn_app (goodIn_of _ (by decide +kernel)) ggX5_grow_X5_besideLayer
theorem dX5_grow_0 : decode cX5_grow 0 = .ok (.iconst 1, 1) := by decide +kernel
theorem dX5_grow_1 : decode cX5_grow 1 = .ok (.iload_n 3, 1) := by decide +kernel
theorem dX5_grow_2 : decode cX5_grow 2 = .ok (.ishl, 1) := by decide +kernel
theorem dX5_grow_3 : decode cX5_grow 3 = .ok (.istore 4, 2) := by decide +kernel
theorem dX5_grow_5 : decode cX5_grow 5 = .ok (.iload 4, 2) := by decide +kernel
theorem dX5_grow_7 : decode cX5_grow 7 = .ok (.istore 5, 2) := by decide +kernel
theorem dX5_grow_9 : decode cX5_grow 9 = .ok (.iconst 0, 1) := by decide +kernel
theorem dX5_grow_10 : decode cX5_grow 10 = .ok (.istore 6, 2) := by decide +kernel
theorem dX5_grow_12 : decode cX5_grow 12 = .ok (.iload 6, 2) := by decide +kernel
theorem dX5_grow_14 : decode cX5_grow 14 = .ok (.aload_n 1, 1) := by decide +kernel
theorem dX5_grow_15 : decode cX5_grow 15 = .ok (.getfield 26, 3) := by decide +kernel
theorem dX5_grow_18 : decode cX5_grow 18 = .ok (.if_icmp .ge 53, 3) := by decide +kernel
theorem dX5_grow_21 : decode cX5_grow 21 = .ok (.iload 5, 2) := by decide +kernel
theorem dX5_grow_23 : decode cX5_grow 23 = .ok (.ifCond .eq 48, 3) := by decide +kernel
theorem dX5_grow_26 : decode cX5_grow 26 = .ok (.aload_n 1, 1) := by decide +kernel
theorem dX5_grow_27 : decode cX5_grow 27 = .ok (.iload 5, 2) := by decide +kernel
theorem dX5_grow_29 : decode cX5_grow 29 = .ok (.invokestatic 49, 3) := by decide +kernel
theorem dX5_grow_32 : decode cX5_grow 32 = .ok (.iload_n 2, 1) := by decide +kernel
theorem dX5_grow_33 : decode cX5_grow 33 = .ok (.iand, 1) := by decide +kernel
theorem dX5_grow_34 : decode cX5_grow 34 = .ok (.istore 7, 2) := by decide +kernel
theorem dX5_grow_36 : decode cX5_grow 36 = .ok (.iload 7, 2) := by decide +kernel
theorem dX5_grow_38 : decode cX5_grow 38 = .ok (.iload 5, 2) := by decide +kernel
theorem dX5_grow_40 : decode cX5_grow 40 = .ok (.iand, 1) := by decide +kernel
theorem dX5_grow_41 : decode cX5_grow 41 = .ok (.ifCond .eq 8, 3) := by decide +kernel
theorem dX5_grow_44 : decode cX5_grow 44 = .ok (.aload_n 0, 1) := by decide +kernel
theorem dX5_grow_45 : decode cX5_grow 45 = .ok (.iconst 0, 1) := by decide +kernel
theorem dX5_grow_46 : decode cX5_grow 46 = .ok (.putfield 22, 3) := by decide +kernel
theorem dX5_grow_49 : decode cX5_grow 49 = .ok (.iload 7, 2) := by decide +kernel
theorem dX5_grow_51 : decode cX5_grow 51 = .ok (.iload 4, 2) := by decide +kernel
theorem dX5_grow_53 : decode cX5_grow 53 = .ok (.iconst (-1), 1) := by decide +kernel
theorem dX5_grow_54 : decode cX5_grow 54 = .ok (.ixor, 1) := by decide +kernel
theorem dX5_grow_55 : decode cX5_grow 55 = .ok (.iand, 1) := by decide +kernel
theorem dX5_grow_56 : decode cX5_grow 56 = .ok (.istore 5, 2) := by decide +kernel
theorem dX5_grow_58 : decode cX5_grow 58 = .ok (.iload 4, 2) := by decide +kernel
theorem dX5_grow_60 : decode cX5_grow 60 = .ok (.iload 5, 2) := by decide +kernel
theorem dX5_grow_62 : decode cX5_grow 62 = .ok (.ior, 1) := by decide +kernel
theorem dX5_grow_63 : decode cX5_grow 63 = .ok (.istore 4, 2) := by decide +kernel
theorem dX5_grow_65 : decode cX5_grow 65 = .ok (.iinc 6 1, 3) := by decide +kernel
theorem dX5_grow_68 : decode cX5_grow 68 = .ok (.goto (-56), 3) := by decide +kernel
theorem dX5_grow_71 : decode cX5_grow 71 = .ok (.iload 4, 2) := by decide +kernel
theorem dX5_grow_73 : decode cX5_grow 73 = .ok (.ireturn, 1) := by decide +kernel
set_option maxRecDepth 20000 in
theorem ggX5_besideLayer_X11_has : GoodIn wsX5_besideLayer wsX11_has := goodIn_r _ [3] rfl (by decide +kernel)
set_option maxRecDepth 20000 in
theorem gX5_besideLayer_X11_has_n31 : GoodIn wsX5_besideLayer (wsX11_has) := ggX5_besideLayer_X11_has
theorem dX5_besideLayer_0 : decode cX5_besideLayer 0 = .ok (.iconst 0, 1) := by decide +kernel
theorem dX5_besideLayer_1 : decode cX5_besideLayer 1 = .ok (.istore_n 2, 1) := by decide +kernel
theorem dX5_besideLayer_2 : decode cX5_besideLayer 2 = .ok (.iconst 0, 1) := by decide +kernel
theorem dX5_besideLayer_3 : decode cX5_besideLayer 3 = .ok (.istore_n 3, 1) := by decide +kernel
theorem dX5_besideLayer_4 : decode cX5_besideLayer 4 = .ok (.iload_n 3, 1) := by decide +kernel
theorem dX5_besideLayer_5 : decode cX5_besideLayer 5 = .ok (.aload_n 0, 1) := by decide +kernel
theorem dX5_besideLayer_6 : decode cX5_besideLayer 6 = .ok (.getfield 26, 3) := by decide +kernel
theorem dX5_besideLayer_9 : decode cX5_besideLayer 9 = .ok (.if_icmp .ge 26, 3) := by decide +kernel
theorem dX5_besideLayer_12 : decode cX5_besideLayer 12 = .ok (.iload_n 1, 1) := by decide +kernel
theorem dX5_besideLayer_13 : decode cX5_besideLayer 13 = .ok (.iload_n 3, 1) := by decide +kernel
theorem dX5_besideLayer_14 : decode cX5_besideLayer 14 = .ok (.invokestatic 31, 3) := by decide +kernel
theorem dX5_besideLayer_17 : decode cX5_besideLayer 17 = .ok (.ifCond .eq 12, 3) := by decide +kernel
theorem dX5_besideLayer_20 : decode cX5_besideLayer 20 = .ok (.iload_n 2, 1) := by decide +kernel
theorem dX5_besideLayer_21 : decode cX5_besideLayer 21 = .ok (.aload_n 0, 1) := by decide +kernel
theorem dX5_besideLayer_22 : decode cX5_besideLayer 22 = .ok (.getfield 53, 3) := by decide +kernel
theorem dX5_besideLayer_25 : decode cX5_besideLayer 25 = .ok (.iload_n 3, 1) := by decide +kernel
theorem dX5_besideLayer_26 : decode cX5_besideLayer 26 = .ok (.iaload, 1) := by decide +kernel
theorem dX5_besideLayer_27 : decode cX5_besideLayer 27 = .ok (.ior, 1) := by decide +kernel
theorem dX5_besideLayer_28 : decode cX5_besideLayer 28 = .ok (.istore_n 2, 1) := by decide +kernel
theorem dX5_besideLayer_29 : decode cX5_besideLayer 29 = .ok (.iinc 3 1, 3) := by decide +kernel
theorem dX5_besideLayer_32 : decode cX5_besideLayer 32 = .ok (.goto (-28), 3) := by decide +kernel
theorem dX5_besideLayer_35 : decode cX5_besideLayer 35 = .ok (.iload_n 2, 1) := by decide +kernel
theorem dX5_besideLayer_36 : decode cX5_besideLayer 36 = .ok (.ireturn, 1) := by decide +kernel
set_option maxRecDepth 20000 in
theorem ggX5_number_X11_has : GoodIn wsX5_number wsX11_has := goodIn_r _ [5] rfl (by decide +kernel)
set_option maxRecDepth 20000 in
theorem gX5_number_X11_has_n31 : GoodIn wsX5_number (wsX11_has) := ggX5_number_X11_has
theorem dX5_number_0 : decode cX5_number 0 = .ok (.iconst 0, 1) := by decide +kernel
theorem dX5_number_1 : decode cX5_number 1 = .ok (.istore_n 2, 1) := by decide +kernel
theorem dX5_number_2 : decode cX5_number 2 = .ok (.iload_n 2, 1) := by decide +kernel
theorem dX5_number_3 : decode cX5_number 3 = .ok (.bipush 16, 2) := by decide +kernel
theorem dX5_number_5 : decode cX5_number 5 = .ok (.if_icmp .ge 27, 3) := by decide +kernel
theorem dX5_number_8 : decode cX5_number 8 = .ok (.iload_n 1, 1) := by decide +kernel
theorem dX5_number_9 : decode cX5_number 9 = .ok (.iload_n 2, 1) := by decide +kernel
theorem dX5_number_10 : decode cX5_number 10 = .ok (.invokestatic 31, 3) := by decide +kernel
theorem dX5_number_13 : decode cX5_number 13 = .ok (.ifCond .eq 13, 3) := by decide +kernel
theorem dX5_number_16 : decode cX5_number 16 = .ok (.aload_n 0, 1) := by decide +kernel
theorem dX5_number_17 : decode cX5_number 17 = .ok (.getfield 9, 3) := by decide +kernel
theorem dX5_number_20 : decode cX5_number 20 = .ok (.iload_n 2, 1) := by decide +kernel
theorem dX5_number_21 : decode cX5_number 21 = .ok (.aload_n 0, 1) := by decide +kernel
theorem dX5_number_22 : decode cX5_number 22 = .ok (.getfield 15, 3) := by decide +kernel
theorem dX5_number_25 : decode cX5_number 25 = .ok (.iastore, 1) := by decide +kernel
theorem dX5_number_26 : decode cX5_number 26 = .ok (.iinc 2 1, 3) := by decide +kernel
theorem dX5_number_29 : decode cX5_number 29 = .ok (.goto (-27), 3) := by decide +kernel
theorem dX5_number_32 : decode cX5_number 32 = .ok (.aload_n 0, 1) := by decide +kernel
theorem dX5_number_33 : decode cX5_number 33 = .ok (.dup, 1) := by decide +kernel
theorem dX5_number_34 : decode cX5_number 34 = .ok (.getfield 15, 3) := by decide +kernel
theorem dX5_number_37 : decode cX5_number 37 = .ok (.iconst 1, 1) := by decide +kernel
theorem dX5_number_38 : decode cX5_number 38 = .ok (.iadd, 1) := by decide +kernel
theorem dX5_number_39 : decode cX5_number 39 = .ok (.putfield 15, 3) := by decide +kernel
theorem dX5_number_42 : decode cX5_number 42 = .ok (.return_, 1) := by decide +kernel
set_option maxRecDepth 20000 in
theorem ggX6_init_J7_fill_53178 : GoodIn wsX6_init wsJ7_fill_53178 := goodIn_r _ [9] rfl (by decide +kernel)
set_option maxRecDepth 20000 in
theorem gX6_init_J7_fill_53178 : GoodIn wsX6_init (va_wsS RX6 15 yJ7_fill_53178 wsJ7_fill_53178) := goodIn_app (goodIn_of _ (by decide +kernel)) ggX6_init_J7_fill_53178
theorem dX6_init_0 : decode cX6_init 0 = .ok (.aload_n 0, 1) := by decide +kernel
theorem dX6_init_1 : decode cX6_init 1 = .ok (.invokespecial 3, 3) := by decide +kernel
theorem dX6_init_4 : decode cX6_init 4 = .ok (.aload_n 0, 1) := by decide +kernel
theorem dX6_init_5 : decode cX6_init 5 = .ok (.sipush 256, 3) := by decide +kernel
theorem dX6_init_8 : decode cX6_init 8 = .ok (.newarray .int, 2) := by decide +kernel
theorem dX6_init_10 : decode cX6_init 10 = .ok (.putfield 9, 3) := by decide +kernel
theorem dX6_init_13 : decode cX6_init 13 = .ok (.aload_n 0, 1) := by decide +kernel
theorem dX6_init_14 : decode cX6_init 14 = .ok (.getfield 9, 3) := by decide +kernel
theorem dX6_init_17 : decode cX6_init 17 = .ok (.iconst (-1), 1) := by decide +kernel
theorem dX6_init_18 : decode cX6_init 18 = .ok (.invokestatic 15, 3) := by decide +kernel
theorem dX6_init_21 : decode cX6_init 21 = .ok (.return_, 1) := by decide +kernel
set_option maxRecDepth 20000 in
theorem ggX6_replace_X11_cell : GoodIn wsX6_replace wsX11_cell := goodIn_r _ [5] rfl (by decide +kernel)
set_option maxRecDepth 20000 in
theorem gX6_replace_X11_cell_n25 : GoodIn wsX6_replace (wsX11_cell) := ggX6_replace_X11_cell
theorem dX6_replace_0 : decode cX6_replace 0 = .ok (.aload_n 0, 1) := by decide +kernel
theorem dX6_replace_1 : decode cX6_replace 1 = .ok (.dup, 1) := by decide +kernel
theorem dX6_replace_2 : decode cX6_replace 2 = .ok (.getfield 21, 3) := by decide +kernel
theorem dX6_replace_5 : decode cX6_replace 5 = .ok (.iconst 1, 1) := by decide +kernel
theorem dX6_replace_6 : decode cX6_replace 6 = .ok (.iadd, 1) := by decide +kernel
theorem dX6_replace_7 : decode cX6_replace 7 = .ok (.putfield 21, 3) := by decide +kernel
theorem dX6_replace_10 : decode cX6_replace 10 = .ok (.aload_n 0, 1) := by decide +kernel
theorem dX6_replace_11 : decode cX6_replace 11 = .ok (.getfield 9, 3) := by decide +kernel
theorem dX6_replace_14 : decode cX6_replace 14 = .ok (.iload_n 1, 1) := by decide +kernel
theorem dX6_replace_15 : decode cX6_replace 15 = .ok (.iload_n 2, 1) := by decide +kernel
theorem dX6_replace_16 : decode cX6_replace 16 = .ok (.invokestatic 25, 3) := by decide +kernel
theorem dX6_replace_19 : decode cX6_replace 19 = .ok (.iaload, 1) := by decide +kernel
theorem dX6_replace_20 : decode cX6_replace 20 = .ok (.istore 4, 2) := by decide +kernel
theorem dX6_replace_22 : decode cX6_replace 22 = .ok (.aload_n 0, 1) := by decide +kernel
theorem dX6_replace_23 : decode cX6_replace 23 = .ok (.getfield 9, 3) := by decide +kernel
theorem dX6_replace_26 : decode cX6_replace 26 = .ok (.iload_n 1, 1) := by decide +kernel
theorem dX6_replace_27 : decode cX6_replace 27 = .ok (.iload_n 2, 1) := by decide +kernel
theorem dX6_replace_28 : decode cX6_replace 28 = .ok (.invokestatic 25, 3) := by decide +kernel
theorem dX6_replace_31 : decode cX6_replace 31 = .ok (.iload_n 3, 1) := by decide +kernel
theorem dX6_replace_32 : decode cX6_replace 32 = .ok (.iastore, 1) := by decide +kernel
theorem dX6_replace_33 : decode cX6_replace 33 = .ok (.iload 4, 2) := by decide +kernel
theorem dX6_replace_35 : decode cX6_replace 35 = .ok (.ireturn, 1) := by decide +kernel
set_option maxRecDepth 20000 in
theorem ggX6_removeAll_J7_fill_53178 : GoodIn wsX6_removeAll wsJ7_fill_53178 := goodIn_r _ [6] rfl (by decide +kernel)
set_option maxRecDepth 20000 in
theorem gX6_removeAll_J7_fill_53178 : GoodIn wsX6_removeAll (va_wsS RX6 15 yJ7_fill_53178 wsJ7_fill_53178) := goodIn_app (goodIn_of _ (by decide +kernel)) ggX6_removeAll_J7_fill_53178
theorem dX6_removeAll_0 : decode cX6_removeAll 0 = .ok (.aload_n 0, 1) := by decide +kernel
theorem dX6_removeAll_1 : decode cX6_removeAll 1 = .ok (.dup, 1) := by decide +kernel
theorem dX6_removeAll_2 : decode cX6_removeAll 2 = .ok (.getfield 21, 3) := by decide +kernel
theorem dX6_removeAll_5 : decode cX6_removeAll 5 = .ok (.iconst 1, 1) := by decide +kernel
theorem dX6_removeAll_6 : decode cX6_removeAll 6 = .ok (.iadd, 1) := by decide +kernel
theorem dX6_removeAll_7 : decode cX6_removeAll 7 = .ok (.putfield 21, 3) := by decide +kernel
theorem dX6_removeAll_10 : decode cX6_removeAll 10 = .ok (.aload_n 0, 1) := by decide +kernel
theorem dX6_removeAll_11 : decode cX6_removeAll 11 = .ok (.getfield 9, 3) := by decide +kernel
theorem dX6_removeAll_14 : decode cX6_removeAll 14 = .ok (.iconst (-1), 1) := by decide +kernel
theorem dX6_removeAll_15 : decode cX6_removeAll 15 = .ok (.invokestatic 15, 3) := by decide +kernel
theorem dX6_removeAll_18 : decode cX6_removeAll 18 = .ok (.return_, 1) := by decide +kernel
theorem dX7_init_0 : decode cX7_init 0 = .ok (.aload_n 0, 1) := by decide +kernel
theorem dX7_init_1 : decode cX7_init 1 = .ok (.invokespecial 3, 3) := by decide +kernel
theorem dX7_init_4 : decode cX7_init 4 = .ok (.aload_n 0, 1) := by decide +kernel
theorem dX7_init_5 : decode cX7_init 5 = .ok (.sipush 4096, 3) := by decide +kernel
theorem dX7_init_8 : decode cX7_init 8 = .ok (.newarray .int, 2) := by decide +kernel
theorem dX7_init_10 : decode cX7_init 10 = .ok (.putfield 11, 3) := by decide +kernel
theorem dX7_init_13 : decode cX7_init 13 = .ok (.aload_n 0, 1) := by decide +kernel
theorem dX7_init_14 : decode cX7_init 14 = .ok (.sipush 2584, 3) := by decide +kernel
theorem dX7_init_17 : decode cX7_init 17 = .ok (.newarray .int, 2) := by decide +kernel
theorem dX7_init_19 : decode cX7_init 19 = .ok (.putfield 15, 3) := by decide +kernel
theorem dX7_init_22 : decode cX7_init 22 = .ok (.aload_n 0, 1) := by decide +kernel
theorem dX7_init_23 : decode cX7_init 23 = .ok (.sipush 2584, 3) := by decide +kernel
theorem dX7_init_26 : decode cX7_init 26 = .ok (.newarray .int, 2) := by decide +kernel
theorem dX7_init_28 : decode cX7_init 28 = .ok (.putfield 18, 3) := by decide +kernel
theorem dX7_init_31 : decode cX7_init 31 = .ok (.aload_n 0, 1) := by decide +kernel
theorem dX7_init_32 : decode cX7_init 32 = .ok (.sipush 256, 3) := by decide +kernel
theorem dX7_init_35 : decode cX7_init 35 = .ok (.newarray .int, 2) := by decide +kernel
theorem dX7_init_37 : decode cX7_init 37 = .ok (.putfield 21, 3) := by decide +kernel
theorem dX7_init_40 : decode cX7_init 40 = .ok (.aload_n 0, 1) := by decide +kernel
theorem dX7_init_41 : decode cX7_init 41 = .ok (.bipush 16, 2) := by decide +kernel
theorem dX7_init_43 : decode cX7_init 43 = .ok (.newarray .int, 2) := by decide +kernel
theorem dX7_init_45 : decode cX7_init 45 = .ok (.putfield 24, 3) := by decide +kernel
theorem dX7_init_48 : decode cX7_init 48 = .ok (.return_, 1) := by decide +kernel
set_option maxRecDepth 20000 in
theorem ggX7_build_X7_listLater : GoodIn wsX7_build wsX7_listLater := goodIn_r _ [7, 8, 9, 10, 11, 12, 13, 14, 44, 45, 46, 47, 48, 49, 50] rfl (by decide +kernel)
set_option maxRecDepth 20000 in
theorem gX7_build_X7_listLater : GoodIn wsX7_build (wsV RX7 35 RX7 yX7_listLater wsX7_listLater) := goodIn_app (goodIn_of _ (by decide +kernel)) ggX7_build_X7_listLater
set_option maxRecDepth 20000 in
theorem ggX7_build_X7_visit : GoodIn wsX7_build wsX7_visit := goodIn_r _ [18, 1, 9, 8, 19, 20, 21, 6, 22, 23, 24, 2, 25, 26, 27, 11, 28, 29, 30, 31, 32, 33, 34, 35, 15, 16, 17, 13, 14, 10, 12, 36, 37, 38, 39, 40, 41, 42, 43, 44, 45, 46, 47, 48, 49, 50] rfl (by decide +kernel)
set_option maxRecDepth 20000 in
theorem gX7_build_X7_visit : GoodIn wsX7_build (wsV RX7 39 RX7 yX7_visit wsX7_visit) := goodIn_app (goodIn_of _ (by decide +kernel)) ggX7_build_X7_visit
theorem dX7_build_0 : decode cX7_build 0 = .ok (.aload_n 0, 1) := by decide +kernel
theorem dX7_build_1 : decode cX7_build 1 = .ok (.iload_n 3, 1) := by decide +kernel
theorem dX7_build_2 : decode cX7_build 2 = .ok (.putfield 27, 3) := by decide +kernel
theorem dX7_build_5 : decode cX7_build 5 = .ok (.aload_n 0, 1) := by decide +kernel
theorem dX7_build_6 : decode cX7_build 6 = .ok (.iconst 0, 1) := by decide +kernel
theorem dX7_build_7 : decode cX7_build 7 = .ok (.putfield 31, 3) := by decide +kernel
theorem dX7_build_10 : decode cX7_build 10 = .ok (.iconst 0, 1) := by decide +kernel
theorem dX7_build_11 : decode cX7_build 11 = .ok (.istore 4, 2) := by decide +kernel
theorem dX7_build_13 : decode cX7_build 13 = .ok (.iload 4, 2) := by decide +kernel
theorem dX7_build_15 : decode cX7_build 15 = .ok (.bipush 16, 2) := by decide +kernel
theorem dX7_build_17 : decode cX7_build 17 = .ok (.if_icmp .ge 19, 3) := by decide +kernel
theorem dX7_build_20 : decode cX7_build 20 = .ok (.aload_n 0, 1) := by decide +kernel
theorem dX7_build_21 : decode cX7_build 21 = .ok (.iload 4, 2) := by decide +kernel
theorem dX7_build_23 : decode cX7_build 23 = .ok (.aload_n 2, 1) := by decide +kernel
theorem dX7_build_24 : decode cX7_build 24 = .ok (.iload 4, 2) := by decide +kernel
theorem dX7_build_26 : decode cX7_build 26 = .ok (.iaload, 1) := by decide +kernel
theorem dX7_build_27 : decode cX7_build 27 = .ok (.invokevirtual 35, 3) := by decide +kernel
theorem dX7_build_30 : decode cX7_build 30 = .ok (.iinc 4 1, 3) := by decide +kernel
theorem dX7_build_33 : decode cX7_build 33 = .ok (.goto (-20), 3) := by decide +kernel
theorem dX7_build_36 : decode cX7_build 36 = .ok (.aload_n 0, 1) := by decide +kernel
theorem dX7_build_37 : decode cX7_build 37 = .ok (.iload_n 1, 1) := by decide +kernel
theorem dX7_build_38 : decode cX7_build 38 = .ok (.iconst 0, 1) := by decide +kernel
theorem dX7_build_39 : decode cX7_build 39 = .ok (.invokevirtual 39, 3) := by decide +kernel
theorem dX7_build_42 : decode cX7_build 42 = .ok (.return_, 1) := by decide +kernel
theorem dX7_placeOf_0 : decode cX7_placeOf 0 = .ok (.iload_n 1, 1) := by decide +kernel
theorem dX7_placeOf_1 : decode cX7_placeOf 1 = .ok (.ldc 42, 2) := by decide +kernel
theorem dX7_placeOf_3 : decode cX7_placeOf 3 = .ok (.imul, 1) := by decide +kernel
theorem dX7_placeOf_4 : decode cX7_placeOf 4 = .ok (.bipush 20, 2) := by decide +kernel
theorem dX7_placeOf_6 : decode cX7_placeOf 6 = .ok (.iushr, 1) := by decide +kernel
theorem dX7_placeOf_7 : decode cX7_placeOf 7 = .ok (.istore_n 2, 1) := by decide +kernel
theorem dX7_placeOf_8 : decode cX7_placeOf 8 = .ok (.iconst 0, 1) := by decide +kernel
theorem dX7_placeOf_9 : decode cX7_placeOf 9 = .ok (.istore_n 3, 1) := by decide +kernel
theorem dX7_placeOf_10 : decode cX7_placeOf 10 = .ok (.iload_n 3, 1) := by decide +kernel
theorem dX7_placeOf_11 : decode cX7_placeOf 11 = .ok (.sipush 4096, 3) := by decide +kernel
theorem dX7_placeOf_14 : decode cX7_placeOf 14 = .ok (.if_icmp .ge 61, 3) := by decide +kernel
theorem dX7_placeOf_17 : decode cX7_placeOf 17 = .ok (.aload_n 0, 1) := by decide +kernel
theorem dX7_placeOf_18 : decode cX7_placeOf 18 = .ok (.getfield 11, 3) := by decide +kernel
theorem dX7_placeOf_21 : decode cX7_placeOf 21 = .ok (.iload_n 2, 1) := by decide +kernel
theorem dX7_placeOf_22 : decode cX7_placeOf 22 = .ok (.iaload, 1) := by decide +kernel
theorem dX7_placeOf_23 : decode cX7_placeOf 23 = .ok (.istore 4, 2) := by decide +kernel
theorem dX7_placeOf_25 : decode cX7_placeOf 25 = .ok (.iload 4, 2) := by decide +kernel
theorem dX7_placeOf_27 : decode cX7_placeOf 27 = .ok (.aload_n 0, 1) := by decide +kernel
theorem dX7_placeOf_28 : decode cX7_placeOf 28 = .ok (.getfield 31, 3) := by decide +kernel
theorem dX7_placeOf_31 : decode cX7_placeOf 31 = .ok (.if_icmp .ge 14, 3) := by decide +kernel
theorem dX7_placeOf_34 : decode cX7_placeOf 34 = .ok (.aload_n 0, 1) := by decide +kernel
theorem dX7_placeOf_35 : decode cX7_placeOf 35 = .ok (.getfield 15, 3) := by decide +kernel
theorem dX7_placeOf_38 : decode cX7_placeOf 38 = .ok (.iload 4, 2) := by decide +kernel
theorem dX7_placeOf_40 : decode cX7_placeOf 40 = .ok (.iaload, 1) := by decide +kernel
theorem dX7_placeOf_41 : decode cX7_placeOf 41 = .ok (.iload_n 2, 1) := by decide +kernel
theorem dX7_placeOf_42 : decode cX7_placeOf 42 = .ok (.if_icmp .eq 5, 3) := by decide +kernel
theorem dX7_placeOf_45 : decode cX7_placeOf 45 = .ok (.iconst (-1), 1) := by decide +kernel
theorem dX7_placeOf_46 : decode cX7_placeOf 46 = .ok (.ireturn, 1) := by decide +kernel
theorem dX7_placeOf_47 : decode cX7_placeOf 47 = .ok (.aload_n 0, 1) := by decide +kernel
theorem dX7_placeOf_48 : decode cX7_placeOf 48 = .ok (.getfield 18, 3) := by decide +kernel
theorem dX7_placeOf_51 : decode cX7_placeOf 51 = .ok (.iload 4, 2) := by decide +kernel
theorem dX7_placeOf_53 : decode cX7_placeOf 53 = .ok (.iaload, 1) := by decide +kernel
theorem dX7_placeOf_54 : decode cX7_placeOf 54 = .ok (.iload_n 1, 1) := by decide +kernel
theorem dX7_placeOf_55 : decode cX7_placeOf 55 = .ok (.if_icmp .ne 6, 3) := by decide +kernel
theorem dX7_placeOf_58 : decode cX7_placeOf 58 = .ok (.iload 4, 2) := by decide +kernel
theorem dX7_placeOf_60 : decode cX7_placeOf 60 = .ok (.ireturn, 1) := by decide +kernel
theorem dX7_placeOf_61 : decode cX7_placeOf 61 = .ok (.iload_n 2, 1) := by decide +kernel
theorem dX7_placeOf_62 : decode cX7_placeOf 62 = .ok (.iconst 1, 1) := by decide +kernel
theorem dX7_placeOf_63 : decode cX7_placeOf 63 = .ok (.iadd, 1) := by decide +kernel
theorem dX7_placeOf_64 : decode cX7_placeOf 64 = .ok (.sipush 4095, 3) := by decide +kernel
theorem dX7_placeOf_67 : decode cX7_placeOf 67 = .ok (.iand, 1) := by decide +kernel
theorem dX7_placeOf_68 : decode cX7_placeOf 68 = .ok (.istore_n 2, 1) := by decide +kernel
theorem dX7_placeOf_69 : decode cX7_placeOf 69 = .ok (.iinc 3 1, 3) := by decide +kernel
theorem dX7_placeOf_72 : decode cX7_placeOf 72 = .ok (.goto (-62), 3) := by decide +kernel
theorem dX7_placeOf_75 : decode cX7_placeOf 75 = .ok (.iconst (-1), 1) := by decide +kernel
theorem dX7_placeOf_76 : decode cX7_placeOf 76 = .ok (.ireturn, 1) := by decide +kernel
set_option maxRecDepth 20000 in
theorem ggX7_listLater_X11_has : GoodIn wsX7_listLater wsX11_has := goodIn_r _ [5] rfl (by decide +kernel)
set_option maxRecDepth 20000 in
theorem gX7_listLater_X11_has_n43 : GoodIn wsX7_listLater (wsX11_has) := ggX7_listLater_X11_has
set_option maxRecDepth 20000 in
theorem ggX7_listLater_X11_cell : GoodIn wsX7_listLater wsX11_cell := goodIn_r _ [7] rfl (by decide +kernel)
set_option maxRecDepth 20000 in
theorem gX7_listLater_X11_cell_n47 : GoodIn wsX7_listLater (wsX11_cell) := ggX7_listLater_X11_cell
theorem dX7_listLater_0 : decode cX7_listLater 0 = .ok (.iconst 0, 1) := by decide +kernel
theorem dX7_listLater_1 : decode cX7_listLater 1 = .ok (.istore_n 3, 1) := by decide +kernel
theorem dX7_listLater_2 : decode cX7_listLater 2 = .ok (.iload_n 1, 1) := by decide +kernel
theorem dX7_listLater_3 : decode cX7_listLater 3 = .ok (.iconst 1, 1) := by decide +kernel
theorem dX7_listLater_4 : decode cX7_listLater 4 = .ok (.iadd, 1) := by decide +kernel
theorem dX7_listLater_5 : decode cX7_listLater 5 = .ok (.istore 4, 2) := by decide +kernel
theorem dX7_listLater_7 : decode cX7_listLater 7 = .ok (.iload 4, 2) := by decide +kernel
theorem dX7_listLater_9 : decode cX7_listLater 9 = .ok (.bipush 16, 2) := by decide +kernel
theorem dX7_listLater_11 : decode cX7_listLater 11 = .ok (.if_icmp .ge 33, 3) := by decide +kernel
theorem dX7_listLater_14 : decode cX7_listLater 14 = .ok (.iload_n 2, 1) := by decide +kernel
theorem dX7_listLater_15 : decode cX7_listLater 15 = .ok (.iload 4, 2) := by decide +kernel
theorem dX7_listLater_17 : decode cX7_listLater 17 = .ok (.invokestatic 43, 3) := by decide +kernel
theorem dX7_listLater_20 : decode cX7_listLater 20 = .ok (.ifCond .eq 18, 3) := by decide +kernel
theorem dX7_listLater_23 : decode cX7_listLater 23 = .ok (.aload_n 0, 1) := by decide +kernel
theorem dX7_listLater_24 : decode cX7_listLater 24 = .ok (.getfield 21, 3) := by decide +kernel
theorem dX7_listLater_27 : decode cX7_listLater 27 = .ok (.iload_n 1, 1) := by decide +kernel
theorem dX7_listLater_28 : decode cX7_listLater 28 = .ok (.iload_n 3, 1) := by decide +kernel
theorem dX7_listLater_29 : decode cX7_listLater 29 = .ok (.invokestatic 47, 3) := by decide +kernel
theorem dX7_listLater_32 : decode cX7_listLater 32 = .ok (.iload 4, 2) := by decide +kernel
theorem dX7_listLater_34 : decode cX7_listLater 34 = .ok (.iastore, 1) := by decide +kernel
theorem dX7_listLater_35 : decode cX7_listLater 35 = .ok (.iinc 3 1, 3) := by decide +kernel
theorem dX7_listLater_38 : decode cX7_listLater 38 = .ok (.iinc 4 1, 3) := by decide +kernel
theorem dX7_listLater_41 : decode cX7_listLater 41 = .ok (.goto (-34), 3) := by decide +kernel
theorem dX7_listLater_44 : decode cX7_listLater 44 = .ok (.aload_n 0, 1) := by decide +kernel
theorem dX7_listLater_45 : decode cX7_listLater 45 = .ok (.getfield 24, 3) := by decide +kernel
theorem dX7_listLater_48 : decode cX7_listLater 48 = .ok (.iload_n 1, 1) := by decide +kernel
theorem dX7_listLater_49 : decode cX7_listLater 49 = .ok (.iload_n 3, 1) := by decide +kernel
theorem dX7_listLater_50 : decode cX7_listLater 50 = .ok (.iastore, 1) := by decide +kernel
theorem dX7_listLater_51 : decode cX7_listLater 51 = .ok (.return_, 1) := by decide +kernel
set_option maxRecDepth 20000 in
theorem ggX7_visit_X7_placeOf : GoodIn wsX7_visit wsX7_placeOf := goodIn_r _ [8, 9, 10, 11, 12, 13, 39, 40, 41, 42, 43, 44, 45] rfl (by decide +kernel)
set_option maxRecDepth 20000 in
theorem gX7_visit_X7_placeOf : GoodIn wsX7_visit (wsV RX7 51 RX7 yX7_placeOf wsX7_placeOf) := goodIn_app (goodIn_of _ (by decide +kernel)) ggX7_visit_X7_placeOf
set_option maxRecDepth 20000 in
theorem ggX7_visit_X11_leastNode : GoodIn wsX7_visit wsX11_leastNode := goodIn_r _ [16, 17, 18, 19, 20, 21, 22, 23] rfl (by decide +kernel)
set_option maxRecDepth 20000 in
theorem gX7_visit_X11_leastNode_n55 : GoodIn wsX7_visit (wsX11_leastNode) := ggX7_visit_X11_leastNode
set_option maxRecDepth 20000 in
theorem ggX7_visit_X7_visit : GoodIn wsX7_visit wsX7_visit := goodIn_r _ [0, 1, 2, 3, 4, 5, 6, 7, 8, 9, 10, 11, 12, 13, 14, 15, 16, 17, 18, 19, 20, 21, 22, 23, 24, 25, 26, 27, 28, 29, 30, 31, 32, 33, 34, 35, 36, 37, 38, 39, 40, 41, 42, 43, 44, 45] rfl (by decide +kernel)
set_option maxRecDepth 20000 in
theorem gX7_visit_X7_visit : GoodIn wsX7_visit (wsV RX7 39 RX7 yX7_visit wsX7_visit) := goodIn_app (goodIn_of _ (by decide +kernel)) ggX7_visit_X7_visit
set_option maxRecDepth 20000 in
theorem ggX7_visit_X11_cell : GoodIn wsX7_visit wsX11_cell := goodIn_r _ [28] rfl (by decide +kernel)
set_option maxRecDepth 20000 in
theorem gX7_visit_X11_cell_n47 : GoodIn wsX7_visit (wsX11_cell) := ggX7_visit_X11_cell
set_option maxRecDepth 20000 in
theorem ggX7_visit_X11_has : GoodIn wsX7_visit wsX11_has := goodIn_r _ [30] rfl (by decide +kernel)
set_option maxRecDepth 20000 in
theorem gX7_visit_X11_has_n43 : GoodIn wsX7_visit (wsX11_has) := ggX7_visit_X11_has
set_option maxRecDepth 20000 in
theorem ggX7_visit_X7_append : GoodIn wsX7_visit wsX7_append := goodIn_r _ [34, 11, 9, 10, 12, 13, 35, 36, 37, 7, 38, 39, 40, 41, 42, 43, 44, 45] rfl (by decide +kernel)
set_option maxRecDepth 20000 in
theorem gX7_visit_X7_append : GoodIn wsX7_visit (wsV RX7 58 RX7 yX7_append wsX7_append) := goodIn_app (goodIn_of _ (by decide +kernel)) ggX7_visit_X7_append
theorem dX7_visit_0 : decode cX7_visit 0 = .ok (.iload_n 2, 1) := by decide +kernel
theorem dX7_visit_1 : decode cX7_visit 1 = .ok (.bipush 16, 2) := by decide +kernel
theorem dX7_visit_3 : decode cX7_visit 3 = .ok (.if_icmp .gt 12, 3) := by decide +kernel
theorem dX7_visit_6 : decode cX7_visit 6 = .ok (.aload_n 0, 1) := by decide +kernel
theorem dX7_visit_7 : decode cX7_visit 7 = .ok (.iload_n 1, 1) := by decide +kernel
theorem dX7_visit_8 : decode cX7_visit 8 = .ok (.invokevirtual 51, 3) := by decide +kernel
theorem dX7_visit_11 : decode cX7_visit 11 = .ok (.iconst (-1), 1) := by decide +kernel
theorem dX7_visit_12 : decode cX7_visit 12 = .ok (.if_icmp .eq 4, 3) := by decide +kernel
theorem dX7_visit_15 : decode cX7_visit 15 = .ok (.return_, 1) := by decide +kernel
theorem dX7_visit_16 : decode cX7_visit 16 = .ok (.iload_n 1, 1) := by decide +kernel
theorem dX7_visit_17 : decode cX7_visit 17 = .ok (.ifCond .eq 90, 3) := by decide +kernel
theorem dX7_visit_20 : decode cX7_visit 20 = .ok (.iload_n 1, 1) := by decide +kernel
theorem dX7_visit_21 : decode cX7_visit 21 = .ok (.invokestatic 55, 3) := by decide +kernel
theorem dX7_visit_24 : decode cX7_visit 24 = .ok (.istore_n 3, 1) := by decide +kernel
theorem dX7_visit_25 : decode cX7_visit 25 = .ok (.iload_n 1, 1) := by decide +kernel
theorem dX7_visit_26 : decode cX7_visit 26 = .ok (.iload_n 1, 1) := by decide +kernel
theorem dX7_visit_27 : decode cX7_visit 27 = .ok (.iconst 1, 1) := by decide +kernel
theorem dX7_visit_28 : decode cX7_visit 28 = .ok (.isub, 1) := by decide +kernel
theorem dX7_visit_29 : decode cX7_visit 29 = .ok (.iand, 1) := by decide +kernel
theorem dX7_visit_30 : decode cX7_visit 30 = .ok (.istore 4, 2) := by decide +kernel
theorem dX7_visit_32 : decode cX7_visit 32 = .ok (.aload_n 0, 1) := by decide +kernel
theorem dX7_visit_33 : decode cX7_visit 33 = .ok (.getfield 27, 3) := by decide +kernel
theorem dX7_visit_36 : decode cX7_visit 36 = .ok (.ifCond .eq 12, 3) := by decide +kernel
theorem dX7_visit_39 : decode cX7_visit 39 = .ok (.aload_n 0, 1) := by decide +kernel
theorem dX7_visit_40 : decode cX7_visit 40 = .ok (.iload 4, 2) := by decide +kernel
theorem dX7_visit_42 : decode cX7_visit 42 = .ok (.iload_n 2, 1) := by decide +kernel
theorem dX7_visit_43 : decode cX7_visit 43 = .ok (.iconst 1, 1) := by decide +kernel
theorem dX7_visit_44 : decode cX7_visit 44 = .ok (.iadd, 1) := by decide +kernel
theorem dX7_visit_45 : decode cX7_visit 45 = .ok (.invokevirtual 39, 3) := by decide +kernel
theorem dX7_visit_48 : decode cX7_visit 48 = .ok (.iconst 0, 1) := by decide +kernel
theorem dX7_visit_49 : decode cX7_visit 49 = .ok (.istore 5, 2) := by decide +kernel
theorem dX7_visit_51 : decode cX7_visit 51 = .ok (.iload 5, 2) := by decide +kernel
theorem dX7_visit_53 : decode cX7_visit 53 = .ok (.aload_n 0, 1) := by decide +kernel
theorem dX7_visit_54 : decode cX7_visit 54 = .ok (.getfield 24, 3) := by decide +kernel
theorem dX7_visit_57 : decode cX7_visit 57 = .ok (.iload_n 3, 1) := by decide +kernel
theorem dX7_visit_58 : decode cX7_visit 58 = .ok (.iaload, 1) := by decide +kernel
theorem dX7_visit_59 : decode cX7_visit 59 = .ok (.if_icmp .ge 48, 3) := by decide +kernel
theorem dX7_visit_62 : decode cX7_visit 62 = .ok (.aload_n 0, 1) := by decide +kernel
theorem dX7_visit_63 : decode cX7_visit 63 = .ok (.getfield 21, 3) := by decide +kernel
theorem dX7_visit_66 : decode cX7_visit 66 = .ok (.iload_n 3, 1) := by decide +kernel
theorem dX7_visit_67 : decode cX7_visit 67 = .ok (.iload 5, 2) := by decide +kernel
theorem dX7_visit_69 : decode cX7_visit 69 = .ok (.invokestatic 47, 3) := by decide +kernel
theorem dX7_visit_72 : decode cX7_visit 72 = .ok (.iaload, 1) := by decide +kernel
theorem dX7_visit_73 : decode cX7_visit 73 = .ok (.istore 6, 2) := by decide +kernel
theorem dX7_visit_75 : decode cX7_visit 75 = .ok (.iload 4, 2) := by decide +kernel
theorem dX7_visit_77 : decode cX7_visit 77 = .ok (.iload 6, 2) := by decide +kernel
theorem dX7_visit_79 : decode cX7_visit 79 = .ok (.invokestatic 43, 3) := by decide +kernel
theorem dX7_visit_82 : decode cX7_visit 82 = .ok (.ifCond .eq 19, 3) := by decide +kernel
theorem dX7_visit_85 : decode cX7_visit 85 = .ok (.aload_n 0, 1) := by decide +kernel
theorem dX7_visit_86 : decode cX7_visit 86 = .ok (.iload 4, 2) := by decide +kernel
theorem dX7_visit_88 : decode cX7_visit 88 = .ok (.iconst 1, 1) := by decide +kernel
theorem dX7_visit_89 : decode cX7_visit 89 = .ok (.iload 6, 2) := by decide +kernel
theorem dX7_visit_91 : decode cX7_visit 91 = .ok (.ishl, 1) := by decide +kernel
theorem dX7_visit_92 : decode cX7_visit 92 = .ok (.iconst (-1), 1) := by decide +kernel
theorem dX7_visit_93 : decode cX7_visit 93 = .ok (.ixor, 1) := by decide +kernel
theorem dX7_visit_94 : decode cX7_visit 94 = .ok (.iand, 1) := by decide +kernel
theorem dX7_visit_95 : decode cX7_visit 95 = .ok (.iload_n 2, 1) := by decide +kernel
theorem dX7_visit_96 : decode cX7_visit 96 = .ok (.iconst 1, 1) := by decide +kernel
theorem dX7_visit_97 : decode cX7_visit 97 = .ok (.iadd, 1) := by decide +kernel
theorem dX7_visit_98 : decode cX7_visit 98 = .ok (.invokevirtual 39, 3) := by decide +kernel
theorem dX7_visit_101 : decode cX7_visit 101 = .ok (.iinc 5 1, 3) := by decide +kernel
theorem dX7_visit_104 : decode cX7_visit 104 = .ok (.goto (-53), 3) := by decide +kernel
theorem dX7_visit_107 : decode cX7_visit 107 = .ok (.aload_n 0, 1) := by decide +kernel
theorem dX7_visit_108 : decode cX7_visit 108 = .ok (.iload_n 1, 1) := by decide +kernel
theorem dX7_visit_109 : decode cX7_visit 109 = .ok (.invokevirtual 58, 3) := by decide +kernel
theorem dX7_visit_112 : decode cX7_visit 112 = .ok (.return_, 1) := by decide +kernel
set_option maxRecDepth 20000 in
theorem ggX7_append_X7_isTaken : GoodIn wsX7_append wsX7_isTaken := goodIn_r _ [10, 3, 1, 4, 11, 12, 13, 14, 15, 16, 17] rfl (by decide +kernel)
set_option maxRecDepth 20000 in
theorem gX7_append_X7_isTaken : GoodIn wsX7_append (wsV RX7 62 RX7 yX7_isTaken wsX7_isTaken) := goodIn_app (goodIn_of _ (by decide +kernel)) ggX7_append_X7_isTaken
theorem dX7_append_0 : decode cX7_append 0 = .ok (.aload_n 0, 1) := by decide +kernel
theorem dX7_append_1 : decode cX7_append 1 = .ok (.getfield 31, 3) := by decide +kernel
theorem dX7_append_4 : decode cX7_append 4 = .ok (.sipush 2584, 3) := by decide +kernel
theorem dX7_append_7 : decode cX7_append 7 = .ok (.if_icmp .ne 4, 3) := by decide +kernel
theorem dX7_append_10 : decode cX7_append 10 = .ok (.return_, 1) := by decide +kernel
theorem dX7_append_11 : decode cX7_append 11 = .ok (.iload_n 1, 1) := by decide +kernel
theorem dX7_append_12 : decode cX7_append 12 = .ok (.ldc 42, 2) := by decide +kernel
theorem dX7_append_14 : decode cX7_append 14 = .ok (.imul, 1) := by decide +kernel
theorem dX7_append_15 : decode cX7_append 15 = .ok (.bipush 20, 2) := by decide +kernel
theorem dX7_append_17 : decode cX7_append 17 = .ok (.iushr, 1) := by decide +kernel
theorem dX7_append_18 : decode cX7_append 18 = .ok (.istore_n 2, 1) := by decide +kernel
theorem dX7_append_19 : decode cX7_append 19 = .ok (.iconst 0, 1) := by decide +kernel
theorem dX7_append_20 : decode cX7_append 20 = .ok (.istore_n 3, 1) := by decide +kernel
theorem dX7_append_21 : decode cX7_append 21 = .ok (.iload_n 3, 1) := by decide +kernel
theorem dX7_append_22 : decode cX7_append 22 = .ok (.sipush 4096, 3) := by decide +kernel
theorem dX7_append_25 : decode cX7_append 25 = .ok (.if_icmp .ge 25, 3) := by decide +kernel
theorem dX7_append_28 : decode cX7_append 28 = .ok (.aload_n 0, 1) := by decide +kernel
theorem dX7_append_29 : decode cX7_append 29 = .ok (.iload_n 2, 1) := by decide +kernel
theorem dX7_append_30 : decode cX7_append 30 = .ok (.invokevirtual 62, 3) := by decide +kernel
theorem dX7_append_33 : decode cX7_append 33 = .ok (.ifCond .eq 17, 3) := by decide +kernel
theorem dX7_append_36 : decode cX7_append 36 = .ok (.iload_n 2, 1) := by decide +kernel
theorem dX7_append_37 : decode cX7_append 37 = .ok (.iconst 1, 1) := by decide +kernel
theorem dX7_append_38 : decode cX7_append 38 = .ok (.iadd, 1) := by decide +kernel
theorem dX7_append_39 : decode cX7_append 39 = .ok (.sipush 4095, 3) := by decide +kernel
theorem dX7_append_42 : decode cX7_append 42 = .ok (.iand, 1) := by decide +kernel
theorem dX7_append_43 : decode cX7_append 43 = .ok (.istore_n 2, 1) := by decide +kernel
theorem dX7_append_44 : decode cX7_append 44 = .ok (.iinc 3 1, 3) := by decide +kernel
theorem dX7_append_47 : decode cX7_append 47 = .ok (.goto (-26), 3) := by decide +kernel
theorem dX7_append_50 : decode cX7_append 50 = .ok (.aload_n 0, 1) := by decide +kernel
theorem dX7_append_51 : decode cX7_append 51 = .ok (.getfield 11, 3) := by decide +kernel
theorem dX7_append_54 : decode cX7_append 54 = .ok (.iload_n 2, 1) := by decide +kernel
theorem dX7_append_55 : decode cX7_append 55 = .ok (.aload_n 0, 1) := by decide +kernel
theorem dX7_append_56 : decode cX7_append 56 = .ok (.getfield 31, 3) := by decide +kernel
theorem dX7_append_59 : decode cX7_append 59 = .ok (.iastore, 1) := by decide +kernel
theorem dX7_append_60 : decode cX7_append 60 = .ok (.aload_n 0, 1) := by decide +kernel
theorem dX7_append_61 : decode cX7_append 61 = .ok (.getfield 15, 3) := by decide +kernel
theorem dX7_append_64 : decode cX7_append 64 = .ok (.aload_n 0, 1) := by decide +kernel
theorem dX7_append_65 : decode cX7_append 65 = .ok (.getfield 31, 3) := by decide +kernel
theorem dX7_append_68 : decode cX7_append 68 = .ok (.iload_n 2, 1) := by decide +kernel
theorem dX7_append_69 : decode cX7_append 69 = .ok (.iastore, 1) := by decide +kernel
theorem dX7_append_70 : decode cX7_append 70 = .ok (.aload_n 0, 1) := by decide +kernel
theorem dX7_append_71 : decode cX7_append 71 = .ok (.getfield 18, 3) := by decide +kernel
theorem dX7_append_74 : decode cX7_append 74 = .ok (.aload_n 0, 1) := by decide +kernel
theorem dX7_append_75 : decode cX7_append 75 = .ok (.getfield 31, 3) := by decide +kernel
theorem dX7_append_78 : decode cX7_append 78 = .ok (.iload_n 1, 1) := by decide +kernel
theorem dX7_append_79 : decode cX7_append 79 = .ok (.iastore, 1) := by decide +kernel
theorem dX7_append_80 : decode cX7_append 80 = .ok (.aload_n 0, 1) := by decide +kernel
theorem dX7_append_81 : decode cX7_append 81 = .ok (.dup, 1) := by decide +kernel
theorem dX7_append_82 : decode cX7_append 82 = .ok (.getfield 31, 3) := by decide +kernel
theorem dX7_append_85 : decode cX7_append 85 = .ok (.iconst 1, 1) := by decide +kernel
theorem dX7_append_86 : decode cX7_append 86 = .ok (.iadd, 1) := by decide +kernel
theorem dX7_append_87 : decode cX7_append 87 = .ok (.putfield 31, 3) := by decide +kernel
theorem dX7_append_90 : decode cX7_append 90 = .ok (.return_, 1) := by decide +kernel
theorem dX7_isTaken_0 : decode cX7_isTaken 0 = .ok (.aload_n 0, 1) := by decide +kernel
theorem dX7_isTaken_1 : decode cX7_isTaken 1 = .ok (.getfield 11, 3) := by decide +kernel
theorem dX7_isTaken_4 : decode cX7_isTaken 4 = .ok (.iload_n 1, 1) := by decide +kernel
theorem dX7_isTaken_5 : decode cX7_isTaken 5 = .ok (.iaload, 1) := by decide +kernel
theorem dX7_isTaken_6 : decode cX7_isTaken 6 = .ok (.istore_n 2, 1) := by decide +kernel
theorem dX7_isTaken_7 : decode cX7_isTaken 7 = .ok (.iload_n 2, 1) := by decide +kernel
theorem dX7_isTaken_8 : decode cX7_isTaken 8 = .ok (.aload_n 0, 1) := by decide +kernel
theorem dX7_isTaken_9 : decode cX7_isTaken 9 = .ok (.getfield 31, 3) := by decide +kernel
theorem dX7_isTaken_12 : decode cX7_isTaken 12 = .ok (.if_icmp .ge 17, 3) := by decide +kernel
theorem dX7_isTaken_15 : decode cX7_isTaken 15 = .ok (.aload_n 0, 1) := by decide +kernel
theorem dX7_isTaken_16 : decode cX7_isTaken 16 = .ok (.getfield 15, 3) := by decide +kernel
theorem dX7_isTaken_19 : decode cX7_isTaken 19 = .ok (.iload_n 2, 1) := by decide +kernel
theorem dX7_isTaken_20 : decode cX7_isTaken 20 = .ok (.iaload, 1) := by decide +kernel
theorem dX7_isTaken_21 : decode cX7_isTaken 21 = .ok (.iload_n 1, 1) := by decide +kernel
theorem dX7_isTaken_22 : decode cX7_isTaken 22 = .ok (.if_icmp .ne 7, 3) := by decide +kernel
theorem dX7_isTaken_25 : decode cX7_isTaken 25 = .ok (.iconst 1, 1) := by decide +kernel
theorem dX7_isTaken_26 : decode cX7_isTaken 26 = .ok (.goto 4, 3) := by decide +kernel
theorem dX7_isTaken_29 : decode cX7_isTaken 29 = .ok (.iconst 0, 1) := by decide +kernel
theorem dX7_isTaken_30 : decode cX7_isTaken 30 = .ok (.ireturn, 1) := by decide +kernel
set_option maxRecDepth 20000 in
theorem ggX8_init_X5_init : GoodIn wsX8_init wsX5_init := goodIn_r _ [14, 15, 2, 3, 9, 16, 17, 18, 19, 20] rfl (by decide +kernel)
set_option maxRecDepth 20000 in
theorem gX8_init_X5_init_n11 : GoodIn wsX8_init (wsX5_init) := ggX8_init_X5_init
theorem dX8_init_0 : decode cX8_init 0 = .ok (.aload_n 0, 1) := by decide +kernel
theorem dX8_init_1 : decode cX8_init 1 = .ok (.invokespecial 3, 3) := by decide +kernel
theorem dX8_init_4 : decode cX8_init 4 = .ok (.aload_n 0, 1) := by decide +kernel
theorem dX8_init_5 : decode cX8_init 5 = .ok (.new 9, 3) := by decide +kernel
theorem dX8_init_8 : decode cX8_init 8 = .ok (.dup, 1) := by decide +kernel
theorem dX8_init_9 : decode cX8_init 9 = .ok (.invokespecial 11, 3) := by decide +kernel
theorem dX8_init_12 : decode cX8_init 12 = .ok (.putfield 12, 3) := by decide +kernel
theorem dX8_init_15 : decode cX8_init 15 = .ok (.aload_n 0, 1) := by decide +kernel
theorem dX8_init_16 : decode cX8_init 16 = .ok (.new 9, 3) := by decide +kernel
theorem dX8_init_19 : decode cX8_init 19 = .ok (.dup, 1) := by decide +kernel
theorem dX8_init_20 : decode cX8_init 20 = .ok (.invokespecial 11, 3) := by decide +kernel
theorem dX8_init_23 : decode cX8_init 23 = .ok (.putfield 18, 3) := by decide +kernel
theorem dX8_init_26 : decode cX8_init 26 = .ok (.aload_n 0, 1) := by decide +kernel
theorem dX8_init_27 : decode cX8_init 27 = .ok (.sipush 2584, 3) := by decide +kernel
theorem dX8_init_30 : decode cX8_init 30 = .ok (.newarray .int, 2) := by decide +kernel
theorem dX8_init_32 : decode cX8_init 32 = .ok (.putfield 23, 3) := by decide +kernel
theorem dX8_init_35 : decode cX8_init 35 = .ok (.aload_n 0, 1) := by decide +kernel
theorem dX8_init_36 : decode cX8_init 36 = .ok (.iconst (-1), 1) := by decide +kernel
theorem dX8_init_37 : decode cX8_init 37 = .ok (.putfield 27, 3) := by decide +kernel
theorem dX8_init_40 : decode cX8_init 40 = .ok (.aload_n 0, 1) := by decide +kernel
theorem dX8_init_41 : decode cX8_init 41 = .ok (.aload_n 1, 1) := by decide +kernel
theorem dX8_init_42 : decode cX8_init 42 = .ok (.putfield 31, 3) := by decide +kernel
theorem dX8_init_45 : decode cX8_init 45 = .ok (.return_, 1) := by decide +kernel
set_option maxRecDepth 20000 in
theorem ggX8_refresh_X8_findLefts : GoodIn wsX8_refresh wsX8_findLefts := goodIn_r _ [10, 11, 12, 13, 2, 14, 15, 16, 17, 18, 9, 19, 20, 21, 22, 23, 24, 25, 26, 27, 28, 29, 30, 31, 32, 33, 34, 35, 36, 37, 38, 39, 40, 41, 42, 43, 44, 45, 46, 47, 48, 49, 50, 99, 100, 101, 102, 103, 104, 105, 82, 83, 84, 85, 86, 87, 88, 89, 90, 91, 92, 93, 94, 95, 96, 97, 98] rfl (by decide +kernel)
set_option maxRecDepth 20000 in
theorem gX8_refresh_X8_findLefts : GoodIn wsX8_refresh (wsV RX8 38 RX8 yX8_findLefts wsX8_findLefts) := goodIn_app (goodIn_of _ (by decide +kernel)) ggX8_refresh_X8_findLefts
set_option maxRecDepth 20000 in
theorem ggX8_refresh_X8_findBesides : GoodIn wsX8_refresh wsX8_findBesides := goodIn_r _ [54, 4, 2, 13, 46, 21, 47, 82, 83, 84, 85, 86, 87, 88, 89, 90, 91, 92, 93, 94, 95, 96, 97, 98] rfl (by decide +kernel)
set_option maxRecDepth 20000 in
theorem gX8_refresh_X8_findBesides : GoodIn wsX8_refresh (wsV RX8 42 RX8 yX8_findBesides wsX8_findBesides) := goodIn_app (goodIn_of _ (by decide +kernel)) ggX8_refresh_X8_findBesides
set_option maxRecDepth 20000 in
theorem ggX8_refresh_X2_allNodes : GoodIn wsX8_refresh wsX2_allNodes := goodIn_r _ [59, 60, 90, 91, 92, 93, 94, 95, 96, 97, 98] rfl (by decide +kernel)
set_option maxRecDepth 20000 in
theorem gX8_refresh_X2_allNodes : GoodIn wsX8_refresh (wsV RX8 45 RX2 yX2_allNodes wsX2_allNodes) := goodIn_app (goodIn_of _ (by decide +kernel)) ggX8_refresh_X2_allNodes
set_option maxRecDepth 20000 in
theorem ggX8_refresh_X5_split : GoodIn wsX8_refresh wsX5_split := goodIn_r _ [65, 66, 67, 68, 46, 21, 47, 69, 70, 71, 64, 72, 73, 74, 75, 76, 24, 25, 26, 27, 28, 29, 77, 78, 79, 80, 81, 106, 107, 108, 109, 90, 91, 92, 93, 94, 95, 96, 97, 98] rfl (by decide +kernel)
set_option maxRecDepth 20000 in
theorem gX8_refresh_X5_split : GoodIn wsX8_refresh (wsV RX8 52 RX5 yX5_split wsX5_split) := goodIn_app (goodIn_of _ (by decide +kernel)) ggX8_refresh_X5_split
theorem dX8_refresh_0 : decode cX8_refresh 0 = .ok (.aload_n 0, 1) := by decide +kernel
theorem dX8_refresh_1 : decode cX8_refresh 1 = .ok (.getfield 27, 3) := by decide +kernel
theorem dX8_refresh_4 : decode cX8_refresh 4 = .ok (.aload_n 0, 1) := by decide +kernel
theorem dX8_refresh_5 : decode cX8_refresh 5 = .ok (.getfield 31, 3) := by decide +kernel
theorem dX8_refresh_8 : decode cX8_refresh 8 = .ok (.getfield 35, 3) := by decide +kernel
theorem dX8_refresh_11 : decode cX8_refresh 11 = .ok (.if_icmp .eq 66, 3) := by decide +kernel
theorem dX8_refresh_14 : decode cX8_refresh 14 = .ok (.aload_n 0, 1) := by decide +kernel
theorem dX8_refresh_15 : decode cX8_refresh 15 = .ok (.aload_n 0, 1) := by decide +kernel
theorem dX8_refresh_16 : decode cX8_refresh 16 = .ok (.getfield 31, 3) := by decide +kernel
theorem dX8_refresh_19 : decode cX8_refresh 19 = .ok (.getfield 35, 3) := by decide +kernel
theorem dX8_refresh_22 : decode cX8_refresh 22 = .ok (.putfield 27, 3) := by decide +kernel
theorem dX8_refresh_25 : decode cX8_refresh 25 = .ok (.aload_n 0, 1) := by decide +kernel
theorem dX8_refresh_26 : decode cX8_refresh 26 = .ok (.aload_n 1, 1) := by decide +kernel
theorem dX8_refresh_27 : decode cX8_refresh 27 = .ok (.invokevirtual 38, 3) := by decide +kernel
theorem dX8_refresh_30 : decode cX8_refresh 30 = .ok (.aload_n 0, 1) := by decide +kernel
theorem dX8_refresh_31 : decode cX8_refresh 31 = .ok (.invokevirtual 42, 3) := by decide +kernel
theorem dX8_refresh_34 : decode cX8_refresh 34 = .ok (.aload_n 0, 1) := by decide +kernel
theorem dX8_refresh_35 : decode cX8_refresh 35 = .ok (.getfield 12, 3) := by decide +kernel
theorem dX8_refresh_38 : decode cX8_refresh 38 = .ok (.aload_n 0, 1) := by decide +kernel
theorem dX8_refresh_39 : decode cX8_refresh 39 = .ok (.getfield 31, 3) := by decide +kernel
theorem dX8_refresh_42 : decode cX8_refresh 42 = .ok (.aload_n 0, 1) := by decide +kernel
theorem dX8_refresh_43 : decode cX8_refresh 43 = .ok (.getfield 31, 3) := by decide +kernel
theorem dX8_refresh_46 : decode cX8_refresh 46 = .ok (.invokevirtual 45, 3) := by decide +kernel
theorem dX8_refresh_49 : decode cX8_refresh 49 = .ok (.aload_n 0, 1) := by decide +kernel
theorem dX8_refresh_50 : decode cX8_refresh 50 = .ok (.getfield 49, 3) := by decide +kernel
theorem dX8_refresh_53 : decode cX8_refresh 53 = .ok (.iconst (-1), 1) := by decide +kernel
theorem dX8_refresh_54 : decode cX8_refresh 54 = .ok (.ixor, 1) := by decide +kernel
theorem dX8_refresh_55 : decode cX8_refresh 55 = .ok (.iand, 1) := by decide +kernel
theorem dX8_refresh_56 : decode cX8_refresh 56 = .ok (.invokevirtual 52, 3) := by decide +kernel
theorem dX8_refresh_59 : decode cX8_refresh 59 = .ok (.aload_n 0, 1) := by decide +kernel
theorem dX8_refresh_60 : decode cX8_refresh 60 = .ok (.getfield 18, 3) := by decide +kernel
theorem dX8_refresh_63 : decode cX8_refresh 63 = .ok (.aload_n 0, 1) := by decide +kernel
theorem dX8_refresh_64 : decode cX8_refresh 64 = .ok (.getfield 31, 3) := by decide +kernel
theorem dX8_refresh_67 : decode cX8_refresh 67 = .ok (.aload_n 0, 1) := by decide +kernel
theorem dX8_refresh_68 : decode cX8_refresh 68 = .ok (.getfield 31, 3) := by decide +kernel
theorem dX8_refresh_71 : decode cX8_refresh 71 = .ok (.invokevirtual 45, 3) := by decide +kernel
theorem dX8_refresh_74 : decode cX8_refresh 74 = .ok (.invokevirtual 52, 3) := by decide +kernel
theorem dX8_refresh_77 : decode cX8_refresh 77 = .ok (.return_, 1) := by decide +kernel
set_option maxRecDepth 20000 in
theorem ggX8_sortOf_X11_has : GoodIn wsX8_sortOf wsX11_has := goodIn_r _ [5] rfl (by decide +kernel)
set_option maxRecDepth 20000 in
theorem gX8_sortOf_X11_has_n59 : GoodIn wsX8_sortOf (wsX11_has) := ggX8_sortOf_X11_has
theorem dX8_sortOf_0 : decode cX8_sortOf 0 = .ok (.aload_n 0, 1) := by decide +kernel
theorem dX8_sortOf_1 : decode cX8_sortOf 1 = .ok (.getfield 56, 3) := by decide +kernel
theorem dX8_sortOf_4 : decode cX8_sortOf 4 = .ok (.iload_n 1, 1) := by decide +kernel
theorem dX8_sortOf_5 : decode cX8_sortOf 5 = .ok (.invokestatic 59, 3) := by decide +kernel
theorem dX8_sortOf_8 : decode cX8_sortOf 8 = .ok (.ifCond .eq 5, 3) := by decide +kernel
theorem dX8_sortOf_11 : decode cX8_sortOf 11 = .ok (.iconst 0, 1) := by decide +kernel
theorem dX8_sortOf_12 : decode cX8_sortOf 12 = .ok (.ireturn, 1) := by decide +kernel
theorem dX8_sortOf_13 : decode cX8_sortOf 13 = .ok (.aload_n 0, 1) := by decide +kernel
theorem dX8_sortOf_14 : decode cX8_sortOf 14 = .ok (.getfield 49, 3) := by decide +kernel
theorem dX8_sortOf_17 : decode cX8_sortOf 17 = .ok (.iload_n 1, 1) := by decide +kernel
theorem dX8_sortOf_18 : decode cX8_sortOf 18 = .ok (.invokestatic 59, 3) := by decide +kernel
theorem dX8_sortOf_21 : decode cX8_sortOf 21 = .ok (.ifCond .eq 7, 3) := by decide +kernel
theorem dX8_sortOf_24 : decode cX8_sortOf 24 = .ok (.iconst 1, 1) := by decide +kernel
theorem dX8_sortOf_25 : decode cX8_sortOf 25 = .ok (.goto 4, 3) := by decide +kernel
theorem dX8_sortOf_28 : decode cX8_sortOf 28 = .ok (.iconst 2, 1) := by decide +kernel
theorem dX8_sortOf_29 : decode cX8_sortOf 29 = .ok (.ireturn, 1) := by decide +kernel
set_option maxRecDepth 20000 in
theorem ggX8_findLefts_X8_leftsOf : GoodIn wsX8_findLefts wsX8_leftsOf := goodIn_r _ [11, 5, 12, 13, 14, 15, 16, 17, 18, 19, 20, 21, 22, 23, 24, 10, 25, 1, 26, 27, 28, 29, 30, 31, 32, 33, 34, 35, 36, 37, 38, 39, 40, 41, 42, 43, 44, 45, 46, 47, 48, 49, 50, 51, 52, 53, 54, 55, 56, 57] rfl (by decide +kernel)
set_option maxRecDepth 20000 in
theorem gX8_findLefts_X8_leftsOf : GoodIn wsX8_findLefts (wsV RX8 69 RX8 yX8_leftsOf wsX8_leftsOf) := goodIn_app (goodIn_of _ (by decide +kernel)) ggX8_findLefts_X8_leftsOf
theorem dX8_findLefts_0 : decode cX8_findLefts 0 = .ok (.iconst 0, 1) := by decide +kernel
theorem dX8_findLefts_1 : decode cX8_findLefts 1 = .ok (.istore_n 2, 1) := by decide +kernel
theorem dX8_findLefts_2 : decode cX8_findLefts 2 = .ok (.iload_n 2, 1) := by decide +kernel
theorem dX8_findLefts_3 : decode cX8_findLefts 3 = .ok (.aload_n 1, 1) := by decide +kernel
theorem dX8_findLefts_4 : decode cX8_findLefts 4 = .ok (.getfield 63, 3) := by decide +kernel
theorem dX8_findLefts_7 : decode cX8_findLefts 7 = .ok (.if_icmp .ge 39, 3) := by decide +kernel
theorem dX8_findLefts_10 : decode cX8_findLefts 10 = .ok (.aload_n 0, 1) := by decide +kernel
theorem dX8_findLefts_11 : decode cX8_findLefts 11 = .ok (.getfield 23, 3) := by decide +kernel
theorem dX8_findLefts_14 : decode cX8_findLefts 14 = .ok (.iload_n 2, 1) := by decide +kernel
theorem dX8_findLefts_15 : decode cX8_findLefts 15 = .ok (.aload_n 1, 1) := by decide +kernel
theorem dX8_findLefts_16 : decode cX8_findLefts 16 = .ok (.getfield 66, 3) := by decide +kernel
theorem dX8_findLefts_19 : decode cX8_findLefts 19 = .ok (.iload_n 2, 1) := by decide +kernel
theorem dX8_findLefts_20 : decode cX8_findLefts 20 = .ok (.iaload, 1) := by decide +kernel
theorem dX8_findLefts_21 : decode cX8_findLefts 21 = .ok (.ifCond .ne 7, 3) := by decide +kernel
theorem dX8_findLefts_24 : decode cX8_findLefts 24 = .ok (.iconst 0, 1) := by decide +kernel
theorem dX8_findLefts_25 : decode cX8_findLefts 25 = .ok (.goto 14, 3) := by decide +kernel
theorem dX8_findLefts_28 : decode cX8_findLefts 28 = .ok (.aload_n 0, 1) := by decide +kernel
theorem dX8_findLefts_29 : decode cX8_findLefts 29 = .ok (.aload_n 1, 1) := by decide +kernel
theorem dX8_findLefts_30 : decode cX8_findLefts 30 = .ok (.aload_n 1, 1) := by decide +kernel
theorem dX8_findLefts_31 : decode cX8_findLefts 31 = .ok (.getfield 66, 3) := by decide +kernel
theorem dX8_findLefts_34 : decode cX8_findLefts 34 = .ok (.iload_n 2, 1) := by decide +kernel
theorem dX8_findLefts_35 : decode cX8_findLefts 35 = .ok (.iaload, 1) := by decide +kernel
theorem dX8_findLefts_36 : decode cX8_findLefts 36 = .ok (.invokevirtual 69, 3) := by decide +kernel
theorem dX8_findLefts_39 : decode cX8_findLefts 39 = .ok (.iastore, 1) := by decide +kernel
theorem dX8_findLefts_40 : decode cX8_findLefts 40 = .ok (.iinc 2 1, 3) := by decide +kernel
theorem dX8_findLefts_43 : decode cX8_findLefts 43 = .ok (.goto (-41), 3) := by decide +kernel
theorem dX8_findLefts_46 : decode cX8_findLefts 46 = .ok (.aload_n 1, 1) := by decide +kernel
theorem dX8_findLefts_47 : decode cX8_findLefts 47 = .ok (.getfield 63, 3) := by decide +kernel
theorem dX8_findLefts_50 : decode cX8_findLefts 50 = .ok (.ifCond .le 17, 3) := by decide +kernel
theorem dX8_findLefts_53 : decode cX8_findLefts 53 = .ok (.aload_n 0, 1) := by decide +kernel
theorem dX8_findLefts_54 : decode cX8_findLefts 54 = .ok (.getfield 23, 3) := by decide +kernel
theorem dX8_findLefts_57 : decode cX8_findLefts 57 = .ok (.aload_n 1, 1) := by decide +kernel
theorem dX8_findLefts_58 : decode cX8_findLefts 58 = .ok (.getfield 63, 3) := by decide +kernel
theorem dX8_findLefts_61 : decode cX8_findLefts 61 = .ok (.iconst 1, 1) := by decide +kernel
theorem dX8_findLefts_62 : decode cX8_findLefts 62 = .ok (.isub, 1) := by decide +kernel
theorem dX8_findLefts_63 : decode cX8_findLefts 63 = .ok (.iaload, 1) := by decide +kernel
theorem dX8_findLefts_64 : decode cX8_findLefts 64 = .ok (.goto 4, 3) := by decide +kernel
theorem dX8_findLefts_67 : decode cX8_findLefts 67 = .ok (.iconst 0, 1) := by decide +kernel
theorem dX8_findLefts_68 : decode cX8_findLefts 68 = .ok (.istore_n 2, 1) := by decide +kernel
theorem dX8_findLefts_69 : decode cX8_findLefts 69 = .ok (.aload_n 0, 1) := by decide +kernel
theorem dX8_findLefts_70 : decode cX8_findLefts 70 = .ok (.iload_n 2, 1) := by decide +kernel
theorem dX8_findLefts_71 : decode cX8_findLefts 71 = .ok (.ldc 73, 2) := by decide +kernel
theorem dX8_findLefts_73 : decode cX8_findLefts 73 = .ok (.iand, 1) := by decide +kernel
theorem dX8_findLefts_74 : decode cX8_findLefts 74 = .ok (.putfield 56, 3) := by decide +kernel
theorem dX8_findLefts_77 : decode cX8_findLefts 77 = .ok (.aload_n 0, 1) := by decide +kernel
theorem dX8_findLefts_78 : decode cX8_findLefts 78 = .ok (.aload_n 0, 1) := by decide +kernel
theorem dX8_findLefts_79 : decode cX8_findLefts 79 = .ok (.getfield 31, 3) := by decide +kernel
theorem dX8_findLefts_82 : decode cX8_findLefts 82 = .ok (.getfield 74, 3) := by decide +kernel
theorem dX8_findLefts_85 : decode cX8_findLefts 85 = .ok (.iconst 2, 1) := by decide +kernel
theorem dX8_findLefts_86 : decode cX8_findLefts 86 = .ok (.iload_n 2, 1) := by decide +kernel
theorem dX8_findLefts_87 : decode cX8_findLefts 87 = .ok (.ldc 77, 2) := by decide +kernel
theorem dX8_findLefts_89 : decode cX8_findLefts 89 = .ok (.idiv, 1) := by decide +kernel
theorem dX8_findLefts_90 : decode cX8_findLefts 90 = .ok (.imul, 1) := by decide +kernel
theorem dX8_findLefts_91 : decode cX8_findLefts 91 = .ok (.isub, 1) := by decide +kernel
theorem dX8_findLefts_92 : decode cX8_findLefts 92 = .ok (.putfield 78, 3) := by decide +kernel
theorem dX8_findLefts_95 : decode cX8_findLefts 95 = .ok (.return_, 1) := by decide +kernel
set_option maxRecDepth 20000 in
theorem ggX8_leftsOf_X11_leastNode : GoodIn wsX8_leftsOf wsX11_leastNode := goodIn_r _ [4, 5, 6, 7, 8, 9, 10, 11] rfl (by decide +kernel)
set_option maxRecDepth 20000 in
theorem gX8_leftsOf_X11_leastNode_n81 : GoodIn wsX8_leftsOf (wsX11_leastNode) := ggX8_leftsOf_X11_leastNode
set_option maxRecDepth 20000 in
theorem ggX8_leftsOf_X8_at : GoodIn wsX8_leftsOf wsX8_at := goodIn_r _ [16, 17, 18, 19, 20, 21, 22, 23, 24, 25, 26, 27, 42, 43, 44, 45, 46, 47, 48, 49, 35, 36, 37, 38, 39, 40, 41] rfl (by decide +kernel)
set_option maxRecDepth 20000 in
theorem gX8_leftsOf_X8_at : GoodIn wsX8_leftsOf (wsV RX8 85 RX8 yX8_at wsX8_at) := goodIn_app (goodIn_of _ (by decide +kernel)) ggX8_leftsOf_X8_at
set_option maxRecDepth 20000 in
theorem ggX8_leftsOf_X11_cell : GoodIn wsX8_leftsOf wsX11_cell := goodIn_r _ [29] rfl (by decide +kernel)
set_option maxRecDepth 20000 in
theorem gX8_leftsOf_X11_cell_n94 : GoodIn wsX8_leftsOf (wsX11_cell) := ggX8_leftsOf_X11_cell
set_option maxRecDepth 20000 in
theorem ggX8_leftsOf_X11_has : GoodIn wsX8_leftsOf wsX11_has := goodIn_r _ [31] rfl (by decide +kernel)
set_option maxRecDepth 20000 in
theorem gX8_leftsOf_X11_has_n59 : GoodIn wsX8_leftsOf (wsX11_has) := ggX8_leftsOf_X11_has
set_option maxRecDepth 20000 in
theorem ggX8_leftsOf_X8_better : GoodIn wsX8_leftsOf wsX8_better := goodIn_r _ [34, 1] rfl (by decide +kernel)
set_option maxRecDepth 20000 in
theorem gX8_leftsOf_X8_better : GoodIn wsX8_leftsOf (va_wsS RX8 98 yX8_better wsX8_better) := goodIn_app (goodIn_of _ (by decide +kernel)) ggX8_leftsOf_X8_better
theorem dX8_leftsOf_0 : decode cX8_leftsOf 0 = .ok (.iload_n 2, 1) := by decide +kernel
theorem dX8_leftsOf_1 : decode cX8_leftsOf 1 = .ok (.invokestatic 81, 3) := by decide +kernel
theorem dX8_leftsOf_4 : decode cX8_leftsOf 4 = .ok (.istore_n 3, 1) := by decide +kernel
theorem dX8_leftsOf_5 : decode cX8_leftsOf 5 = .ok (.iload_n 2, 1) := by decide +kernel
theorem dX8_leftsOf_6 : decode cX8_leftsOf 6 = .ok (.iload_n 2, 1) := by decide +kernel
theorem dX8_leftsOf_7 : decode cX8_leftsOf 7 = .ok (.iconst 1, 1) := by decide +kernel
theorem dX8_leftsOf_8 : decode cX8_leftsOf 8 = .ok (.isub, 1) := by decide +kernel
theorem dX8_leftsOf_9 : decode cX8_leftsOf 9 = .ok (.iand, 1) := by decide +kernel
theorem dX8_leftsOf_10 : decode cX8_leftsOf 10 = .ok (.istore 4, 2) := by decide +kernel
theorem dX8_leftsOf_12 : decode cX8_leftsOf 12 = .ok (.aload_n 0, 1) := by decide +kernel
theorem dX8_leftsOf_13 : decode cX8_leftsOf 13 = .ok (.aload_n 1, 1) := by decide +kernel
theorem dX8_leftsOf_14 : decode cX8_leftsOf 14 = .ok (.iload 4, 2) := by decide +kernel
theorem dX8_leftsOf_16 : decode cX8_leftsOf 16 = .ok (.invokevirtual 85, 3) := by decide +kernel
theorem dX8_leftsOf_19 : decode cX8_leftsOf 19 = .ok (.iconst 1, 1) := by decide +kernel
theorem dX8_leftsOf_20 : decode cX8_leftsOf 20 = .ok (.iload_n 3, 1) := by decide +kernel
theorem dX8_leftsOf_21 : decode cX8_leftsOf 21 = .ok (.ishl, 1) := by decide +kernel
theorem dX8_leftsOf_22 : decode cX8_leftsOf 22 = .ok (.ior, 1) := by decide +kernel
theorem dX8_leftsOf_23 : decode cX8_leftsOf 23 = .ok (.istore 5, 2) := by decide +kernel
theorem dX8_leftsOf_25 : decode cX8_leftsOf 25 = .ok (.iconst 0, 1) := by decide +kernel
theorem dX8_leftsOf_26 : decode cX8_leftsOf 26 = .ok (.istore 6, 2) := by decide +kernel
theorem dX8_leftsOf_28 : decode cX8_leftsOf 28 = .ok (.iload 6, 2) := by decide +kernel
theorem dX8_leftsOf_30 : decode cX8_leftsOf 30 = .ok (.aload_n 1, 1) := by decide +kernel
theorem dX8_leftsOf_31 : decode cX8_leftsOf 31 = .ok (.getfield 88, 3) := by decide +kernel
theorem dX8_leftsOf_34 : decode cX8_leftsOf 34 = .ok (.iload_n 3, 1) := by decide +kernel
theorem dX8_leftsOf_35 : decode cX8_leftsOf 35 = .ok (.iaload, 1) := by decide +kernel
theorem dX8_leftsOf_36 : decode cX8_leftsOf 36 = .ok (.if_icmp .ge 56, 3) := by decide +kernel
theorem dX8_leftsOf_39 : decode cX8_leftsOf 39 = .ok (.aload_n 1, 1) := by decide +kernel
theorem dX8_leftsOf_40 : decode cX8_leftsOf 40 = .ok (.getfield 91, 3) := by decide +kernel
theorem dX8_leftsOf_43 : decode cX8_leftsOf 43 = .ok (.iload_n 3, 1) := by decide +kernel
theorem dX8_leftsOf_44 : decode cX8_leftsOf 44 = .ok (.iload 6, 2) := by decide +kernel
theorem dX8_leftsOf_46 : decode cX8_leftsOf 46 = .ok (.invokestatic 94, 3) := by decide +kernel
theorem dX8_leftsOf_49 : decode cX8_leftsOf 49 = .ok (.iaload, 1) := by decide +kernel
theorem dX8_leftsOf_50 : decode cX8_leftsOf 50 = .ok (.istore 7, 2) := by decide +kernel
theorem dX8_leftsOf_52 : decode cX8_leftsOf 52 = .ok (.iload 4, 2) := by decide +kernel
theorem dX8_leftsOf_54 : decode cX8_leftsOf 54 = .ok (.iload 7, 2) := by decide +kernel
theorem dX8_leftsOf_56 : decode cX8_leftsOf 56 = .ok (.invokestatic 59, 3) := by decide +kernel
theorem dX8_leftsOf_59 : decode cX8_leftsOf 59 = .ok (.ifCond .eq 27, 3) := by decide +kernel
theorem dX8_leftsOf_62 : decode cX8_leftsOf 62 = .ok (.iload 5, 2) := by decide +kernel
theorem dX8_leftsOf_64 : decode cX8_leftsOf 64 = .ok (.aload_n 0, 1) := by decide +kernel
theorem dX8_leftsOf_65 : decode cX8_leftsOf 65 = .ok (.aload_n 1, 1) := by decide +kernel
theorem dX8_leftsOf_66 : decode cX8_leftsOf 66 = .ok (.iload 4, 2) := by decide +kernel
theorem dX8_leftsOf_68 : decode cX8_leftsOf 68 = .ok (.iconst 1, 1) := by decide +kernel
theorem dX8_leftsOf_69 : decode cX8_leftsOf 69 = .ok (.iload 7, 2) := by decide +kernel
theorem dX8_leftsOf_71 : decode cX8_leftsOf 71 = .ok (.ishl, 1) := by decide +kernel
theorem dX8_leftsOf_72 : decode cX8_leftsOf 72 = .ok (.iconst (-1), 1) := by decide +kernel
theorem dX8_leftsOf_73 : decode cX8_leftsOf 73 = .ok (.ixor, 1) := by decide +kernel
theorem dX8_leftsOf_74 : decode cX8_leftsOf 74 = .ok (.iand, 1) := by decide +kernel
theorem dX8_leftsOf_75 : decode cX8_leftsOf 75 = .ok (.invokevirtual 85, 3) := by decide +kernel
theorem dX8_leftsOf_78 : decode cX8_leftsOf 78 = .ok (.ldc 77, 2) := by decide +kernel
theorem dX8_leftsOf_80 : decode cX8_leftsOf 80 = .ok (.iadd, 1) := by decide +kernel
theorem dX8_leftsOf_81 : decode cX8_leftsOf 81 = .ok (.invokestatic 98, 3) := by decide +kernel
theorem dX8_leftsOf_84 : decode cX8_leftsOf 84 = .ok (.istore 5, 2) := by decide +kernel
theorem dX8_leftsOf_86 : decode cX8_leftsOf 86 = .ok (.iinc 6 1, 3) := by decide +kernel
theorem dX8_leftsOf_89 : decode cX8_leftsOf 89 = .ok (.goto (-61), 3) := by decide +kernel
theorem dX8_leftsOf_92 : decode cX8_leftsOf 92 = .ok (.iload 5, 2) := by decide +kernel
theorem dX8_leftsOf_94 : decode cX8_leftsOf 94 = .ok (.ireturn, 1) := by decide +kernel
set_option maxRecDepth 20000 in
theorem ggX8_at_X7_placeOf : GoodIn wsX8_at wsX7_placeOf := goodIn_r _ [6, 7, 8, 9, 10, 11, 20, 21, 22, 23, 24, 25, 26] rfl (by decide +kernel)
set_option maxRecDepth 20000 in
theorem gX8_at_X7_placeOf : GoodIn wsX8_at (wsV RX8 101 RX7 yX7_placeOf wsX7_placeOf) := goodIn_app (goodIn_of _ (by decide +kernel)) ggX8_at_X7_placeOf
theorem dX8_at_0 : decode cX8_at 0 = .ok (.aload_n 1, 1) := by decide +kernel
theorem dX8_at_1 : decode cX8_at 1 = .ok (.iload_n 2, 1) := by decide +kernel
theorem dX8_at_2 : decode cX8_at 2 = .ok (.invokevirtual 101, 3) := by decide +kernel
theorem dX8_at_5 : decode cX8_at 5 = .ok (.istore_n 3, 1) := by decide +kernel
theorem dX8_at_6 : decode cX8_at 6 = .ok (.iload_n 3, 1) := by decide +kernel
theorem dX8_at_7 : decode cX8_at 7 = .ok (.iconst (-1), 1) := by decide +kernel
theorem dX8_at_8 : decode cX8_at 8 = .ok (.if_icmp .ne 7, 3) := by decide +kernel
theorem dX8_at_11 : decode cX8_at 11 = .ok (.iconst 0, 1) := by decide +kernel
theorem dX8_at_12 : decode cX8_at 12 = .ok (.goto 9, 3) := by decide +kernel
theorem dX8_at_15 : decode cX8_at 15 = .ok (.aload_n 0, 1) := by decide +kernel
theorem dX8_at_16 : decode cX8_at 16 = .ok (.getfield 23, 3) := by decide +kernel
theorem dX8_at_19 : decode cX8_at 19 = .ok (.iload_n 3, 1) := by decide +kernel
theorem dX8_at_20 : decode cX8_at 20 = .ok (.iaload, 1) := by decide +kernel
theorem dX8_at_21 : decode cX8_at 21 = .ok (.ireturn, 1) := by decide +kernel
theorem dX8_better_0 : decode cX8_better 0 = .ok (.iload_n 0, 1) := by decide +kernel
theorem dX8_better_1 : decode cX8_better 1 = .ok (.ldc 77, 2) := by decide +kernel
theorem dX8_better_3 : decode cX8_better 3 = .ok (.idiv, 1) := by decide +kernel
theorem dX8_better_4 : decode cX8_better 4 = .ok (.istore_n 2, 1) := by decide +kernel
theorem dX8_better_5 : decode cX8_better 5 = .ok (.iload_n 1, 1) := by decide +kernel
theorem dX8_better_6 : decode cX8_better 6 = .ok (.ldc 77, 2) := by decide +kernel
theorem dX8_better_8 : decode cX8_better 8 = .ok (.idiv, 1) := by decide +kernel
theorem dX8_better_9 : decode cX8_better 9 = .ok (.istore_n 3, 1) := by decide +kernel
theorem dX8_better_10 : decode cX8_better 10 = .ok (.iload_n 2, 1) := by decide +kernel
theorem dX8_better_11 : decode cX8_better 11 = .ok (.iload_n 3, 1) := by decide +kernel
theorem dX8_better_12 : decode cX8_better 12 = .ok (.if_icmp .ne 7, 3) := by decide +kernel
theorem dX8_better_15 : decode cX8_better 15 = .ok (.iload_n 0, 1) := by decide +kernel
theorem dX8_better_16 : decode cX8_better 16 = .ok (.iload_n 1, 1) := by decide +kernel
theorem dX8_better_17 : decode cX8_better 17 = .ok (.ior, 1) := by decide +kernel
theorem dX8_better_18 : decode cX8_better 18 = .ok (.ireturn, 1) := by decide +kernel
theorem dX8_better_19 : decode cX8_better 19 = .ok (.iload_n 2, 1) := by decide +kernel
theorem dX8_better_20 : decode cX8_better 20 = .ok (.iload_n 3, 1) := by decide +kernel
theorem dX8_better_21 : decode cX8_better 21 = .ok (.if_icmp .le 7, 3) := by decide +kernel
theorem dX8_better_24 : decode cX8_better 24 = .ok (.iload_n 0, 1) := by decide +kernel
theorem dX8_better_25 : decode cX8_better 25 = .ok (.goto 4, 3) := by decide +kernel
theorem dX8_better_28 : decode cX8_better 28 = .ok (.iload_n 1, 1) := by decide +kernel
theorem dX8_better_29 : decode cX8_better 29 = .ok (.ireturn, 1) := by decide +kernel
set_option maxRecDepth 20000 in
theorem ggX8_findBesides_X11_has : GoodIn wsX8_findBesides wsX11_has := goodIn_r _ [6] rfl (by decide +kernel)
set_option maxRecDepth 20000 in
theorem gX8_findBesides_X11_has_n59 : GoodIn wsX8_findBesides (wsX11_has) := ggX8_findBesides_X11_has
theorem dX8_findBesides_0 : decode cX8_findBesides 0 = .ok (.aload_n 0, 1) := by decide +kernel
theorem dX8_findBesides_1 : decode cX8_findBesides 1 = .ok (.iconst 0, 1) := by decide +kernel
theorem dX8_findBesides_2 : decode cX8_findBesides 2 = .ok (.putfield 49, 3) := by decide +kernel
theorem dX8_findBesides_5 : decode cX8_findBesides 5 = .ok (.iconst 0, 1) := by decide +kernel
theorem dX8_findBesides_6 : decode cX8_findBesides 6 = .ok (.istore_n 1, 1) := by decide +kernel
theorem dX8_findBesides_7 : decode cX8_findBesides 7 = .ok (.iload_n 1, 1) := by decide +kernel
theorem dX8_findBesides_8 : decode cX8_findBesides 8 = .ok (.aload_n 0, 1) := by decide +kernel
theorem dX8_findBesides_9 : decode cX8_findBesides 9 = .ok (.getfield 31, 3) := by decide +kernel
theorem dX8_findBesides_12 : decode cX8_findBesides 12 = .ok (.getfield 74, 3) := by decide +kernel
theorem dX8_findBesides_15 : decode cX8_findBesides 15 = .ok (.if_icmp .ge 49, 3) := by decide +kernel
theorem dX8_findBesides_18 : decode cX8_findBesides 18 = .ok (.aload_n 0, 1) := by decide +kernel
theorem dX8_findBesides_19 : decode cX8_findBesides 19 = .ok (.getfield 56, 3) := by decide +kernel
theorem dX8_findBesides_22 : decode cX8_findBesides 22 = .ok (.iload_n 1, 1) := by decide +kernel
theorem dX8_findBesides_23 : decode cX8_findBesides 23 = .ok (.invokestatic 59, 3) := by decide +kernel
theorem dX8_findBesides_26 : decode cX8_findBesides 26 = .ok (.ifCond .ne 32, 3) := by decide +kernel
theorem dX8_findBesides_29 : decode cX8_findBesides 29 = .ok (.aload_n 0, 1) := by decide +kernel
theorem dX8_findBesides_30 : decode cX8_findBesides 30 = .ok (.getfield 31, 3) := by decide +kernel
theorem dX8_findBesides_33 : decode cX8_findBesides 33 = .ok (.getfield 104, 3) := by decide +kernel
theorem dX8_findBesides_36 : decode cX8_findBesides 36 = .ok (.iload_n 1, 1) := by decide +kernel
theorem dX8_findBesides_37 : decode cX8_findBesides 37 = .ok (.iaload, 1) := by decide +kernel
theorem dX8_findBesides_38 : decode cX8_findBesides 38 = .ok (.aload_n 0, 1) := by decide +kernel
theorem dX8_findBesides_39 : decode cX8_findBesides 39 = .ok (.getfield 56, 3) := by decide +kernel
theorem dX8_findBesides_42 : decode cX8_findBesides 42 = .ok (.iand, 1) := by decide +kernel
theorem dX8_findBesides_43 : decode cX8_findBesides 43 = .ok (.ifCond .eq 15, 3) := by decide +kernel
theorem dX8_findBesides_46 : decode cX8_findBesides 46 = .ok (.aload_n 0, 1) := by decide +kernel
theorem dX8_findBesides_47 : decode cX8_findBesides 47 = .ok (.dup, 1) := by decide +kernel
theorem dX8_findBesides_48 : decode cX8_findBesides 48 = .ok (.getfield 49, 3) := by decide +kernel
theorem dX8_findBesides_51 : decode cX8_findBesides 51 = .ok (.iconst 1, 1) := by decide +kernel
theorem dX8_findBesides_52 : decode cX8_findBesides 52 = .ok (.iload_n 1, 1) := by decide +kernel
theorem dX8_findBesides_53 : decode cX8_findBesides 53 = .ok (.ishl, 1) := by decide +kernel
theorem dX8_findBesides_54 : decode cX8_findBesides 54 = .ok (.ior, 1) := by decide +kernel
theorem dX8_findBesides_55 : decode cX8_findBesides 55 = .ok (.putfield 49, 3) := by decide +kernel
theorem dX8_findBesides_58 : decode cX8_findBesides 58 = .ok (.iinc 1 1, 3) := by decide +kernel
theorem dX8_findBesides_61 : decode cX8_findBesides 61 = .ok (.goto (-54), 3) := by decide +kernel
theorem dX8_findBesides_64 : decode cX8_findBesides 64 = .ok (.return_, 1) := by decide +kernel
theorem dX9_init_0 : decode cX9_init 0 = .ok (.aload_n 0, 1) := by decide +kernel
theorem dX9_init_1 : decode cX9_init 1 = .ok (.invokespecial 3, 3) := by decide +kernel
theorem dX9_init_4 : decode cX9_init 4 = .ok (.aload_n 0, 1) := by decide +kernel
theorem dX9_init_5 : decode cX9_init 5 = .ok (.sipush 256, 3) := by decide +kernel
theorem dX9_init_8 : decode cX9_init 8 = .ok (.newarray .long, 2) := by decide +kernel
theorem dX9_init_10 : decode cX9_init 10 = .ok (.putfield 9, 3) := by decide +kernel
theorem dX9_init_13 : decode cX9_init 13 = .ok (.aload_n 0, 1) := by decide +kernel
theorem dX9_init_14 : decode cX9_init 14 = .ok (.bipush 16, 2) := by decide +kernel
theorem dX9_init_16 : decode cX9_init 16 = .ok (.newarray .int, 2) := by decide +kernel
theorem dX9_init_18 : decode cX9_init 18 = .ok (.putfield 15, 3) := by decide +kernel
theorem dX9_init_21 : decode cX9_init 21 = .ok (.aload_n 0, 1) := by decide +kernel
theorem dX9_init_22 : decode cX9_init 22 = .ok (.sipush 256, 3) := by decide +kernel
theorem dX9_init_25 : decode cX9_init 25 = .ok (.newarray .int, 2) := by decide +kernel
theorem dX9_init_27 : decode cX9_init 27 = .ok (.putfield 19, 3) := by decide +kernel
theorem dX9_init_30 : decode cX9_init 30 = .ok (.aload_n 0, 1) := by decide +kernel
theorem dX9_init_31 : decode cX9_init 31 = .ok (.bipush 16, 2) := by decide +kernel
theorem dX9_init_33 : decode cX9_init 33 = .ok (.newarray .int, 2) := by decide +kernel
theorem dX9_init_35 : decode cX9_init 35 = .ok (.putfield 22, 3) := by decide +kernel
theorem dX9_init_38 : decode cX9_init 38 = .ok (.aload_n 0, 1) := by decide +kernel
theorem dX9_init_39 : decode cX9_init 39 = .ok (.iconst (-1), 1) := by decide +kernel
theorem dX9_init_40 : decode cX9_init 40 = .ok (.putfield 25, 3) := by decide +kernel
theorem dX9_init_43 : decode cX9_init 43 = .ok (.aload_n 0, 1) := by decide +kernel
theorem dX9_init_44 : decode cX9_init 44 = .ok (.iconst (-1), 1) := by decide +kernel
theorem dX9_init_45 : decode cX9_init 45 = .ok (.putfield 29, 3) := by decide +kernel
theorem dX9_init_48 : decode cX9_init 48 = .ok (.aload_n 0, 1) := by decide +kernel
theorem dX9_init_49 : decode cX9_init 49 = .ok (.aload_n 1, 1) := by decide +kernel
theorem dX9_init_50 : decode cX9_init 50 = .ok (.putfield 32, 3) := by decide +kernel
theorem dX9_init_53 : decode cX9_init 53 = .ok (.aload_n 0, 1) := by decide +kernel
theorem dX9_init_54 : decode cX9_init 54 = .ok (.aload_n 2, 1) := by decide +kernel
theorem dX9_init_55 : decode cX9_init 55 = .ok (.putfield 36, 3) := by decide +kernel
theorem dX9_init_58 : decode cX9_init 58 = .ok (.return_, 1) := by decide +kernel
set_option maxRecDepth 20000 in
theorem ggX9_refresh_X9_findArcs : GoodIn wsX9_refresh wsX9_findArcs := goodIn_r _ [12, 13, 2, 14, 15, 16, 17, 18, 19, 20, 21, 22, 23, 24, 25, 26, 66, 67, 68, 69, 70, 71, 72, 73, 74, 75, 76, 77, 78, 79, 80, 81, 82, 83, 84] rfl (by decide +kernel)
set_option maxRecDepth 20000 in
theorem gX9_refresh_X9_findArcs : GoodIn wsX9_refresh (wsV RX9 48 RX9 yX9_findArcs wsX9_findArcs) := goodIn_app (goodIn_of _ (by decide +kernel)) ggX9_refresh_X9_findArcs
set_option maxRecDepth 20000 in
theorem ggX9_refresh_X9_openTo : GoodIn wsX9_refresh wsX9_openTo := goodIn_r _ [30, 2, 4, 22, 23, 24, 31, 32, 66, 67, 68, 69, 70, 71, 72, 73, 74, 75, 76, 77, 78, 79, 80, 81, 82, 83, 84, 85, 86] rfl (by decide +kernel)
set_option maxRecDepth 20000 in
theorem gX9_refresh_X9_openTo : GoodIn wsX9_refresh (wsV RX9 54 RX9 yX9_openTo wsX9_openTo) := goodIn_app (goodIn_of _ (by decide +kernel)) ggX9_refresh_X9_openTo
set_option maxRecDepth 20000 in
theorem ggX9_refresh_X9_findSooner : GoodIn wsX9_refresh wsX9_findSooner := goodIn_r _ [36, 2, 4, 5, 37, 22, 23, 24, 31, 32, 66, 67, 68, 69, 70, 71, 72, 73, 74, 75, 76, 77, 78, 79, 80, 81, 82, 83, 84, 85, 86] rfl (by decide +kernel)
set_option maxRecDepth 20000 in
theorem gX9_refresh_X9_findSooner : GoodIn wsX9_refresh (wsV RX9 58 RX9 yX9_findSooner wsX9_findSooner) := goodIn_app (goodIn_of _ (by decide +kernel)) ggX9_refresh_X9_findSooner
set_option maxRecDepth 20000 in
theorem ggX9_refresh_X9_settle : GoodIn wsX9_refresh wsX9_settle := goodIn_r _ [41, 2, 6, 7, 14, 15, 16, 17, 42, 37, 5, 13, 43, 44, 45, 46, 47, 48, 49, 23, 50, 51, 52, 53, 54, 55, 56, 57, 22, 24, 58, 59, 60, 11, 61, 31, 32, 38, 39, 40, 62, 63, 64, 65, 66, 67, 68, 69, 70, 71, 72, 73, 74, 75, 76, 77, 78, 79, 80, 81, 82, 83, 84] rfl (by decide +kernel)
set_option maxRecDepth 20000 in
theorem gX9_refresh_X9_settle : GoodIn wsX9_refresh (wsV RX9 69 RX9 yX9_settle wsX9_settle) := goodIn_app (goodIn_of _ (by decide +kernel)) ggX9_refresh_X9_settle
theorem dX9_refresh_0 : decode cX9_refresh 0 = .ok (.aload_n 0, 1) := by decide +kernel
theorem dX9_refresh_1 : decode cX9_refresh 1 = .ok (.getfield 25, 3) := by decide +kernel
theorem dX9_refresh_4 : decode cX9_refresh 4 = .ok (.aload_n 0, 1) := by decide +kernel
theorem dX9_refresh_5 : decode cX9_refresh 5 = .ok (.getfield 32, 3) := by decide +kernel
theorem dX9_refresh_8 : decode cX9_refresh 8 = .ok (.getfield 40, 3) := by decide +kernel
theorem dX9_refresh_11 : decode cX9_refresh 11 = .ok (.if_icmp .ne 17, 3) := by decide +kernel
theorem dX9_refresh_14 : decode cX9_refresh 14 = .ok (.aload_n 0, 1) := by decide +kernel
theorem dX9_refresh_15 : decode cX9_refresh 15 = .ok (.getfield 29, 3) := by decide +kernel
theorem dX9_refresh_18 : decode cX9_refresh 18 = .ok (.aload_n 0, 1) := by decide +kernel
theorem dX9_refresh_19 : decode cX9_refresh 19 = .ok (.getfield 36, 3) := by decide +kernel
theorem dX9_refresh_22 : decode cX9_refresh 22 = .ok (.getfield 45, 3) := by decide +kernel
theorem dX9_refresh_25 : decode cX9_refresh 25 = .ok (.if_icmp .eq 100, 3) := by decide +kernel
theorem dX9_refresh_28 : decode cX9_refresh 28 = .ok (.aload_n 0, 1) := by decide +kernel
theorem dX9_refresh_29 : decode cX9_refresh 29 = .ok (.aload_n 0, 1) := by decide +kernel
theorem dX9_refresh_30 : decode cX9_refresh 30 = .ok (.getfield 32, 3) := by decide +kernel
theorem dX9_refresh_33 : decode cX9_refresh 33 = .ok (.getfield 40, 3) := by decide +kernel
theorem dX9_refresh_36 : decode cX9_refresh 36 = .ok (.putfield 25, 3) := by decide +kernel
theorem dX9_refresh_39 : decode cX9_refresh 39 = .ok (.aload_n 0, 1) := by decide +kernel
theorem dX9_refresh_40 : decode cX9_refresh 40 = .ok (.aload_n 0, 1) := by decide +kernel
theorem dX9_refresh_41 : decode cX9_refresh 41 = .ok (.getfield 36, 3) := by decide +kernel
theorem dX9_refresh_44 : decode cX9_refresh 44 = .ok (.getfield 45, 3) := by decide +kernel
theorem dX9_refresh_47 : decode cX9_refresh 47 = .ok (.putfield 29, 3) := by decide +kernel
theorem dX9_refresh_50 : decode cX9_refresh 50 = .ok (.aload_n 0, 1) := by decide +kernel
theorem dX9_refresh_51 : decode cX9_refresh 51 = .ok (.invokevirtual 48, 3) := by decide +kernel
theorem dX9_refresh_54 : decode cX9_refresh 54 = .ok (.iconst 0, 1) := by decide +kernel
theorem dX9_refresh_55 : decode cX9_refresh 55 = .ok (.istore_n 1, 1) := by decide +kernel
theorem dX9_refresh_56 : decode cX9_refresh 56 = .ok (.iload_n 1, 1) := by decide +kernel
theorem dX9_refresh_57 : decode cX9_refresh 57 = .ok (.aload_n 0, 1) := by decide +kernel
theorem dX9_refresh_58 : decode cX9_refresh 58 = .ok (.getfield 32, 3) := by decide +kernel
theorem dX9_refresh_61 : decode cX9_refresh 61 = .ok (.getfield 51, 3) := by decide +kernel
theorem dX9_refresh_64 : decode cX9_refresh 64 = .ok (.if_icmp .ge 20, 3) := by decide +kernel
theorem dX9_refresh_67 : decode cX9_refresh 67 = .ok (.aload_n 0, 1) := by decide +kernel
theorem dX9_refresh_68 : decode cX9_refresh 68 = .ok (.getfield 15, 3) := by decide +kernel
theorem dX9_refresh_71 : decode cX9_refresh 71 = .ok (.iload_n 1, 1) := by decide +kernel
theorem dX9_refresh_72 : decode cX9_refresh 72 = .ok (.aload_n 0, 1) := by decide +kernel
theorem dX9_refresh_73 : decode cX9_refresh 73 = .ok (.iload_n 1, 1) := by decide +kernel
theorem dX9_refresh_74 : decode cX9_refresh 74 = .ok (.invokevirtual 54, 3) := by decide +kernel
theorem dX9_refresh_77 : decode cX9_refresh 77 = .ok (.iastore, 1) := by decide +kernel
theorem dX9_refresh_78 : decode cX9_refresh 78 = .ok (.iinc 1 1, 3) := by decide +kernel
theorem dX9_refresh_81 : decode cX9_refresh 81 = .ok (.goto (-25), 3) := by decide +kernel
theorem dX9_refresh_84 : decode cX9_refresh 84 = .ok (.iconst 0, 1) := by decide +kernel
theorem dX9_refresh_85 : decode cX9_refresh 85 = .ok (.istore_n 1, 1) := by decide +kernel
theorem dX9_refresh_86 : decode cX9_refresh 86 = .ok (.iload_n 1, 1) := by decide +kernel
theorem dX9_refresh_87 : decode cX9_refresh 87 = .ok (.aload_n 0, 1) := by decide +kernel
theorem dX9_refresh_88 : decode cX9_refresh 88 = .ok (.getfield 32, 3) := by decide +kernel
theorem dX9_refresh_91 : decode cX9_refresh 91 = .ok (.getfield 51, 3) := by decide +kernel
theorem dX9_refresh_94 : decode cX9_refresh 94 = .ok (.if_icmp .ge 14, 3) := by decide +kernel
theorem dX9_refresh_97 : decode cX9_refresh 97 = .ok (.aload_n 0, 1) := by decide +kernel
theorem dX9_refresh_98 : decode cX9_refresh 98 = .ok (.iload_n 1, 1) := by decide +kernel
theorem dX9_refresh_99 : decode cX9_refresh 99 = .ok (.invokevirtual 58, 3) := by decide +kernel
theorem dX9_refresh_102 : decode cX9_refresh 102 = .ok (.iinc 1 1, 3) := by decide +kernel
theorem dX9_refresh_105 : decode cX9_refresh 105 = .ok (.goto (-19), 3) := by decide +kernel
theorem dX9_refresh_108 : decode cX9_refresh 108 = .ok (.aload_n 0, 1) := by decide +kernel
theorem dX9_refresh_109 : decode cX9_refresh 109 = .ok (.iconst 0, 1) := by decide +kernel
theorem dX9_refresh_110 : decode cX9_refresh 110 = .ok (.putfield 62, 3) := by decide +kernel
theorem dX9_refresh_113 : decode cX9_refresh 113 = .ok (.aload_n 0, 1) := by decide +kernel
theorem dX9_refresh_114 : decode cX9_refresh 114 = .ok (.lconst 0, 1) := by decide +kernel
theorem dX9_refresh_115 : decode cX9_refresh 115 = .ok (.putfield 65, 3) := by decide +kernel
theorem dX9_refresh_118 : decode cX9_refresh 118 = .ok (.aload_n 0, 1) := by decide +kernel
theorem dX9_refresh_119 : decode cX9_refresh 119 = .ok (.iconst 0, 1) := by decide +kernel
theorem dX9_refresh_120 : decode cX9_refresh 120 = .ok (.lconst 0, 1) := by decide +kernel
theorem dX9_refresh_121 : decode cX9_refresh 121 = .ok (.iconst 0, 1) := by decide +kernel
theorem dX9_refresh_122 : decode cX9_refresh 122 = .ok (.invokevirtual 69, 3) := by decide +kernel
theorem dX9_refresh_125 : decode cX9_refresh 125 = .ok (.return_, 1) := by decide +kernel
set_option maxRecDepth 20000 in
theorem ggX9_findArcs_J7_fill_d0a16 : GoodIn wsX9_findArcs wsJ7_fill_d0a16 := goodIn_r _ [10] rfl (by decide +kernel)
set_option maxRecDepth 20000 in
theorem gX9_findArcs_J7_fill_d0a16 : GoodIn wsX9_findArcs (va_wsS RX9 73 yJ7_fill_d0a16 wsJ7_fill_d0a16) := goodIn_app (goodIn_of _ (by decide +kernel)) ggX9_findArcs_J7_fill_d0a16
set_option maxRecDepth 20000 in
theorem ggX9_findArcs_X11_cell : GoodIn wsX9_findArcs wsX11_cell := goodIn_r _ [13] rfl (by decide +kernel)
set_option maxRecDepth 20000 in
theorem gX9_findArcs_X11_cell_n92 : GoodIn wsX9_findArcs (wsX11_cell) := ggX9_findArcs_X11_cell
set_option maxRecDepth 20000 in
theorem ggX9_findArcs_X11_markOf : GoodIn wsX9_findArcs wsX11_markOf := goodIn_r _ [15] rfl (by decide +kernel)
set_option maxRecDepth 20000 in
theorem gX9_findArcs_X11_markOf_n96 : GoodIn wsX9_findArcs (wsX11_markOf) := ggX9_findArcs_X11_markOf
theorem dX9_findArcs_0 : decode cX9_findArcs 0 = .ok (.aload_n 0, 1) := by decide +kernel
theorem dX9_findArcs_1 : decode cX9_findArcs 1 = .ok (.getfield 9, 3) := by decide +kernel
theorem dX9_findArcs_4 : decode cX9_findArcs 4 = .ok (.lconst 0, 1) := by decide +kernel
theorem dX9_findArcs_5 : decode cX9_findArcs 5 = .ok (.invokestatic 73, 3) := by decide +kernel
theorem dX9_findArcs_8 : decode cX9_findArcs 8 = .ok (.iconst 0, 1) := by decide +kernel
theorem dX9_findArcs_9 : decode cX9_findArcs 9 = .ok (.istore_n 1, 1) := by decide +kernel
theorem dX9_findArcs_10 : decode cX9_findArcs 10 = .ok (.iload_n 1, 1) := by decide +kernel
theorem dX9_findArcs_11 : decode cX9_findArcs 11 = .ok (.aload_n 0, 1) := by decide +kernel
theorem dX9_findArcs_12 : decode cX9_findArcs 12 = .ok (.getfield 32, 3) := by decide +kernel
theorem dX9_findArcs_15 : decode cX9_findArcs 15 = .ok (.getfield 79, 3) := by decide +kernel
theorem dX9_findArcs_18 : decode cX9_findArcs 18 = .ok (.if_icmp .ge 96, 3) := by decide +kernel
theorem dX9_findArcs_21 : decode cX9_findArcs 21 = .ok (.aload_n 0, 1) := by decide +kernel
theorem dX9_findArcs_22 : decode cX9_findArcs 22 = .ok (.getfield 32, 3) := by decide +kernel
theorem dX9_findArcs_25 : decode cX9_findArcs 25 = .ok (.getfield 82, 3) := by decide +kernel
theorem dX9_findArcs_28 : decode cX9_findArcs 28 = .ok (.iload_n 1, 1) := by decide +kernel
theorem dX9_findArcs_29 : decode cX9_findArcs 29 = .ok (.baload, 1) := by decide +kernel
theorem dX9_findArcs_30 : decode cX9_findArcs 30 = .ok (.ifCond .eq 78, 3) := by decide +kernel
theorem dX9_findArcs_33 : decode cX9_findArcs 33 = .ok (.aload_n 0, 1) := by decide +kernel
theorem dX9_findArcs_34 : decode cX9_findArcs 34 = .ok (.getfield 32, 3) := by decide +kernel
theorem dX9_findArcs_37 : decode cX9_findArcs 37 = .ok (.getfield 86, 3) := by decide +kernel
theorem dX9_findArcs_40 : decode cX9_findArcs 40 = .ok (.iload_n 1, 1) := by decide +kernel
theorem dX9_findArcs_41 : decode cX9_findArcs 41 = .ok (.iaload, 1) := by decide +kernel
theorem dX9_findArcs_42 : decode cX9_findArcs 42 = .ok (.aload_n 0, 1) := by decide +kernel
theorem dX9_findArcs_43 : decode cX9_findArcs 43 = .ok (.getfield 32, 3) := by decide +kernel
theorem dX9_findArcs_46 : decode cX9_findArcs 46 = .ok (.getfield 89, 3) := by decide +kernel
theorem dX9_findArcs_49 : decode cX9_findArcs 49 = .ok (.iload_n 1, 1) := by decide +kernel
theorem dX9_findArcs_50 : decode cX9_findArcs 50 = .ok (.iaload, 1) := by decide +kernel
theorem dX9_findArcs_51 : decode cX9_findArcs 51 = .ok (.invokestatic 92, 3) := by decide +kernel
theorem dX9_findArcs_54 : decode cX9_findArcs 54 = .ok (.istore_n 2, 1) := by decide +kernel
theorem dX9_findArcs_55 : decode cX9_findArcs 55 = .ok (.aload_n 0, 1) := by decide +kernel
theorem dX9_findArcs_56 : decode cX9_findArcs 56 = .ok (.getfield 32, 3) := by decide +kernel
theorem dX9_findArcs_59 : decode cX9_findArcs 59 = .ok (.getfield 89, 3) := by decide +kernel
theorem dX9_findArcs_62 : decode cX9_findArcs 62 = .ok (.iload_n 1, 1) := by decide +kernel
theorem dX9_findArcs_63 : decode cX9_findArcs 63 = .ok (.iaload, 1) := by decide +kernel
theorem dX9_findArcs_64 : decode cX9_findArcs 64 = .ok (.aload_n 0, 1) := by decide +kernel
theorem dX9_findArcs_65 : decode cX9_findArcs 65 = .ok (.getfield 32, 3) := by decide +kernel
theorem dX9_findArcs_68 : decode cX9_findArcs 68 = .ok (.getfield 86, 3) := by decide +kernel
theorem dX9_findArcs_71 : decode cX9_findArcs 71 = .ok (.iload_n 1, 1) := by decide +kernel
theorem dX9_findArcs_72 : decode cX9_findArcs 72 = .ok (.iaload, 1) := by decide +kernel
theorem dX9_findArcs_73 : decode cX9_findArcs 73 = .ok (.invokestatic 92, 3) := by decide +kernel
theorem dX9_findArcs_76 : decode cX9_findArcs 76 = .ok (.istore_n 3, 1) := by decide +kernel
theorem dX9_findArcs_77 : decode cX9_findArcs 77 = .ok (.aload_n 0, 1) := by decide +kernel
theorem dX9_findArcs_78 : decode cX9_findArcs 78 = .ok (.getfield 9, 3) := by decide +kernel
theorem dX9_findArcs_81 : decode cX9_findArcs 81 = .ok (.iload_n 2, 1) := by decide +kernel
theorem dX9_findArcs_82 : decode cX9_findArcs 82 = .ok (.aload_n 0, 1) := by decide +kernel
theorem dX9_findArcs_83 : decode cX9_findArcs 83 = .ok (.getfield 9, 3) := by decide +kernel
theorem dX9_findArcs_86 : decode cX9_findArcs 86 = .ok (.iload_n 2, 1) := by decide +kernel
theorem dX9_findArcs_87 : decode cX9_findArcs 87 = .ok (.laload, 1) := by decide +kernel
theorem dX9_findArcs_88 : decode cX9_findArcs 88 = .ok (.iload_n 1, 1) := by decide +kernel
theorem dX9_findArcs_89 : decode cX9_findArcs 89 = .ok (.invokestatic 96, 3) := by decide +kernel
theorem dX9_findArcs_92 : decode cX9_findArcs 92 = .ok (.invokestatic 100, 3) := by decide +kernel
theorem dX9_findArcs_95 : decode cX9_findArcs 95 = .ok (.lastore, 1) := by decide +kernel
theorem dX9_findArcs_96 : decode cX9_findArcs 96 = .ok (.aload_n 0, 1) := by decide +kernel
theorem dX9_findArcs_97 : decode cX9_findArcs 97 = .ok (.getfield 9, 3) := by decide +kernel
theorem dX9_findArcs_100 : decode cX9_findArcs 100 = .ok (.iload_n 3, 1) := by decide +kernel
theorem dX9_findArcs_101 : decode cX9_findArcs 101 = .ok (.aload_n 0, 1) := by decide +kernel
theorem dX9_findArcs_102 : decode cX9_findArcs 102 = .ok (.getfield 9, 3) := by decide +kernel
theorem dX9_findArcs_105 : decode cX9_findArcs 105 = .ok (.iload_n 2, 1) := by decide +kernel
theorem dX9_findArcs_106 : decode cX9_findArcs 106 = .ok (.laload, 1) := by decide +kernel
theorem dX9_findArcs_107 : decode cX9_findArcs 107 = .ok (.lastore, 1) := by decide +kernel
theorem dX9_findArcs_108 : decode cX9_findArcs 108 = .ok (.iinc 1 1, 3) := by decide +kernel
theorem dX9_findArcs_111 : decode cX9_findArcs 111 = .ok (.goto (-101), 3) := by decide +kernel
theorem dX9_findArcs_114 : decode cX9_findArcs 114 = .ok (.return_, 1) := by decide +kernel
set_option maxRecDepth 20000 in
theorem ggX9_openTo_X11_cell : GoodIn wsX9_openTo wsX11_cell := goodIn_r _ [5] rfl (by decide +kernel)
set_option maxRecDepth 20000 in
theorem gX9_openTo_X11_cell_n92 : GoodIn wsX9_openTo (wsX11_cell) := ggX9_openTo_X11_cell
set_option maxRecDepth 20000 in
theorem ggX9_openTo_X11_has : GoodIn wsX9_openTo wsX11_has := goodIn_r _ [7] rfl (by decide +kernel)
set_option maxRecDepth 20000 in
theorem gX9_openTo_X11_has_n112 : GoodIn wsX9_openTo (wsX11_has) := ggX9_openTo_X11_has
theorem dX9_openTo_0 : decode cX9_openTo 0 = .ok (.iconst 0, 1) := by decide +kernel
theorem dX9_openTo_1 : decode cX9_openTo 1 = .ok (.istore_n 2, 1) := by decide +kernel
theorem dX9_openTo_2 : decode cX9_openTo 2 = .ok (.iconst 0, 1) := by decide +kernel
theorem dX9_openTo_3 : decode cX9_openTo 3 = .ok (.istore_n 3, 1) := by decide +kernel
theorem dX9_openTo_4 : decode cX9_openTo 4 = .ok (.iload_n 3, 1) := by decide +kernel
theorem dX9_openTo_5 : decode cX9_openTo 5 = .ok (.aload_n 0, 1) := by decide +kernel
theorem dX9_openTo_6 : decode cX9_openTo 6 = .ok (.getfield 32, 3) := by decide +kernel
theorem dX9_openTo_9 : decode cX9_openTo 9 = .ok (.getfield 51, 3) := by decide +kernel
theorem dX9_openTo_12 : decode cX9_openTo 12 = .ok (.if_icmp .ge 77, 3) := by decide +kernel
theorem dX9_openTo_15 : decode cX9_openTo 15 = .ok (.aload_n 0, 1) := by decide +kernel
theorem dX9_openTo_16 : decode cX9_openTo 16 = .ok (.getfield 36, 3) := by decide +kernel
theorem dX9_openTo_19 : decode cX9_openTo 19 = .ok (.getfield 106, 3) := by decide +kernel
theorem dX9_openTo_22 : decode cX9_openTo 22 = .ok (.iload_n 1, 1) := by decide +kernel
theorem dX9_openTo_23 : decode cX9_openTo 23 = .ok (.iload_n 3, 1) := by decide +kernel
theorem dX9_openTo_24 : decode cX9_openTo 24 = .ok (.invokestatic 92, 3) := by decide +kernel
theorem dX9_openTo_27 : decode cX9_openTo 27 = .ok (.iaload, 1) := by decide +kernel
theorem dX9_openTo_28 : decode cX9_openTo 28 = .ok (.iconst (-1), 1) := by decide +kernel
theorem dX9_openTo_29 : decode cX9_openTo 29 = .ok (.if_icmp .eq 24, 3) := by decide +kernel
theorem dX9_openTo_32 : decode cX9_openTo 32 = .ok (.aload_n 0, 1) := by decide +kernel
theorem dX9_openTo_33 : decode cX9_openTo 33 = .ok (.getfield 36, 3) := by decide +kernel
theorem dX9_openTo_36 : decode cX9_openTo 36 = .ok (.getfield 106, 3) := by decide +kernel
theorem dX9_openTo_39 : decode cX9_openTo 39 = .ok (.iload_n 3, 1) := by decide +kernel
theorem dX9_openTo_40 : decode cX9_openTo 40 = .ok (.iload_n 1, 1) := by decide +kernel
theorem dX9_openTo_41 : decode cX9_openTo 41 = .ok (.invokestatic 92, 3) := by decide +kernel
theorem dX9_openTo_44 : decode cX9_openTo 44 = .ok (.iaload, 1) := by decide +kernel
theorem dX9_openTo_45 : decode cX9_openTo 45 = .ok (.iconst (-1), 1) := by decide +kernel
theorem dX9_openTo_46 : decode cX9_openTo 46 = .ok (.if_icmp .eq 7, 3) := by decide +kernel
theorem dX9_openTo_49 : decode cX9_openTo 49 = .ok (.iconst 1, 1) := by decide +kernel
theorem dX9_openTo_50 : decode cX9_openTo 50 = .ok (.goto 4, 3) := by decide +kernel
theorem dX9_openTo_53 : decode cX9_openTo 53 = .ok (.iconst 0, 1) := by decide +kernel
theorem dX9_openTo_54 : decode cX9_openTo 54 = .ok (.istore 4, 2) := by decide +kernel
theorem dX9_openTo_56 : decode cX9_openTo 56 = .ok (.iload 4, 2) := by decide +kernel
