theorem dX12_join_45 : decode cX12_join 45 = .ok (.iconst 1, 1) := by decide +kernel
theorem dX12_join_46 : decode cX12_join 46 = .ok (.putfield 163, 3) := by decide +kernel
theorem dX12_join_49 : decode cX12_join 49 = .ok (.iconst 0, 1) := by decide +kernel
theorem dX12_join_50 : decode cX12_join 50 = .ok (.istore 5, 2) := by decide +kernel
theorem dX12_join_52 : decode cX12_join 52 = .ok (.iload 5, 2) := by decide +kernel
theorem dX12_join_54 : decode cX12_join 54 = .ok (.aload_n 0, 1) := by decide +kernel
theorem dX12_join_55 : decode cX12_join 55 = .ok (.getfield 97, 3) := by decide +kernel
theorem dX12_join_58 : decode cX12_join 58 = .ok (.if_icmp .ge 125, 3) := by decide +kernel
theorem dX12_join_61 : decode cX12_join 61 = .ok (.aload_n 0, 1) := by decide +kernel
theorem dX12_join_62 : decode cX12_join 62 = .ok (.getfield 67, 3) := by decide +kernel
theorem dX12_join_65 : decode cX12_join 65 = .ok (.iload 5, 2) := by decide +kernel
theorem dX12_join_67 : decode cX12_join 67 = .ok (.iconst 0, 1) := by decide +kernel
theorem dX12_join_68 : decode cX12_join 68 = .ok (.bastore, 1) := by decide +kernel
theorem dX12_join_69 : decode cX12_join 69 = .ok (.aload_n 0, 1) := by decide +kernel
theorem dX12_join_70 : decode cX12_join 70 = .ok (.getfield 19, 3) := by decide +kernel
theorem dX12_join_73 : decode cX12_join 73 = .ok (.iload 5, 2) := by decide +kernel
theorem dX12_join_75 : decode cX12_join 75 = .ok (.baload, 1) := by decide +kernel
theorem dX12_join_76 : decode cX12_join 76 = .ok (.ifCond .eq 101, 3) := by decide +kernel
theorem dX12_join_79 : decode cX12_join 79 = .ok (.iload_n 3, 1) := by decide +kernel
theorem dX12_join_80 : decode cX12_join 80 = .ok (.ifCond .ne 6, 3) := by decide +kernel
theorem dX12_join_83 : decode cX12_join 83 = .ok (.goto 94, 3) := by decide +kernel
theorem dX12_join_86 : decode cX12_join 86 = .ok (.iload_n 2, 1) := by decide +kernel
theorem dX12_join_87 : decode cX12_join 87 = .ok (.iconst 1, 1) := by decide +kernel
theorem dX12_join_88 : decode cX12_join 88 = .ok (.aload_n 0, 1) := by decide +kernel
theorem dX12_join_89 : decode cX12_join 89 = .ok (.getfield 7, 3) := by decide +kernel
theorem dX12_join_92 : decode cX12_join 92 = .ok (.iload 5, 2) := by decide +kernel
theorem dX12_join_94 : decode cX12_join 94 = .ok (.iaload, 1) := by decide +kernel
theorem dX12_join_95 : decode cX12_join 95 = .ok (.ishl, 1) := by decide +kernel
theorem dX12_join_96 : decode cX12_join 96 = .ok (.ixor, 1) := by decide +kernel
theorem dX12_join_97 : decode cX12_join 97 = .ok (.iconst 1, 1) := by decide +kernel
theorem dX12_join_98 : decode cX12_join 98 = .ok (.aload_n 0, 1) := by decide +kernel
theorem dX12_join_99 : decode cX12_join 99 = .ok (.getfield 13, 3) := by decide +kernel
theorem dX12_join_102 : decode cX12_join 102 = .ok (.iload 5, 2) := by decide +kernel
theorem dX12_join_104 : decode cX12_join 104 = .ok (.iaload, 1) := by decide +kernel
theorem dX12_join_105 : decode cX12_join 105 = .ok (.ishl, 1) := by decide +kernel
theorem dX12_join_106 : decode cX12_join 106 = .ok (.ixor, 1) := by decide +kernel
theorem dX12_join_107 : decode cX12_join 107 = .ok (.istore 6, 2) := by decide +kernel
theorem dX12_join_109 : decode cX12_join 109 = .ok (.aload_n 0, 1) := by decide +kernel
theorem dX12_join_110 : decode cX12_join 110 = .ok (.getfield 16, 3) := by decide +kernel
theorem dX12_join_113 : decode cX12_join 113 = .ok (.iload 5, 2) := by decide +kernel
theorem dX12_join_115 : decode cX12_join 115 = .ok (.iaload, 1) := by decide +kernel
theorem dX12_join_116 : decode cX12_join 116 = .ok (.bipush 64, 2) := by decide +kernel
theorem dX12_join_118 : decode cX12_join 118 = .ok (.imul, 1) := by decide +kernel
theorem dX12_join_119 : decode cX12_join 119 = .ok (.iconst 1, 1) := by decide +kernel
theorem dX12_join_120 : decode cX12_join 120 = .ok (.iadd, 1) := by decide +kernel
theorem dX12_join_121 : decode cX12_join 121 = .ok (.istore 7, 2) := by decide +kernel
theorem dX12_join_123 : decode cX12_join 123 = .ok (.aload_n 0, 1) := by decide +kernel
theorem dX12_join_124 : decode cX12_join 124 = .ok (.getfield 64, 3) := by decide +kernel
theorem dX12_join_127 : decode cX12_join 127 = .ok (.iload 6, 2) := by decide +kernel
theorem dX12_join_129 : decode cX12_join 129 = .ok (.iaload, 1) := by decide +kernel
theorem dX12_join_130 : decode cX12_join 130 = .ok (.ldc 143, 2) := by decide +kernel
theorem dX12_join_132 : decode cX12_join 132 = .ok (.if_icmp .ge 45, 3) := by decide +kernel
theorem dX12_join_135 : decode cX12_join 135 = .ok (.aload_n 0, 1) := by decide +kernel
theorem dX12_join_136 : decode cX12_join 136 = .ok (.getfield 64, 3) := by decide +kernel
theorem dX12_join_139 : decode cX12_join 139 = .ok (.iload 6, 2) := by decide +kernel
theorem dX12_join_141 : decode cX12_join 141 = .ok (.iaload, 1) := by decide +kernel
theorem dX12_join_142 : decode cX12_join 142 = .ok (.iload 7, 2) := by decide +kernel
theorem dX12_join_144 : decode cX12_join 144 = .ok (.iadd, 1) := by decide +kernel
theorem dX12_join_145 : decode cX12_join 145 = .ok (.iload_n 3, 1) := by decide +kernel
theorem dX12_join_146 : decode cX12_join 146 = .ok (.if_icmp .ne 31, 3) := by decide +kernel
theorem dX12_join_149 : decode cX12_join 149 = .ok (.aload_n 0, 1) := by decide +kernel
theorem dX12_join_150 : decode cX12_join 150 = .ok (.getfield 67, 3) := by decide +kernel
theorem dX12_join_153 : decode cX12_join 153 = .ok (.iload 5, 2) := by decide +kernel
theorem dX12_join_155 : decode cX12_join 155 = .ok (.iconst 1, 1) := by decide +kernel
theorem dX12_join_156 : decode cX12_join 156 = .ok (.bastore, 1) := by decide +kernel
theorem dX12_join_157 : decode cX12_join 157 = .ok (.iload 6, 2) := by decide +kernel
theorem dX12_join_159 : decode cX12_join 159 = .ok (.istore_n 2, 1) := by decide +kernel
theorem dX12_join_160 : decode cX12_join 160 = .ok (.iload_n 3, 1) := by decide +kernel
theorem dX12_join_161 : decode cX12_join 161 = .ok (.iload 7, 2) := by decide +kernel
theorem dX12_join_163 : decode cX12_join 163 = .ok (.isub, 1) := by decide +kernel
theorem dX12_join_164 : decode cX12_join 164 = .ok (.istore_n 3, 1) := by decide +kernel
theorem dX12_join_165 : decode cX12_join 165 = .ok (.iload 4, 2) := by decide +kernel
theorem dX12_join_167 : decode cX12_join 167 = .ok (.aload_n 0, 1) := by decide +kernel
theorem dX12_join_168 : decode cX12_join 168 = .ok (.getfield 16, 3) := by decide +kernel
theorem dX12_join_171 : decode cX12_join 171 = .ok (.iload 5, 2) := by decide +kernel
theorem dX12_join_173 : decode cX12_join 173 = .ok (.iaload, 1) := by decide +kernel
theorem dX12_join_174 : decode cX12_join 174 = .ok (.iadd, 1) := by decide +kernel
theorem dX12_join_175 : decode cX12_join 175 = .ok (.istore 4, 2) := by decide +kernel
theorem dX12_join_177 : decode cX12_join 177 = .ok (.iinc 5 1, 3) := by decide +kernel
theorem dX12_join_180 : decode cX12_join 180 = .ok (.goto (-128), 3) := by decide +kernel
theorem dX12_join_183 : decode cX12_join 183 = .ok (.iload 4, 2) := by decide +kernel
theorem dX12_join_185 : decode cX12_join 185 = .ok (.ireturn, 1) := by decide +kernel
theorem dX12_joinArc_0 : decode cX12_joinArc 0 = .ok (.aload_n 0, 1) := by decide +kernel
theorem dX12_joinArc_1 : decode cX12_joinArc 1 = .ok (.getfield 163, 3) := by decide +kernel
theorem dX12_joinArc_4 : decode cX12_joinArc 4 = .ok (.ifCond .ne 6, 3) := by decide +kernel
theorem dX12_joinArc_7 : decode cX12_joinArc 7 = .ok (.bipush (-3), 2) := by decide +kernel
theorem dX12_joinArc_9 : decode cX12_joinArc 9 = .ok (.ireturn, 1) := by decide +kernel
theorem dX12_joinArc_10 : decode cX12_joinArc 10 = .ok (.iconst 0, 1) := by decide +kernel
theorem dX12_joinArc_11 : decode cX12_joinArc 11 = .ok (.istore_n 2, 1) := by decide +kernel
theorem dX12_joinArc_12 : decode cX12_joinArc 12 = .ok (.iconst 0, 1) := by decide +kernel
theorem dX12_joinArc_13 : decode cX12_joinArc 13 = .ok (.istore_n 3, 1) := by decide +kernel
theorem dX12_joinArc_14 : decode cX12_joinArc 14 = .ok (.iload_n 3, 1) := by decide +kernel
theorem dX12_joinArc_15 : decode cX12_joinArc 15 = .ok (.aload_n 0, 1) := by decide +kernel
theorem dX12_joinArc_16 : decode cX12_joinArc 16 = .ok (.getfield 97, 3) := by decide +kernel
theorem dX12_joinArc_19 : decode cX12_joinArc 19 = .ok (.if_icmp .ge 28, 3) := by decide +kernel
theorem dX12_joinArc_22 : decode cX12_joinArc 22 = .ok (.aload_n 0, 1) := by decide +kernel
theorem dX12_joinArc_23 : decode cX12_joinArc 23 = .ok (.getfield 67, 3) := by decide +kernel
theorem dX12_joinArc_26 : decode cX12_joinArc 26 = .ok (.iload_n 3, 1) := by decide +kernel
theorem dX12_joinArc_27 : decode cX12_joinArc 27 = .ok (.baload, 1) := by decide +kernel
theorem dX12_joinArc_28 : decode cX12_joinArc 28 = .ok (.ifCond .eq 13, 3) := by decide +kernel
theorem dX12_joinArc_31 : decode cX12_joinArc 31 = .ok (.iload_n 2, 1) := by decide +kernel
theorem dX12_joinArc_32 : decode cX12_joinArc 32 = .ok (.iload_n 1, 1) := by decide +kernel
theorem dX12_joinArc_33 : decode cX12_joinArc 33 = .ok (.if_icmp .ne 5, 3) := by decide +kernel
theorem dX12_joinArc_36 : decode cX12_joinArc 36 = .ok (.iload_n 3, 1) := by decide +kernel
theorem dX12_joinArc_37 : decode cX12_joinArc 37 = .ok (.ireturn, 1) := by decide +kernel
theorem dX12_joinArc_38 : decode cX12_joinArc 38 = .ok (.iinc 2 1, 3) := by decide +kernel
theorem dX12_joinArc_41 : decode cX12_joinArc 41 = .ok (.iinc 3 1, 3) := by decide +kernel
theorem dX12_joinArc_44 : decode cX12_joinArc 44 = .ok (.goto (-30), 3) := by decide +kernel
theorem dX12_joinArc_47 : decode cX12_joinArc 47 = .ok (.iconst (-1), 1) := by decide +kernel
theorem dX12_joinArc_48 : decode cX12_joinArc 48 = .ok (.ireturn, 1) := by decide +kernel
set_option maxRecDepth 20000 in
theorem ggX12_rank_X12_isNode : GoodIn wsX12_rank wsX12_isNode := goodIn_r _ [6, 7, 8, 9, 10, 11, 12, 13, 14, 15, 16, 17, 18, 19, 20, 21, 22, 23, 24, 25, 26, 27, 28, 29, 30, 31, 32, 33, 34, 35, 36, 37, 38, 39, 40, 41, 42, 43, 44] rfl (by decide +kernel)
set_option maxRecDepth 20000 in
theorem gX12_rank_X12_isNode : GoodIn wsX12_rank (wsV RX12 169 RX12 yX12_isNode wsX12_isNode) := goodIn_app (goodIn_of _ (by decide +kernel)) ggX12_rank_X12_isNode
theorem dX12_rank_0 : decode cX12_rank 0 = .ok (.aload_n 0, 1) := by decide +kernel
theorem dX12_rank_1 : decode cX12_rank 1 = .ok (.iload_n 1, 1) := by decide +kernel
theorem dX12_rank_2 : decode cX12_rank 2 = .ok (.invokevirtual 169, 3) := by decide +kernel
theorem dX12_rank_5 : decode cX12_rank 5 = .ok (.ifCond .eq 11, 3) := by decide +kernel
theorem dX12_rank_8 : decode cX12_rank 8 = .ok (.aload_n 0, 1) := by decide +kernel
theorem dX12_rank_9 : decode cX12_rank 9 = .ok (.iload_n 2, 1) := by decide +kernel
theorem dX12_rank_10 : decode cX12_rank 10 = .ok (.invokevirtual 169, 3) := by decide +kernel
theorem dX12_rank_13 : decode cX12_rank 13 = .ok (.ifCond .ne 5, 3) := by decide +kernel
theorem dX12_rank_16 : decode cX12_rank 16 = .ok (.iconst (-1), 1) := by decide +kernel
theorem dX12_rank_17 : decode cX12_rank 17 = .ok (.ireturn, 1) := by decide +kernel
theorem dX12_rank_18 : decode cX12_rank 18 = .ok (.iload_n 1, 1) := by decide +kernel
theorem dX12_rank_19 : decode cX12_rank 19 = .ok (.iload_n 2, 1) := by decide +kernel
theorem dX12_rank_20 : decode cX12_rank 20 = .ok (.if_icmp .eq 14, 3) := by decide +kernel
theorem dX12_rank_23 : decode cX12_rank 23 = .ok (.iload_n 3, 1) := by decide +kernel
theorem dX12_rank_24 : decode cX12_rank 24 = .ok (.iconst (-1), 1) := by decide +kernel
theorem dX12_rank_25 : decode cX12_rank 25 = .ok (.if_icmp .lt 9, 3) := by decide +kernel
theorem dX12_rank_28 : decode cX12_rank 28 = .ok (.iload_n 3, 1) := by decide +kernel
theorem dX12_rank_29 : decode cX12_rank 29 = .ok (.bipush 99, 2) := by decide +kernel
theorem dX12_rank_31 : decode cX12_rank 31 = .ok (.if_icmp .le 6, 3) := by decide +kernel
theorem dX12_rank_34 : decode cX12_rank 34 = .ok (.bipush (-2), 2) := by decide +kernel
theorem dX12_rank_36 : decode cX12_rank 36 = .ok (.ireturn, 1) := by decide +kernel
theorem dX12_rank_37 : decode cX12_rank 37 = .ok (.aload_n 0, 1) := by decide +kernel
theorem dX12_rank_38 : decode cX12_rank 38 = .ok (.getfield 23, 3) := by decide +kernel
theorem dX12_rank_41 : decode cX12_rank 41 = .ok (.bipush 16, 2) := by decide +kernel
theorem dX12_rank_43 : decode cX12_rank 43 = .ok (.iload_n 1, 1) := by decide +kernel
theorem dX12_rank_44 : decode cX12_rank 44 = .ok (.imul, 1) := by decide +kernel
theorem dX12_rank_45 : decode cX12_rank 45 = .ok (.iload_n 2, 1) := by decide +kernel
theorem dX12_rank_46 : decode cX12_rank 46 = .ok (.iadd, 1) := by decide +kernel
theorem dX12_rank_47 : decode cX12_rank 47 = .ok (.iaload, 1) := by decide +kernel
theorem dX12_rank_48 : decode cX12_rank 48 = .ok (.istore 4, 2) := by decide +kernel
theorem dX12_rank_50 : decode cX12_rank 50 = .ok (.aload_n 0, 1) := by decide +kernel
theorem dX12_rank_51 : decode cX12_rank 51 = .ok (.getfield 23, 3) := by decide +kernel
theorem dX12_rank_54 : decode cX12_rank 54 = .ok (.bipush 16, 2) := by decide +kernel
theorem dX12_rank_56 : decode cX12_rank 56 = .ok (.iload_n 1, 1) := by decide +kernel
theorem dX12_rank_57 : decode cX12_rank 57 = .ok (.imul, 1) := by decide +kernel
theorem dX12_rank_58 : decode cX12_rank 58 = .ok (.iload_n 2, 1) := by decide +kernel
theorem dX12_rank_59 : decode cX12_rank 59 = .ok (.iadd, 1) := by decide +kernel
theorem dX12_rank_60 : decode cX12_rank 60 = .ok (.iload_n 3, 1) := by decide +kernel
theorem dX12_rank_61 : decode cX12_rank 61 = .ok (.iastore, 1) := by decide +kernel
theorem dX12_rank_62 : decode cX12_rank 62 = .ok (.iload 4, 2) := by decide +kernel
theorem dX12_rank_64 : decode cX12_rank 64 = .ok (.ireturn, 1) := by decide +kernel
theorem dX12_findOpen_0 : decode cX12_findOpen 0 = .ok (.iconst 0, 1) := by decide +kernel
theorem dX12_findOpen_1 : decode cX12_findOpen 1 = .ok (.istore_n 1, 1) := by decide +kernel
theorem dX12_findOpen_2 : decode cX12_findOpen 2 = .ok (.iload_n 1, 1) := by decide +kernel
theorem dX12_findOpen_3 : decode cX12_findOpen 3 = .ok (.sipush 256, 3) := by decide +kernel
theorem dX12_findOpen_6 : decode cX12_findOpen 6 = .ok (.if_icmp .ge 16, 3) := by decide +kernel
theorem dX12_findOpen_9 : decode cX12_findOpen 9 = .ok (.aload_n 0, 1) := by decide +kernel
theorem dX12_findOpen_10 : decode cX12_findOpen 10 = .ok (.getfield 83, 3) := by decide +kernel
theorem dX12_findOpen_13 : decode cX12_findOpen 13 = .ok (.iload_n 1, 1) := by decide +kernel
theorem dX12_findOpen_14 : decode cX12_findOpen 14 = .ok (.iconst (-1), 1) := by decide +kernel
theorem dX12_findOpen_15 : decode cX12_findOpen 15 = .ok (.iastore, 1) := by decide +kernel
theorem dX12_findOpen_16 : decode cX12_findOpen 16 = .ok (.iinc 1 1, 3) := by decide +kernel
theorem dX12_findOpen_19 : decode cX12_findOpen 19 = .ok (.goto (-17), 3) := by decide +kernel
theorem dX12_findOpen_22 : decode cX12_findOpen 22 = .ok (.aload_n 0, 1) := by decide +kernel
theorem dX12_findOpen_23 : decode cX12_findOpen 23 = .ok (.getfield 97, 3) := by decide +kernel
theorem dX12_findOpen_26 : decode cX12_findOpen 26 = .ok (.iconst 1, 1) := by decide +kernel
theorem dX12_findOpen_27 : decode cX12_findOpen 27 = .ok (.isub, 1) := by decide +kernel
theorem dX12_findOpen_28 : decode cX12_findOpen 28 = .ok (.istore_n 1, 1) := by decide +kernel
theorem dX12_findOpen_29 : decode cX12_findOpen 29 = .ok (.iload_n 1, 1) := by decide +kernel
theorem dX12_findOpen_30 : decode cX12_findOpen 30 = .ok (.ifCond .lt 84, 3) := by decide +kernel
theorem dX12_findOpen_33 : decode cX12_findOpen 33 = .ok (.aload_n 0, 1) := by decide +kernel
theorem dX12_findOpen_34 : decode cX12_findOpen 34 = .ok (.getfield 7, 3) := by decide +kernel
theorem dX12_findOpen_37 : decode cX12_findOpen 37 = .ok (.iload_n 1, 1) := by decide +kernel
theorem dX12_findOpen_38 : decode cX12_findOpen 38 = .ok (.iaload, 1) := by decide +kernel
theorem dX12_findOpen_39 : decode cX12_findOpen 39 = .ok (.istore_n 2, 1) := by decide +kernel
theorem dX12_findOpen_40 : decode cX12_findOpen 40 = .ok (.aload_n 0, 1) := by decide +kernel
theorem dX12_findOpen_41 : decode cX12_findOpen 41 = .ok (.getfield 13, 3) := by decide +kernel
theorem dX12_findOpen_44 : decode cX12_findOpen 44 = .ok (.iload_n 1, 1) := by decide +kernel
theorem dX12_findOpen_45 : decode cX12_findOpen 45 = .ok (.iaload, 1) := by decide +kernel
theorem dX12_findOpen_46 : decode cX12_findOpen 46 = .ok (.istore_n 3, 1) := by decide +kernel
theorem dX12_findOpen_47 : decode cX12_findOpen 47 = .ok (.aload_n 0, 1) := by decide +kernel
theorem dX12_findOpen_48 : decode cX12_findOpen 48 = .ok (.getfield 19, 3) := by decide +kernel
theorem dX12_findOpen_51 : decode cX12_findOpen 51 = .ok (.iload_n 1, 1) := by decide +kernel
theorem dX12_findOpen_52 : decode cX12_findOpen 52 = .ok (.baload, 1) := by decide +kernel
theorem dX12_findOpen_53 : decode cX12_findOpen 53 = .ok (.ifCond .eq 55, 3) := by decide +kernel
theorem dX12_findOpen_56 : decode cX12_findOpen 56 = .ok (.aload_n 0, 1) := by decide +kernel
theorem dX12_findOpen_57 : decode cX12_findOpen 57 = .ok (.getfield 23, 3) := by decide +kernel
theorem dX12_findOpen_60 : decode cX12_findOpen 60 = .ok (.bipush 16, 2) := by decide +kernel
theorem dX12_findOpen_62 : decode cX12_findOpen 62 = .ok (.iload_n 2, 1) := by decide +kernel
theorem dX12_findOpen_63 : decode cX12_findOpen 63 = .ok (.imul, 1) := by decide +kernel
theorem dX12_findOpen_64 : decode cX12_findOpen 64 = .ok (.iload_n 3, 1) := by decide +kernel
theorem dX12_findOpen_65 : decode cX12_findOpen 65 = .ok (.iadd, 1) := by decide +kernel
theorem dX12_findOpen_66 : decode cX12_findOpen 66 = .ok (.iaload, 1) := by decide +kernel
theorem dX12_findOpen_67 : decode cX12_findOpen 67 = .ok (.ifCond .lt 41, 3) := by decide +kernel
theorem dX12_findOpen_70 : decode cX12_findOpen 70 = .ok (.aload_n 0, 1) := by decide +kernel
theorem dX12_findOpen_71 : decode cX12_findOpen 71 = .ok (.getfield 23, 3) := by decide +kernel
theorem dX12_findOpen_74 : decode cX12_findOpen 74 = .ok (.bipush 16, 2) := by decide +kernel
theorem dX12_findOpen_76 : decode cX12_findOpen 76 = .ok (.iload_n 3, 1) := by decide +kernel
theorem dX12_findOpen_77 : decode cX12_findOpen 77 = .ok (.imul, 1) := by decide +kernel
theorem dX12_findOpen_78 : decode cX12_findOpen 78 = .ok (.iload_n 2, 1) := by decide +kernel
theorem dX12_findOpen_79 : decode cX12_findOpen 79 = .ok (.iadd, 1) := by decide +kernel
theorem dX12_findOpen_80 : decode cX12_findOpen 80 = .ok (.iaload, 1) := by decide +kernel
theorem dX12_findOpen_81 : decode cX12_findOpen 81 = .ok (.ifCond .lt 27, 3) := by decide +kernel
theorem dX12_findOpen_84 : decode cX12_findOpen 84 = .ok (.aload_n 0, 1) := by decide +kernel
theorem dX12_findOpen_85 : decode cX12_findOpen 85 = .ok (.getfield 83, 3) := by decide +kernel
theorem dX12_findOpen_88 : decode cX12_findOpen 88 = .ok (.bipush 16, 2) := by decide +kernel
theorem dX12_findOpen_90 : decode cX12_findOpen 90 = .ok (.iload_n 2, 1) := by decide +kernel
theorem dX12_findOpen_91 : decode cX12_findOpen 91 = .ok (.imul, 1) := by decide +kernel
theorem dX12_findOpen_92 : decode cX12_findOpen 92 = .ok (.iload_n 3, 1) := by decide +kernel
theorem dX12_findOpen_93 : decode cX12_findOpen 93 = .ok (.iadd, 1) := by decide +kernel
theorem dX12_findOpen_94 : decode cX12_findOpen 94 = .ok (.iload_n 1, 1) := by decide +kernel
theorem dX12_findOpen_95 : decode cX12_findOpen 95 = .ok (.iastore, 1) := by decide +kernel
theorem dX12_findOpen_96 : decode cX12_findOpen 96 = .ok (.aload_n 0, 1) := by decide +kernel
theorem dX12_findOpen_97 : decode cX12_findOpen 97 = .ok (.getfield 83, 3) := by decide +kernel
theorem dX12_findOpen_100 : decode cX12_findOpen 100 = .ok (.bipush 16, 2) := by decide +kernel
theorem dX12_findOpen_102 : decode cX12_findOpen 102 = .ok (.iload_n 3, 1) := by decide +kernel
theorem dX12_findOpen_103 : decode cX12_findOpen 103 = .ok (.imul, 1) := by decide +kernel
theorem dX12_findOpen_104 : decode cX12_findOpen 104 = .ok (.iload_n 2, 1) := by decide +kernel
theorem dX12_findOpen_105 : decode cX12_findOpen 105 = .ok (.iadd, 1) := by decide +kernel
theorem dX12_findOpen_106 : decode cX12_findOpen 106 = .ok (.iload_n 1, 1) := by decide +kernel
theorem dX12_findOpen_107 : decode cX12_findOpen 107 = .ok (.iastore, 1) := by decide +kernel
theorem dX12_findOpen_108 : decode cX12_findOpen 108 = .ok (.iinc 1 (-1), 3) := by decide +kernel
theorem dX12_findOpen_111 : decode cX12_findOpen 111 = .ok (.goto (-82), 3) := by decide +kernel
theorem dX12_findOpen_114 : decode cX12_findOpen 114 = .ok (.return_, 1) := by decide +kernel
theorem dX12_wants_0 : decode cX12_wants 0 = .ok (.aload_n 0, 1) := by decide +kernel
theorem dX12_wants_1 : decode cX12_wants 1 = .ok (.getfield 86, 3) := by decide +kernel
theorem dX12_wants_4 : decode cX12_wants 4 = .ok (.iload_n 1, 1) := by decide +kernel
theorem dX12_wants_5 : decode cX12_wants 5 = .ok (.iaload, 1) := by decide +kernel
theorem dX12_wants_6 : decode cX12_wants 6 = .ok (.ifCond .lt 33, 3) := by decide +kernel
theorem dX12_wants_9 : decode cX12_wants 9 = .ok (.aload_n 0, 1) := by decide +kernel
theorem dX12_wants_10 : decode cX12_wants 10 = .ok (.getfield 23, 3) := by decide +kernel
theorem dX12_wants_13 : decode cX12_wants 13 = .ok (.bipush 16, 2) := by decide +kernel
theorem dX12_wants_15 : decode cX12_wants 15 = .ok (.iload_n 1, 1) := by decide +kernel
theorem dX12_wants_16 : decode cX12_wants 16 = .ok (.imul, 1) := by decide +kernel
theorem dX12_wants_17 : decode cX12_wants 17 = .ok (.iload_n 2, 1) := by decide +kernel
theorem dX12_wants_18 : decode cX12_wants 18 = .ok (.iadd, 1) := by decide +kernel
theorem dX12_wants_19 : decode cX12_wants 19 = .ok (.iaload, 1) := by decide +kernel
theorem dX12_wants_20 : decode cX12_wants 20 = .ok (.aload_n 0, 1) := by decide +kernel
theorem dX12_wants_21 : decode cX12_wants 21 = .ok (.getfield 23, 3) := by decide +kernel
theorem dX12_wants_24 : decode cX12_wants 24 = .ok (.bipush 16, 2) := by decide +kernel
theorem dX12_wants_26 : decode cX12_wants 26 = .ok (.iload_n 1, 1) := by decide +kernel
theorem dX12_wants_27 : decode cX12_wants 27 = .ok (.imul, 1) := by decide +kernel
theorem dX12_wants_28 : decode cX12_wants 28 = .ok (.aload_n 0, 1) := by decide +kernel
theorem dX12_wants_29 : decode cX12_wants 29 = .ok (.getfield 86, 3) := by decide +kernel
theorem dX12_wants_32 : decode cX12_wants 32 = .ok (.iload_n 1, 1) := by decide +kernel
theorem dX12_wants_33 : decode cX12_wants 33 = .ok (.iaload, 1) := by decide +kernel
theorem dX12_wants_34 : decode cX12_wants 34 = .ok (.iadd, 1) := by decide +kernel
theorem dX12_wants_35 : decode cX12_wants 35 = .ok (.iaload, 1) := by decide +kernel
theorem dX12_wants_36 : decode cX12_wants 36 = .ok (.if_icmp .ge 7, 3) := by decide +kernel
theorem dX12_wants_39 : decode cX12_wants 39 = .ok (.iconst 1, 1) := by decide +kernel
theorem dX12_wants_40 : decode cX12_wants 40 = .ok (.goto 4, 3) := by decide +kernel
theorem dX12_wants_43 : decode cX12_wants 43 = .ok (.iconst 0, 1) := by decide +kernel
theorem dX12_wants_44 : decode cX12_wants 44 = .ok (.ireturn, 1) := by decide +kernel
set_option maxRecDepth 20000 in
theorem ggX12_judge_X12_wants : GoodIn wsX12_judge wsX12_wants := goodIn_r _ [10, 2, 11, 12, 13, 14, 15, 16, 17, 18, 19, 20, 21, 22, 23, 24, 25, 26, 27, 28, 29, 30, 31, 32, 33, 34, 35, 36, 37, 38, 39, 40, 41, 42, 43, 44, 45, 46, 47, 48] rfl (by decide +kernel)
set_option maxRecDepth 20000 in
theorem gX12_judge_X12_wants : GoodIn wsX12_judge (wsV RX12 181 RX12 yX12_wants wsX12_wants) := goodIn_app (goodIn_of _ (by decide +kernel)) ggX12_judge_X12_wants
theorem dX12_judge_0 : decode cX12_judge 0 = .ok (.lconst 0, 1) := by decide +kernel
theorem dX12_judge_1 : decode cX12_judge 1 = .ok (.lstore_n 1, 1) := by decide +kernel
theorem dX12_judge_2 : decode cX12_judge 2 = .ok (.iconst 0, 1) := by decide +kernel
theorem dX12_judge_3 : decode cX12_judge 3 = .ok (.istore_n 3, 1) := by decide +kernel
theorem dX12_judge_4 : decode cX12_judge 4 = .ok (.iload_n 3, 1) := by decide +kernel
theorem dX12_judge_5 : decode cX12_judge 5 = .ok (.aload_n 0, 1) := by decide +kernel
theorem dX12_judge_6 : decode cX12_judge 6 = .ok (.getfield 92, 3) := by decide +kernel
theorem dX12_judge_9 : decode cX12_judge 9 = .ok (.if_icmp .ge 96, 3) := by decide +kernel
theorem dX12_judge_12 : decode cX12_judge 12 = .ok (.aload_n 0, 1) := by decide +kernel
theorem dX12_judge_13 : decode cX12_judge 13 = .ok (.getfield 86, 3) := by decide +kernel
theorem dX12_judge_16 : decode cX12_judge 16 = .ok (.iload_n 3, 1) := by decide +kernel
theorem dX12_judge_17 : decode cX12_judge 17 = .ok (.iaload, 1) := by decide +kernel
theorem dX12_judge_18 : decode cX12_judge 18 = .ok (.iload_n 3, 1) := by decide +kernel
theorem dX12_judge_19 : decode cX12_judge 19 = .ok (.if_icmp .le 24, 3) := by decide +kernel
theorem dX12_judge_22 : decode cX12_judge 22 = .ok (.lload_n 1, 1) := by decide +kernel
theorem dX12_judge_23 : decode cX12_judge 23 = .ok (.lconst 1, 1) := by decide +kernel
theorem dX12_judge_24 : decode cX12_judge 24 = .ok (.aload_n 0, 1) := by decide +kernel
theorem dX12_judge_25 : decode cX12_judge 25 = .ok (.getfield 83, 3) := by decide +kernel
theorem dX12_judge_28 : decode cX12_judge 28 = .ok (.bipush 16, 2) := by decide +kernel
theorem dX12_judge_30 : decode cX12_judge 30 = .ok (.iload_n 3, 1) := by decide +kernel
theorem dX12_judge_31 : decode cX12_judge 31 = .ok (.imul, 1) := by decide +kernel
theorem dX12_judge_32 : decode cX12_judge 32 = .ok (.aload_n 0, 1) := by decide +kernel
theorem dX12_judge_33 : decode cX12_judge 33 = .ok (.getfield 86, 3) := by decide +kernel
theorem dX12_judge_36 : decode cX12_judge 36 = .ok (.iload_n 3, 1) := by decide +kernel
theorem dX12_judge_37 : decode cX12_judge 37 = .ok (.iaload, 1) := by decide +kernel
theorem dX12_judge_38 : decode cX12_judge 38 = .ok (.iadd, 1) := by decide +kernel
theorem dX12_judge_39 : decode cX12_judge 39 = .ok (.iaload, 1) := by decide +kernel
theorem dX12_judge_40 : decode cX12_judge 40 = .ok (.lshl, 1) := by decide +kernel
theorem dX12_judge_41 : decode cX12_judge 41 = .ok (.lor, 1) := by decide +kernel
theorem dX12_judge_42 : decode cX12_judge 42 = .ok (.lstore_n 1, 1) := by decide +kernel
theorem dX12_judge_43 : decode cX12_judge 43 = .ok (.iload_n 3, 1) := by decide +kernel
theorem dX12_judge_44 : decode cX12_judge 44 = .ok (.iconst 1, 1) := by decide +kernel
theorem dX12_judge_45 : decode cX12_judge 45 = .ok (.iadd, 1) := by decide +kernel
theorem dX12_judge_46 : decode cX12_judge 46 = .ok (.istore 4, 2) := by decide +kernel
theorem dX12_judge_48 : decode cX12_judge 48 = .ok (.iload 4, 2) := by decide +kernel
theorem dX12_judge_50 : decode cX12_judge 50 = .ok (.aload_n 0, 1) := by decide +kernel
theorem dX12_judge_51 : decode cX12_judge 51 = .ok (.getfield 92, 3) := by decide +kernel
theorem dX12_judge_54 : decode cX12_judge 54 = .ok (.if_icmp .ge 45, 3) := by decide +kernel
theorem dX12_judge_57 : decode cX12_judge 57 = .ok (.aload_n 0, 1) := by decide +kernel
theorem dX12_judge_58 : decode cX12_judge 58 = .ok (.getfield 83, 3) := by decide +kernel
theorem dX12_judge_61 : decode cX12_judge 61 = .ok (.bipush 16, 2) := by decide +kernel
theorem dX12_judge_63 : decode cX12_judge 63 = .ok (.iload_n 3, 1) := by decide +kernel
theorem dX12_judge_64 : decode cX12_judge 64 = .ok (.imul, 1) := by decide +kernel
theorem dX12_judge_65 : decode cX12_judge 65 = .ok (.iload 4, 2) := by decide +kernel
theorem dX12_judge_67 : decode cX12_judge 67 = .ok (.iadd, 1) := by decide +kernel
theorem dX12_judge_68 : decode cX12_judge 68 = .ok (.iaload, 1) := by decide +kernel
theorem dX12_judge_69 : decode cX12_judge 69 = .ok (.ifCond .lt 24, 3) := by decide +kernel
theorem dX12_judge_72 : decode cX12_judge 72 = .ok (.aload_n 0, 1) := by decide +kernel
theorem dX12_judge_73 : decode cX12_judge 73 = .ok (.iload_n 3, 1) := by decide +kernel
theorem dX12_judge_74 : decode cX12_judge 74 = .ok (.iload 4, 2) := by decide +kernel
theorem dX12_judge_76 : decode cX12_judge 76 = .ok (.invokevirtual 181, 3) := by decide +kernel
theorem dX12_judge_79 : decode cX12_judge 79 = .ok (.ifCond .eq 14, 3) := by decide +kernel
theorem dX12_judge_82 : decode cX12_judge 82 = .ok (.aload_n 0, 1) := by decide +kernel
theorem dX12_judge_83 : decode cX12_judge 83 = .ok (.iload 4, 2) := by decide +kernel
theorem dX12_judge_85 : decode cX12_judge 85 = .ok (.iload_n 3, 1) := by decide +kernel
theorem dX12_judge_86 : decode cX12_judge 86 = .ok (.invokevirtual 181, 3) := by decide +kernel
theorem dX12_judge_89 : decode cX12_judge 89 = .ok (.ifCond .eq 4, 3) := by decide +kernel
theorem dX12_judge_92 : decode cX12_judge 92 = .ok (.return_, 1) := by decide +kernel
theorem dX12_judge_93 : decode cX12_judge 93 = .ok (.iinc 4 1, 3) := by decide +kernel
theorem dX12_judge_96 : decode cX12_judge 96 = .ok (.goto (-48), 3) := by decide +kernel
theorem dX12_judge_99 : decode cX12_judge 99 = .ok (.iinc 3 1, 3) := by decide +kernel
theorem dX12_judge_102 : decode cX12_judge 102 = .ok (.goto (-98), 3) := by decide +kernel
theorem dX12_judge_105 : decode cX12_judge 105 = .ok (.lload_n 1, 1) := by decide +kernel
theorem dX12_judge_106 : decode cX12_judge 106 = .ok (.aload_n 0, 1) := by decide +kernel
theorem dX12_judge_107 : decode cX12_judge 107 = .ok (.getfield 185, 3) := by decide +kernel
theorem dX12_judge_110 : decode cX12_judge 110 = .ok (.lxor, 1) := by decide +kernel
theorem dX12_judge_111 : decode cX12_judge 111 = .ok (.lstore_n 3, 1) := by decide +kernel
theorem dX12_judge_112 : decode cX12_judge 112 = .ok (.aload_n 0, 1) := by decide +kernel
theorem dX12_judge_113 : decode cX12_judge 113 = .ok (.getfield 189, 3) := by decide +kernel
theorem dX12_judge_116 : decode cX12_judge 116 = .ok (.ifCond .eq 14, 3) := by decide +kernel
theorem dX12_judge_119 : decode cX12_judge 119 = .ok (.lload_n 1, 1) := by decide +kernel
theorem dX12_judge_120 : decode cX12_judge 120 = .ok (.lload_n 3, 1) := by decide +kernel
theorem dX12_judge_121 : decode cX12_judge 121 = .ok (.land, 1) := by decide +kernel
theorem dX12_judge_122 : decode cX12_judge 122 = .ok (.lload_n 3, 1) := by decide +kernel
theorem dX12_judge_123 : decode cX12_judge 123 = .ok (.lneg, 1) := by decide +kernel
theorem dX12_judge_124 : decode cX12_judge 124 = .ok (.land, 1) := by decide +kernel
theorem dX12_judge_125 : decode cX12_judge 125 = .ok (.lconst 0, 1) := by decide +kernel
theorem dX12_judge_126 : decode cX12_judge 126 = .ok (.lcmp, 1) := by decide +kernel
theorem dX12_judge_127 : decode cX12_judge 127 = .ok (.ifCond .eq 8, 3) := by decide +kernel
theorem dX12_judge_130 : decode cX12_judge 130 = .ok (.aload_n 0, 1) := by decide +kernel
theorem dX12_judge_131 : decode cX12_judge 131 = .ok (.lload_n 1, 1) := by decide +kernel
theorem dX12_judge_132 : decode cX12_judge 132 = .ok (.putfield 185, 3) := by decide +kernel
theorem dX12_judge_135 : decode cX12_judge 135 = .ok (.aload_n 0, 1) := by decide +kernel
theorem dX12_judge_136 : decode cX12_judge 136 = .ok (.dup, 1) := by decide +kernel
theorem dX12_judge_137 : decode cX12_judge 137 = .ok (.getfield 189, 3) := by decide +kernel
theorem dX12_judge_140 : decode cX12_judge 140 = .ok (.iconst 1, 1) := by decide +kernel
theorem dX12_judge_141 : decode cX12_judge 141 = .ok (.iadd, 1) := by decide +kernel
theorem dX12_judge_142 : decode cX12_judge 142 = .ok (.putfield 189, 3) := by decide +kernel
theorem dX12_judge_145 : decode cX12_judge 145 = .ok (.return_, 1) := by decide +kernel
set_option maxRecDepth 20000 in
theorem ggX12_findStables_X12_findOpen : GoodIn wsX12_findStables wsX12_findOpen := goodIn_r _ [11, 6, 12, 13, 14, 15, 16, 33, 34, 35, 36, 37, 38, 39, 40, 41, 42, 43, 44, 45, 46, 47, 48, 49, 50, 51, 52, 53, 54, 55, 56, 57, 58, 59, 60, 61, 62, 63, 64, 65, 66, 67, 68, 69] rfl (by decide +kernel)
set_option maxRecDepth 20000 in
theorem gX12_findStables_X12_findOpen : GoodIn wsX12_findStables (wsV RX12 192 RX12 yX12_findOpen wsX12_findOpen) := goodIn_app (goodIn_of _ (by decide +kernel)) ggX12_findStables_X12_findOpen
set_option maxRecDepth 20000 in
theorem ggX12_findStables_X12_judge : GoodIn wsX12_findStables wsX12_judge := goodIn_r _ [20, 5, 3, 6, 2, 1, 21, 22, 23, 10, 24, 16, 33, 34, 35, 36, 37, 38, 39, 40, 41, 42, 43, 44, 45, 46, 47, 48, 49, 50, 51, 52, 53, 54, 55, 56, 57, 58, 59, 60, 61, 62, 63, 64, 65, 66, 67, 68, 69] rfl (by decide +kernel)
set_option maxRecDepth 20000 in
theorem gX12_findStables_X12_judge : GoodIn wsX12_findStables (wsV RX12 195 RX12 yX12_judge wsX12_judge) := goodIn_app (goodIn_of _ (by decide +kernel)) ggX12_findStables_X12_judge
set_option maxRecDepth 20000 in
theorem ggX12_findStables_X12_back : GoodIn wsX12_findStables wsX12_back := goodIn_r _ [28, 3, 33, 34, 35, 36, 37, 38, 39, 40, 41, 42, 43, 44, 45, 46, 47, 48, 49, 50, 51, 52, 53, 54, 55, 56, 57, 58, 59, 60, 61, 62, 63, 64, 65, 66, 67, 68, 69] rfl (by decide +kernel)
set_option maxRecDepth 20000 in
theorem gX12_findStables_X12_back : GoodIn wsX12_findStables (wsV RX12 198 RX12 yX12_back wsX12_back) := goodIn_app (goodIn_of _ (by decide +kernel)) ggX12_findStables_X12_back
set_option maxRecDepth 20000 in
theorem ggX12_findStables_X12_onward : GoodIn wsX12_findStables wsX12_onward := goodIn_r _ [32, 5, 3, 4, 33, 34, 35, 36, 37, 38, 39, 40, 41, 42, 43, 44, 45, 46, 47, 48, 49, 50, 51, 52, 53, 54, 55, 56, 57, 58, 59, 60, 61, 62, 63, 64, 65, 66, 67, 68, 69] rfl (by decide +kernel)
set_option maxRecDepth 20000 in
theorem gX12_findStables_X12_onward : GoodIn wsX12_findStables (wsV RX12 201 RX12 yX12_onward wsX12_onward) := goodIn_app (goodIn_of _ (by decide +kernel)) ggX12_findStables_X12_onward
theorem dX12_findStables_0 : decode cX12_findStables 0 = .ok (.aload_n 0, 1) := by decide +kernel
theorem dX12_findStables_1 : decode cX12_findStables 1 = .ok (.invokevirtual 192, 3) := by decide +kernel
theorem dX12_findStables_4 : decode cX12_findStables 4 = .ok (.aload_n 0, 1) := by decide +kernel
theorem dX12_findStables_5 : decode cX12_findStables 5 = .ok (.iconst 0, 1) := by decide +kernel
theorem dX12_findStables_6 : decode cX12_findStables 6 = .ok (.putfield 189, 3) := by decide +kernel
theorem dX12_findStables_9 : decode cX12_findStables 9 = .ok (.aload_n 0, 1) := by decide +kernel
theorem dX12_findStables_10 : decode cX12_findStables 10 = .ok (.lconst 0, 1) := by decide +kernel
theorem dX12_findStables_11 : decode cX12_findStables 11 = .ok (.putfield 185, 3) := by decide +kernel
theorem dX12_findStables_14 : decode cX12_findStables 14 = .ok (.iconst 0, 1) := by decide +kernel
theorem dX12_findStables_15 : decode cX12_findStables 15 = .ok (.istore_n 1, 1) := by decide +kernel
theorem dX12_findStables_16 : decode cX12_findStables 16 = .ok (.iload_n 1, 1) := by decide +kernel
theorem dX12_findStables_17 : decode cX12_findStables 17 = .ok (.bipush 16, 2) := by decide +kernel
theorem dX12_findStables_19 : decode cX12_findStables 19 = .ok (.if_icmp .ge 16, 3) := by decide +kernel
theorem dX12_findStables_22 : decode cX12_findStables 22 = .ok (.aload_n 0, 1) := by decide +kernel
theorem dX12_findStables_23 : decode cX12_findStables 23 = .ok (.getfield 86, 3) := by decide +kernel
theorem dX12_findStables_26 : decode cX12_findStables 26 = .ok (.iload_n 1, 1) := by decide +kernel
theorem dX12_findStables_27 : decode cX12_findStables 27 = .ok (.iconst (-1), 1) := by decide +kernel
theorem dX12_findStables_28 : decode cX12_findStables 28 = .ok (.iastore, 1) := by decide +kernel
theorem dX12_findStables_29 : decode cX12_findStables 29 = .ok (.iinc 1 1, 3) := by decide +kernel
theorem dX12_findStables_32 : decode cX12_findStables 32 = .ok (.goto (-16), 3) := by decide +kernel
theorem dX12_findStables_35 : decode cX12_findStables 35 = .ok (.iconst 0, 1) := by decide +kernel
theorem dX12_findStables_36 : decode cX12_findStables 36 = .ok (.istore_n 1, 1) := by decide +kernel
theorem dX12_findStables_37 : decode cX12_findStables 37 = .ok (.aload_n 0, 1) := by decide +kernel
theorem dX12_findStables_38 : decode cX12_findStables 38 = .ok (.getfield 89, 3) := by decide +kernel
theorem dX12_findStables_41 : decode cX12_findStables 41 = .ok (.iconst 0, 1) := by decide +kernel
theorem dX12_findStables_42 : decode cX12_findStables 42 = .ok (.iconst (-1), 1) := by decide +kernel
theorem dX12_findStables_43 : decode cX12_findStables 43 = .ok (.iastore, 1) := by decide +kernel
theorem dX12_findStables_44 : decode cX12_findStables 44 = .ok (.iload_n 1, 1) := by decide +kernel
theorem dX12_findStables_45 : decode cX12_findStables 45 = .ok (.ifCond .lt 174, 3) := by decide +kernel
theorem dX12_findStables_48 : decode cX12_findStables 48 = .ok (.iload_n 1, 1) := by decide +kernel
theorem dX12_findStables_49 : decode cX12_findStables 49 = .ok (.aload_n 0, 1) := by decide +kernel
theorem dX12_findStables_50 : decode cX12_findStables 50 = .ok (.getfield 92, 3) := by decide +kernel
theorem dX12_findStables_53 : decode cX12_findStables 53 = .ok (.if_icmp .ne 16, 3) := by decide +kernel
theorem dX12_findStables_56 : decode cX12_findStables 56 = .ok (.aload_n 0, 1) := by decide +kernel
theorem dX12_findStables_57 : decode cX12_findStables 57 = .ok (.invokevirtual 195, 3) := by decide +kernel
theorem dX12_findStables_60 : decode cX12_findStables 60 = .ok (.aload_n 0, 1) := by decide +kernel
theorem dX12_findStables_61 : decode cX12_findStables 61 = .ok (.iload_n 1, 1) := by decide +kernel
theorem dX12_findStables_62 : decode cX12_findStables 62 = .ok (.invokevirtual 198, 3) := by decide +kernel
theorem dX12_findStables_65 : decode cX12_findStables 65 = .ok (.istore_n 1, 1) := by decide +kernel
theorem dX12_findStables_66 : decode cX12_findStables 66 = .ok (.goto (-22), 3) := by decide +kernel
theorem dX12_findStables_69 : decode cX12_findStables 69 = .ok (.aload_n 0, 1) := by decide +kernel
theorem dX12_findStables_70 : decode cX12_findStables 70 = .ok (.getfield 86, 3) := by decide +kernel
theorem dX12_findStables_73 : decode cX12_findStables 73 = .ok (.iload_n 1, 1) := by decide +kernel
theorem dX12_findStables_74 : decode cX12_findStables 74 = .ok (.iaload, 1) := by decide +kernel
theorem dX12_findStables_75 : decode cX12_findStables 75 = .ok (.ifCond .lt 22, 3) := by decide +kernel
theorem dX12_findStables_78 : decode cX12_findStables 78 = .ok (.aload_n 0, 1) := by decide +kernel
theorem dX12_findStables_79 : decode cX12_findStables 79 = .ok (.getfield 86, 3) := by decide +kernel
theorem dX12_findStables_82 : decode cX12_findStables 82 = .ok (.aload_n 0, 1) := by decide +kernel
theorem dX12_findStables_83 : decode cX12_findStables 83 = .ok (.getfield 86, 3) := by decide +kernel
theorem dX12_findStables_86 : decode cX12_findStables 86 = .ok (.iload_n 1, 1) := by decide +kernel
theorem dX12_findStables_87 : decode cX12_findStables 87 = .ok (.iaload, 1) := by decide +kernel
theorem dX12_findStables_88 : decode cX12_findStables 88 = .ok (.iconst (-1), 1) := by decide +kernel
theorem dX12_findStables_89 : decode cX12_findStables 89 = .ok (.iastore, 1) := by decide +kernel
theorem dX12_findStables_90 : decode cX12_findStables 90 = .ok (.aload_n 0, 1) := by decide +kernel
theorem dX12_findStables_91 : decode cX12_findStables 91 = .ok (.getfield 86, 3) := by decide +kernel
theorem dX12_findStables_94 : decode cX12_findStables 94 = .ok (.iload_n 1, 1) := by decide +kernel
theorem dX12_findStables_95 : decode cX12_findStables 95 = .ok (.iconst (-1), 1) := by decide +kernel
theorem dX12_findStables_96 : decode cX12_findStables 96 = .ok (.iastore, 1) := by decide +kernel
theorem dX12_findStables_97 : decode cX12_findStables 97 = .ok (.aload_n 0, 1) := by decide +kernel
theorem dX12_findStables_98 : decode cX12_findStables 98 = .ok (.getfield 89, 3) := by decide +kernel
theorem dX12_findStables_101 : decode cX12_findStables 101 = .ok (.iload_n 1, 1) := by decide +kernel
theorem dX12_findStables_102 : decode cX12_findStables 102 = .ok (.iaload, 1) := by decide +kernel
theorem dX12_findStables_103 : decode cX12_findStables 103 = .ok (.ifCond .ge 21, 3) := by decide +kernel
theorem dX12_findStables_106 : decode cX12_findStables 106 = .ok (.aload_n 0, 1) := by decide +kernel
theorem dX12_findStables_107 : decode cX12_findStables 107 = .ok (.getfield 89, 3) := by decide +kernel
theorem dX12_findStables_110 : decode cX12_findStables 110 = .ok (.iload_n 1, 1) := by decide +kernel
theorem dX12_findStables_111 : decode cX12_findStables 111 = .ok (.iload_n 1, 1) := by decide +kernel
theorem dX12_findStables_112 : decode cX12_findStables 112 = .ok (.iastore, 1) := by decide +kernel
theorem dX12_findStables_113 : decode cX12_findStables 113 = .ok (.aload_n 0, 1) := by decide +kernel
theorem dX12_findStables_114 : decode cX12_findStables 114 = .ok (.iload_n 1, 1) := by decide +kernel
theorem dX12_findStables_115 : decode cX12_findStables 115 = .ok (.iconst 1, 1) := by decide +kernel
theorem dX12_findStables_116 : decode cX12_findStables 116 = .ok (.iadd, 1) := by decide +kernel
theorem dX12_findStables_117 : decode cX12_findStables 117 = .ok (.invokevirtual 201, 3) := by decide +kernel
theorem dX12_findStables_120 : decode cX12_findStables 120 = .ok (.istore_n 1, 1) := by decide +kernel
theorem dX12_findStables_121 : decode cX12_findStables 121 = .ok (.goto (-77), 3) := by decide +kernel
theorem dX12_findStables_124 : decode cX12_findStables 124 = .ok (.aload_n 0, 1) := by decide +kernel
theorem dX12_findStables_125 : decode cX12_findStables 125 = .ok (.getfield 89, 3) := by decide +kernel
theorem dX12_findStables_128 : decode cX12_findStables 128 = .ok (.iload_n 1, 1) := by decide +kernel
theorem dX12_findStables_129 : decode cX12_findStables 129 = .ok (.iaload, 1) := by decide +kernel
theorem dX12_findStables_130 : decode cX12_findStables 130 = .ok (.iconst 1, 1) := by decide +kernel
theorem dX12_findStables_131 : decode cX12_findStables 131 = .ok (.iadd, 1) := by decide +kernel
theorem dX12_findStables_132 : decode cX12_findStables 132 = .ok (.istore_n 2, 1) := by decide +kernel
theorem dX12_findStables_133 : decode cX12_findStables 133 = .ok (.iload_n 2, 1) := by decide +kernel
theorem dX12_findStables_134 : decode cX12_findStables 134 = .ok (.aload_n 0, 1) := by decide +kernel
theorem dX12_findStables_135 : decode cX12_findStables 135 = .ok (.getfield 92, 3) := by decide +kernel
theorem dX12_findStables_138 : decode cX12_findStables 138 = .ok (.if_icmp .ge 32, 3) := by decide +kernel
theorem dX12_findStables_141 : decode cX12_findStables 141 = .ok (.aload_n 0, 1) := by decide +kernel
theorem dX12_findStables_142 : decode cX12_findStables 142 = .ok (.getfield 86, 3) := by decide +kernel
theorem dX12_findStables_145 : decode cX12_findStables 145 = .ok (.iload_n 2, 1) := by decide +kernel
theorem dX12_findStables_146 : decode cX12_findStables 146 = .ok (.iaload, 1) := by decide +kernel
theorem dX12_findStables_147 : decode cX12_findStables 147 = .ok (.ifCond .ge 17, 3) := by decide +kernel
theorem dX12_findStables_150 : decode cX12_findStables 150 = .ok (.aload_n 0, 1) := by decide +kernel
theorem dX12_findStables_151 : decode cX12_findStables 151 = .ok (.getfield 83, 3) := by decide +kernel
theorem dX12_findStables_154 : decode cX12_findStables 154 = .ok (.bipush 16, 2) := by decide +kernel
theorem dX12_findStables_156 : decode cX12_findStables 156 = .ok (.iload_n 1, 1) := by decide +kernel
theorem dX12_findStables_157 : decode cX12_findStables 157 = .ok (.imul, 1) := by decide +kernel
theorem dX12_findStables_158 : decode cX12_findStables 158 = .ok (.iload_n 2, 1) := by decide +kernel
theorem dX12_findStables_159 : decode cX12_findStables 159 = .ok (.iadd, 1) := by decide +kernel
theorem dX12_findStables_160 : decode cX12_findStables 160 = .ok (.iaload, 1) := by decide +kernel
theorem dX12_findStables_161 : decode cX12_findStables 161 = .ok (.ifCond .ge 9, 3) := by decide +kernel
theorem dX12_findStables_164 : decode cX12_findStables 164 = .ok (.iinc 2 1, 3) := by decide +kernel
theorem dX12_findStables_167 : decode cX12_findStables 167 = .ok (.goto (-34), 3) := by decide +kernel
theorem dX12_findStables_170 : decode cX12_findStables 170 = .ok (.iload_n 2, 1) := by decide +kernel
theorem dX12_findStables_171 : decode cX12_findStables 171 = .ok (.aload_n 0, 1) := by decide +kernel
theorem dX12_findStables_172 : decode cX12_findStables 172 = .ok (.getfield 92, 3) := by decide +kernel
theorem dX12_findStables_175 : decode cX12_findStables 175 = .ok (.if_icmp .ge 35, 3) := by decide +kernel
theorem dX12_findStables_178 : decode cX12_findStables 178 = .ok (.aload_n 0, 1) := by decide +kernel
theorem dX12_findStables_179 : decode cX12_findStables 179 = .ok (.getfield 89, 3) := by decide +kernel
theorem dX12_findStables_182 : decode cX12_findStables 182 = .ok (.iload_n 1, 1) := by decide +kernel
theorem dX12_findStables_183 : decode cX12_findStables 183 = .ok (.iload_n 2, 1) := by decide +kernel
theorem dX12_findStables_184 : decode cX12_findStables 184 = .ok (.iastore, 1) := by decide +kernel
theorem dX12_findStables_185 : decode cX12_findStables 185 = .ok (.aload_n 0, 1) := by decide +kernel
theorem dX12_findStables_186 : decode cX12_findStables 186 = .ok (.getfield 86, 3) := by decide +kernel
theorem dX12_findStables_189 : decode cX12_findStables 189 = .ok (.iload_n 1, 1) := by decide +kernel
theorem dX12_findStables_190 : decode cX12_findStables 190 = .ok (.iload_n 2, 1) := by decide +kernel
theorem dX12_findStables_191 : decode cX12_findStables 191 = .ok (.iastore, 1) := by decide +kernel
theorem dX12_findStables_192 : decode cX12_findStables 192 = .ok (.aload_n 0, 1) := by decide +kernel
theorem dX12_findStables_193 : decode cX12_findStables 193 = .ok (.getfield 86, 3) := by decide +kernel
theorem dX12_findStables_196 : decode cX12_findStables 196 = .ok (.iload_n 2, 1) := by decide +kernel
theorem dX12_findStables_197 : decode cX12_findStables 197 = .ok (.iload_n 1, 1) := by decide +kernel
theorem dX12_findStables_198 : decode cX12_findStables 198 = .ok (.iastore, 1) := by decide +kernel
theorem dX12_findStables_199 : decode cX12_findStables 199 = .ok (.aload_n 0, 1) := by decide +kernel
theorem dX12_findStables_200 : decode cX12_findStables 200 = .ok (.iload_n 1, 1) := by decide +kernel
theorem dX12_findStables_201 : decode cX12_findStables 201 = .ok (.iconst 1, 1) := by decide +kernel
theorem dX12_findStables_202 : decode cX12_findStables 202 = .ok (.iadd, 1) := by decide +kernel
theorem dX12_findStables_203 : decode cX12_findStables 203 = .ok (.invokevirtual 201, 3) := by decide +kernel
theorem dX12_findStables_206 : decode cX12_findStables 206 = .ok (.istore_n 1, 1) := by decide +kernel
theorem dX12_findStables_207 : decode cX12_findStables 207 = .ok (.goto 9, 3) := by decide +kernel
theorem dX12_findStables_210 : decode cX12_findStables 210 = .ok (.aload_n 0, 1) := by decide +kernel
theorem dX12_findStables_211 : decode cX12_findStables 211 = .ok (.iload_n 1, 1) := by decide +kernel
theorem dX12_findStables_212 : decode cX12_findStables 212 = .ok (.invokevirtual 198, 3) := by decide +kernel
theorem dX12_findStables_215 : decode cX12_findStables 215 = .ok (.istore_n 1, 1) := by decide +kernel
theorem dX12_findStables_216 : decode cX12_findStables 216 = .ok (.goto (-172), 3) := by decide +kernel
theorem dX12_findStables_219 : decode cX12_findStables 219 = .ok (.return_, 1) := by decide +kernel
theorem dX12_onward_0 : decode cX12_onward 0 = .ok (.iload_n 1, 1) := by decide +kernel
theorem dX12_onward_1 : decode cX12_onward 1 = .ok (.istore_n 2, 1) := by decide +kernel
theorem dX12_onward_2 : decode cX12_onward 2 = .ok (.iload_n 2, 1) := by decide +kernel
theorem dX12_onward_3 : decode cX12_onward 3 = .ok (.aload_n 0, 1) := by decide +kernel
theorem dX12_onward_4 : decode cX12_onward 4 = .ok (.getfield 92, 3) := by decide +kernel
theorem dX12_onward_7 : decode cX12_onward 7 = .ok (.if_icmp .ge 28, 3) := by decide +kernel
theorem dX12_onward_10 : decode cX12_onward 10 = .ok (.aload_n 0, 1) := by decide +kernel
theorem dX12_onward_11 : decode cX12_onward 11 = .ok (.getfield 86, 3) := by decide +kernel
theorem dX12_onward_14 : decode cX12_onward 14 = .ok (.iload_n 2, 1) := by decide +kernel
theorem dX12_onward_15 : decode cX12_onward 15 = .ok (.iaload, 1) := by decide +kernel
theorem dX12_onward_16 : decode cX12_onward 16 = .ok (.ifCond .lt 19, 3) := by decide +kernel
theorem dX12_onward_19 : decode cX12_onward 19 = .ok (.aload_n 0, 1) := by decide +kernel
theorem dX12_onward_20 : decode cX12_onward 20 = .ok (.getfield 86, 3) := by decide +kernel
theorem dX12_onward_23 : decode cX12_onward 23 = .ok (.iload_n 2, 1) := by decide +kernel
theorem dX12_onward_24 : decode cX12_onward 24 = .ok (.iaload, 1) := by decide +kernel
theorem dX12_onward_25 : decode cX12_onward 25 = .ok (.iload_n 2, 1) := by decide +kernel
theorem dX12_onward_26 : decode cX12_onward 26 = .ok (.if_icmp .ge 9, 3) := by decide +kernel
theorem dX12_onward_29 : decode cX12_onward 29 = .ok (.iinc 2 1, 3) := by decide +kernel
theorem dX12_onward_32 : decode cX12_onward 32 = .ok (.goto (-30), 3) := by decide +kernel
theorem dX12_onward_35 : decode cX12_onward 35 = .ok (.iload_n 2, 1) := by decide +kernel
theorem dX12_onward_36 : decode cX12_onward 36 = .ok (.aload_n 0, 1) := by decide +kernel
theorem dX12_onward_37 : decode cX12_onward 37 = .ok (.getfield 92, 3) := by decide +kernel
theorem dX12_onward_40 : decode cX12_onward 40 = .ok (.if_icmp .ge 10, 3) := by decide +kernel
theorem dX12_onward_43 : decode cX12_onward 43 = .ok (.aload_n 0, 1) := by decide +kernel
theorem dX12_onward_44 : decode cX12_onward 44 = .ok (.getfield 89, 3) := by decide +kernel
theorem dX12_onward_47 : decode cX12_onward 47 = .ok (.iload_n 2, 1) := by decide +kernel
theorem dX12_onward_48 : decode cX12_onward 48 = .ok (.iconst (-1), 1) := by decide +kernel
theorem dX12_onward_49 : decode cX12_onward 49 = .ok (.iastore, 1) := by decide +kernel
theorem dX12_onward_50 : decode cX12_onward 50 = .ok (.iload_n 2, 1) := by decide +kernel
theorem dX12_onward_51 : decode cX12_onward 51 = .ok (.ireturn, 1) := by decide +kernel
theorem dX12_back_0 : decode cX12_back 0 = .ok (.iload_n 1, 1) := by decide +kernel
theorem dX12_back_1 : decode cX12_back 1 = .ok (.iconst 1, 1) := by decide +kernel
theorem dX12_back_2 : decode cX12_back 2 = .ok (.isub, 1) := by decide +kernel
theorem dX12_back_3 : decode cX12_back 3 = .ok (.istore_n 2, 1) := by decide +kernel
theorem dX12_back_4 : decode cX12_back 4 = .ok (.iload_n 2, 1) := by decide +kernel
theorem dX12_back_5 : decode cX12_back 5 = .ok (.ifCond .lt 28, 3) := by decide +kernel
theorem dX12_back_8 : decode cX12_back 8 = .ok (.aload_n 0, 1) := by decide +kernel
theorem dX12_back_9 : decode cX12_back 9 = .ok (.getfield 86, 3) := by decide +kernel
theorem dX12_back_12 : decode cX12_back 12 = .ok (.iload_n 2, 1) := by decide +kernel
theorem dX12_back_13 : decode cX12_back 13 = .ok (.iaload, 1) := by decide +kernel
theorem dX12_back_14 : decode cX12_back 14 = .ok (.ifCond .lt 19, 3) := by decide +kernel
theorem dX12_back_17 : decode cX12_back 17 = .ok (.aload_n 0, 1) := by decide +kernel
theorem dX12_back_18 : decode cX12_back 18 = .ok (.getfield 86, 3) := by decide +kernel
theorem dX12_back_21 : decode cX12_back 21 = .ok (.iload_n 2, 1) := by decide +kernel
theorem dX12_back_22 : decode cX12_back 22 = .ok (.iaload, 1) := by decide +kernel
theorem dX12_back_23 : decode cX12_back 23 = .ok (.iload_n 2, 1) := by decide +kernel
theorem dX12_back_24 : decode cX12_back 24 = .ok (.if_icmp .ge 9, 3) := by decide +kernel
theorem dX12_back_27 : decode cX12_back 27 = .ok (.iinc 2 (-1), 3) := by decide +kernel
theorem dX12_back_30 : decode cX12_back 30 = .ok (.goto (-26), 3) := by decide +kernel
theorem dX12_back_33 : decode cX12_back 33 = .ok (.iload_n 2, 1) := by decide +kernel
theorem dX12_back_34 : decode cX12_back 34 = .ok (.ireturn, 1) := by decide +kernel
set_option maxRecDepth 20000 in
theorem ggX12_stable_X12_findStables : GoodIn wsX12_stable wsX12_findStables := goodIn_r _ [7, 2, 8, 9, 10, 1, 11, 12, 13, 14, 6, 15, 16, 17, 18, 19, 20, 21, 22, 23, 24, 25, 26, 27, 28, 29, 30, 31, 32, 33, 34, 35, 36, 37, 38, 39, 40, 41, 42, 43, 44, 45, 46, 47, 48, 49, 50, 51, 52, 53, 54, 55, 56, 57, 58, 59, 60, 61, 62, 63, 64, 65, 66, 67, 68, 69, 70, 71, 72, 73] rfl (by decide +kernel)
set_option maxRecDepth 20000 in
theorem gX12_stable_X12_findStables : GoodIn wsX12_stable (wsV RX12 204 RX12 yX12_findStables wsX12_findStables) := goodIn_app (goodIn_of _ (by decide +kernel)) ggX12_stable_X12_findStables
theorem dX12_stable_0 : decode cX12_stable 0 = .ok (.aload_n 0, 1) := by decide +kernel
theorem dX12_stable_1 : decode cX12_stable 1 = .ok (.getfield 92, 3) := by decide +kernel
theorem dX12_stable_4 : decode cX12_stable 4 = .ok (.bipush 12, 2) := by decide +kernel
theorem dX12_stable_6 : decode cX12_stable 6 = .ok (.if_icmp .le 6, 3) := by decide +kernel
theorem dX12_stable_9 : decode cX12_stable 9 = .ok (.bipush (-4), 2) := by decide +kernel
theorem dX12_stable_11 : decode cX12_stable 11 = .ok (.ireturn, 1) := by decide +kernel
theorem dX12_stable_12 : decode cX12_stable 12 = .ok (.aload_n 0, 1) := by decide +kernel
theorem dX12_stable_13 : decode cX12_stable 13 = .ok (.invokevirtual 204, 3) := by decide +kernel
theorem dX12_stable_16 : decode cX12_stable 16 = .ok (.aload_n 0, 1) := by decide +kernel
theorem dX12_stable_17 : decode cX12_stable 17 = .ok (.getfield 189, 3) := by decide +kernel
theorem dX12_stable_20 : decode cX12_stable 20 = .ok (.ireturn, 1) := by decide +kernel
set_option maxRecDepth 20000 in
theorem ggX12_stableMate_X12_isNode : GoodIn wsX12_stableMate wsX12_isNode := goodIn_r _ [11, 1, 41, 42, 43, 44, 45, 46, 47, 48, 49, 50, 51, 52, 53, 54, 55, 56, 57, 58, 59, 60, 61, 62, 63, 64, 65, 66, 67, 68, 69, 70, 71, 72, 73, 74, 75, 76, 77] rfl (by decide +kernel)
set_option maxRecDepth 20000 in
theorem gX12_stableMate_X12_isNode : GoodIn wsX12_stableMate (wsV RX12 169 RX12 yX12_isNode wsX12_isNode) := goodIn_app (goodIn_of _ (by decide +kernel)) ggX12_stableMate_X12_isNode
set_option maxRecDepth 20000 in
theorem ggX12_stableMate_X12_findStables : GoodIn wsX12_stableMate wsX12_findStables := goodIn_r _ [15, 2, 4, 16, 17, 1, 18, 19, 20, 21, 10, 22, 3, 5, 6, 23, 24, 25, 26, 27, 28, 29, 30, 31, 32, 33, 34, 35, 36, 37, 38, 39, 40, 41, 42, 43, 44, 45, 46, 47, 48, 49, 50, 51, 52, 53, 54, 55, 56, 57, 58, 59, 60, 61, 62, 63, 64, 65, 66, 67, 68, 69, 70, 71, 72, 73, 74, 75, 76, 77] rfl (by decide +kernel)
set_option maxRecDepth 20000 in
theorem gX12_stableMate_X12_findStables : GoodIn wsX12_stableMate (wsV RX12 204 RX12 yX12_findStables wsX12_findStables) := goodIn_app (goodIn_of _ (by decide +kernel)) ggX12_stableMate_X12_findStables
theorem dX12_stableMate_0 : decode cX12_stableMate 0 = .ok (.aload_n 0, 1) := by decide +kernel
theorem dX12_stableMate_1 : decode cX12_stableMate 1 = .ok (.iload_n 1, 1) := by decide +kernel
theorem dX12_stableMate_2 : decode cX12_stableMate 2 = .ok (.invokevirtual 169, 3) := by decide +kernel
theorem dX12_stableMate_5 : decode cX12_stableMate 5 = .ok (.ifCond .ne 5, 3) := by decide +kernel
theorem dX12_stableMate_8 : decode cX12_stableMate 8 = .ok (.iconst (-1), 1) := by decide +kernel
theorem dX12_stableMate_9 : decode cX12_stableMate 9 = .ok (.ireturn, 1) := by decide +kernel
theorem dX12_stableMate_10 : decode cX12_stableMate 10 = .ok (.aload_n 0, 1) := by decide +kernel
theorem dX12_stableMate_11 : decode cX12_stableMate 11 = .ok (.getfield 92, 3) := by decide +kernel
theorem dX12_stableMate_14 : decode cX12_stableMate 14 = .ok (.bipush 12, 2) := by decide +kernel
theorem dX12_stableMate_16 : decode cX12_stableMate 16 = .ok (.if_icmp .le 6, 3) := by decide +kernel
theorem dX12_stableMate_19 : decode cX12_stableMate 19 = .ok (.bipush (-4), 2) := by decide +kernel
theorem dX12_stableMate_21 : decode cX12_stableMate 21 = .ok (.ireturn, 1) := by decide +kernel
theorem dX12_stableMate_22 : decode cX12_stableMate 22 = .ok (.aload_n 0, 1) := by decide +kernel
theorem dX12_stableMate_23 : decode cX12_stableMate 23 = .ok (.invokevirtual 204, 3) := by decide +kernel
theorem dX12_stableMate_26 : decode cX12_stableMate 26 = .ok (.aload_n 0, 1) := by decide +kernel
theorem dX12_stableMate_27 : decode cX12_stableMate 27 = .ok (.getfield 189, 3) := by decide +kernel
theorem dX12_stableMate_30 : decode cX12_stableMate 30 = .ok (.ifCond .ne 6, 3) := by decide +kernel
theorem dX12_stableMate_33 : decode cX12_stableMate 33 = .ok (.bipush (-3), 2) := by decide +kernel
theorem dX12_stableMate_35 : decode cX12_stableMate 35 = .ok (.ireturn, 1) := by decide +kernel
theorem dX12_stableMate_36 : decode cX12_stableMate 36 = .ok (.iconst 0, 1) := by decide +kernel
theorem dX12_stableMate_37 : decode cX12_stableMate 37 = .ok (.istore_n 2, 1) := by decide +kernel
theorem dX12_stableMate_38 : decode cX12_stableMate 38 = .ok (.iload_n 2, 1) := by decide +kernel
theorem dX12_stableMate_39 : decode cX12_stableMate 39 = .ok (.aload_n 0, 1) := by decide +kernel
theorem dX12_stableMate_40 : decode cX12_stableMate 40 = .ok (.getfield 97, 3) := by decide +kernel
theorem dX12_stableMate_43 : decode cX12_stableMate 43 = .ok (.if_icmp .ge 44, 3) := by decide +kernel
theorem dX12_stableMate_46 : decode cX12_stableMate 46 = .ok (.aload_n 0, 1) := by decide +kernel
theorem dX12_stableMate_47 : decode cX12_stableMate 47 = .ok (.getfield 185, 3) := by decide +kernel
theorem dX12_stableMate_50 : decode cX12_stableMate 50 = .ok (.iload_n 2, 1) := by decide +kernel
theorem dX12_stableMate_51 : decode cX12_stableMate 51 = .ok (.lshr, 1) := by decide +kernel
theorem dX12_stableMate_52 : decode cX12_stableMate 52 = .ok (.lconst 1, 1) := by decide +kernel
theorem dX12_stableMate_53 : decode cX12_stableMate 53 = .ok (.land, 1) := by decide +kernel
theorem dX12_stableMate_54 : decode cX12_stableMate 54 = .ok (.lconst 1, 1) := by decide +kernel
theorem dX12_stableMate_55 : decode cX12_stableMate 55 = .ok (.lcmp, 1) := by decide +kernel
theorem dX12_stableMate_56 : decode cX12_stableMate 56 = .ok (.ifCond .ne 25, 3) := by decide +kernel
theorem dX12_stableMate_59 : decode cX12_stableMate 59 = .ok (.aload_n 0, 1) := by decide +kernel
theorem dX12_stableMate_60 : decode cX12_stableMate 60 = .ok (.getfield 7, 3) := by decide +kernel
theorem dX12_stableMate_63 : decode cX12_stableMate 63 = .ok (.iload_n 2, 1) := by decide +kernel
theorem dX12_stableMate_64 : decode cX12_stableMate 64 = .ok (.iaload, 1) := by decide +kernel
theorem dX12_stableMate_65 : decode cX12_stableMate 65 = .ok (.iload_n 1, 1) := by decide +kernel
theorem dX12_stableMate_66 : decode cX12_stableMate 66 = .ok (.if_icmp .eq 13, 3) := by decide +kernel
theorem dX12_stableMate_69 : decode cX12_stableMate 69 = .ok (.aload_n 0, 1) := by decide +kernel
theorem dX12_stableMate_70 : decode cX12_stableMate 70 = .ok (.getfield 13, 3) := by decide +kernel
theorem dX12_stableMate_73 : decode cX12_stableMate 73 = .ok (.iload_n 2, 1) := by decide +kernel
theorem dX12_stableMate_74 : decode cX12_stableMate 74 = .ok (.iaload, 1) := by decide +kernel
theorem dX12_stableMate_75 : decode cX12_stableMate 75 = .ok (.iload_n 1, 1) := by decide +kernel
theorem dX12_stableMate_76 : decode cX12_stableMate 76 = .ok (.if_icmp .ne 5, 3) := by decide +kernel
theorem dX12_stableMate_79 : decode cX12_stableMate 79 = .ok (.iload_n 2, 1) := by decide +kernel
theorem dX12_stableMate_80 : decode cX12_stableMate 80 = .ok (.ireturn, 1) := by decide +kernel
theorem dX12_stableMate_81 : decode cX12_stableMate 81 = .ok (.iinc 2 1, 3) := by decide +kernel
theorem dX12_stableMate_84 : decode cX12_stableMate 84 = .ok (.goto (-46), 3) := by decide +kernel
theorem dX12_stableMate_87 : decode cX12_stableMate 87 = .ok (.bipush (-3), 2) := by decide +kernel
theorem dX12_stableMate_89 : decode cX12_stableMate 89 = .ok (.ireturn, 1) := by decide +kernel
