theorem dX12_init_0 : decode cX12_init 0 = .ok (.aload_n 0, 1) := by decide +kernel
theorem dX12_init_1 : decode cX12_init 1 = .ok (.invokespecial 1, 3) := by decide +kernel
theorem dX12_init_4 : decode cX12_init 4 = .ok (.aload_n 0, 1) := by decide +kernel
theorem dX12_init_5 : decode cX12_init 5 = .ok (.bipush 60, 2) := by decide +kernel
theorem dX12_init_7 : decode cX12_init 7 = .ok (.newarray .int, 2) := by decide +kernel
theorem dX12_init_9 : decode cX12_init 9 = .ok (.putfield 7, 3) := by decide +kernel
theorem dX12_init_12 : decode cX12_init 12 = .ok (.aload_n 0, 1) := by decide +kernel
theorem dX12_init_13 : decode cX12_init 13 = .ok (.bipush 60, 2) := by decide +kernel
theorem dX12_init_15 : decode cX12_init 15 = .ok (.newarray .int, 2) := by decide +kernel
theorem dX12_init_17 : decode cX12_init 17 = .ok (.putfield 13, 3) := by decide +kernel
theorem dX12_init_20 : decode cX12_init 20 = .ok (.aload_n 0, 1) := by decide +kernel
theorem dX12_init_21 : decode cX12_init 21 = .ok (.bipush 60, 2) := by decide +kernel
theorem dX12_init_23 : decode cX12_init 23 = .ok (.newarray .int, 2) := by decide +kernel
theorem dX12_init_25 : decode cX12_init 25 = .ok (.putfield 16, 3) := by decide +kernel
theorem dX12_init_28 : decode cX12_init 28 = .ok (.aload_n 0, 1) := by decide +kernel
theorem dX12_init_29 : decode cX12_init 29 = .ok (.bipush 60, 2) := by decide +kernel
theorem dX12_init_31 : decode cX12_init 31 = .ok (.newarray .boolean, 2) := by decide +kernel
theorem dX12_init_33 : decode cX12_init 33 = .ok (.putfield 19, 3) := by decide +kernel
theorem dX12_init_36 : decode cX12_init 36 = .ok (.aload_n 0, 1) := by decide +kernel
theorem dX12_init_37 : decode cX12_init 37 = .ok (.sipush 256, 3) := by decide +kernel
theorem dX12_init_40 : decode cX12_init 40 = .ok (.newarray .int, 2) := by decide +kernel
theorem dX12_init_42 : decode cX12_init 42 = .ok (.putfield 23, 3) := by decide +kernel
theorem dX12_init_45 : decode cX12_init 45 = .ok (.aload_n 0, 1) := by decide +kernel
theorem dX12_init_46 : decode cX12_init 46 = .ok (.ldc 26, 2) := by decide +kernel
theorem dX12_init_48 : decode cX12_init 48 = .ok (.newarray .int, 2) := by decide +kernel
theorem dX12_init_50 : decode cX12_init 50 = .ok (.putfield 27, 3) := by decide +kernel
theorem dX12_init_53 : decode cX12_init 53 = .ok (.aload_n 0, 1) := by decide +kernel
theorem dX12_init_54 : decode cX12_init 54 = .ok (.ldc 26, 2) := by decide +kernel
theorem dX12_init_56 : decode cX12_init 56 = .ok (.newarray .byte, 2) := by decide +kernel
theorem dX12_init_58 : decode cX12_init 58 = .ok (.putfield 30, 3) := by decide +kernel
theorem dX12_init_61 : decode cX12_init 61 = .ok (.aload_n 0, 1) := by decide +kernel
theorem dX12_init_62 : decode cX12_init 62 = .ok (.ldc 26, 2) := by decide +kernel
theorem dX12_init_64 : decode cX12_init 64 = .ok (.newarray .byte, 2) := by decide +kernel
theorem dX12_init_66 : decode cX12_init 66 = .ok (.putfield 34, 3) := by decide +kernel
theorem dX12_init_69 : decode cX12_init 69 = .ok (.aload_n 0, 1) := by decide +kernel
theorem dX12_init_70 : decode cX12_init 70 = .ok (.sipush 256, 3) := by decide +kernel
theorem dX12_init_73 : decode cX12_init 73 = .ok (.newarray .int, 2) := by decide +kernel
theorem dX12_init_75 : decode cX12_init 75 = .ok (.putfield 37, 3) := by decide +kernel
theorem dX12_init_78 : decode cX12_init 78 = .ok (.aload_n 0, 1) := by decide +kernel
theorem dX12_init_79 : decode cX12_init 79 = .ok (.sipush 256, 3) := by decide +kernel
theorem dX12_init_82 : decode cX12_init 82 = .ok (.newarray .int, 2) := by decide +kernel
theorem dX12_init_84 : decode cX12_init 84 = .ok (.putfield 40, 3) := by decide +kernel
theorem dX12_init_87 : decode cX12_init 87 = .ok (.aload_n 0, 1) := by decide +kernel
theorem dX12_init_88 : decode cX12_init 88 = .ok (.bipush 64, 2) := by decide +kernel
theorem dX12_init_90 : decode cX12_init 90 = .ok (.newarray .int, 2) := by decide +kernel
theorem dX12_init_92 : decode cX12_init 92 = .ok (.putfield 43, 3) := by decide +kernel
theorem dX12_init_95 : decode cX12_init 95 = .ok (.aload_n 0, 1) := by decide +kernel
theorem dX12_init_96 : decode cX12_init 96 = .ok (.iconst 4, 1) := by decide +kernel
theorem dX12_init_97 : decode cX12_init 97 = .ok (.newarray .int, 2) := by decide +kernel
theorem dX12_init_99 : decode cX12_init 99 = .ok (.putfield 46, 3) := by decide +kernel
theorem dX12_init_102 : decode cX12_init 102 = .ok (.aload_n 0, 1) := by decide +kernel
theorem dX12_init_103 : decode cX12_init 103 = .ok (.iconst 4, 1) := by decide +kernel
theorem dX12_init_104 : decode cX12_init 104 = .ok (.newarray .int, 2) := by decide +kernel
theorem dX12_init_106 : decode cX12_init 106 = .ok (.putfield 49, 3) := by decide +kernel
theorem dX12_init_109 : decode cX12_init 109 = .ok (.aload_n 0, 1) := by decide +kernel
theorem dX12_init_110 : decode cX12_init 110 = .ok (.iconst 4, 1) := by decide +kernel
theorem dX12_init_111 : decode cX12_init 111 = .ok (.newarray .boolean, 2) := by decide +kernel
theorem dX12_init_113 : decode cX12_init 113 = .ok (.putfield 52, 3) := by decide +kernel
theorem dX12_init_116 : decode cX12_init 116 = .ok (.aload_n 0, 1) := by decide +kernel
theorem dX12_init_117 : decode cX12_init 117 = .ok (.bipush 16, 2) := by decide +kernel
theorem dX12_init_119 : decode cX12_init 119 = .ok (.newarray .int, 2) := by decide +kernel
theorem dX12_init_121 : decode cX12_init 121 = .ok (.putfield 55, 3) := by decide +kernel
theorem dX12_init_124 : decode cX12_init 124 = .ok (.aload_n 0, 1) := by decide +kernel
theorem dX12_init_125 : decode cX12_init 125 = .ok (.bipush 16, 2) := by decide +kernel
theorem dX12_init_127 : decode cX12_init 127 = .ok (.newarray .int, 2) := by decide +kernel
theorem dX12_init_129 : decode cX12_init 129 = .ok (.putfield 58, 3) := by decide +kernel
theorem dX12_init_132 : decode cX12_init 132 = .ok (.aload_n 0, 1) := by decide +kernel
theorem dX12_init_133 : decode cX12_init 133 = .ok (.bipush 60, 2) := by decide +kernel
theorem dX12_init_135 : decode cX12_init 135 = .ok (.newarray .boolean, 2) := by decide +kernel
theorem dX12_init_137 : decode cX12_init 137 = .ok (.putfield 61, 3) := by decide +kernel
theorem dX12_init_140 : decode cX12_init 140 = .ok (.aload_n 0, 1) := by decide +kernel
theorem dX12_init_141 : decode cX12_init 141 = .ok (.ldc 26, 2) := by decide +kernel
theorem dX12_init_143 : decode cX12_init 143 = .ok (.newarray .int, 2) := by decide +kernel
theorem dX12_init_145 : decode cX12_init 145 = .ok (.putfield 64, 3) := by decide +kernel
theorem dX12_init_148 : decode cX12_init 148 = .ok (.aload_n 0, 1) := by decide +kernel
theorem dX12_init_149 : decode cX12_init 149 = .ok (.bipush 60, 2) := by decide +kernel
theorem dX12_init_151 : decode cX12_init 151 = .ok (.newarray .boolean, 2) := by decide +kernel
theorem dX12_init_153 : decode cX12_init 153 = .ok (.putfield 67, 3) := by decide +kernel
theorem dX12_init_156 : decode cX12_init 156 = .ok (.aload_n 0, 1) := by decide +kernel
theorem dX12_init_157 : decode cX12_init 157 = .ok (.bipush 16, 2) := by decide +kernel
theorem dX12_init_159 : decode cX12_init 159 = .ok (.newarray .int, 2) := by decide +kernel
theorem dX12_init_161 : decode cX12_init 161 = .ok (.putfield 70, 3) := by decide +kernel
theorem dX12_init_164 : decode cX12_init 164 = .ok (.aload_n 0, 1) := by decide +kernel
theorem dX12_init_165 : decode cX12_init 165 = .ok (.sipush 256, 3) := by decide +kernel
theorem dX12_init_168 : decode cX12_init 168 = .ok (.newarray .int, 2) := by decide +kernel
theorem dX12_init_170 : decode cX12_init 170 = .ok (.putfield 73, 3) := by decide +kernel
theorem dX12_init_173 : decode cX12_init 173 = .ok (.aload_n 0, 1) := by decide +kernel
theorem dX12_init_174 : decode cX12_init 174 = .ok (.ldc 26, 2) := by decide +kernel
theorem dX12_init_176 : decode cX12_init 176 = .ok (.newarray .long, 2) := by decide +kernel
theorem dX12_init_178 : decode cX12_init 178 = .ok (.putfield 76, 3) := by decide +kernel
theorem dX12_init_181 : decode cX12_init 181 = .ok (.aload_n 0, 1) := by decide +kernel
theorem dX12_init_182 : decode cX12_init 182 = .ok (.ldc 26, 2) := by decide +kernel
theorem dX12_init_184 : decode cX12_init 184 = .ok (.newarray .long, 2) := by decide +kernel
theorem dX12_init_186 : decode cX12_init 186 = .ok (.putfield 80, 3) := by decide +kernel
theorem dX12_init_189 : decode cX12_init 189 = .ok (.aload_n 0, 1) := by decide +kernel
theorem dX12_init_190 : decode cX12_init 190 = .ok (.sipush 256, 3) := by decide +kernel
theorem dX12_init_193 : decode cX12_init 193 = .ok (.newarray .int, 2) := by decide +kernel
theorem dX12_init_195 : decode cX12_init 195 = .ok (.putfield 83, 3) := by decide +kernel
theorem dX12_init_198 : decode cX12_init 198 = .ok (.aload_n 0, 1) := by decide +kernel
theorem dX12_init_199 : decode cX12_init 199 = .ok (.bipush 16, 2) := by decide +kernel
theorem dX12_init_201 : decode cX12_init 201 = .ok (.newarray .int, 2) := by decide +kernel
theorem dX12_init_203 : decode cX12_init 203 = .ok (.putfield 86, 3) := by decide +kernel
theorem dX12_init_206 : decode cX12_init 206 = .ok (.aload_n 0, 1) := by decide +kernel
theorem dX12_init_207 : decode cX12_init 207 = .ok (.bipush 17, 2) := by decide +kernel
theorem dX12_init_209 : decode cX12_init 209 = .ok (.newarray .int, 2) := by decide +kernel
theorem dX12_init_211 : decode cX12_init 211 = .ok (.putfield 89, 3) := by decide +kernel
theorem dX12_init_214 : decode cX12_init 214 = .ok (.return_, 1) := by decide +kernel
theorem dX12_bits_0 : decode cX12_bits 0 = .ok (.iconst 0, 1) := by decide +kernel
theorem dX12_bits_1 : decode cX12_bits 1 = .ok (.istore_n 1, 1) := by decide +kernel
theorem dX12_bits_2 : decode cX12_bits 2 = .ok (.iconst 0, 1) := by decide +kernel
theorem dX12_bits_3 : decode cX12_bits 3 = .ok (.istore_n 2, 1) := by decide +kernel
theorem dX12_bits_4 : decode cX12_bits 4 = .ok (.iload_n 2, 1) := by decide +kernel
theorem dX12_bits_5 : decode cX12_bits 5 = .ok (.bipush 16, 2) := by decide +kernel
theorem dX12_bits_7 : decode cX12_bits 7 = .ok (.if_icmp .ge 17, 3) := by decide +kernel
theorem dX12_bits_10 : decode cX12_bits 10 = .ok (.iload_n 1, 1) := by decide +kernel
theorem dX12_bits_11 : decode cX12_bits 11 = .ok (.iload_n 0, 1) := by decide +kernel
theorem dX12_bits_12 : decode cX12_bits 12 = .ok (.iload_n 2, 1) := by decide +kernel
theorem dX12_bits_13 : decode cX12_bits 13 = .ok (.ishr, 1) := by decide +kernel
theorem dX12_bits_14 : decode cX12_bits 14 = .ok (.iconst 1, 1) := by decide +kernel
theorem dX12_bits_15 : decode cX12_bits 15 = .ok (.iand, 1) := by decide +kernel
theorem dX12_bits_16 : decode cX12_bits 16 = .ok (.iadd, 1) := by decide +kernel
theorem dX12_bits_17 : decode cX12_bits 17 = .ok (.istore_n 1, 1) := by decide +kernel
theorem dX12_bits_18 : decode cX12_bits 18 = .ok (.iinc 2 1, 3) := by decide +kernel
theorem dX12_bits_21 : decode cX12_bits 21 = .ok (.goto (-17), 3) := by decide +kernel
theorem dX12_bits_24 : decode cX12_bits 24 = .ok (.iload_n 1, 1) := by decide +kernel
theorem dX12_bits_25 : decode cX12_bits 25 = .ok (.ireturn, 1) := by decide +kernel
theorem dX12_least_0 : decode cX12_least 0 = .ok (.iconst 0, 1) := by decide +kernel
theorem dX12_least_1 : decode cX12_least 1 = .ok (.istore_n 1, 1) := by decide +kernel
theorem dX12_least_2 : decode cX12_least 2 = .ok (.iload_n 0, 1) := by decide +kernel
theorem dX12_least_3 : decode cX12_least 3 = .ok (.iload_n 1, 1) := by decide +kernel
theorem dX12_least_4 : decode cX12_least 4 = .ok (.ishr, 1) := by decide +kernel
theorem dX12_least_5 : decode cX12_least 5 = .ok (.iconst 1, 1) := by decide +kernel
theorem dX12_least_6 : decode cX12_least 6 = .ok (.iand, 1) := by decide +kernel
theorem dX12_least_7 : decode cX12_least 7 = .ok (.ifCond .ne 9, 3) := by decide +kernel
theorem dX12_least_10 : decode cX12_least 10 = .ok (.iinc 1 1, 3) := by decide +kernel
theorem dX12_least_13 : decode cX12_least 13 = .ok (.goto (-11), 3) := by decide +kernel
theorem dX12_least_16 : decode cX12_least 16 = .ok (.iload_n 1, 1) := by decide +kernel
theorem dX12_least_17 : decode cX12_least 17 = .ok (.ireturn, 1) := by decide +kernel
theorem dX12_all_0 : decode cX12_all 0 = .ok (.iconst 1, 1) := by decide +kernel
theorem dX12_all_1 : decode cX12_all 1 = .ok (.aload_n 0, 1) := by decide +kernel
theorem dX12_all_2 : decode cX12_all 2 = .ok (.getfield 92, 3) := by decide +kernel
theorem dX12_all_5 : decode cX12_all 5 = .ok (.ishl, 1) := by decide +kernel
theorem dX12_all_6 : decode cX12_all 6 = .ok (.iconst 1, 1) := by decide +kernel
theorem dX12_all_7 : decode cX12_all 7 = .ok (.isub, 1) := by decide +kernel
theorem dX12_all_8 : decode cX12_all 8 = .ok (.ireturn, 1) := by decide +kernel
theorem dX12_valueOf_0 : decode cX12_valueOf 0 = .ok (.iload_n 1, 1) := by decide +kernel
theorem dX12_valueOf_1 : decode cX12_valueOf 1 = .ok (.ifCond .ne 7, 3) := by decide +kernel
theorem dX12_valueOf_4 : decode cX12_valueOf 4 = .ok (.iconst 1, 1) := by decide +kernel
theorem dX12_valueOf_5 : decode cX12_valueOf 5 = .ok (.goto 43, 3) := by decide +kernel
theorem dX12_valueOf_8 : decode cX12_valueOf 8 = .ok (.iload_n 1, 1) := by decide +kernel
theorem dX12_valueOf_9 : decode cX12_valueOf 9 = .ok (.iconst 1, 1) := by decide +kernel
theorem dX12_valueOf_10 : decode cX12_valueOf 10 = .ok (.if_icmp .ne 17, 3) := by decide +kernel
theorem dX12_valueOf_13 : decode cX12_valueOf 13 = .ok (.aload_n 0, 1) := by decide +kernel
theorem dX12_valueOf_14 : decode cX12_valueOf 14 = .ok (.getfield 16, 3) := by decide +kernel
theorem dX12_valueOf_17 : decode cX12_valueOf 17 = .ok (.iload_n 2, 1) := by decide +kernel
theorem dX12_valueOf_18 : decode cX12_valueOf 18 = .ok (.iaload, 1) := by decide +kernel
theorem dX12_valueOf_19 : decode cX12_valueOf 19 = .ok (.bipush 100, 2) := by decide +kernel
theorem dX12_valueOf_21 : decode cX12_valueOf 21 = .ok (.imul, 1) := by decide +kernel
theorem dX12_valueOf_22 : decode cX12_valueOf 22 = .ok (.iconst 1, 1) := by decide +kernel
theorem dX12_valueOf_23 : decode cX12_valueOf 23 = .ok (.isub, 1) := by decide +kernel
theorem dX12_valueOf_24 : decode cX12_valueOf 24 = .ok (.goto 24, 3) := by decide +kernel
theorem dX12_valueOf_27 : decode cX12_valueOf 27 = .ok (.iload_n 1, 1) := by decide +kernel
theorem dX12_valueOf_28 : decode cX12_valueOf 28 = .ok (.iconst 2, 1) := by decide +kernel
theorem dX12_valueOf_29 : decode cX12_valueOf 29 = .ok (.if_icmp .ne 13, 3) := by decide +kernel
theorem dX12_valueOf_32 : decode cX12_valueOf 32 = .ok (.aload_n 0, 1) := by decide +kernel
theorem dX12_valueOf_33 : decode cX12_valueOf 33 = .ok (.getfield 16, 3) := by decide +kernel
theorem dX12_valueOf_36 : decode cX12_valueOf 36 = .ok (.iload_n 2, 1) := by decide +kernel
theorem dX12_valueOf_37 : decode cX12_valueOf 37 = .ok (.iaload, 1) := by decide +kernel
theorem dX12_valueOf_38 : decode cX12_valueOf 38 = .ok (.ineg, 1) := by decide +kernel
theorem dX12_valueOf_39 : decode cX12_valueOf 39 = .ok (.goto 9, 3) := by decide +kernel
theorem dX12_valueOf_42 : decode cX12_valueOf 42 = .ok (.aload_n 0, 1) := by decide +kernel
theorem dX12_valueOf_43 : decode cX12_valueOf 43 = .ok (.getfield 16, 3) := by decide +kernel
theorem dX12_valueOf_46 : decode cX12_valueOf 46 = .ok (.iload_n 2, 1) := by decide +kernel
theorem dX12_valueOf_47 : decode cX12_valueOf 47 = .ok (.iaload, 1) := by decide +kernel
theorem dX12_valueOf_48 : decode cX12_valueOf 48 = .ok (.ireturn, 1) := by decide +kernel
set_option maxRecDepth 20000 in
theorem ggX12_findWorth_X12_valueOf : GoodIn wsX12_findWorth wsX12_valueOf := goodIn_r _ [12, 13, 14, 15, 16, 17, 18, 19, 20, 21, 22, 23, 24, 25, 26, 27, 28, 29, 30, 31, 32, 33, 34, 35, 36, 37, 38, 39, 40, 41, 42, 43, 44, 45, 46, 47, 48, 49, 50] rfl (by decide +kernel)
set_option maxRecDepth 20000 in
theorem gX12_findWorth_X12_valueOf : GoodIn wsX12_findWorth (wsV RX12 100 RX12 yX12_valueOf wsX12_valueOf) := goodIn_app (goodIn_of _ (by decide +kernel)) ggX12_findWorth_X12_valueOf
theorem dX12_findWorth_0 : decode cX12_findWorth 0 = .ok (.iconst 0, 1) := by decide +kernel
theorem dX12_findWorth_1 : decode cX12_findWorth 1 = .ok (.istore_n 2, 1) := by decide +kernel
theorem dX12_findWorth_2 : decode cX12_findWorth 2 = .ok (.iload_n 2, 1) := by decide +kernel
theorem dX12_findWorth_3 : decode cX12_findWorth 3 = .ok (.sipush 256, 3) := by decide +kernel
theorem dX12_findWorth_6 : decode cX12_findWorth 6 = .ok (.if_icmp .ge 24, 3) := by decide +kernel
theorem dX12_findWorth_9 : decode cX12_findWorth 9 = .ok (.aload_n 0, 1) := by decide +kernel
theorem dX12_findWorth_10 : decode cX12_findWorth 10 = .ok (.getfield 40, 3) := by decide +kernel
theorem dX12_findWorth_13 : decode cX12_findWorth 13 = .ok (.iload_n 2, 1) := by decide +kernel
theorem dX12_findWorth_14 : decode cX12_findWorth 14 = .ok (.ldc 96, 2) := by decide +kernel
theorem dX12_findWorth_16 : decode cX12_findWorth 16 = .ok (.iastore, 1) := by decide +kernel
theorem dX12_findWorth_17 : decode cX12_findWorth 17 = .ok (.aload_n 0, 1) := by decide +kernel
theorem dX12_findWorth_18 : decode cX12_findWorth 18 = .ok (.getfield 37, 3) := by decide +kernel
theorem dX12_findWorth_21 : decode cX12_findWorth 21 = .ok (.iload_n 2, 1) := by decide +kernel
theorem dX12_findWorth_22 : decode cX12_findWorth 22 = .ok (.iconst 0, 1) := by decide +kernel
theorem dX12_findWorth_23 : decode cX12_findWorth 23 = .ok (.iastore, 1) := by decide +kernel
theorem dX12_findWorth_24 : decode cX12_findWorth 24 = .ok (.iinc 2 1, 3) := by decide +kernel
theorem dX12_findWorth_27 : decode cX12_findWorth 27 = .ok (.goto (-25), 3) := by decide +kernel
theorem dX12_findWorth_30 : decode cX12_findWorth 30 = .ok (.iconst 0, 1) := by decide +kernel
theorem dX12_findWorth_31 : decode cX12_findWorth 31 = .ok (.istore_n 2, 1) := by decide +kernel
theorem dX12_findWorth_32 : decode cX12_findWorth 32 = .ok (.iload_n 2, 1) := by decide +kernel
theorem dX12_findWorth_33 : decode cX12_findWorth 33 = .ok (.aload_n 0, 1) := by decide +kernel
theorem dX12_findWorth_34 : decode cX12_findWorth 34 = .ok (.getfield 97, 3) := by decide +kernel
theorem dX12_findWorth_37 : decode cX12_findWorth 37 = .ok (.if_icmp .ge 126, 3) := by decide +kernel
theorem dX12_findWorth_40 : decode cX12_findWorth 40 = .ok (.aload_n 0, 1) := by decide +kernel
theorem dX12_findWorth_41 : decode cX12_findWorth 41 = .ok (.getfield 19, 3) := by decide +kernel
theorem dX12_findWorth_44 : decode cX12_findWorth 44 = .ok (.iload_n 2, 1) := by decide +kernel
theorem dX12_findWorth_45 : decode cX12_findWorth 45 = .ok (.baload, 1) := by decide +kernel
theorem dX12_findWorth_46 : decode cX12_findWorth 46 = .ok (.ifCond .eq 111, 3) := by decide +kernel
theorem dX12_findWorth_49 : decode cX12_findWorth 49 = .ok (.aload_n 0, 1) := by decide +kernel
theorem dX12_findWorth_50 : decode cX12_findWorth 50 = .ok (.iload_n 1, 1) := by decide +kernel
theorem dX12_findWorth_51 : decode cX12_findWorth 51 = .ok (.iload_n 2, 1) := by decide +kernel
theorem dX12_findWorth_52 : decode cX12_findWorth 52 = .ok (.invokevirtual 100, 3) := by decide +kernel
theorem dX12_findWorth_55 : decode cX12_findWorth 55 = .ok (.istore_n 3, 1) := by decide +kernel
theorem dX12_findWorth_56 : decode cX12_findWorth 56 = .ok (.bipush 16, 2) := by decide +kernel
theorem dX12_findWorth_58 : decode cX12_findWorth 58 = .ok (.aload_n 0, 1) := by decide +kernel
theorem dX12_findWorth_59 : decode cX12_findWorth 59 = .ok (.getfield 7, 3) := by decide +kernel
theorem dX12_findWorth_62 : decode cX12_findWorth 62 = .ok (.iload_n 2, 1) := by decide +kernel
theorem dX12_findWorth_63 : decode cX12_findWorth 63 = .ok (.iaload, 1) := by decide +kernel
theorem dX12_findWorth_64 : decode cX12_findWorth 64 = .ok (.imul, 1) := by decide +kernel
theorem dX12_findWorth_65 : decode cX12_findWorth 65 = .ok (.aload_n 0, 1) := by decide +kernel
theorem dX12_findWorth_66 : decode cX12_findWorth 66 = .ok (.getfield 13, 3) := by decide +kernel
theorem dX12_findWorth_69 : decode cX12_findWorth 69 = .ok (.iload_n 2, 1) := by decide +kernel
theorem dX12_findWorth_70 : decode cX12_findWorth 70 = .ok (.iaload, 1) := by decide +kernel
theorem dX12_findWorth_71 : decode cX12_findWorth 71 = .ok (.iadd, 1) := by decide +kernel
theorem dX12_findWorth_72 : decode cX12_findWorth 72 = .ok (.istore 4, 2) := by decide +kernel
theorem dX12_findWorth_74 : decode cX12_findWorth 74 = .ok (.bipush 16, 2) := by decide +kernel
theorem dX12_findWorth_76 : decode cX12_findWorth 76 = .ok (.aload_n 0, 1) := by decide +kernel
theorem dX12_findWorth_77 : decode cX12_findWorth 77 = .ok (.getfield 13, 3) := by decide +kernel
theorem dX12_findWorth_80 : decode cX12_findWorth 80 = .ok (.iload_n 2, 1) := by decide +kernel
theorem dX12_findWorth_81 : decode cX12_findWorth 81 = .ok (.iaload, 1) := by decide +kernel
theorem dX12_findWorth_82 : decode cX12_findWorth 82 = .ok (.imul, 1) := by decide +kernel
theorem dX12_findWorth_83 : decode cX12_findWorth 83 = .ok (.aload_n 0, 1) := by decide +kernel
theorem dX12_findWorth_84 : decode cX12_findWorth 84 = .ok (.getfield 7, 3) := by decide +kernel
theorem dX12_findWorth_87 : decode cX12_findWorth 87 = .ok (.iload_n 2, 1) := by decide +kernel
theorem dX12_findWorth_88 : decode cX12_findWorth 88 = .ok (.iaload, 1) := by decide +kernel
theorem dX12_findWorth_89 : decode cX12_findWorth 89 = .ok (.iadd, 1) := by decide +kernel
theorem dX12_findWorth_90 : decode cX12_findWorth 90 = .ok (.istore 5, 2) := by decide +kernel
theorem dX12_findWorth_92 : decode cX12_findWorth 92 = .ok (.aload_n 0, 1) := by decide +kernel
theorem dX12_findWorth_93 : decode cX12_findWorth 93 = .ok (.getfield 40, 3) := by decide +kernel
theorem dX12_findWorth_96 : decode cX12_findWorth 96 = .ok (.iload 4, 2) := by decide +kernel
theorem dX12_findWorth_98 : decode cX12_findWorth 98 = .ok (.iload_n 3, 1) := by decide +kernel
theorem dX12_findWorth_99 : decode cX12_findWorth 99 = .ok (.aload_n 0, 1) := by decide +kernel
theorem dX12_findWorth_100 : decode cX12_findWorth 100 = .ok (.getfield 40, 3) := by decide +kernel
theorem dX12_findWorth_103 : decode cX12_findWorth 103 = .ok (.iload 4, 2) := by decide +kernel
theorem dX12_findWorth_105 : decode cX12_findWorth 105 = .ok (.iaload, 1) := by decide +kernel
theorem dX12_findWorth_106 : decode cX12_findWorth 106 = .ok (.if_icmp .le 7, 3) := by decide +kernel
theorem dX12_findWorth_109 : decode cX12_findWorth 109 = .ok (.iload_n 3, 1) := by decide +kernel
theorem dX12_findWorth_110 : decode cX12_findWorth 110 = .ok (.goto 10, 3) := by decide +kernel
theorem dX12_findWorth_113 : decode cX12_findWorth 113 = .ok (.aload_n 0, 1) := by decide +kernel
theorem dX12_findWorth_114 : decode cX12_findWorth 114 = .ok (.getfield 40, 3) := by decide +kernel
theorem dX12_findWorth_117 : decode cX12_findWorth 117 = .ok (.iload 4, 2) := by decide +kernel
theorem dX12_findWorth_119 : decode cX12_findWorth 119 = .ok (.iaload, 1) := by decide +kernel
theorem dX12_findWorth_120 : decode cX12_findWorth 120 = .ok (.iastore, 1) := by decide +kernel
theorem dX12_findWorth_121 : decode cX12_findWorth 121 = .ok (.aload_n 0, 1) := by decide +kernel
theorem dX12_findWorth_122 : decode cX12_findWorth 122 = .ok (.getfield 40, 3) := by decide +kernel
theorem dX12_findWorth_125 : decode cX12_findWorth 125 = .ok (.iload 5, 2) := by decide +kernel
theorem dX12_findWorth_127 : decode cX12_findWorth 127 = .ok (.aload_n 0, 1) := by decide +kernel
theorem dX12_findWorth_128 : decode cX12_findWorth 128 = .ok (.getfield 40, 3) := by decide +kernel
theorem dX12_findWorth_131 : decode cX12_findWorth 131 = .ok (.iload 4, 2) := by decide +kernel
theorem dX12_findWorth_133 : decode cX12_findWorth 133 = .ok (.iaload, 1) := by decide +kernel
theorem dX12_findWorth_134 : decode cX12_findWorth 134 = .ok (.iastore, 1) := by decide +kernel
theorem dX12_findWorth_135 : decode cX12_findWorth 135 = .ok (.aload_n 0, 1) := by decide +kernel
theorem dX12_findWorth_136 : decode cX12_findWorth 136 = .ok (.getfield 37, 3) := by decide +kernel
theorem dX12_findWorth_139 : decode cX12_findWorth 139 = .ok (.iload 4, 2) := by decide +kernel
theorem dX12_findWorth_141 : decode cX12_findWorth 141 = .ok (.dup2, 1) := by decide +kernel
theorem dX12_findWorth_142 : decode cX12_findWorth 142 = .ok (.iaload, 1) := by decide +kernel
theorem dX12_findWorth_143 : decode cX12_findWorth 143 = .ok (.iconst 1, 1) := by decide +kernel
theorem dX12_findWorth_144 : decode cX12_findWorth 144 = .ok (.iadd, 1) := by decide +kernel
theorem dX12_findWorth_145 : decode cX12_findWorth 145 = .ok (.iastore, 1) := by decide +kernel
theorem dX12_findWorth_146 : decode cX12_findWorth 146 = .ok (.aload_n 0, 1) := by decide +kernel
theorem dX12_findWorth_147 : decode cX12_findWorth 147 = .ok (.getfield 37, 3) := by decide +kernel
theorem dX12_findWorth_150 : decode cX12_findWorth 150 = .ok (.iload 5, 2) := by decide +kernel
theorem dX12_findWorth_152 : decode cX12_findWorth 152 = .ok (.dup2, 1) := by decide +kernel
theorem dX12_findWorth_153 : decode cX12_findWorth 153 = .ok (.iaload, 1) := by decide +kernel
theorem dX12_findWorth_154 : decode cX12_findWorth 154 = .ok (.iconst 1, 1) := by decide +kernel
theorem dX12_findWorth_155 : decode cX12_findWorth 155 = .ok (.iadd, 1) := by decide +kernel
theorem dX12_findWorth_156 : decode cX12_findWorth 156 = .ok (.iastore, 1) := by decide +kernel
theorem dX12_findWorth_157 : decode cX12_findWorth 157 = .ok (.iinc 2 1, 3) := by decide +kernel
theorem dX12_findWorth_160 : decode cX12_findWorth 160 = .ok (.goto (-128), 3) := by decide +kernel
theorem dX12_findWorth_163 : decode cX12_findWorth 163 = .ok (.return_, 1) := by decide +kernel
set_option maxRecDepth 20000 in
theorem ggX12_findBest_X12_findWorth : GoodIn wsX12_findBest wsX12_findWorth := goodIn_r _ [9, 4, 2, 10, 11, 12, 13, 14, 15, 16, 17, 8, 18, 19, 27, 28, 29, 30, 31, 32, 33, 34, 35, 36, 37, 38, 39, 40, 41, 42, 43, 44, 45, 46, 47, 48, 49, 50, 51, 52, 53, 54, 55, 56, 57, 58, 59, 60, 61, 62, 63] rfl (by decide +kernel)
set_option maxRecDepth 20000 in
theorem gX12_findBest_X12_findWorth : GoodIn wsX12_findBest (wsV RX12 104 RX12 yX12_findWorth wsX12_findWorth) := goodIn_app (goodIn_of _ (by decide +kernel)) ggX12_findBest_X12_findWorth
set_option maxRecDepth 20000 in
theorem ggX12_findBest_X12_all : GoodIn wsX12_findBest wsX12_all := goodIn_r _ [23, 3, 27, 28, 29, 30, 31, 32, 33, 34, 35, 36, 37, 38, 39, 40, 41, 42, 43, 44, 45, 46, 47, 48, 49, 50, 51, 52, 53, 54, 55, 56, 57, 58, 59, 60, 61, 62, 63] rfl (by decide +kernel)
set_option maxRecDepth 20000 in
theorem gX12_findBest_X12_all : GoodIn wsX12_findBest (wsV RX12 108 RX12 yX12_all wsX12_all) := goodIn_app (goodIn_of _ (by decide +kernel)) ggX12_findBest_X12_all
set_option maxRecDepth 20000 in
theorem ggX12_findBest_X12_least : GoodIn wsX12_findBest wsX12_least := goodIn_r _ [26] rfl (by decide +kernel)
set_option maxRecDepth 20000 in
theorem gX12_findBest_X12_least : GoodIn wsX12_findBest (va_wsS RX12 112 yX12_least wsX12_least) := goodIn_app (goodIn_of _ (by decide +kernel)) ggX12_findBest_X12_least
theorem dX12_findBest_0 : decode cX12_findBest 0 = .ok (.aload_n 0, 1) := by decide +kernel
theorem dX12_findBest_1 : decode cX12_findBest 1 = .ok (.iload_n 1, 1) := by decide +kernel
theorem dX12_findBest_2 : decode cX12_findBest 2 = .ok (.invokevirtual 104, 3) := by decide +kernel
theorem dX12_findBest_5 : decode cX12_findBest 5 = .ok (.aload_n 0, 1) := by decide +kernel
theorem dX12_findBest_6 : decode cX12_findBest 6 = .ok (.getfield 27, 3) := by decide +kernel
theorem dX12_findBest_9 : decode cX12_findBest 9 = .ok (.iconst 0, 1) := by decide +kernel
theorem dX12_findBest_10 : decode cX12_findBest 10 = .ok (.iconst 0, 1) := by decide +kernel
theorem dX12_findBest_11 : decode cX12_findBest 11 = .ok (.iastore, 1) := by decide +kernel
theorem dX12_findBest_12 : decode cX12_findBest 12 = .ok (.iconst 1, 1) := by decide +kernel
theorem dX12_findBest_13 : decode cX12_findBest 13 = .ok (.istore_n 2, 1) := by decide +kernel
theorem dX12_findBest_14 : decode cX12_findBest 14 = .ok (.iload_n 2, 1) := by decide +kernel
theorem dX12_findBest_15 : decode cX12_findBest 15 = .ok (.aload_n 0, 1) := by decide +kernel
theorem dX12_findBest_16 : decode cX12_findBest 16 = .ok (.invokevirtual 108, 3) := by decide +kernel
theorem dX12_findBest_19 : decode cX12_findBest 19 = .ok (.if_icmp .gt 162, 3) := by decide +kernel
theorem dX12_findBest_22 : decode cX12_findBest 22 = .ok (.iload_n 2, 1) := by decide +kernel
theorem dX12_findBest_23 : decode cX12_findBest 23 = .ok (.invokestatic 112, 3) := by decide +kernel
theorem dX12_findBest_26 : decode cX12_findBest 26 = .ok (.istore_n 3, 1) := by decide +kernel
theorem dX12_findBest_27 : decode cX12_findBest 27 = .ok (.iload_n 2, 1) := by decide +kernel
theorem dX12_findBest_28 : decode cX12_findBest 28 = .ok (.iconst 1, 1) := by decide +kernel
theorem dX12_findBest_29 : decode cX12_findBest 29 = .ok (.iload_n 3, 1) := by decide +kernel
theorem dX12_findBest_30 : decode cX12_findBest 30 = .ok (.ishl, 1) := by decide +kernel
theorem dX12_findBest_31 : decode cX12_findBest 31 = .ok (.iconst (-1), 1) := by decide +kernel
theorem dX12_findBest_32 : decode cX12_findBest 32 = .ok (.ixor, 1) := by decide +kernel
theorem dX12_findBest_33 : decode cX12_findBest 33 = .ok (.iand, 1) := by decide +kernel
theorem dX12_findBest_34 : decode cX12_findBest 34 = .ok (.istore 4, 2) := by decide +kernel
theorem dX12_findBest_36 : decode cX12_findBest 36 = .ok (.iload_n 1, 1) := by decide +kernel
theorem dX12_findBest_37 : decode cX12_findBest 37 = .ok (.iconst 2, 1) := by decide +kernel
theorem dX12_findBest_38 : decode cX12_findBest 38 = .ok (.if_icmp .ge 13, 3) := by decide +kernel
theorem dX12_findBest_41 : decode cX12_findBest 41 = .ok (.aload_n 0, 1) := by decide +kernel
theorem dX12_findBest_42 : decode cX12_findBest 42 = .ok (.getfield 27, 3) := by decide +kernel
theorem dX12_findBest_45 : decode cX12_findBest 45 = .ok (.iload 4, 2) := by decide +kernel
theorem dX12_findBest_47 : decode cX12_findBest 47 = .ok (.iaload, 1) := by decide +kernel
theorem dX12_findBest_48 : decode cX12_findBest 48 = .ok (.goto 5, 3) := by decide +kernel
theorem dX12_findBest_51 : decode cX12_findBest 51 = .ok (.ldc 96, 2) := by decide +kernel
theorem dX12_findBest_53 : decode cX12_findBest 53 = .ok (.istore 5, 2) := by decide +kernel
theorem dX12_findBest_55 : decode cX12_findBest 55 = .ok (.iload_n 3, 1) := by decide +kernel
theorem dX12_findBest_56 : decode cX12_findBest 56 = .ok (.iconst 1, 1) := by decide +kernel
theorem dX12_findBest_57 : decode cX12_findBest 57 = .ok (.iadd, 1) := by decide +kernel
theorem dX12_findBest_58 : decode cX12_findBest 58 = .ok (.istore 6, 2) := by decide +kernel
theorem dX12_findBest_60 : decode cX12_findBest 60 = .ok (.iload 6, 2) := by decide +kernel
theorem dX12_findBest_62 : decode cX12_findBest 62 = .ok (.aload_n 0, 1) := by decide +kernel
theorem dX12_findBest_63 : decode cX12_findBest 63 = .ok (.getfield 92, 3) := by decide +kernel
theorem dX12_findBest_66 : decode cX12_findBest 66 = .ok (.if_icmp .ge 101, 3) := by decide +kernel
theorem dX12_findBest_69 : decode cX12_findBest 69 = .ok (.iload 4, 2) := by decide +kernel
theorem dX12_findBest_71 : decode cX12_findBest 71 = .ok (.iload 6, 2) := by decide +kernel
theorem dX12_findBest_73 : decode cX12_findBest 73 = .ok (.ishr, 1) := by decide +kernel
theorem dX12_findBest_74 : decode cX12_findBest 74 = .ok (.iconst 1, 1) := by decide +kernel
theorem dX12_findBest_75 : decode cX12_findBest 75 = .ok (.iand, 1) := by decide +kernel
theorem dX12_findBest_76 : decode cX12_findBest 76 = .ok (.iconst 1, 1) := by decide +kernel
theorem dX12_findBest_77 : decode cX12_findBest 77 = .ok (.if_icmp .ne 84, 3) := by decide +kernel
theorem dX12_findBest_80 : decode cX12_findBest 80 = .ok (.aload_n 0, 1) := by decide +kernel
theorem dX12_findBest_81 : decode cX12_findBest 81 = .ok (.getfield 40, 3) := by decide +kernel
theorem dX12_findBest_84 : decode cX12_findBest 84 = .ok (.bipush 16, 2) := by decide +kernel
theorem dX12_findBest_86 : decode cX12_findBest 86 = .ok (.iload_n 3, 1) := by decide +kernel
theorem dX12_findBest_87 : decode cX12_findBest 87 = .ok (.imul, 1) := by decide +kernel
theorem dX12_findBest_88 : decode cX12_findBest 88 = .ok (.iload 6, 2) := by decide +kernel
theorem dX12_findBest_90 : decode cX12_findBest 90 = .ok (.iadd, 1) := by decide +kernel
theorem dX12_findBest_91 : decode cX12_findBest 91 = .ok (.iaload, 1) := by decide +kernel
theorem dX12_findBest_92 : decode cX12_findBest 92 = .ok (.ldc 96, 2) := by decide +kernel
theorem dX12_findBest_94 : decode cX12_findBest 94 = .ok (.if_icmp .le 67, 3) := by decide +kernel
theorem dX12_findBest_97 : decode cX12_findBest 97 = .ok (.aload_n 0, 1) := by decide +kernel
theorem dX12_findBest_98 : decode cX12_findBest 98 = .ok (.getfield 27, 3) := by decide +kernel
theorem dX12_findBest_101 : decode cX12_findBest 101 = .ok (.iload 4, 2) := by decide +kernel
theorem dX12_findBest_103 : decode cX12_findBest 103 = .ok (.iconst 1, 1) := by decide +kernel
theorem dX12_findBest_104 : decode cX12_findBest 104 = .ok (.iload 6, 2) := by decide +kernel
theorem dX12_findBest_106 : decode cX12_findBest 106 = .ok (.ishl, 1) := by decide +kernel
theorem dX12_findBest_107 : decode cX12_findBest 107 = .ok (.iconst (-1), 1) := by decide +kernel
theorem dX12_findBest_108 : decode cX12_findBest 108 = .ok (.ixor, 1) := by decide +kernel
theorem dX12_findBest_109 : decode cX12_findBest 109 = .ok (.iand, 1) := by decide +kernel
theorem dX12_findBest_110 : decode cX12_findBest 110 = .ok (.iaload, 1) := by decide +kernel
theorem dX12_findBest_111 : decode cX12_findBest 111 = .ok (.ldc 96, 2) := by decide +kernel
theorem dX12_findBest_113 : decode cX12_findBest 113 = .ok (.if_icmp .le 48, 3) := by decide +kernel
theorem dX12_findBest_116 : decode cX12_findBest 116 = .ok (.aload_n 0, 1) := by decide +kernel
theorem dX12_findBest_117 : decode cX12_findBest 117 = .ok (.getfield 40, 3) := by decide +kernel
theorem dX12_findBest_120 : decode cX12_findBest 120 = .ok (.bipush 16, 2) := by decide +kernel
theorem dX12_findBest_122 : decode cX12_findBest 122 = .ok (.iload_n 3, 1) := by decide +kernel
theorem dX12_findBest_123 : decode cX12_findBest 123 = .ok (.imul, 1) := by decide +kernel
theorem dX12_findBest_124 : decode cX12_findBest 124 = .ok (.iload 6, 2) := by decide +kernel
theorem dX12_findBest_126 : decode cX12_findBest 126 = .ok (.iadd, 1) := by decide +kernel
theorem dX12_findBest_127 : decode cX12_findBest 127 = .ok (.iaload, 1) := by decide +kernel
theorem dX12_findBest_128 : decode cX12_findBest 128 = .ok (.aload_n 0, 1) := by decide +kernel
theorem dX12_findBest_129 : decode cX12_findBest 129 = .ok (.getfield 27, 3) := by decide +kernel
theorem dX12_findBest_132 : decode cX12_findBest 132 = .ok (.iload 4, 2) := by decide +kernel
theorem dX12_findBest_134 : decode cX12_findBest 134 = .ok (.iconst 1, 1) := by decide +kernel
theorem dX12_findBest_135 : decode cX12_findBest 135 = .ok (.iload 6, 2) := by decide +kernel
theorem dX12_findBest_137 : decode cX12_findBest 137 = .ok (.ishl, 1) := by decide +kernel
theorem dX12_findBest_138 : decode cX12_findBest 138 = .ok (.iconst (-1), 1) := by decide +kernel
theorem dX12_findBest_139 : decode cX12_findBest 139 = .ok (.ixor, 1) := by decide +kernel
theorem dX12_findBest_140 : decode cX12_findBest 140 = .ok (.iand, 1) := by decide +kernel
theorem dX12_findBest_141 : decode cX12_findBest 141 = .ok (.iaload, 1) := by decide +kernel
theorem dX12_findBest_142 : decode cX12_findBest 142 = .ok (.iadd, 1) := by decide +kernel
theorem dX12_findBest_143 : decode cX12_findBest 143 = .ok (.istore 7, 2) := by decide +kernel
theorem dX12_findBest_145 : decode cX12_findBest 145 = .ok (.iload 7, 2) := by decide +kernel
theorem dX12_findBest_147 : decode cX12_findBest 147 = .ok (.iload 5, 2) := by decide +kernel
theorem dX12_findBest_149 : decode cX12_findBest 149 = .ok (.if_icmp .le 8, 3) := by decide +kernel
theorem dX12_findBest_152 : decode cX12_findBest 152 = .ok (.iload 7, 2) := by decide +kernel
theorem dX12_findBest_154 : decode cX12_findBest 154 = .ok (.goto 5, 3) := by decide +kernel
theorem dX12_findBest_157 : decode cX12_findBest 157 = .ok (.iload 5, 2) := by decide +kernel
theorem dX12_findBest_159 : decode cX12_findBest 159 = .ok (.istore 5, 2) := by decide +kernel
theorem dX12_findBest_161 : decode cX12_findBest 161 = .ok (.iinc 6 1, 3) := by decide +kernel
theorem dX12_findBest_164 : decode cX12_findBest 164 = .ok (.goto (-104), 3) := by decide +kernel
theorem dX12_findBest_167 : decode cX12_findBest 167 = .ok (.aload_n 0, 1) := by decide +kernel
theorem dX12_findBest_168 : decode cX12_findBest 168 = .ok (.getfield 27, 3) := by decide +kernel
theorem dX12_findBest_171 : decode cX12_findBest 171 = .ok (.iload_n 2, 1) := by decide +kernel
theorem dX12_findBest_172 : decode cX12_findBest 172 = .ok (.iload 5, 2) := by decide +kernel
theorem dX12_findBest_174 : decode cX12_findBest 174 = .ok (.iastore, 1) := by decide +kernel
theorem dX12_findBest_175 : decode cX12_findBest 175 = .ok (.iinc 2 1, 3) := by decide +kernel
theorem dX12_findBest_178 : decode cX12_findBest 178 = .ok (.goto (-164), 3) := by decide +kernel
theorem dX12_findBest_181 : decode cX12_findBest 181 = .ok (.return_, 1) := by decide +kernel
set_option maxRecDepth 20000 in
theorem ggX12_findWay_X12_findBest : GoodIn wsX12_findWay wsX12_findBest := goodIn_r _ [17, 2, 7, 18, 19, 20, 21, 22, 16, 23, 24, 8, 9, 10, 11, 25, 26, 27, 28, 12, 29, 30, 31, 32, 33, 34, 35, 36, 37, 38, 39, 40, 41, 42, 43, 44, 45, 46, 47, 48, 49, 50, 51, 52, 53, 54, 55, 56, 57, 58, 59, 60, 61, 62, 63, 64, 65, 66, 67, 68, 69, 70, 71, 72] rfl (by decide +kernel)
set_option maxRecDepth 20000 in
theorem gX12_findWay_X12_findBest : GoodIn wsX12_findWay (wsV RX12 116 RX12 yX12_findBest wsX12_findBest) := goodIn_app (goodIn_of _ (by decide +kernel)) ggX12_findWay_X12_findBest
set_option maxRecDepth 20000 in
theorem ggX12_findWay_X12_all : GoodIn wsX12_findWay wsX12_all := goodIn_r _ [32, 18, 36, 37, 38, 39, 40, 41, 42, 43, 44, 45, 46, 47, 48, 49, 50, 51, 52, 53, 54, 55, 56, 57, 58, 59, 60, 61, 62, 63, 64, 65, 66, 67, 68, 69, 70, 71, 72] rfl (by decide +kernel)
set_option maxRecDepth 20000 in
theorem gX12_findWay_X12_all : GoodIn wsX12_findWay (wsV RX12 108 RX12 yX12_all wsX12_all) := goodIn_app (goodIn_of _ (by decide +kernel)) ggX12_findWay_X12_all
set_option maxRecDepth 20000 in
theorem ggX12_findWay_X12_valueOf : GoodIn wsX12_findWay wsX12_valueOf := goodIn_r _ [28, 12, 36, 37, 38, 39, 40, 41, 42, 43, 44, 45, 46, 47, 48, 49, 50, 51, 52, 53, 54, 55, 56, 57, 58, 59, 60, 61, 62, 63, 64, 65, 66, 67, 68, 69, 70, 71, 72] rfl (by decide +kernel)
set_option maxRecDepth 20000 in
theorem gX12_findWay_X12_valueOf : GoodIn wsX12_findWay (wsV RX12 100 RX12 yX12_valueOf wsX12_valueOf) := goodIn_app (goodIn_of _ (by decide +kernel)) ggX12_findWay_X12_valueOf
theorem dX12_findWay_0 : decode cX12_findWay 0 = .ok (.aload_n 0, 1) := by decide +kernel
theorem dX12_findWay_1 : decode cX12_findWay 1 = .ok (.iload_n 1, 1) := by decide +kernel
theorem dX12_findWay_2 : decode cX12_findWay 2 = .ok (.invokevirtual 116, 3) := by decide +kernel
theorem dX12_findWay_5 : decode cX12_findWay 5 = .ok (.iconst 0, 1) := by decide +kernel
theorem dX12_findWay_6 : decode cX12_findWay 6 = .ok (.istore_n 2, 1) := by decide +kernel
theorem dX12_findWay_7 : decode cX12_findWay 7 = .ok (.iload_n 2, 1) := by decide +kernel
theorem dX12_findWay_8 : decode cX12_findWay 8 = .ok (.aload_n 0, 1) := by decide +kernel
theorem dX12_findWay_9 : decode cX12_findWay 9 = .ok (.invokevirtual 108, 3) := by decide +kernel
theorem dX12_findWay_12 : decode cX12_findWay 12 = .ok (.if_icmp .gt 26, 3) := by decide +kernel
theorem dX12_findWay_15 : decode cX12_findWay 15 = .ok (.iload_n 1, 1) := by decide +kernel
theorem dX12_findWay_16 : decode cX12_findWay 16 = .ok (.ifCond .ne 22, 3) := by decide +kernel
theorem dX12_findWay_19 : decode cX12_findWay 19 = .ok (.aload_n 0, 1) := by decide +kernel
theorem dX12_findWay_20 : decode cX12_findWay 20 = .ok (.getfield 30, 3) := by decide +kernel
theorem dX12_findWay_23 : decode cX12_findWay 23 = .ok (.iload_n 2, 1) := by decide +kernel
theorem dX12_findWay_24 : decode cX12_findWay 24 = .ok (.aload_n 0, 1) := by decide +kernel
theorem dX12_findWay_25 : decode cX12_findWay 25 = .ok (.getfield 27, 3) := by decide +kernel
theorem dX12_findWay_28 : decode cX12_findWay 28 = .ok (.iload_n 2, 1) := by decide +kernel
theorem dX12_findWay_29 : decode cX12_findWay 29 = .ok (.iaload, 1) := by decide +kernel
theorem dX12_findWay_30 : decode cX12_findWay 30 = .ok (.i2b, 1) := by decide +kernel
theorem dX12_findWay_31 : decode cX12_findWay 31 = .ok (.bastore, 1) := by decide +kernel
theorem dX12_findWay_32 : decode cX12_findWay 32 = .ok (.iinc 2 1, 3) := by decide +kernel
theorem dX12_findWay_35 : decode cX12_findWay 35 = .ok (.goto (-28), 3) := by decide +kernel
theorem dX12_findWay_38 : decode cX12_findWay 38 = .ok (.iconst 0, 1) := by decide +kernel
theorem dX12_findWay_39 : decode cX12_findWay 39 = .ok (.istore_n 2, 1) := by decide +kernel
theorem dX12_findWay_40 : decode cX12_findWay 40 = .ok (.iload_n 2, 1) := by decide +kernel
theorem dX12_findWay_41 : decode cX12_findWay 41 = .ok (.bipush 16, 2) := by decide +kernel
theorem dX12_findWay_43 : decode cX12_findWay 43 = .ok (.if_icmp .ge 21, 3) := by decide +kernel
theorem dX12_findWay_46 : decode cX12_findWay 46 = .ok (.aload_n 0, 1) := by decide +kernel
theorem dX12_findWay_47 : decode cX12_findWay 47 = .ok (.getfield 43, 3) := by decide +kernel
theorem dX12_findWay_50 : decode cX12_findWay 50 = .ok (.bipush 16, 2) := by decide +kernel
theorem dX12_findWay_52 : decode cX12_findWay 52 = .ok (.iload_n 1, 1) := by decide +kernel
theorem dX12_findWay_53 : decode cX12_findWay 53 = .ok (.imul, 1) := by decide +kernel
theorem dX12_findWay_54 : decode cX12_findWay 54 = .ok (.iload_n 2, 1) := by decide +kernel
theorem dX12_findWay_55 : decode cX12_findWay 55 = .ok (.iadd, 1) := by decide +kernel
theorem dX12_findWay_56 : decode cX12_findWay 56 = .ok (.iconst (-1), 1) := by decide +kernel
theorem dX12_findWay_57 : decode cX12_findWay 57 = .ok (.iastore, 1) := by decide +kernel
theorem dX12_findWay_58 : decode cX12_findWay 58 = .ok (.iinc 2 1, 3) := by decide +kernel
theorem dX12_findWay_61 : decode cX12_findWay 61 = .ok (.goto (-21), 3) := by decide +kernel
theorem dX12_findWay_64 : decode cX12_findWay 64 = .ok (.aload_n 0, 1) := by decide +kernel
theorem dX12_findWay_65 : decode cX12_findWay 65 = .ok (.getfield 46, 3) := by decide +kernel
theorem dX12_findWay_68 : decode cX12_findWay 68 = .ok (.iload_n 1, 1) := by decide +kernel
theorem dX12_findWay_69 : decode cX12_findWay 69 = .ok (.iconst 0, 1) := by decide +kernel
theorem dX12_findWay_70 : decode cX12_findWay 70 = .ok (.iastore, 1) := by decide +kernel
theorem dX12_findWay_71 : decode cX12_findWay 71 = .ok (.aload_n 0, 1) := by decide +kernel
theorem dX12_findWay_72 : decode cX12_findWay 72 = .ok (.getfield 49, 3) := by decide +kernel
theorem dX12_findWay_75 : decode cX12_findWay 75 = .ok (.iload_n 1, 1) := by decide +kernel
theorem dX12_findWay_76 : decode cX12_findWay 76 = .ok (.iconst 0, 1) := by decide +kernel
theorem dX12_findWay_77 : decode cX12_findWay 77 = .ok (.iastore, 1) := by decide +kernel
theorem dX12_findWay_78 : decode cX12_findWay 78 = .ok (.aload_n 0, 1) := by decide +kernel
theorem dX12_findWay_79 : decode cX12_findWay 79 = .ok (.getfield 52, 3) := by decide +kernel
theorem dX12_findWay_82 : decode cX12_findWay 82 = .ok (.iload_n 1, 1) := by decide +kernel
theorem dX12_findWay_83 : decode cX12_findWay 83 = .ok (.aload_n 0, 1) := by decide +kernel
theorem dX12_findWay_84 : decode cX12_findWay 84 = .ok (.getfield 27, 3) := by decide +kernel
theorem dX12_findWay_87 : decode cX12_findWay 87 = .ok (.aload_n 0, 1) := by decide +kernel
theorem dX12_findWay_88 : decode cX12_findWay 88 = .ok (.invokevirtual 108, 3) := by decide +kernel
theorem dX12_findWay_91 : decode cX12_findWay 91 = .ok (.iaload, 1) := by decide +kernel
theorem dX12_findWay_92 : decode cX12_findWay 92 = .ok (.ldc 96, 2) := by decide +kernel
theorem dX12_findWay_94 : decode cX12_findWay 94 = .ok (.if_icmp .le 7, 3) := by decide +kernel
theorem dX12_findWay_97 : decode cX12_findWay 97 = .ok (.iconst 1, 1) := by decide +kernel
theorem dX12_findWay_98 : decode cX12_findWay 98 = .ok (.goto 4, 3) := by decide +kernel
theorem dX12_findWay_101 : decode cX12_findWay 101 = .ok (.iconst 0, 1) := by decide +kernel
theorem dX12_findWay_102 : decode cX12_findWay 102 = .ok (.bastore, 1) := by decide +kernel
theorem dX12_findWay_103 : decode cX12_findWay 103 = .ok (.aload_n 0, 1) := by decide +kernel
theorem dX12_findWay_104 : decode cX12_findWay 104 = .ok (.invokevirtual 108, 3) := by decide +kernel
theorem dX12_findWay_107 : decode cX12_findWay 107 = .ok (.istore_n 2, 1) := by decide +kernel
theorem dX12_findWay_108 : decode cX12_findWay 108 = .ok (.aload_n 0, 1) := by decide +kernel
theorem dX12_findWay_109 : decode cX12_findWay 109 = .ok (.getfield 27, 3) := by decide +kernel
theorem dX12_findWay_112 : decode cX12_findWay 112 = .ok (.iload_n 2, 1) := by decide +kernel
theorem dX12_findWay_113 : decode cX12_findWay 113 = .ok (.iaload, 1) := by decide +kernel
theorem dX12_findWay_114 : decode cX12_findWay 114 = .ok (.istore_n 3, 1) := by decide +kernel
theorem dX12_findWay_115 : decode cX12_findWay 115 = .ok (.iconst 0, 1) := by decide +kernel
theorem dX12_findWay_116 : decode cX12_findWay 116 = .ok (.istore 4, 2) := by decide +kernel
theorem dX12_findWay_118 : decode cX12_findWay 118 = .ok (.iload 4, 2) := by decide +kernel
theorem dX12_findWay_120 : decode cX12_findWay 120 = .ok (.aload_n 0, 1) := by decide +kernel
theorem dX12_findWay_121 : decode cX12_findWay 121 = .ok (.getfield 97, 3) := by decide +kernel
theorem dX12_findWay_124 : decode cX12_findWay 124 = .ok (.if_icmp .ge 192, 3) := by decide +kernel
theorem dX12_findWay_127 : decode cX12_findWay 127 = .ok (.aload_n 0, 1) := by decide +kernel
theorem dX12_findWay_128 : decode cX12_findWay 128 = .ok (.getfield 52, 3) := by decide +kernel
theorem dX12_findWay_131 : decode cX12_findWay 131 = .ok (.iload_n 1, 1) := by decide +kernel
theorem dX12_findWay_132 : decode cX12_findWay 132 = .ok (.baload, 1) := by decide +kernel
theorem dX12_findWay_133 : decode cX12_findWay 133 = .ok (.ifCond .eq 183, 3) := by decide +kernel
theorem dX12_findWay_136 : decode cX12_findWay 136 = .ok (.aload_n 0, 1) := by decide +kernel
theorem dX12_findWay_137 : decode cX12_findWay 137 = .ok (.getfield 19, 3) := by decide +kernel
theorem dX12_findWay_140 : decode cX12_findWay 140 = .ok (.iload 4, 2) := by decide +kernel
theorem dX12_findWay_142 : decode cX12_findWay 142 = .ok (.baload, 1) := by decide +kernel
theorem dX12_findWay_143 : decode cX12_findWay 143 = .ok (.ifCond .eq 25, 3) := by decide +kernel
theorem dX12_findWay_146 : decode cX12_findWay 146 = .ok (.iconst 1, 1) := by decide +kernel
theorem dX12_findWay_147 : decode cX12_findWay 147 = .ok (.aload_n 0, 1) := by decide +kernel
theorem dX12_findWay_148 : decode cX12_findWay 148 = .ok (.getfield 7, 3) := by decide +kernel
theorem dX12_findWay_151 : decode cX12_findWay 151 = .ok (.iload 4, 2) := by decide +kernel
theorem dX12_findWay_153 : decode cX12_findWay 153 = .ok (.iaload, 1) := by decide +kernel
theorem dX12_findWay_154 : decode cX12_findWay 154 = .ok (.ishl, 1) := by decide +kernel
theorem dX12_findWay_155 : decode cX12_findWay 155 = .ok (.iconst 1, 1) := by decide +kernel
theorem dX12_findWay_156 : decode cX12_findWay 156 = .ok (.aload_n 0, 1) := by decide +kernel
theorem dX12_findWay_157 : decode cX12_findWay 157 = .ok (.getfield 13, 3) := by decide +kernel
theorem dX12_findWay_160 : decode cX12_findWay 160 = .ok (.iload 4, 2) := by decide +kernel
theorem dX12_findWay_162 : decode cX12_findWay 162 = .ok (.iaload, 1) := by decide +kernel
theorem dX12_findWay_163 : decode cX12_findWay 163 = .ok (.ishl, 1) := by decide +kernel
theorem dX12_findWay_164 : decode cX12_findWay 164 = .ok (.ior, 1) := by decide +kernel
theorem dX12_findWay_165 : decode cX12_findWay 165 = .ok (.goto 4, 3) := by decide +kernel
theorem dX12_findWay_168 : decode cX12_findWay 168 = .ok (.iconst 0, 1) := by decide +kernel
theorem dX12_findWay_169 : decode cX12_findWay 169 = .ok (.istore 5, 2) := by decide +kernel
theorem dX12_findWay_171 : decode cX12_findWay 171 = .ok (.iload 5, 2) := by decide +kernel
theorem dX12_findWay_173 : decode cX12_findWay 173 = .ok (.ifCond .eq 137, 3) := by decide +kernel
theorem dX12_findWay_176 : decode cX12_findWay 176 = .ok (.iload_n 2, 1) := by decide +kernel
theorem dX12_findWay_177 : decode cX12_findWay 177 = .ok (.iload 5, 2) := by decide +kernel
theorem dX12_findWay_179 : decode cX12_findWay 179 = .ok (.iand, 1) := by decide +kernel
theorem dX12_findWay_180 : decode cX12_findWay 180 = .ok (.iload 5, 2) := by decide +kernel
theorem dX12_findWay_182 : decode cX12_findWay 182 = .ok (.if_icmp .ne 128, 3) := by decide +kernel
theorem dX12_findWay_185 : decode cX12_findWay 185 = .ok (.aload_n 0, 1) := by decide +kernel
theorem dX12_findWay_186 : decode cX12_findWay 186 = .ok (.getfield 27, 3) := by decide +kernel
theorem dX12_findWay_189 : decode cX12_findWay 189 = .ok (.iload_n 2, 1) := by decide +kernel
theorem dX12_findWay_190 : decode cX12_findWay 190 = .ok (.iload 5, 2) := by decide +kernel
theorem dX12_findWay_192 : decode cX12_findWay 192 = .ok (.iconst (-1), 1) := by decide +kernel
theorem dX12_findWay_193 : decode cX12_findWay 193 = .ok (.ixor, 1) := by decide +kernel
theorem dX12_findWay_194 : decode cX12_findWay 194 = .ok (.iand, 1) := by decide +kernel
theorem dX12_findWay_195 : decode cX12_findWay 195 = .ok (.iaload, 1) := by decide +kernel
theorem dX12_findWay_196 : decode cX12_findWay 196 = .ok (.ldc 96, 2) := by decide +kernel
theorem dX12_findWay_198 : decode cX12_findWay 198 = .ok (.if_icmp .gt 6, 3) := by decide +kernel
theorem dX12_findWay_201 : decode cX12_findWay 201 = .ok (.goto 109, 3) := by decide +kernel
theorem dX12_findWay_204 : decode cX12_findWay 204 = .ok (.aload_n 0, 1) := by decide +kernel
theorem dX12_findWay_205 : decode cX12_findWay 205 = .ok (.iload_n 1, 1) := by decide +kernel
theorem dX12_findWay_206 : decode cX12_findWay 206 = .ok (.iload 4, 2) := by decide +kernel
theorem dX12_findWay_208 : decode cX12_findWay 208 = .ok (.invokevirtual 100, 3) := by decide +kernel
theorem dX12_findWay_211 : decode cX12_findWay 211 = .ok (.aload_n 0, 1) := by decide +kernel
theorem dX12_findWay_212 : decode cX12_findWay 212 = .ok (.getfield 27, 3) := by decide +kernel
theorem dX12_findWay_215 : decode cX12_findWay 215 = .ok (.iload_n 2, 1) := by decide +kernel
theorem dX12_findWay_216 : decode cX12_findWay 216 = .ok (.iload 5, 2) := by decide +kernel
theorem dX12_findWay_218 : decode cX12_findWay 218 = .ok (.iconst (-1), 1) := by decide +kernel
theorem dX12_findWay_219 : decode cX12_findWay 219 = .ok (.ixor, 1) := by decide +kernel
theorem dX12_findWay_220 : decode cX12_findWay 220 = .ok (.iand, 1) := by decide +kernel
theorem dX12_findWay_221 : decode cX12_findWay 221 = .ok (.iaload, 1) := by decide +kernel
theorem dX12_findWay_222 : decode cX12_findWay 222 = .ok (.iadd, 1) := by decide +kernel
theorem dX12_findWay_223 : decode cX12_findWay 223 = .ok (.iload_n 3, 1) := by decide +kernel
theorem dX12_findWay_224 : decode cX12_findWay 224 = .ok (.if_icmp .ne 86, 3) := by decide +kernel
theorem dX12_findWay_227 : decode cX12_findWay 227 = .ok (.aload_n 0, 1) := by decide +kernel
theorem dX12_findWay_228 : decode cX12_findWay 228 = .ok (.getfield 27, 3) := by decide +kernel
theorem dX12_findWay_231 : decode cX12_findWay 231 = .ok (.iload_n 2, 1) := by decide +kernel
theorem dX12_findWay_232 : decode cX12_findWay 232 = .ok (.iload 5, 2) := by decide +kernel
theorem dX12_findWay_234 : decode cX12_findWay 234 = .ok (.iconst (-1), 1) := by decide +kernel
theorem dX12_findWay_235 : decode cX12_findWay 235 = .ok (.ixor, 1) := by decide +kernel
theorem dX12_findWay_236 : decode cX12_findWay 236 = .ok (.iand, 1) := by decide +kernel
theorem dX12_findWay_237 : decode cX12_findWay 237 = .ok (.iaload, 1) := by decide +kernel
theorem dX12_findWay_238 : decode cX12_findWay 238 = .ok (.istore_n 3, 1) := by decide +kernel
theorem dX12_findWay_239 : decode cX12_findWay 239 = .ok (.iload_n 2, 1) := by decide +kernel
theorem dX12_findWay_240 : decode cX12_findWay 240 = .ok (.iload 5, 2) := by decide +kernel
theorem dX12_findWay_242 : decode cX12_findWay 242 = .ok (.iconst (-1), 1) := by decide +kernel
theorem dX12_findWay_243 : decode cX12_findWay 243 = .ok (.ixor, 1) := by decide +kernel
theorem dX12_findWay_244 : decode cX12_findWay 244 = .ok (.iand, 1) := by decide +kernel
theorem dX12_findWay_245 : decode cX12_findWay 245 = .ok (.istore_n 2, 1) := by decide +kernel
theorem dX12_findWay_246 : decode cX12_findWay 246 = .ok (.aload_n 0, 1) := by decide +kernel
theorem dX12_findWay_247 : decode cX12_findWay 247 = .ok (.getfield 43, 3) := by decide +kernel
theorem dX12_findWay_250 : decode cX12_findWay 250 = .ok (.bipush 16, 2) := by decide +kernel
theorem dX12_findWay_252 : decode cX12_findWay 252 = .ok (.iload_n 1, 1) := by decide +kernel
theorem dX12_findWay_253 : decode cX12_findWay 253 = .ok (.imul, 1) := by decide +kernel
theorem dX12_findWay_254 : decode cX12_findWay 254 = .ok (.aload_n 0, 1) := by decide +kernel
theorem dX12_findWay_255 : decode cX12_findWay 255 = .ok (.getfield 7, 3) := by decide +kernel
theorem dX12_findWay_258 : decode cX12_findWay 258 = .ok (.iload 4, 2) := by decide +kernel
theorem dX12_findWay_260 : decode cX12_findWay 260 = .ok (.iaload, 1) := by decide +kernel
theorem dX12_findWay_261 : decode cX12_findWay 261 = .ok (.iadd, 1) := by decide +kernel
theorem dX12_findWay_262 : decode cX12_findWay 262 = .ok (.iload 4, 2) := by decide +kernel
theorem dX12_findWay_264 : decode cX12_findWay 264 = .ok (.iastore, 1) := by decide +kernel
theorem dX12_findWay_265 : decode cX12_findWay 265 = .ok (.aload_n 0, 1) := by decide +kernel
theorem dX12_findWay_266 : decode cX12_findWay 266 = .ok (.getfield 43, 3) := by decide +kernel
theorem dX12_findWay_269 : decode cX12_findWay 269 = .ok (.bipush 16, 2) := by decide +kernel
theorem dX12_findWay_271 : decode cX12_findWay 271 = .ok (.iload_n 1, 1) := by decide +kernel
theorem dX12_findWay_272 : decode cX12_findWay 272 = .ok (.imul, 1) := by decide +kernel
theorem dX12_findWay_273 : decode cX12_findWay 273 = .ok (.aload_n 0, 1) := by decide +kernel
theorem dX12_findWay_274 : decode cX12_findWay 274 = .ok (.getfield 13, 3) := by decide +kernel
theorem dX12_findWay_277 : decode cX12_findWay 277 = .ok (.iload 4, 2) := by decide +kernel
theorem dX12_findWay_279 : decode cX12_findWay 279 = .ok (.iaload, 1) := by decide +kernel
theorem dX12_findWay_280 : decode cX12_findWay 280 = .ok (.iadd, 1) := by decide +kernel
theorem dX12_findWay_281 : decode cX12_findWay 281 = .ok (.iload 4, 2) := by decide +kernel
theorem dX12_findWay_283 : decode cX12_findWay 283 = .ok (.iastore, 1) := by decide +kernel
theorem dX12_findWay_284 : decode cX12_findWay 284 = .ok (.aload_n 0, 1) := by decide +kernel
theorem dX12_findWay_285 : decode cX12_findWay 285 = .ok (.getfield 46, 3) := by decide +kernel
theorem dX12_findWay_288 : decode cX12_findWay 288 = .ok (.iload_n 1, 1) := by decide +kernel
theorem dX12_findWay_289 : decode cX12_findWay 289 = .ok (.dup2, 1) := by decide +kernel
theorem dX12_findWay_290 : decode cX12_findWay 290 = .ok (.iaload, 1) := by decide +kernel
theorem dX12_findWay_291 : decode cX12_findWay 291 = .ok (.iconst 1, 1) := by decide +kernel
theorem dX12_findWay_292 : decode cX12_findWay 292 = .ok (.iadd, 1) := by decide +kernel
theorem dX12_findWay_293 : decode cX12_findWay 293 = .ok (.iastore, 1) := by decide +kernel
theorem dX12_findWay_294 : decode cX12_findWay 294 = .ok (.aload_n 0, 1) := by decide +kernel
theorem dX12_findWay_295 : decode cX12_findWay 295 = .ok (.getfield 49, 3) := by decide +kernel
theorem dX12_findWay_298 : decode cX12_findWay 298 = .ok (.iload_n 1, 1) := by decide +kernel
theorem dX12_findWay_299 : decode cX12_findWay 299 = .ok (.dup2, 1) := by decide +kernel
theorem dX12_findWay_300 : decode cX12_findWay 300 = .ok (.iaload, 1) := by decide +kernel
theorem dX12_findWay_301 : decode cX12_findWay 301 = .ok (.aload_n 0, 1) := by decide +kernel
theorem dX12_findWay_302 : decode cX12_findWay 302 = .ok (.getfield 16, 3) := by decide +kernel
theorem dX12_findWay_305 : decode cX12_findWay 305 = .ok (.iload 4, 2) := by decide +kernel
theorem dX12_findWay_307 : decode cX12_findWay 307 = .ok (.iaload, 1) := by decide +kernel
theorem dX12_findWay_308 : decode cX12_findWay 308 = .ok (.iadd, 1) := by decide +kernel
theorem dX12_findWay_309 : decode cX12_findWay 309 = .ok (.iastore, 1) := by decide +kernel
theorem dX12_findWay_310 : decode cX12_findWay 310 = .ok (.iinc 4 1, 3) := by decide +kernel
theorem dX12_findWay_313 : decode cX12_findWay 313 = .ok (.goto (-195), 3) := by decide +kernel
theorem dX12_findWay_316 : decode cX12_findWay 316 = .ok (.return_, 1) := by decide +kernel
theorem dX12_grown_0 : decode cX12_grown 0 = .ok (.iload_n 1, 1) := by decide +kernel
theorem dX12_grown_1 : decode cX12_grown 1 = .ok (.istore_n 3, 1) := by decide +kernel
theorem dX12_grown_2 : decode cX12_grown 2 = .ok (.iconst 0, 1) := by decide +kernel
theorem dX12_grown_3 : decode cX12_grown 3 = .ok (.istore 4, 2) := by decide +kernel
theorem dX12_grown_5 : decode cX12_grown 5 = .ok (.iload 4, 2) := by decide +kernel
theorem dX12_grown_7 : decode cX12_grown 7 = .ok (.iload_n 3, 1) := by decide +kernel
theorem dX12_grown_8 : decode cX12_grown 8 = .ok (.if_icmp .eq 131, 3) := by decide +kernel
theorem dX12_grown_11 : decode cX12_grown 11 = .ok (.iload_n 3, 1) := by decide +kernel
theorem dX12_grown_12 : decode cX12_grown 12 = .ok (.istore 4, 2) := by decide +kernel
theorem dX12_grown_14 : decode cX12_grown 14 = .ok (.iconst 0, 1) := by decide +kernel
theorem dX12_grown_15 : decode cX12_grown 15 = .ok (.istore 5, 2) := by decide +kernel
theorem dX12_grown_17 : decode cX12_grown 17 = .ok (.iload 5, 2) := by decide +kernel
theorem dX12_grown_19 : decode cX12_grown 19 = .ok (.aload_n 0, 1) := by decide +kernel
theorem dX12_grown_20 : decode cX12_grown 20 = .ok (.getfield 97, 3) := by decide +kernel
theorem dX12_grown_23 : decode cX12_grown 23 = .ok (.if_icmp .ge 113, 3) := by decide +kernel
theorem dX12_grown_26 : decode cX12_grown 26 = .ok (.aload_n 0, 1) := by decide +kernel
theorem dX12_grown_27 : decode cX12_grown 27 = .ok (.getfield 19, 3) := by decide +kernel
theorem dX12_grown_30 : decode cX12_grown 30 = .ok (.iload 5, 2) := by decide +kernel
theorem dX12_grown_32 : decode cX12_grown 32 = .ok (.baload, 1) := by decide +kernel
theorem dX12_grown_33 : decode cX12_grown 33 = .ok (.ifCond .eq 37, 3) := by decide +kernel
theorem dX12_grown_36 : decode cX12_grown 36 = .ok (.iload_n 2, 1) := by decide +kernel
theorem dX12_grown_37 : decode cX12_grown 37 = .ok (.aload_n 0, 1) := by decide +kernel
theorem dX12_grown_38 : decode cX12_grown 38 = .ok (.getfield 7, 3) := by decide +kernel
theorem dX12_grown_41 : decode cX12_grown 41 = .ok (.iload 5, 2) := by decide +kernel
theorem dX12_grown_43 : decode cX12_grown 43 = .ok (.iaload, 1) := by decide +kernel
theorem dX12_grown_44 : decode cX12_grown 44 = .ok (.ishr, 1) := by decide +kernel
theorem dX12_grown_45 : decode cX12_grown 45 = .ok (.iconst 1, 1) := by decide +kernel
theorem dX12_grown_46 : decode cX12_grown 46 = .ok (.iand, 1) := by decide +kernel
theorem dX12_grown_47 : decode cX12_grown 47 = .ok (.iconst 1, 1) := by decide +kernel
theorem dX12_grown_48 : decode cX12_grown 48 = .ok (.if_icmp .ne 22, 3) := by decide +kernel
theorem dX12_grown_51 : decode cX12_grown 51 = .ok (.iload_n 2, 1) := by decide +kernel
theorem dX12_grown_52 : decode cX12_grown 52 = .ok (.aload_n 0, 1) := by decide +kernel
theorem dX12_grown_53 : decode cX12_grown 53 = .ok (.getfield 13, 3) := by decide +kernel
theorem dX12_grown_56 : decode cX12_grown 56 = .ok (.iload 5, 2) := by decide +kernel
theorem dX12_grown_58 : decode cX12_grown 58 = .ok (.iaload, 1) := by decide +kernel
theorem dX12_grown_59 : decode cX12_grown 59 = .ok (.ishr, 1) := by decide +kernel
theorem dX12_grown_60 : decode cX12_grown 60 = .ok (.iconst 1, 1) := by decide +kernel
theorem dX12_grown_61 : decode cX12_grown 61 = .ok (.iand, 1) := by decide +kernel
theorem dX12_grown_62 : decode cX12_grown 62 = .ok (.iconst 1, 1) := by decide +kernel
theorem dX12_grown_63 : decode cX12_grown 63 = .ok (.if_icmp .ne 7, 3) := by decide +kernel
theorem dX12_grown_66 : decode cX12_grown 66 = .ok (.iconst 1, 1) := by decide +kernel
theorem dX12_grown_67 : decode cX12_grown 67 = .ok (.goto 4, 3) := by decide +kernel
theorem dX12_grown_70 : decode cX12_grown 70 = .ok (.iconst 0, 1) := by decide +kernel
theorem dX12_grown_71 : decode cX12_grown 71 = .ok (.istore 6, 2) := by decide +kernel
theorem dX12_grown_73 : decode cX12_grown 73 = .ok (.iload 6, 2) := by decide +kernel
theorem dX12_grown_75 : decode cX12_grown 75 = .ok (.ifCond .eq 55, 3) := by decide +kernel
theorem dX12_grown_78 : decode cX12_grown 78 = .ok (.iload_n 3, 1) := by decide +kernel
theorem dX12_grown_79 : decode cX12_grown 79 = .ok (.aload_n 0, 1) := by decide +kernel
theorem dX12_grown_80 : decode cX12_grown 80 = .ok (.getfield 7, 3) := by decide +kernel
theorem dX12_grown_83 : decode cX12_grown 83 = .ok (.iload 5, 2) := by decide +kernel
theorem dX12_grown_85 : decode cX12_grown 85 = .ok (.iaload, 1) := by decide +kernel
theorem dX12_grown_86 : decode cX12_grown 86 = .ok (.ishr, 1) := by decide +kernel
theorem dX12_grown_87 : decode cX12_grown 87 = .ok (.iconst 1, 1) := by decide +kernel
theorem dX12_grown_88 : decode cX12_grown 88 = .ok (.iand, 1) := by decide +kernel
theorem dX12_grown_89 : decode cX12_grown 89 = .ok (.iconst 1, 1) := by decide +kernel
theorem dX12_grown_90 : decode cX12_grown 90 = .ok (.if_icmp .eq 18, 3) := by decide +kernel
theorem dX12_grown_93 : decode cX12_grown 93 = .ok (.iload_n 3, 1) := by decide +kernel
theorem dX12_grown_94 : decode cX12_grown 94 = .ok (.aload_n 0, 1) := by decide +kernel
theorem dX12_grown_95 : decode cX12_grown 95 = .ok (.getfield 13, 3) := by decide +kernel
theorem dX12_grown_98 : decode cX12_grown 98 = .ok (.iload 5, 2) := by decide +kernel
theorem dX12_grown_100 : decode cX12_grown 100 = .ok (.iaload, 1) := by decide +kernel
theorem dX12_grown_101 : decode cX12_grown 101 = .ok (.ishr, 1) := by decide +kernel
theorem dX12_grown_102 : decode cX12_grown 102 = .ok (.iconst 1, 1) := by decide +kernel
theorem dX12_grown_103 : decode cX12_grown 103 = .ok (.iand, 1) := by decide +kernel
theorem dX12_grown_104 : decode cX12_grown 104 = .ok (.iconst 1, 1) := by decide +kernel
theorem dX12_grown_105 : decode cX12_grown 105 = .ok (.if_icmp .ne 25, 3) := by decide +kernel
theorem dX12_grown_108 : decode cX12_grown 108 = .ok (.iload_n 3, 1) := by decide +kernel
theorem dX12_grown_109 : decode cX12_grown 109 = .ok (.iconst 1, 1) := by decide +kernel
theorem dX12_grown_110 : decode cX12_grown 110 = .ok (.aload_n 0, 1) := by decide +kernel
theorem dX12_grown_111 : decode cX12_grown 111 = .ok (.getfield 7, 3) := by decide +kernel
theorem dX12_grown_114 : decode cX12_grown 114 = .ok (.iload 5, 2) := by decide +kernel
theorem dX12_grown_116 : decode cX12_grown 116 = .ok (.iaload, 1) := by decide +kernel
theorem dX12_grown_117 : decode cX12_grown 117 = .ok (.ishl, 1) := by decide +kernel
theorem dX12_grown_118 : decode cX12_grown 118 = .ok (.iconst 1, 1) := by decide +kernel
theorem dX12_grown_119 : decode cX12_grown 119 = .ok (.aload_n 0, 1) := by decide +kernel
theorem dX12_grown_120 : decode cX12_grown 120 = .ok (.getfield 13, 3) := by decide +kernel
theorem dX12_grown_123 : decode cX12_grown 123 = .ok (.iload 5, 2) := by decide +kernel
theorem dX12_grown_125 : decode cX12_grown 125 = .ok (.iaload, 1) := by decide +kernel
theorem dX12_grown_126 : decode cX12_grown 126 = .ok (.ishl, 1) := by decide +kernel
theorem dX12_grown_127 : decode cX12_grown 127 = .ok (.ior, 1) := by decide +kernel
theorem dX12_grown_128 : decode cX12_grown 128 = .ok (.ior, 1) := by decide +kernel
theorem dX12_grown_129 : decode cX12_grown 129 = .ok (.istore_n 3, 1) := by decide +kernel
theorem dX12_grown_130 : decode cX12_grown 130 = .ok (.iinc 5 1, 3) := by decide +kernel
theorem dX12_grown_133 : decode cX12_grown 133 = .ok (.goto (-116), 3) := by decide +kernel
theorem dX12_grown_136 : decode cX12_grown 136 = .ok (.goto (-131), 3) := by decide +kernel
theorem dX12_grown_139 : decode cX12_grown 139 = .ok (.iload_n 3, 1) := by decide +kernel
theorem dX12_grown_140 : decode cX12_grown 140 = .ok (.ireturn, 1) := by decide +kernel
set_option maxRecDepth 20000 in
theorem ggX12_findSorts_X12_all : GoodIn wsX12_findSorts wsX12_all := goodIn_r _ [16, 1, 26, 27, 28, 29, 30, 31, 32, 33, 34, 35, 36, 37, 38, 39, 40, 41, 42, 43, 44, 45, 46, 47, 48, 49, 50, 51, 52, 53, 54, 55, 56, 57, 58, 59, 60, 61, 62] rfl (by decide +kernel)
set_option maxRecDepth 20000 in
theorem gX12_findSorts_X12_all : GoodIn wsX12_findSorts (wsV RX12 108 RX12 yX12_all wsX12_all) := goodIn_app (goodIn_of _ (by decide +kernel)) ggX12_findSorts_X12_all
set_option maxRecDepth 20000 in
theorem ggX12_findSorts_X12_grown : GoodIn wsX12_findSorts wsX12_grown := goodIn_r _ [20, 4, 5, 6, 7, 26, 27, 28, 29, 30, 31, 32, 33, 34, 35, 36, 37, 38, 39, 40, 41, 42, 43, 44, 45, 46, 47, 48, 49, 50, 51, 52, 53, 54, 55, 56, 57, 58, 59, 60, 61, 62] rfl (by decide +kernel)
set_option maxRecDepth 20000 in
theorem gX12_findSorts_X12_grown : GoodIn wsX12_findSorts (wsV RX12 122 RX12 yX12_grown wsX12_grown) := goodIn_app (goodIn_of _ (by decide +kernel)) ggX12_findSorts_X12_grown
set_option maxRecDepth 20000 in
theorem ggX12_findSorts_X12_findHalves : GoodIn wsX12_findSorts wsX12_findHalves := goodIn_r _ [24, 1, 25, 4, 5, 6, 7, 11, 12, 13, 14, 15, 16, 17, 18, 19, 20, 26, 27, 28, 29, 30, 31, 32, 33, 34, 35, 36, 37, 38, 39, 40, 41, 42, 43, 44, 45, 46, 47, 48, 49, 50, 51, 52, 53, 54, 55, 56, 57, 58, 59, 60, 61, 62] rfl (by decide +kernel)
set_option maxRecDepth 20000 in
theorem gX12_findSorts_X12_findHalves : GoodIn wsX12_findSorts (wsV RX12 131 RX12 yX12_findHalves wsX12_findHalves) := goodIn_app (goodIn_of _ (by decide +kernel)) ggX12_findSorts_X12_findHalves
theorem dX12_findSorts_0 : decode cX12_findSorts 0 = .ok (.aload_n 0, 1) := by decide +kernel
theorem dX12_findSorts_1 : decode cX12_findSorts 1 = .ok (.invokevirtual 108, 3) := by decide +kernel
theorem dX12_findSorts_4 : decode cX12_findSorts 4 = .ok (.istore_n 1, 1) := by decide +kernel
theorem dX12_findSorts_5 : decode cX12_findSorts 5 = .ok (.iconst 0, 1) := by decide +kernel
theorem dX12_findSorts_6 : decode cX12_findSorts 6 = .ok (.istore_n 2, 1) := by decide +kernel
theorem dX12_findSorts_7 : decode cX12_findSorts 7 = .ok (.iload_n 2, 1) := by decide +kernel
theorem dX12_findSorts_8 : decode cX12_findSorts 8 = .ok (.aload_n 0, 1) := by decide +kernel
theorem dX12_findSorts_9 : decode cX12_findSorts 9 = .ok (.getfield 92, 3) := by decide +kernel
theorem dX12_findSorts_12 : decode cX12_findSorts 12 = .ok (.if_icmp .ge 47, 3) := by decide +kernel
theorem dX12_findSorts_15 : decode cX12_findSorts 15 = .ok (.aload_n 0, 1) := by decide +kernel
theorem dX12_findSorts_16 : decode cX12_findSorts 16 = .ok (.getfield 55, 3) := by decide +kernel
theorem dX12_findSorts_19 : decode cX12_findSorts 19 = .ok (.iload_n 2, 1) := by decide +kernel
theorem dX12_findSorts_20 : decode cX12_findSorts 20 = .ok (.aload_n 0, 1) := by decide +kernel
theorem dX12_findSorts_21 : decode cX12_findSorts 21 = .ok (.getfield 30, 3) := by decide +kernel
theorem dX12_findSorts_24 : decode cX12_findSorts 24 = .ok (.aload_n 0, 1) := by decide +kernel
theorem dX12_findSorts_25 : decode cX12_findSorts 25 = .ok (.invokevirtual 108, 3) := by decide +kernel
theorem dX12_findSorts_28 : decode cX12_findSorts 28 = .ok (.iconst 1, 1) := by decide +kernel
theorem dX12_findSorts_29 : decode cX12_findSorts 29 = .ok (.iload_n 2, 1) := by decide +kernel
theorem dX12_findSorts_30 : decode cX12_findSorts 30 = .ok (.ishl, 1) := by decide +kernel
theorem dX12_findSorts_31 : decode cX12_findSorts 31 = .ok (.iconst (-1), 1) := by decide +kernel
theorem dX12_findSorts_32 : decode cX12_findSorts 32 = .ok (.ixor, 1) := by decide +kernel
theorem dX12_findSorts_33 : decode cX12_findSorts 33 = .ok (.iand, 1) := by decide +kernel
theorem dX12_findSorts_34 : decode cX12_findSorts 34 = .ok (.baload, 1) := by decide +kernel
theorem dX12_findSorts_35 : decode cX12_findSorts 35 = .ok (.aload_n 0, 1) := by decide +kernel
theorem dX12_findSorts_36 : decode cX12_findSorts 36 = .ok (.getfield 30, 3) := by decide +kernel
theorem dX12_findSorts_39 : decode cX12_findSorts 39 = .ok (.aload_n 0, 1) := by decide +kernel
theorem dX12_findSorts_40 : decode cX12_findSorts 40 = .ok (.invokevirtual 108, 3) := by decide +kernel
theorem dX12_findSorts_43 : decode cX12_findSorts 43 = .ok (.baload, 1) := by decide +kernel
theorem dX12_findSorts_44 : decode cX12_findSorts 44 = .ok (.if_icmp .ne 7, 3) := by decide +kernel
theorem dX12_findSorts_47 : decode cX12_findSorts 47 = .ok (.iconst 0, 1) := by decide +kernel
theorem dX12_findSorts_48 : decode cX12_findSorts 48 = .ok (.goto 4, 3) := by decide +kernel
theorem dX12_findSorts_51 : decode cX12_findSorts 51 = .ok (.iconst 2, 1) := by decide +kernel
theorem dX12_findSorts_52 : decode cX12_findSorts 52 = .ok (.iastore, 1) := by decide +kernel
theorem dX12_findSorts_53 : decode cX12_findSorts 53 = .ok (.iinc 2 1, 3) := by decide +kernel
theorem dX12_findSorts_56 : decode cX12_findSorts 56 = .ok (.goto (-49), 3) := by decide +kernel
theorem dX12_findSorts_59 : decode cX12_findSorts 59 = .ok (.iconst 0, 1) := by decide +kernel
theorem dX12_findSorts_60 : decode cX12_findSorts 60 = .ok (.istore_n 2, 1) := by decide +kernel
theorem dX12_findSorts_61 : decode cX12_findSorts 61 = .ok (.iload_n 2, 1) := by decide +kernel
theorem dX12_findSorts_62 : decode cX12_findSorts 62 = .ok (.aload_n 0, 1) := by decide +kernel
theorem dX12_findSorts_63 : decode cX12_findSorts 63 = .ok (.getfield 97, 3) := by decide +kernel
theorem dX12_findSorts_66 : decode cX12_findSorts 66 = .ok (.if_icmp .ge 109, 3) := by decide +kernel
theorem dX12_findSorts_69 : decode cX12_findSorts 69 = .ok (.aload_n 0, 1) := by decide +kernel
theorem dX12_findSorts_70 : decode cX12_findSorts 70 = .ok (.getfield 19, 3) := by decide +kernel
theorem dX12_findSorts_73 : decode cX12_findSorts 73 = .ok (.iload_n 2, 1) := by decide +kernel
theorem dX12_findSorts_74 : decode cX12_findSorts 74 = .ok (.baload, 1) := by decide +kernel
theorem dX12_findSorts_75 : decode cX12_findSorts 75 = .ok (.ifCond .eq 44, 3) := by decide +kernel
theorem dX12_findSorts_78 : decode cX12_findSorts 78 = .ok (.aload_n 0, 1) := by decide +kernel
theorem dX12_findSorts_79 : decode cX12_findSorts 79 = .ok (.getfield 55, 3) := by decide +kernel
theorem dX12_findSorts_82 : decode cX12_findSorts 82 = .ok (.aload_n 0, 1) := by decide +kernel
theorem dX12_findSorts_83 : decode cX12_findSorts 83 = .ok (.getfield 7, 3) := by decide +kernel
theorem dX12_findSorts_86 : decode cX12_findSorts 86 = .ok (.iload_n 2, 1) := by decide +kernel
theorem dX12_findSorts_87 : decode cX12_findSorts 87 = .ok (.iaload, 1) := by decide +kernel
theorem dX12_findSorts_88 : decode cX12_findSorts 88 = .ok (.iaload, 1) := by decide +kernel
theorem dX12_findSorts_89 : decode cX12_findSorts 89 = .ok (.ifCond .ne 30, 3) := by decide +kernel
theorem dX12_findSorts_92 : decode cX12_findSorts 92 = .ok (.aload_n 0, 1) := by decide +kernel
theorem dX12_findSorts_93 : decode cX12_findSorts 93 = .ok (.getfield 55, 3) := by decide +kernel
theorem dX12_findSorts_96 : decode cX12_findSorts 96 = .ok (.aload_n 0, 1) := by decide +kernel
theorem dX12_findSorts_97 : decode cX12_findSorts 97 = .ok (.getfield 13, 3) := by decide +kernel
theorem dX12_findSorts_100 : decode cX12_findSorts 100 = .ok (.iload_n 2, 1) := by decide +kernel
theorem dX12_findSorts_101 : decode cX12_findSorts 101 = .ok (.iaload, 1) := by decide +kernel
theorem dX12_findSorts_102 : decode cX12_findSorts 102 = .ok (.iaload, 1) := by decide +kernel
theorem dX12_findSorts_103 : decode cX12_findSorts 103 = .ok (.iconst 2, 1) := by decide +kernel
theorem dX12_findSorts_104 : decode cX12_findSorts 104 = .ok (.if_icmp .ne 15, 3) := by decide +kernel
theorem dX12_findSorts_107 : decode cX12_findSorts 107 = .ok (.aload_n 0, 1) := by decide +kernel
theorem dX12_findSorts_108 : decode cX12_findSorts 108 = .ok (.getfield 55, 3) := by decide +kernel
theorem dX12_findSorts_111 : decode cX12_findSorts 111 = .ok (.aload_n 0, 1) := by decide +kernel
theorem dX12_findSorts_112 : decode cX12_findSorts 112 = .ok (.getfield 13, 3) := by decide +kernel
theorem dX12_findSorts_115 : decode cX12_findSorts 115 = .ok (.iload_n 2, 1) := by decide +kernel
theorem dX12_findSorts_116 : decode cX12_findSorts 116 = .ok (.iaload, 1) := by decide +kernel
theorem dX12_findSorts_117 : decode cX12_findSorts 117 = .ok (.iconst 1, 1) := by decide +kernel
theorem dX12_findSorts_118 : decode cX12_findSorts 118 = .ok (.iastore, 1) := by decide +kernel
theorem dX12_findSorts_119 : decode cX12_findSorts 119 = .ok (.aload_n 0, 1) := by decide +kernel
theorem dX12_findSorts_120 : decode cX12_findSorts 120 = .ok (.getfield 19, 3) := by decide +kernel
theorem dX12_findSorts_123 : decode cX12_findSorts 123 = .ok (.iload_n 2, 1) := by decide +kernel
theorem dX12_findSorts_124 : decode cX12_findSorts 124 = .ok (.baload, 1) := by decide +kernel
theorem dX12_findSorts_125 : decode cX12_findSorts 125 = .ok (.ifCond .eq 44, 3) := by decide +kernel
theorem dX12_findSorts_128 : decode cX12_findSorts 128 = .ok (.aload_n 0, 1) := by decide +kernel
theorem dX12_findSorts_129 : decode cX12_findSorts 129 = .ok (.getfield 55, 3) := by decide +kernel
theorem dX12_findSorts_132 : decode cX12_findSorts 132 = .ok (.aload_n 0, 1) := by decide +kernel
theorem dX12_findSorts_133 : decode cX12_findSorts 133 = .ok (.getfield 13, 3) := by decide +kernel
theorem dX12_findSorts_136 : decode cX12_findSorts 136 = .ok (.iload_n 2, 1) := by decide +kernel
theorem dX12_findSorts_137 : decode cX12_findSorts 137 = .ok (.iaload, 1) := by decide +kernel
theorem dX12_findSorts_138 : decode cX12_findSorts 138 = .ok (.iaload, 1) := by decide +kernel
theorem dX12_findSorts_139 : decode cX12_findSorts 139 = .ok (.ifCond .ne 30, 3) := by decide +kernel
theorem dX12_findSorts_142 : decode cX12_findSorts 142 = .ok (.aload_n 0, 1) := by decide +kernel
theorem dX12_findSorts_143 : decode cX12_findSorts 143 = .ok (.getfield 55, 3) := by decide +kernel
theorem dX12_findSorts_146 : decode cX12_findSorts 146 = .ok (.aload_n 0, 1) := by decide +kernel
theorem dX12_findSorts_147 : decode cX12_findSorts 147 = .ok (.getfield 7, 3) := by decide +kernel
theorem dX12_findSorts_150 : decode cX12_findSorts 150 = .ok (.iload_n 2, 1) := by decide +kernel
theorem dX12_findSorts_151 : decode cX12_findSorts 151 = .ok (.iaload, 1) := by decide +kernel
theorem dX12_findSorts_152 : decode cX12_findSorts 152 = .ok (.iaload, 1) := by decide +kernel
theorem dX12_findSorts_153 : decode cX12_findSorts 153 = .ok (.iconst 2, 1) := by decide +kernel
theorem dX12_findSorts_154 : decode cX12_findSorts 154 = .ok (.if_icmp .ne 15, 3) := by decide +kernel
