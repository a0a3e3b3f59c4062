theorem dX12_findPairCosts_423 : decode cX12_findPairCosts 423 = .ok (.iinc 1 1, 3) := by decide +kernel
theorem dX12_findPairCosts_426 : decode cX12_findPairCosts 426 = .ok (.goto (-145), 3) := by decide +kernel
theorem dX12_findPairCosts_429 : decode cX12_findPairCosts 429 = .ok (.return_, 1) := by decide +kernel
set_option maxRecDepth 20000 in
theorem ggX12_know_X12_findWay : GoodIn wsX12_know wsX12_findWay := goodIn_r _ [6, 7, 8, 9, 10, 11, 12, 13, 14, 15, 16, 17, 18, 19, 20, 21, 5, 22, 23, 24, 25, 26, 27, 28, 29, 30, 31, 32, 33, 34, 35, 36, 37, 38, 39, 40, 81, 82, 83, 84, 85, 86, 87, 88, 89, 90, 91, 92, 93, 94, 95, 96, 97, 98, 99, 100, 101, 102, 103, 104, 105, 106, 107, 108, 109, 110, 111, 112, 113, 114, 115, 116, 117] rfl (by decide +kernel)
set_option maxRecDepth 20000 in
theorem gX12_know_X12_findWay : GoodIn wsX12_know (wsV RX12 148 RX12 yX12_findWay wsX12_findWay) := goodIn_app (goodIn_of _ (by decide +kernel)) ggX12_know_X12_findWay
set_option maxRecDepth 20000 in
theorem ggX12_know_X12_findSorts : GoodIn wsX12_know wsX12_findSorts := goodIn_r _ [44, 23, 45, 7, 14, 15, 16, 17, 46, 47, 48, 49, 34, 35, 36, 5, 37, 50, 51, 52, 53, 54, 55, 56, 57, 58, 81, 82, 83, 84, 85, 86, 87, 88, 89, 90, 91, 92, 93, 94, 95, 96, 97, 98, 99, 100, 101, 102, 103, 104, 105, 106, 107, 108, 109, 110, 111, 112, 113, 114, 115, 116, 117] rfl (by decide +kernel)
set_option maxRecDepth 20000 in
theorem gX12_know_X12_findSorts : GoodIn wsX12_know (wsV RX12 151 RX12 yX12_findSorts wsX12_findSorts) := goodIn_app (goodIn_of _ (by decide +kernel)) ggX12_know_X12_findSorts
set_option maxRecDepth 20000 in
theorem ggX12_know_X12_findCover : GoodIn wsX12_know wsX12_findCover := goodIn_r _ [62, 14, 63, 15, 16, 17, 23, 7, 64, 34, 35, 36, 5, 37, 65, 66, 67, 81, 82, 83, 84, 85, 86, 87, 88, 89, 90, 91, 92, 93, 94, 95, 96, 97, 98, 99, 100, 101, 102, 103, 104, 105, 106, 107, 108, 109, 110, 111, 112, 113, 114, 115, 116, 117] rfl (by decide +kernel)
set_option maxRecDepth 20000 in
theorem gX12_know_X12_findCover : GoodIn wsX12_know (wsV RX12 154 RX12 yX12_findCover wsX12_findCover) := goodIn_app (goodIn_of _ (by decide +kernel)) ggX12_know_X12_findCover
set_option maxRecDepth 20000 in
theorem ggX12_know_X12_findHold : GoodIn wsX12_know wsX12_findHold := goodIn_r _ [71, 72, 23, 29, 73, 34, 35, 36, 5, 37, 38, 39, 40, 65, 66, 67, 81, 82, 83, 84, 85, 86, 87, 88, 89, 90, 91, 92, 93, 94, 95, 96, 97, 98, 99, 100, 101, 102, 103, 104, 105, 106, 107, 108, 109, 110, 111, 112, 113, 114, 115, 116, 117] rfl (by decide +kernel)
set_option maxRecDepth 20000 in
theorem gX12_know_X12_findHold : GoodIn wsX12_know (wsV RX12 157 RX12 yX12_findHold wsX12_findHold) := goodIn_app (goodIn_of _ (by decide +kernel)) ggX12_know_X12_findHold
set_option maxRecDepth 20000 in
theorem ggX12_know_X12_findPairCosts : GoodIn wsX12_know wsX12_findPairCosts := goodIn_r _ [77, 78, 79, 14, 18, 15, 16, 17, 23, 80, 34, 35, 36, 5, 37, 38, 39, 40, 81, 82, 83, 84, 85, 86, 87, 88, 89, 90, 91, 92, 93, 94, 95, 96, 97, 98, 99, 100, 101, 102, 103, 104, 105, 106, 107, 108, 109, 110, 111, 112, 113, 114, 115, 116, 117] rfl (by decide +kernel)
set_option maxRecDepth 20000 in
theorem gX12_know_X12_findPairCosts : GoodIn wsX12_know (wsV RX12 160 RX12 yX12_findPairCosts wsX12_findPairCosts) := goodIn_app (goodIn_of _ (by decide +kernel)) ggX12_know_X12_findPairCosts
theorem dX12_know_0 : decode cX12_know 0 = .ok (.aload_n 0, 1) := by decide +kernel
theorem dX12_know_1 : decode cX12_know 1 = .ok (.getfield 144, 3) := by decide +kernel
theorem dX12_know_4 : decode cX12_know 4 = .ok (.ifCond .eq 4, 3) := by decide +kernel
theorem dX12_know_7 : decode cX12_know 7 = .ok (.return_, 1) := by decide +kernel
theorem dX12_know_8 : decode cX12_know 8 = .ok (.aload_n 0, 1) := by decide +kernel
theorem dX12_know_9 : decode cX12_know 9 = .ok (.iconst 1, 1) := by decide +kernel
theorem dX12_know_10 : decode cX12_know 10 = .ok (.putfield 144, 3) := by decide +kernel
theorem dX12_know_13 : decode cX12_know 13 = .ok (.iconst 0, 1) := by decide +kernel
theorem dX12_know_14 : decode cX12_know 14 = .ok (.istore_n 1, 1) := by decide +kernel
theorem dX12_know_15 : decode cX12_know 15 = .ok (.iload_n 1, 1) := by decide +kernel
theorem dX12_know_16 : decode cX12_know 16 = .ok (.iconst 4, 1) := by decide +kernel
theorem dX12_know_17 : decode cX12_know 17 = .ok (.if_icmp .ge 14, 3) := by decide +kernel
theorem dX12_know_20 : decode cX12_know 20 = .ok (.aload_n 0, 1) := by decide +kernel
theorem dX12_know_21 : decode cX12_know 21 = .ok (.iload_n 1, 1) := by decide +kernel
theorem dX12_know_22 : decode cX12_know 22 = .ok (.invokevirtual 148, 3) := by decide +kernel
theorem dX12_know_25 : decode cX12_know 25 = .ok (.iinc 1 1, 3) := by decide +kernel
theorem dX12_know_28 : decode cX12_know 28 = .ok (.goto (-13), 3) := by decide +kernel
theorem dX12_know_31 : decode cX12_know 31 = .ok (.aload_n 0, 1) := by decide +kernel
theorem dX12_know_32 : decode cX12_know 32 = .ok (.invokevirtual 151, 3) := by decide +kernel
theorem dX12_know_35 : decode cX12_know 35 = .ok (.aload_n 0, 1) := by decide +kernel
theorem dX12_know_36 : decode cX12_know 36 = .ok (.invokevirtual 154, 3) := by decide +kernel
theorem dX12_know_39 : decode cX12_know 39 = .ok (.aload_n 0, 1) := by decide +kernel
theorem dX12_know_40 : decode cX12_know 40 = .ok (.invokevirtual 157, 3) := by decide +kernel
theorem dX12_know_43 : decode cX12_know 43 = .ok (.aload_n 0, 1) := by decide +kernel
theorem dX12_know_44 : decode cX12_know 44 = .ok (.invokevirtual 160, 3) := by decide +kernel
theorem dX12_know_47 : decode cX12_know 47 = .ok (.return_, 1) := by decide +kernel
theorem dX12_change_0 : decode cX12_change 0 = .ok (.aload_n 0, 1) := by decide +kernel
theorem dX12_change_1 : decode cX12_change 1 = .ok (.iconst 0, 1) := by decide +kernel
theorem dX12_change_2 : decode cX12_change 2 = .ok (.putfield 144, 3) := by decide +kernel
theorem dX12_change_5 : decode cX12_change 5 = .ok (.aload_n 0, 1) := by decide +kernel
theorem dX12_change_6 : decode cX12_change 6 = .ok (.iconst 0, 1) := by decide +kernel
theorem dX12_change_7 : decode cX12_change 7 = .ok (.putfield 163, 3) := by decide +kernel
theorem dX12_change_10 : decode cX12_change 10 = .ok (.return_, 1) := by decide +kernel
theorem dX12_isNode_0 : decode cX12_isNode 0 = .ok (.iload_n 1, 1) := by decide +kernel
theorem dX12_isNode_1 : decode cX12_isNode 1 = .ok (.ifCond .lt 15, 3) := by decide +kernel
theorem dX12_isNode_4 : decode cX12_isNode 4 = .ok (.iload_n 1, 1) := by decide +kernel
theorem dX12_isNode_5 : decode cX12_isNode 5 = .ok (.aload_n 0, 1) := by decide +kernel
theorem dX12_isNode_6 : decode cX12_isNode 6 = .ok (.getfield 92, 3) := by decide +kernel
theorem dX12_isNode_9 : decode cX12_isNode 9 = .ok (.if_icmp .ge 7, 3) := by decide +kernel
theorem dX12_isNode_12 : decode cX12_isNode 12 = .ok (.iconst 1, 1) := by decide +kernel
theorem dX12_isNode_13 : decode cX12_isNode 13 = .ok (.goto 4, 3) := by decide +kernel
theorem dX12_isNode_16 : decode cX12_isNode 16 = .ok (.iconst 0, 1) := by decide +kernel
theorem dX12_isNode_17 : decode cX12_isNode 17 = .ok (.ireturn, 1) := by decide +kernel
set_option maxRecDepth 20000 in
theorem ggX12_node_X12_change : GoodIn wsX12_node wsX12_change := goodIn_r _ [7, 8, 9, 10, 11, 12, 13, 14, 15, 16, 17, 18, 19, 20, 21, 22, 23, 24, 25, 26, 27, 28, 29, 30, 31, 32, 33, 34, 35, 36, 37, 38, 39, 40, 41, 42, 43, 44, 45, 46] rfl (by decide +kernel)
set_option maxRecDepth 20000 in
theorem gX12_node_X12_change : GoodIn wsX12_node (wsV RX12 166 RX12 yX12_change wsX12_change) := goodIn_app (goodIn_of _ (by decide +kernel)) ggX12_node_X12_change
theorem dX12_node_0 : decode cX12_node 0 = .ok (.aload_n 0, 1) := by decide +kernel
theorem dX12_node_1 : decode cX12_node 1 = .ok (.getfield 92, 3) := by decide +kernel
theorem dX12_node_4 : decode cX12_node 4 = .ok (.bipush 16, 2) := by decide +kernel
theorem dX12_node_6 : decode cX12_node 6 = .ok (.if_icmp .ne 6, 3) := by decide +kernel
theorem dX12_node_9 : decode cX12_node 9 = .ok (.bipush (-4), 2) := by decide +kernel
theorem dX12_node_11 : decode cX12_node 11 = .ok (.ireturn, 1) := by decide +kernel
theorem dX12_node_12 : decode cX12_node 12 = .ok (.iconst 0, 1) := by decide +kernel
theorem dX12_node_13 : decode cX12_node 13 = .ok (.istore_n 1, 1) := by decide +kernel
theorem dX12_node_14 : decode cX12_node 14 = .ok (.iload_n 1, 1) := by decide +kernel
theorem dX12_node_15 : decode cX12_node 15 = .ok (.bipush 16, 2) := by decide +kernel
theorem dX12_node_17 : decode cX12_node 17 = .ok (.if_icmp .ge 39, 3) := by decide +kernel
theorem dX12_node_20 : decode cX12_node 20 = .ok (.aload_n 0, 1) := by decide +kernel
theorem dX12_node_21 : decode cX12_node 21 = .ok (.getfield 23, 3) := by decide +kernel
theorem dX12_node_24 : decode cX12_node 24 = .ok (.bipush 16, 2) := by decide +kernel
theorem dX12_node_26 : decode cX12_node 26 = .ok (.aload_n 0, 1) := by decide +kernel
theorem dX12_node_27 : decode cX12_node 27 = .ok (.getfield 92, 3) := by decide +kernel
theorem dX12_node_30 : decode cX12_node 30 = .ok (.imul, 1) := by decide +kernel
theorem dX12_node_31 : decode cX12_node 31 = .ok (.iload_n 1, 1) := by decide +kernel
theorem dX12_node_32 : decode cX12_node 32 = .ok (.iadd, 1) := by decide +kernel
theorem dX12_node_33 : decode cX12_node 33 = .ok (.iconst (-1), 1) := by decide +kernel
theorem dX12_node_34 : decode cX12_node 34 = .ok (.iastore, 1) := by decide +kernel
theorem dX12_node_35 : decode cX12_node 35 = .ok (.aload_n 0, 1) := by decide +kernel
theorem dX12_node_36 : decode cX12_node 36 = .ok (.getfield 23, 3) := by decide +kernel
theorem dX12_node_39 : decode cX12_node 39 = .ok (.bipush 16, 2) := by decide +kernel
theorem dX12_node_41 : decode cX12_node 41 = .ok (.iload_n 1, 1) := by decide +kernel
theorem dX12_node_42 : decode cX12_node 42 = .ok (.imul, 1) := by decide +kernel
theorem dX12_node_43 : decode cX12_node 43 = .ok (.aload_n 0, 1) := by decide +kernel
theorem dX12_node_44 : decode cX12_node 44 = .ok (.getfield 92, 3) := by decide +kernel
theorem dX12_node_47 : decode cX12_node 47 = .ok (.iadd, 1) := by decide +kernel
theorem dX12_node_48 : decode cX12_node 48 = .ok (.iconst (-1), 1) := by decide +kernel
theorem dX12_node_49 : decode cX12_node 49 = .ok (.iastore, 1) := by decide +kernel
theorem dX12_node_50 : decode cX12_node 50 = .ok (.iinc 1 1, 3) := by decide +kernel
theorem dX12_node_53 : decode cX12_node 53 = .ok (.goto (-39), 3) := by decide +kernel
theorem dX12_node_56 : decode cX12_node 56 = .ok (.aload_n 0, 1) := by decide +kernel
theorem dX12_node_57 : decode cX12_node 57 = .ok (.dup, 1) := by decide +kernel
theorem dX12_node_58 : decode cX12_node 58 = .ok (.getfield 92, 3) := by decide +kernel
theorem dX12_node_61 : decode cX12_node 61 = .ok (.iconst 1, 1) := by decide +kernel
theorem dX12_node_62 : decode cX12_node 62 = .ok (.iadd, 1) := by decide +kernel
theorem dX12_node_63 : decode cX12_node 63 = .ok (.putfield 92, 3) := by decide +kernel
theorem dX12_node_66 : decode cX12_node 66 = .ok (.aload_n 0, 1) := by decide +kernel
theorem dX12_node_67 : decode cX12_node 67 = .ok (.invokevirtual 166, 3) := by decide +kernel
theorem dX12_node_70 : decode cX12_node 70 = .ok (.aload_n 0, 1) := by decide +kernel
theorem dX12_node_71 : decode cX12_node 71 = .ok (.getfield 92, 3) := by decide +kernel
theorem dX12_node_74 : decode cX12_node 74 = .ok (.iconst 1, 1) := by decide +kernel
theorem dX12_node_75 : decode cX12_node 75 = .ok (.isub, 1) := by decide +kernel
theorem dX12_node_76 : decode cX12_node 76 = .ok (.ireturn, 1) := by decide +kernel
set_option maxRecDepth 20000 in
theorem ggX12_arc_X12_isNode : GoodIn wsX12_arc wsX12_isNode := goodIn_r _ [10, 11, 18, 19, 20, 21, 22, 23, 24, 25, 26, 27, 28, 29, 30, 31, 32, 33, 34, 35, 36, 37, 38, 39, 40, 41, 42, 43, 44, 45, 46, 47, 48, 49, 50, 51, 52, 53, 54] rfl (by decide +kernel)
set_option maxRecDepth 20000 in
theorem gX12_arc_X12_isNode : GoodIn wsX12_arc (wsV RX12 169 RX12 yX12_isNode wsX12_isNode) := goodIn_app (goodIn_of _ (by decide +kernel)) ggX12_arc_X12_isNode
set_option maxRecDepth 20000 in
theorem ggX12_arc_X12_change : GoodIn wsX12_arc wsX12_change := goodIn_r _ [15, 16, 17, 18, 19, 20, 21, 22, 23, 24, 25, 26, 27, 28, 29, 30, 31, 32, 33, 34, 35, 36, 37, 38, 39, 40, 41, 42, 43, 44, 45, 46, 47, 48, 49, 50, 51, 52, 53, 54] rfl (by decide +kernel)
set_option maxRecDepth 20000 in
theorem gX12_arc_X12_change : GoodIn wsX12_arc (wsV RX12 166 RX12 yX12_change wsX12_change) := goodIn_app (goodIn_of _ (by decide +kernel)) ggX12_arc_X12_change
theorem dX12_arc_0 : decode cX12_arc 0 = .ok (.aload_n 0, 1) := by decide +kernel
theorem dX12_arc_1 : decode cX12_arc 1 = .ok (.iload_n 1, 1) := by decide +kernel
theorem dX12_arc_2 : decode cX12_arc 2 = .ok (.invokevirtual 169, 3) := by decide +kernel
theorem dX12_arc_5 : decode cX12_arc 5 = .ok (.ifCond .eq 11, 3) := by decide +kernel
theorem dX12_arc_8 : decode cX12_arc 8 = .ok (.aload_n 0, 1) := by decide +kernel
theorem dX12_arc_9 : decode cX12_arc 9 = .ok (.iload_n 2, 1) := by decide +kernel
theorem dX12_arc_10 : decode cX12_arc 10 = .ok (.invokevirtual 169, 3) := by decide +kernel
theorem dX12_arc_13 : decode cX12_arc 13 = .ok (.ifCond .ne 5, 3) := by decide +kernel
theorem dX12_arc_16 : decode cX12_arc 16 = .ok (.iconst (-1), 1) := by decide +kernel
theorem dX12_arc_17 : decode cX12_arc 17 = .ok (.ireturn, 1) := by decide +kernel
theorem dX12_arc_18 : decode cX12_arc 18 = .ok (.iload_n 1, 1) := by decide +kernel
theorem dX12_arc_19 : decode cX12_arc 19 = .ok (.iload_n 2, 1) := by decide +kernel
theorem dX12_arc_20 : decode cX12_arc 20 = .ok (.if_icmp .eq 14, 3) := by decide +kernel
theorem dX12_arc_23 : decode cX12_arc 23 = .ok (.iload_n 3, 1) := by decide +kernel
theorem dX12_arc_24 : decode cX12_arc 24 = .ok (.ifCond .lt 10, 3) := by decide +kernel
theorem dX12_arc_27 : decode cX12_arc 27 = .ok (.iload_n 3, 1) := by decide +kernel
theorem dX12_arc_28 : decode cX12_arc 28 = .ok (.sipush 1000, 3) := by decide +kernel
theorem dX12_arc_31 : decode cX12_arc 31 = .ok (.if_icmp .le 6, 3) := by decide +kernel
theorem dX12_arc_34 : decode cX12_arc 34 = .ok (.bipush (-2), 2) := by decide +kernel
theorem dX12_arc_36 : decode cX12_arc 36 = .ok (.ireturn, 1) := by decide +kernel
theorem dX12_arc_37 : decode cX12_arc 37 = .ok (.aload_n 0, 1) := by decide +kernel
theorem dX12_arc_38 : decode cX12_arc 38 = .ok (.getfield 97, 3) := by decide +kernel
theorem dX12_arc_41 : decode cX12_arc 41 = .ok (.bipush 60, 2) := by decide +kernel
theorem dX12_arc_43 : decode cX12_arc 43 = .ok (.if_icmp .ne 6, 3) := by decide +kernel
theorem dX12_arc_46 : decode cX12_arc 46 = .ok (.bipush (-4), 2) := by decide +kernel
theorem dX12_arc_48 : decode cX12_arc 48 = .ok (.ireturn, 1) := by decide +kernel
theorem dX12_arc_49 : decode cX12_arc 49 = .ok (.aload_n 0, 1) := by decide +kernel
theorem dX12_arc_50 : decode cX12_arc 50 = .ok (.getfield 7, 3) := by decide +kernel
theorem dX12_arc_53 : decode cX12_arc 53 = .ok (.aload_n 0, 1) := by decide +kernel
theorem dX12_arc_54 : decode cX12_arc 54 = .ok (.getfield 97, 3) := by decide +kernel
theorem dX12_arc_57 : decode cX12_arc 57 = .ok (.iload_n 1, 1) := by decide +kernel
theorem dX12_arc_58 : decode cX12_arc 58 = .ok (.iastore, 1) := by decide +kernel
theorem dX12_arc_59 : decode cX12_arc 59 = .ok (.aload_n 0, 1) := by decide +kernel
theorem dX12_arc_60 : decode cX12_arc 60 = .ok (.getfield 13, 3) := by decide +kernel
theorem dX12_arc_63 : decode cX12_arc 63 = .ok (.aload_n 0, 1) := by decide +kernel
theorem dX12_arc_64 : decode cX12_arc 64 = .ok (.getfield 97, 3) := by decide +kernel
theorem dX12_arc_67 : decode cX12_arc 67 = .ok (.iload_n 2, 1) := by decide +kernel
theorem dX12_arc_68 : decode cX12_arc 68 = .ok (.iastore, 1) := by decide +kernel
theorem dX12_arc_69 : decode cX12_arc 69 = .ok (.aload_n 0, 1) := by decide +kernel
theorem dX12_arc_70 : decode cX12_arc 70 = .ok (.getfield 16, 3) := by decide +kernel
theorem dX12_arc_73 : decode cX12_arc 73 = .ok (.aload_n 0, 1) := by decide +kernel
theorem dX12_arc_74 : decode cX12_arc 74 = .ok (.getfield 97, 3) := by decide +kernel
theorem dX12_arc_77 : decode cX12_arc 77 = .ok (.iload_n 3, 1) := by decide +kernel
theorem dX12_arc_78 : decode cX12_arc 78 = .ok (.iastore, 1) := by decide +kernel
theorem dX12_arc_79 : decode cX12_arc 79 = .ok (.aload_n 0, 1) := by decide +kernel
theorem dX12_arc_80 : decode cX12_arc 80 = .ok (.getfield 19, 3) := by decide +kernel
theorem dX12_arc_83 : decode cX12_arc 83 = .ok (.aload_n 0, 1) := by decide +kernel
theorem dX12_arc_84 : decode cX12_arc 84 = .ok (.getfield 97, 3) := by decide +kernel
theorem dX12_arc_87 : decode cX12_arc 87 = .ok (.iconst 1, 1) := by decide +kernel
theorem dX12_arc_88 : decode cX12_arc 88 = .ok (.bastore, 1) := by decide +kernel
theorem dX12_arc_89 : decode cX12_arc 89 = .ok (.aload_n 0, 1) := by decide +kernel
theorem dX12_arc_90 : decode cX12_arc 90 = .ok (.dup, 1) := by decide +kernel
theorem dX12_arc_91 : decode cX12_arc 91 = .ok (.getfield 97, 3) := by decide +kernel
theorem dX12_arc_94 : decode cX12_arc 94 = .ok (.iconst 1, 1) := by decide +kernel
theorem dX12_arc_95 : decode cX12_arc 95 = .ok (.iadd, 1) := by decide +kernel
theorem dX12_arc_96 : decode cX12_arc 96 = .ok (.putfield 97, 3) := by decide +kernel
theorem dX12_arc_99 : decode cX12_arc 99 = .ok (.aload_n 0, 1) := by decide +kernel
theorem dX12_arc_100 : decode cX12_arc 100 = .ok (.invokevirtual 166, 3) := by decide +kernel
theorem dX12_arc_103 : decode cX12_arc 103 = .ok (.aload_n 0, 1) := by decide +kernel
theorem dX12_arc_104 : decode cX12_arc 104 = .ok (.getfield 97, 3) := by decide +kernel
theorem dX12_arc_107 : decode cX12_arc 107 = .ok (.iconst 1, 1) := by decide +kernel
theorem dX12_arc_108 : decode cX12_arc 108 = .ok (.isub, 1) := by decide +kernel
theorem dX12_arc_109 : decode cX12_arc 109 = .ok (.ireturn, 1) := by decide +kernel
set_option maxRecDepth 20000 in
theorem ggX12_cut_X12_change : GoodIn wsX12_cut wsX12_change := goodIn_r _ [7, 8, 9, 10, 11, 12, 13, 14, 15, 16, 17, 18, 19, 20, 21, 22, 23, 24, 25, 26, 27, 28, 29, 30, 31, 32, 33, 34, 35, 36, 37, 38, 39, 40, 41, 42, 43, 44, 45, 46] rfl (by decide +kernel)
set_option maxRecDepth 20000 in
theorem gX12_cut_X12_change : GoodIn wsX12_cut (wsV RX12 166 RX12 yX12_change wsX12_change) := goodIn_app (goodIn_of _ (by decide +kernel)) ggX12_cut_X12_change
theorem dX12_cut_0 : decode cX12_cut 0 = .ok (.iload_n 1, 1) := by decide +kernel
theorem dX12_cut_1 : decode cX12_cut 1 = .ok (.ifCond .lt 20, 3) := by decide +kernel
theorem dX12_cut_4 : decode cX12_cut 4 = .ok (.iload_n 1, 1) := by decide +kernel
theorem dX12_cut_5 : decode cX12_cut 5 = .ok (.aload_n 0, 1) := by decide +kernel
theorem dX12_cut_6 : decode cX12_cut 6 = .ok (.getfield 97, 3) := by decide +kernel
theorem dX12_cut_9 : decode cX12_cut 9 = .ok (.if_icmp .ge 12, 3) := by decide +kernel
theorem dX12_cut_12 : decode cX12_cut 12 = .ok (.aload_n 0, 1) := by decide +kernel
theorem dX12_cut_13 : decode cX12_cut 13 = .ok (.getfield 19, 3) := by decide +kernel
theorem dX12_cut_16 : decode cX12_cut 16 = .ok (.iload_n 1, 1) := by decide +kernel
theorem dX12_cut_17 : decode cX12_cut 17 = .ok (.baload, 1) := by decide +kernel
theorem dX12_cut_18 : decode cX12_cut 18 = .ok (.ifCond .ne 5, 3) := by decide +kernel
theorem dX12_cut_21 : decode cX12_cut 21 = .ok (.iconst (-1), 1) := by decide +kernel
theorem dX12_cut_22 : decode cX12_cut 22 = .ok (.ireturn, 1) := by decide +kernel
theorem dX12_cut_23 : decode cX12_cut 23 = .ok (.aload_n 0, 1) := by decide +kernel
theorem dX12_cut_24 : decode cX12_cut 24 = .ok (.getfield 19, 3) := by decide +kernel
theorem dX12_cut_27 : decode cX12_cut 27 = .ok (.iload_n 1, 1) := by decide +kernel
theorem dX12_cut_28 : decode cX12_cut 28 = .ok (.iconst 0, 1) := by decide +kernel
theorem dX12_cut_29 : decode cX12_cut 29 = .ok (.bastore, 1) := by decide +kernel
theorem dX12_cut_30 : decode cX12_cut 30 = .ok (.aload_n 0, 1) := by decide +kernel
theorem dX12_cut_31 : decode cX12_cut 31 = .ok (.invokevirtual 166, 3) := by decide +kernel
theorem dX12_cut_34 : decode cX12_cut 34 = .ok (.iconst 0, 1) := by decide +kernel
theorem dX12_cut_35 : decode cX12_cut 35 = .ok (.istore_n 2, 1) := by decide +kernel
theorem dX12_cut_36 : decode cX12_cut 36 = .ok (.iconst 0, 1) := by decide +kernel
theorem dX12_cut_37 : decode cX12_cut 37 = .ok (.istore_n 3, 1) := by decide +kernel
theorem dX12_cut_38 : decode cX12_cut 38 = .ok (.iload_n 3, 1) := by decide +kernel
theorem dX12_cut_39 : decode cX12_cut 39 = .ok (.aload_n 0, 1) := by decide +kernel
theorem dX12_cut_40 : decode cX12_cut 40 = .ok (.getfield 97, 3) := by decide +kernel
theorem dX12_cut_43 : decode cX12_cut 43 = .ok (.if_icmp .ge 26, 3) := by decide +kernel
theorem dX12_cut_46 : decode cX12_cut 46 = .ok (.iload_n 2, 1) := by decide +kernel
theorem dX12_cut_47 : decode cX12_cut 47 = .ok (.aload_n 0, 1) := by decide +kernel
theorem dX12_cut_48 : decode cX12_cut 48 = .ok (.getfield 19, 3) := by decide +kernel
theorem dX12_cut_51 : decode cX12_cut 51 = .ok (.iload_n 3, 1) := by decide +kernel
theorem dX12_cut_52 : decode cX12_cut 52 = .ok (.baload, 1) := by decide +kernel
theorem dX12_cut_53 : decode cX12_cut 53 = .ok (.ifCond .eq 7, 3) := by decide +kernel
theorem dX12_cut_56 : decode cX12_cut 56 = .ok (.iconst 1, 1) := by decide +kernel
theorem dX12_cut_57 : decode cX12_cut 57 = .ok (.goto 4, 3) := by decide +kernel
theorem dX12_cut_60 : decode cX12_cut 60 = .ok (.iconst 0, 1) := by decide +kernel
theorem dX12_cut_61 : decode cX12_cut 61 = .ok (.iadd, 1) := by decide +kernel
theorem dX12_cut_62 : decode cX12_cut 62 = .ok (.istore_n 2, 1) := by decide +kernel
theorem dX12_cut_63 : decode cX12_cut 63 = .ok (.iinc 3 1, 3) := by decide +kernel
theorem dX12_cut_66 : decode cX12_cut 66 = .ok (.goto (-28), 3) := by decide +kernel
theorem dX12_cut_69 : decode cX12_cut 69 = .ok (.iload_n 2, 1) := by decide +kernel
theorem dX12_cut_70 : decode cX12_cut 70 = .ok (.ireturn, 1) := by decide +kernel
set_option maxRecDepth 20000 in
theorem ggX12_clear_X12_change : GoodIn wsX12_clear wsX12_change := goodIn_r _ [7, 8, 9, 10, 11, 12, 13, 14, 15, 16, 17, 18, 19, 20, 21, 22, 23, 24, 25, 26, 27, 28, 29, 30, 31, 32, 33, 34, 35, 36, 37, 38, 39, 40, 41, 42, 43, 44, 45, 46] rfl (by decide +kernel)
set_option maxRecDepth 20000 in
theorem gX12_clear_X12_change : GoodIn wsX12_clear (wsV RX12 166 RX12 yX12_change wsX12_change) := goodIn_app (goodIn_of _ (by decide +kernel)) ggX12_clear_X12_change
theorem dX12_clear_0 : decode cX12_clear 0 = .ok (.aload_n 0, 1) := by decide +kernel
theorem dX12_clear_1 : decode cX12_clear 1 = .ok (.getfield 92, 3) := by decide +kernel
theorem dX12_clear_4 : decode cX12_clear 4 = .ok (.istore_n 1, 1) := by decide +kernel
theorem dX12_clear_5 : decode cX12_clear 5 = .ok (.aload_n 0, 1) := by decide +kernel
theorem dX12_clear_6 : decode cX12_clear 6 = .ok (.iconst 0, 1) := by decide +kernel
theorem dX12_clear_7 : decode cX12_clear 7 = .ok (.putfield 92, 3) := by decide +kernel
theorem dX12_clear_10 : decode cX12_clear 10 = .ok (.aload_n 0, 1) := by decide +kernel
theorem dX12_clear_11 : decode cX12_clear 11 = .ok (.iconst 0, 1) := by decide +kernel
theorem dX12_clear_12 : decode cX12_clear 12 = .ok (.putfield 97, 3) := by decide +kernel
theorem dX12_clear_15 : decode cX12_clear 15 = .ok (.aload_n 0, 1) := by decide +kernel
theorem dX12_clear_16 : decode cX12_clear 16 = .ok (.invokevirtual 166, 3) := by decide +kernel
theorem dX12_clear_19 : decode cX12_clear 19 = .ok (.iload_n 1, 1) := by decide +kernel
theorem dX12_clear_20 : decode cX12_clear 20 = .ok (.ireturn, 1) := by decide +kernel
theorem dX12_isWay_0 : decode cX12_isWay 0 = .ok (.iload_n 0, 1) := by decide +kernel
theorem dX12_isWay_1 : decode cX12_isWay 1 = .ok (.ifCond .lt 12, 3) := by decide +kernel
theorem dX12_isWay_4 : decode cX12_isWay 4 = .ok (.iload_n 0, 1) := by decide +kernel
theorem dX12_isWay_5 : decode cX12_isWay 5 = .ok (.iconst 4, 1) := by decide +kernel
theorem dX12_isWay_6 : decode cX12_isWay 6 = .ok (.if_icmp .ge 7, 3) := by decide +kernel
theorem dX12_isWay_9 : decode cX12_isWay 9 = .ok (.iconst 1, 1) := by decide +kernel
theorem dX12_isWay_10 : decode cX12_isWay 10 = .ok (.goto 4, 3) := by decide +kernel
theorem dX12_isWay_13 : decode cX12_isWay 13 = .ok (.iconst 0, 1) := by decide +kernel
theorem dX12_isWay_14 : decode cX12_isWay 14 = .ok (.ireturn, 1) := by decide +kernel
set_option maxRecDepth 20000 in
theorem ggX12_pairs_X12_isWay : GoodIn wsX12_pairs wsX12_isWay := goodIn_r _ [6] rfl (by decide +kernel)
set_option maxRecDepth 20000 in
theorem gX12_pairs_X12_isWay : GoodIn wsX12_pairs (va_wsS RX12 173 yX12_isWay wsX12_isWay) := goodIn_app (goodIn_of _ (by decide +kernel)) ggX12_pairs_X12_isWay
set_option maxRecDepth 20000 in
theorem ggX12_pairs_X12_know : GoodIn wsX12_pairs wsX12_know := goodIn_r _ [10, 11, 12, 13, 14, 5, 15, 16, 17, 18, 2, 19, 1, 20, 21, 22, 23, 24, 25, 26, 27, 28, 29, 30, 31, 32, 33, 34, 35, 36, 37, 38, 39, 40, 41, 42, 43, 44, 45, 46, 47, 48, 49, 50, 51, 52, 53, 54, 55, 56, 57, 58, 59, 60, 61, 62, 63, 64, 65, 66, 67, 68, 69, 70, 71, 72, 73, 74, 75, 76, 77, 78, 79, 80, 81, 82, 83, 84, 85, 86, 87, 88, 89, 90, 91, 92, 93, 94, 95, 96, 97, 98, 99, 100, 101, 102, 103, 104, 105, 106, 107, 108, 109, 110, 111, 112, 113, 114, 115, 116, 117, 118, 119, 120, 121, 122, 123, 124] rfl (by decide +kernel)
set_option maxRecDepth 20000 in
theorem gX12_pairs_X12_know : GoodIn wsX12_pairs (wsV RX12 176 RX12 yX12_know wsX12_know) := goodIn_app (goodIn_of _ (by decide +kernel)) ggX12_pairs_X12_know
theorem dX12_pairs_0 : decode cX12_pairs 0 = .ok (.iload_n 1, 1) := by decide +kernel
theorem dX12_pairs_1 : decode cX12_pairs 1 = .ok (.invokestatic 173, 3) := by decide +kernel
theorem dX12_pairs_4 : decode cX12_pairs 4 = .ok (.ifCond .ne 5, 3) := by decide +kernel
theorem dX12_pairs_7 : decode cX12_pairs 7 = .ok (.iconst (-1), 1) := by decide +kernel
theorem dX12_pairs_8 : decode cX12_pairs 8 = .ok (.ireturn, 1) := by decide +kernel
theorem dX12_pairs_9 : decode cX12_pairs 9 = .ok (.aload_n 0, 1) := by decide +kernel
theorem dX12_pairs_10 : decode cX12_pairs 10 = .ok (.invokevirtual 176, 3) := by decide +kernel
theorem dX12_pairs_13 : decode cX12_pairs 13 = .ok (.aload_n 0, 1) := by decide +kernel
theorem dX12_pairs_14 : decode cX12_pairs 14 = .ok (.getfield 52, 3) := by decide +kernel
theorem dX12_pairs_17 : decode cX12_pairs 17 = .ok (.iload_n 1, 1) := by decide +kernel
theorem dX12_pairs_18 : decode cX12_pairs 18 = .ok (.baload, 1) := by decide +kernel
theorem dX12_pairs_19 : decode cX12_pairs 19 = .ok (.ifCond .eq 12, 3) := by decide +kernel
theorem dX12_pairs_22 : decode cX12_pairs 22 = .ok (.aload_n 0, 1) := by decide +kernel
theorem dX12_pairs_23 : decode cX12_pairs 23 = .ok (.getfield 46, 3) := by decide +kernel
theorem dX12_pairs_26 : decode cX12_pairs 26 = .ok (.iload_n 1, 1) := by decide +kernel
theorem dX12_pairs_27 : decode cX12_pairs 27 = .ok (.iaload, 1) := by decide +kernel
theorem dX12_pairs_28 : decode cX12_pairs 28 = .ok (.goto 5, 3) := by decide +kernel
theorem dX12_pairs_31 : decode cX12_pairs 31 = .ok (.bipush (-3), 2) := by decide +kernel
theorem dX12_pairs_33 : decode cX12_pairs 33 = .ok (.ireturn, 1) := by decide +kernel
set_option maxRecDepth 20000 in
theorem ggX12_weight_X12_isWay : GoodIn wsX12_weight wsX12_isWay := goodIn_r _ [6] rfl (by decide +kernel)
set_option maxRecDepth 20000 in
theorem gX12_weight_X12_isWay : GoodIn wsX12_weight (va_wsS RX12 173 yX12_isWay wsX12_isWay) := goodIn_app (goodIn_of _ (by decide +kernel)) ggX12_weight_X12_isWay
set_option maxRecDepth 20000 in
theorem ggX12_weight_X12_know : GoodIn wsX12_weight wsX12_know := goodIn_r _ [10, 11, 12, 13, 14, 5, 15, 16, 17, 18, 19, 2, 1, 20, 21, 22, 23, 24, 25, 26, 27, 28, 29, 30, 31, 32, 33, 34, 35, 36, 37, 38, 39, 40, 41, 42, 43, 44, 45, 46, 47, 48, 49, 50, 51, 52, 53, 54, 55, 56, 57, 58, 59, 60, 61, 62, 63, 64, 65, 66, 67, 68, 69, 70, 71, 72, 73, 74, 75, 76, 77, 78, 79, 80, 81, 82, 83, 84, 85, 86, 87, 88, 89, 90, 91, 92, 93, 94, 95, 96, 97, 98, 99, 100, 101, 102, 103, 104, 105, 106, 107, 108, 109, 110, 111, 112, 113, 114, 115, 116, 117, 118, 119, 120, 121, 122, 123, 124] rfl (by decide +kernel)
set_option maxRecDepth 20000 in
theorem gX12_weight_X12_know : GoodIn wsX12_weight (wsV RX12 176 RX12 yX12_know wsX12_know) := goodIn_app (goodIn_of _ (by decide +kernel)) ggX12_weight_X12_know
theorem dX12_weight_0 : decode cX12_weight 0 = .ok (.iload_n 1, 1) := by decide +kernel
theorem dX12_weight_1 : decode cX12_weight 1 = .ok (.invokestatic 173, 3) := by decide +kernel
theorem dX12_weight_4 : decode cX12_weight 4 = .ok (.ifCond .ne 5, 3) := by decide +kernel
theorem dX12_weight_7 : decode cX12_weight 7 = .ok (.iconst (-1), 1) := by decide +kernel
theorem dX12_weight_8 : decode cX12_weight 8 = .ok (.ireturn, 1) := by decide +kernel
theorem dX12_weight_9 : decode cX12_weight 9 = .ok (.aload_n 0, 1) := by decide +kernel
theorem dX12_weight_10 : decode cX12_weight 10 = .ok (.invokevirtual 176, 3) := by decide +kernel
theorem dX12_weight_13 : decode cX12_weight 13 = .ok (.aload_n 0, 1) := by decide +kernel
theorem dX12_weight_14 : decode cX12_weight 14 = .ok (.getfield 52, 3) := by decide +kernel
theorem dX12_weight_17 : decode cX12_weight 17 = .ok (.iload_n 1, 1) := by decide +kernel
theorem dX12_weight_18 : decode cX12_weight 18 = .ok (.baload, 1) := by decide +kernel
theorem dX12_weight_19 : decode cX12_weight 19 = .ok (.ifCond .eq 12, 3) := by decide +kernel
theorem dX12_weight_22 : decode cX12_weight 22 = .ok (.aload_n 0, 1) := by decide +kernel
theorem dX12_weight_23 : decode cX12_weight 23 = .ok (.getfield 49, 3) := by decide +kernel
theorem dX12_weight_26 : decode cX12_weight 26 = .ok (.iload_n 1, 1) := by decide +kernel
theorem dX12_weight_27 : decode cX12_weight 27 = .ok (.iaload, 1) := by decide +kernel
theorem dX12_weight_28 : decode cX12_weight 28 = .ok (.goto 5, 3) := by decide +kernel
theorem dX12_weight_31 : decode cX12_weight 31 = .ok (.bipush (-3), 2) := by decide +kernel
theorem dX12_weight_33 : decode cX12_weight 33 = .ok (.ireturn, 1) := by decide +kernel
set_option maxRecDepth 20000 in
theorem ggX12_mate_X12_isWay : GoodIn wsX12_mate wsX12_isWay := goodIn_r _ [6] rfl (by decide +kernel)
set_option maxRecDepth 20000 in
theorem gX12_mate_X12_isWay : GoodIn wsX12_mate (va_wsS RX12 173 yX12_isWay wsX12_isWay) := goodIn_app (goodIn_of _ (by decide +kernel)) ggX12_mate_X12_isWay
set_option maxRecDepth 20000 in
theorem ggX12_mate_X12_isNode : GoodIn wsX12_mate wsX12_isNode := goodIn_r _ [10, 11, 92, 93, 94, 95, 96, 97, 98, 99, 100, 101, 102, 103, 104, 105, 106, 107, 108, 109, 110, 111, 112, 113, 114, 115, 116, 117, 118, 119, 120, 121, 122, 123, 124, 125, 126, 127, 128] rfl (by decide +kernel)
set_option maxRecDepth 20000 in
theorem gX12_mate_X12_isNode : GoodIn wsX12_mate (wsV RX12 169 RX12 yX12_isNode wsX12_isNode) := goodIn_app (goodIn_of _ (by decide +kernel)) ggX12_mate_X12_isNode
set_option maxRecDepth 20000 in
theorem ggX12_mate_X12_know : GoodIn wsX12_mate wsX12_know := goodIn_r _ [15, 16, 17, 18, 19, 5, 20, 21, 22, 2, 23, 24, 1, 25, 26, 27, 28, 29, 30, 31, 32, 33, 34, 11, 35, 36, 37, 38, 39, 40, 41, 42, 43, 44, 45, 46, 47, 48, 49, 50, 51, 52, 53, 54, 55, 56, 57, 58, 59, 60, 61, 62, 63, 64, 65, 66, 67, 68, 69, 70, 71, 72, 73, 74, 75, 76, 77, 78, 79, 80, 81, 82, 83, 84, 85, 86, 87, 88, 89, 90, 91, 92, 93, 94, 95, 96, 97, 98, 99, 100, 101, 102, 103, 104, 105, 106, 107, 108, 109, 110, 111, 112, 113, 114, 115, 116, 117, 118, 119, 120, 121, 122, 123, 124, 125, 126, 127, 128] rfl (by decide +kernel)
set_option maxRecDepth 20000 in
theorem gX12_mate_X12_know : GoodIn wsX12_mate (wsV RX12 176 RX12 yX12_know wsX12_know) := goodIn_app (goodIn_of _ (by decide +kernel)) ggX12_mate_X12_know
theorem dX12_mate_0 : decode cX12_mate 0 = .ok (.iload_n 1, 1) := by decide +kernel
theorem dX12_mate_1 : decode cX12_mate 1 = .ok (.invokestatic 173, 3) := by decide +kernel
theorem dX12_mate_4 : decode cX12_mate 4 = .ok (.ifCond .eq 11, 3) := by decide +kernel
theorem dX12_mate_7 : decode cX12_mate 7 = .ok (.aload_n 0, 1) := by decide +kernel
theorem dX12_mate_8 : decode cX12_mate 8 = .ok (.iload_n 2, 1) := by decide +kernel
theorem dX12_mate_9 : decode cX12_mate 9 = .ok (.invokevirtual 169, 3) := by decide +kernel
theorem dX12_mate_12 : decode cX12_mate 12 = .ok (.ifCond .ne 5, 3) := by decide +kernel
theorem dX12_mate_15 : decode cX12_mate 15 = .ok (.iconst (-1), 1) := by decide +kernel
theorem dX12_mate_16 : decode cX12_mate 16 = .ok (.ireturn, 1) := by decide +kernel
theorem dX12_mate_17 : decode cX12_mate 17 = .ok (.aload_n 0, 1) := by decide +kernel
theorem dX12_mate_18 : decode cX12_mate 18 = .ok (.invokevirtual 176, 3) := by decide +kernel
theorem dX12_mate_21 : decode cX12_mate 21 = .ok (.aload_n 0, 1) := by decide +kernel
theorem dX12_mate_22 : decode cX12_mate 22 = .ok (.getfield 52, 3) := by decide +kernel
theorem dX12_mate_25 : decode cX12_mate 25 = .ok (.iload_n 1, 1) := by decide +kernel
theorem dX12_mate_26 : decode cX12_mate 26 = .ok (.baload, 1) := by decide +kernel
theorem dX12_mate_27 : decode cX12_mate 27 = .ok (.ifCond .eq 31, 3) := by decide +kernel
theorem dX12_mate_30 : decode cX12_mate 30 = .ok (.aload_n 0, 1) := by decide +kernel
theorem dX12_mate_31 : decode cX12_mate 31 = .ok (.getfield 43, 3) := by decide +kernel
theorem dX12_mate_34 : decode cX12_mate 34 = .ok (.bipush 16, 2) := by decide +kernel
theorem dX12_mate_36 : decode cX12_mate 36 = .ok (.iload_n 1, 1) := by decide +kernel
theorem dX12_mate_37 : decode cX12_mate 37 = .ok (.imul, 1) := by decide +kernel
theorem dX12_mate_38 : decode cX12_mate 38 = .ok (.iload_n 2, 1) := by decide +kernel
theorem dX12_mate_39 : decode cX12_mate 39 = .ok (.iadd, 1) := by decide +kernel
theorem dX12_mate_40 : decode cX12_mate 40 = .ok (.iaload, 1) := by decide +kernel
theorem dX12_mate_41 : decode cX12_mate 41 = .ok (.ifCond .lt 17, 3) := by decide +kernel
theorem dX12_mate_44 : decode cX12_mate 44 = .ok (.aload_n 0, 1) := by decide +kernel
theorem dX12_mate_45 : decode cX12_mate 45 = .ok (.getfield 43, 3) := by decide +kernel
theorem dX12_mate_48 : decode cX12_mate 48 = .ok (.bipush 16, 2) := by decide +kernel
theorem dX12_mate_50 : decode cX12_mate 50 = .ok (.iload_n 1, 1) := by decide +kernel
theorem dX12_mate_51 : decode cX12_mate 51 = .ok (.imul, 1) := by decide +kernel
theorem dX12_mate_52 : decode cX12_mate 52 = .ok (.iload_n 2, 1) := by decide +kernel
theorem dX12_mate_53 : decode cX12_mate 53 = .ok (.iadd, 1) := by decide +kernel
theorem dX12_mate_54 : decode cX12_mate 54 = .ok (.iaload, 1) := by decide +kernel
theorem dX12_mate_55 : decode cX12_mate 55 = .ok (.goto 5, 3) := by decide +kernel
theorem dX12_mate_58 : decode cX12_mate 58 = .ok (.bipush (-3), 2) := by decide +kernel
theorem dX12_mate_60 : decode cX12_mate 60 = .ok (.ireturn, 1) := by decide +kernel
set_option maxRecDepth 20000 in
theorem ggX12_sort_X12_isNode : GoodIn wsX12_sort wsX12_isNode := goodIn_r _ [6, 7, 89, 90, 91, 92, 93, 94, 95, 96, 97, 98, 99, 100, 101, 102, 103, 104, 105, 106, 107, 108, 109, 110, 111, 112, 113, 114, 115, 116, 117, 118, 119, 120, 121, 122, 123, 124, 125] rfl (by decide +kernel)
set_option maxRecDepth 20000 in
theorem gX12_sort_X12_isNode : GoodIn wsX12_sort (wsV RX12 169 RX12 yX12_isNode wsX12_isNode) := goodIn_app (goodIn_of _ (by decide +kernel)) ggX12_sort_X12_isNode
set_option maxRecDepth 20000 in
theorem ggX12_sort_X12_know : GoodIn wsX12_sort wsX12_know := goodIn_r _ [11, 12, 13, 14, 15, 5, 16, 17, 18, 19, 20, 21, 22, 23, 24, 25, 26, 27, 28, 29, 30, 31, 32, 7, 33, 34, 35, 36, 37, 38, 39, 40, 41, 42, 43, 44, 45, 46, 47, 48, 49, 50, 51, 52, 53, 1, 54, 55, 56, 57, 58, 59, 60, 61, 62, 63, 64, 65, 66, 67, 68, 69, 70, 71, 72, 73, 74, 75, 76, 77, 78, 79, 80, 81, 82, 83, 84, 85, 86, 87, 88, 89, 90, 91, 92, 93, 94, 95, 96, 97, 98, 99, 100, 101, 102, 103, 104, 105, 106, 107, 108, 109, 110, 111, 112, 113, 114, 115, 116, 117, 118, 119, 120, 121, 122, 123, 124, 125] rfl (by decide +kernel)
set_option maxRecDepth 20000 in
theorem gX12_sort_X12_know : GoodIn wsX12_sort (wsV RX12 176 RX12 yX12_know wsX12_know) := goodIn_app (goodIn_of _ (by decide +kernel)) ggX12_sort_X12_know
theorem dX12_sort_0 : decode cX12_sort 0 = .ok (.aload_n 0, 1) := by decide +kernel
theorem dX12_sort_1 : decode cX12_sort 1 = .ok (.iload_n 1, 1) := by decide +kernel
theorem dX12_sort_2 : decode cX12_sort 2 = .ok (.invokevirtual 169, 3) := by decide +kernel
theorem dX12_sort_5 : decode cX12_sort 5 = .ok (.ifCond .ne 5, 3) := by decide +kernel
theorem dX12_sort_8 : decode cX12_sort 8 = .ok (.iconst (-1), 1) := by decide +kernel
theorem dX12_sort_9 : decode cX12_sort 9 = .ok (.ireturn, 1) := by decide +kernel
theorem dX12_sort_10 : decode cX12_sort 10 = .ok (.aload_n 0, 1) := by decide +kernel
theorem dX12_sort_11 : decode cX12_sort 11 = .ok (.invokevirtual 176, 3) := by decide +kernel
theorem dX12_sort_14 : decode cX12_sort 14 = .ok (.aload_n 0, 1) := by decide +kernel
theorem dX12_sort_15 : decode cX12_sort 15 = .ok (.getfield 55, 3) := by decide +kernel
theorem dX12_sort_18 : decode cX12_sort 18 = .ok (.iload_n 1, 1) := by decide +kernel
theorem dX12_sort_19 : decode cX12_sort 19 = .ok (.iaload, 1) := by decide +kernel
theorem dX12_sort_20 : decode cX12_sort 20 = .ok (.ireturn, 1) := by decide +kernel
set_option maxRecDepth 20000 in
theorem ggX12_piece_X12_isNode : GoodIn wsX12_piece wsX12_isNode := goodIn_r _ [7, 8, 89, 90, 91, 92, 93, 94, 95, 96, 97, 98, 99, 100, 101, 102, 103, 104, 105, 106, 107, 108, 109, 110, 111, 112, 113, 114, 115, 116, 117, 118, 119, 120, 121, 122, 123, 124, 125] rfl (by decide +kernel)
set_option maxRecDepth 20000 in
theorem gX12_piece_X12_isNode : GoodIn wsX12_piece (wsV RX12 169 RX12 yX12_isNode wsX12_isNode) := goodIn_app (goodIn_of _ (by decide +kernel)) ggX12_piece_X12_isNode
set_option maxRecDepth 20000 in
theorem ggX12_piece_X12_know : GoodIn wsX12_piece wsX12_know := goodIn_r _ [12, 13, 14, 15, 16, 6, 17, 18, 19, 20, 21, 22, 23, 24, 25, 26, 27, 28, 29, 30, 31, 32, 33, 8, 34, 35, 36, 37, 38, 39, 40, 41, 42, 43, 44, 45, 46, 47, 48, 49, 50, 51, 52, 53, 54, 1, 2, 55, 56, 57, 58, 59, 60, 61, 62, 63, 64, 65, 66, 67, 68, 69, 70, 71, 72, 73, 74, 75, 76, 77, 78, 79, 80, 81, 82, 83, 84, 85, 86, 87, 88, 89, 90, 91, 92, 93, 94, 95, 96, 97, 98, 99, 100, 101, 102, 103, 104, 105, 106, 107, 108, 109, 110, 111, 112, 113, 114, 115, 116, 117, 118, 119, 120, 121, 122, 123, 124, 125] rfl (by decide +kernel)
set_option maxRecDepth 20000 in
theorem gX12_piece_X12_know : GoodIn wsX12_piece (wsV RX12 176 RX12 yX12_know wsX12_know) := goodIn_app (goodIn_of _ (by decide +kernel)) ggX12_piece_X12_know
theorem dX12_piece_0 : decode cX12_piece 0 = .ok (.aload_n 0, 1) := by decide +kernel
theorem dX12_piece_1 : decode cX12_piece 1 = .ok (.iload_n 1, 1) := by decide +kernel
theorem dX12_piece_2 : decode cX12_piece 2 = .ok (.invokevirtual 169, 3) := by decide +kernel
theorem dX12_piece_5 : decode cX12_piece 5 = .ok (.ifCond .ne 5, 3) := by decide +kernel
theorem dX12_piece_8 : decode cX12_piece 8 = .ok (.iconst (-1), 1) := by decide +kernel
theorem dX12_piece_9 : decode cX12_piece 9 = .ok (.ireturn, 1) := by decide +kernel
theorem dX12_piece_10 : decode cX12_piece 10 = .ok (.aload_n 0, 1) := by decide +kernel
theorem dX12_piece_11 : decode cX12_piece 11 = .ok (.invokevirtual 176, 3) := by decide +kernel
theorem dX12_piece_14 : decode cX12_piece 14 = .ok (.aload_n 0, 1) := by decide +kernel
theorem dX12_piece_15 : decode cX12_piece 15 = .ok (.getfield 55, 3) := by decide +kernel
theorem dX12_piece_18 : decode cX12_piece 18 = .ok (.iload_n 1, 1) := by decide +kernel
theorem dX12_piece_19 : decode cX12_piece 19 = .ok (.iaload, 1) := by decide +kernel
theorem dX12_piece_20 : decode cX12_piece 20 = .ok (.iconst 1, 1) := by decide +kernel
theorem dX12_piece_21 : decode cX12_piece 21 = .ok (.if_icmp .ne 8, 3) := by decide +kernel
theorem dX12_piece_24 : decode cX12_piece 24 = .ok (.bipush (-3), 2) := by decide +kernel
theorem dX12_piece_26 : decode cX12_piece 26 = .ok (.goto 9, 3) := by decide +kernel
theorem dX12_piece_29 : decode cX12_piece 29 = .ok (.aload_n 0, 1) := by decide +kernel
theorem dX12_piece_30 : decode cX12_piece 30 = .ok (.getfield 58, 3) := by decide +kernel
theorem dX12_piece_33 : decode cX12_piece 33 = .ok (.iload_n 1, 1) := by decide +kernel
theorem dX12_piece_34 : decode cX12_piece 34 = .ok (.iaload, 1) := by decide +kernel
theorem dX12_piece_35 : decode cX12_piece 35 = .ok (.ireturn, 1) := by decide +kernel
set_option maxRecDepth 20000 in
theorem ggX12_shape_X12_know : GoodIn wsX12_shape wsX12_know := goodIn_r _ [12, 13, 14, 15, 16, 11, 17, 5, 18, 19, 20, 21, 22, 23, 24, 25, 26, 27, 28, 29, 30, 31, 32, 1, 33, 34, 35, 36, 37, 38, 39, 40, 41, 42, 43, 44, 45, 46, 47, 48, 49, 50, 51, 52, 53, 2, 4, 3, 7, 6, 54, 55, 56, 57, 58, 59, 60, 61, 62, 63, 64, 65, 66, 67, 68, 69, 70, 71, 72, 73, 74, 75, 76, 77, 78, 79, 80, 81, 82, 83, 84, 85, 86, 87, 88, 89, 90, 91, 92, 93, 94, 95, 96, 97, 98, 99, 100, 101, 102, 103, 104, 105, 106, 107, 108, 109, 110, 111, 112, 113, 114, 115, 116, 117, 118, 119, 120, 121] rfl (by decide +kernel)
set_option maxRecDepth 20000 in
theorem gX12_shape_X12_know : GoodIn wsX12_shape (wsV RX12 176 RX12 yX12_know wsX12_know) := goodIn_app (goodIn_of _ (by decide +kernel)) ggX12_shape_X12_know
set_option maxRecDepth 20000 in
theorem ggX12_shape_X12_all : GoodIn wsX12_shape wsX12_all := goodIn_r _ [46, 1, 85, 86, 87, 88, 89, 90, 91, 92, 93, 94, 95, 96, 97, 98, 99, 100, 101, 102, 103, 104, 105, 106, 107, 108, 109, 110, 111, 112, 113, 114, 115, 116, 117, 118, 119, 120, 121] rfl (by decide +kernel)
set_option maxRecDepth 20000 in
theorem gX12_shape_X12_all : GoodIn wsX12_shape (wsV RX12 108 RX12 yX12_all wsX12_all) := goodIn_app (goodIn_of _ (by decide +kernel)) ggX12_shape_X12_all
theorem dX12_shape_0 : decode cX12_shape 0 = .ok (.iload_n 1, 1) := by decide +kernel
theorem dX12_shape_1 : decode cX12_shape 1 = .ok (.ifCond .lt 8, 3) := by decide +kernel
theorem dX12_shape_4 : decode cX12_shape 4 = .ok (.iload_n 1, 1) := by decide +kernel
theorem dX12_shape_5 : decode cX12_shape 5 = .ok (.iconst 4, 1) := by decide +kernel
theorem dX12_shape_6 : decode cX12_shape 6 = .ok (.if_icmp .le 5, 3) := by decide +kernel
theorem dX12_shape_9 : decode cX12_shape 9 = .ok (.iconst (-1), 1) := by decide +kernel
theorem dX12_shape_10 : decode cX12_shape 10 = .ok (.ireturn, 1) := by decide +kernel
theorem dX12_shape_11 : decode cX12_shape 11 = .ok (.aload_n 0, 1) := by decide +kernel
theorem dX12_shape_12 : decode cX12_shape 12 = .ok (.invokevirtual 176, 3) := by decide +kernel
theorem dX12_shape_15 : decode cX12_shape 15 = .ok (.iconst 0, 1) := by decide +kernel
theorem dX12_shape_16 : decode cX12_shape 16 = .ok (.istore_n 2, 1) := by decide +kernel
theorem dX12_shape_17 : decode cX12_shape 17 = .ok (.iload_n 1, 1) := by decide +kernel
theorem dX12_shape_18 : decode cX12_shape 18 = .ok (.ifCond .ne 39, 3) := by decide +kernel
theorem dX12_shape_21 : decode cX12_shape 21 = .ok (.iconst 0, 1) := by decide +kernel
theorem dX12_shape_22 : decode cX12_shape 22 = .ok (.istore_n 3, 1) := by decide +kernel
theorem dX12_shape_23 : decode cX12_shape 23 = .ok (.iload_n 3, 1) := by decide +kernel
theorem dX12_shape_24 : decode cX12_shape 24 = .ok (.aload_n 0, 1) := by decide +kernel
theorem dX12_shape_25 : decode cX12_shape 25 = .ok (.getfield 92, 3) := by decide +kernel
theorem dX12_shape_28 : decode cX12_shape 28 = .ok (.if_icmp .ge 27, 3) := by decide +kernel
theorem dX12_shape_31 : decode cX12_shape 31 = .ok (.iload_n 2, 1) := by decide +kernel
theorem dX12_shape_32 : decode cX12_shape 32 = .ok (.aload_n 0, 1) := by decide +kernel
theorem dX12_shape_33 : decode cX12_shape 33 = .ok (.getfield 55, 3) := by decide +kernel
theorem dX12_shape_36 : decode cX12_shape 36 = .ok (.iload_n 3, 1) := by decide +kernel
theorem dX12_shape_37 : decode cX12_shape 37 = .ok (.iaload, 1) := by decide +kernel
theorem dX12_shape_38 : decode cX12_shape 38 = .ok (.iconst 1, 1) := by decide +kernel
theorem dX12_shape_39 : decode cX12_shape 39 = .ok (.if_icmp .ne 7, 3) := by decide +kernel
theorem dX12_shape_42 : decode cX12_shape 42 = .ok (.iconst 1, 1) := by decide +kernel
theorem dX12_shape_43 : decode cX12_shape 43 = .ok (.goto 4, 3) := by decide +kernel
theorem dX12_shape_46 : decode cX12_shape 46 = .ok (.iconst 0, 1) := by decide +kernel
theorem dX12_shape_47 : decode cX12_shape 47 = .ok (.iadd, 1) := by decide +kernel
theorem dX12_shape_48 : decode cX12_shape 48 = .ok (.istore_n 2, 1) := by decide +kernel
theorem dX12_shape_49 : decode cX12_shape 49 = .ok (.iinc 3 1, 3) := by decide +kernel
theorem dX12_shape_52 : decode cX12_shape 52 = .ok (.goto (-29), 3) := by decide +kernel
theorem dX12_shape_55 : decode cX12_shape 55 = .ok (.iload_n 2, 1) := by decide +kernel
theorem dX12_shape_56 : decode cX12_shape 56 = .ok (.ireturn, 1) := by decide +kernel
theorem dX12_shape_57 : decode cX12_shape 57 = .ok (.iload_n 1, 1) := by decide +kernel
theorem dX12_shape_58 : decode cX12_shape 58 = .ok (.iconst 1, 1) := by decide +kernel
theorem dX12_shape_59 : decode cX12_shape 59 = .ok (.if_icmp .ne 81, 3) := by decide +kernel
theorem dX12_shape_62 : decode cX12_shape 62 = .ok (.iconst 0, 1) := by decide +kernel
theorem dX12_shape_63 : decode cX12_shape 63 = .ok (.istore_n 3, 1) := by decide +kernel
theorem dX12_shape_64 : decode cX12_shape 64 = .ok (.iload_n 3, 1) := by decide +kernel
theorem dX12_shape_65 : decode cX12_shape 65 = .ok (.aload_n 0, 1) := by decide +kernel
theorem dX12_shape_66 : decode cX12_shape 66 = .ok (.getfield 119, 3) := by decide +kernel
theorem dX12_shape_69 : decode cX12_shape 69 = .ok (.if_icmp .ge 69, 3) := by decide +kernel
theorem dX12_shape_72 : decode cX12_shape 72 = .ok (.iconst 0, 1) := by decide +kernel
theorem dX12_shape_73 : decode cX12_shape 73 = .ok (.istore 4, 2) := by decide +kernel
theorem dX12_shape_75 : decode cX12_shape 75 = .ok (.iconst 0, 1) := by decide +kernel
theorem dX12_shape_76 : decode cX12_shape 76 = .ok (.istore 5, 2) := by decide +kernel
theorem dX12_shape_78 : decode cX12_shape 78 = .ok (.iload 5, 2) := by decide +kernel
theorem dX12_shape_80 : decode cX12_shape 80 = .ok (.aload_n 0, 1) := by decide +kernel
theorem dX12_shape_81 : decode cX12_shape 81 = .ok (.getfield 92, 3) := by decide +kernel
theorem dX12_shape_84 : decode cX12_shape 84 = .ok (.if_icmp .ge 41, 3) := by decide +kernel
theorem dX12_shape_87 : decode cX12_shape 87 = .ok (.iload 4, 2) := by decide +kernel
theorem dX12_shape_89 : decode cX12_shape 89 = .ok (.aload_n 0, 1) := by decide +kernel
theorem dX12_shape_90 : decode cX12_shape 90 = .ok (.getfield 55, 3) := by decide +kernel
theorem dX12_shape_93 : decode cX12_shape 93 = .ok (.iload 5, 2) := by decide +kernel
theorem dX12_shape_95 : decode cX12_shape 95 = .ok (.iaload, 1) := by decide +kernel
theorem dX12_shape_96 : decode cX12_shape 96 = .ok (.iconst 1, 1) := by decide +kernel
theorem dX12_shape_97 : decode cX12_shape 97 = .ok (.if_icmp .eq 18, 3) := by decide +kernel
theorem dX12_shape_100 : decode cX12_shape 100 = .ok (.aload_n 0, 1) := by decide +kernel
theorem dX12_shape_101 : decode cX12_shape 101 = .ok (.getfield 58, 3) := by decide +kernel
theorem dX12_shape_104 : decode cX12_shape 104 = .ok (.iload 5, 2) := by decide +kernel
theorem dX12_shape_106 : decode cX12_shape 106 = .ok (.iaload, 1) := by decide +kernel
theorem dX12_shape_107 : decode cX12_shape 107 = .ok (.iload_n 3, 1) := by decide +kernel
theorem dX12_shape_108 : decode cX12_shape 108 = .ok (.if_icmp .ne 7, 3) := by decide +kernel
theorem dX12_shape_111 : decode cX12_shape 111 = .ok (.iconst 1, 1) := by decide +kernel
theorem dX12_shape_112 : decode cX12_shape 112 = .ok (.goto 4, 3) := by decide +kernel
theorem dX12_shape_115 : decode cX12_shape 115 = .ok (.iconst 0, 1) := by decide +kernel
theorem dX12_shape_116 : decode cX12_shape 116 = .ok (.iadd, 1) := by decide +kernel
theorem dX12_shape_117 : decode cX12_shape 117 = .ok (.istore 4, 2) := by decide +kernel
theorem dX12_shape_119 : decode cX12_shape 119 = .ok (.iinc 5 1, 3) := by decide +kernel
theorem dX12_shape_122 : decode cX12_shape 122 = .ok (.goto (-44), 3) := by decide +kernel
theorem dX12_shape_125 : decode cX12_shape 125 = .ok (.iload_n 2, 1) := by decide +kernel
theorem dX12_shape_126 : decode cX12_shape 126 = .ok (.iload 4, 2) := by decide +kernel
theorem dX12_shape_128 : decode cX12_shape 128 = .ok (.iconst 1, 1) := by decide +kernel
theorem dX12_shape_129 : decode cX12_shape 129 = .ok (.iand, 1) := by decide +kernel
theorem dX12_shape_130 : decode cX12_shape 130 = .ok (.iadd, 1) := by decide +kernel
theorem dX12_shape_131 : decode cX12_shape 131 = .ok (.istore_n 2, 1) := by decide +kernel
theorem dX12_shape_132 : decode cX12_shape 132 = .ok (.iinc 3 1, 3) := by decide +kernel
theorem dX12_shape_135 : decode cX12_shape 135 = .ok (.goto (-71), 3) := by decide +kernel
theorem dX12_shape_138 : decode cX12_shape 138 = .ok (.iload_n 2, 1) := by decide +kernel
theorem dX12_shape_139 : decode cX12_shape 139 = .ok (.ireturn, 1) := by decide +kernel
theorem dX12_shape_140 : decode cX12_shape 140 = .ok (.iload_n 1, 1) := by decide +kernel
theorem dX12_shape_141 : decode cX12_shape 141 = .ok (.iconst 2, 1) := by decide +kernel
theorem dX12_shape_142 : decode cX12_shape 142 = .ok (.if_icmp .ne 22, 3) := by decide +kernel
theorem dX12_shape_145 : decode cX12_shape 145 = .ok (.aload_n 0, 1) := by decide +kernel
theorem dX12_shape_146 : decode cX12_shape 146 = .ok (.getfield 92, 3) := by decide +kernel
theorem dX12_shape_149 : decode cX12_shape 149 = .ok (.iconst 2, 1) := by decide +kernel
theorem dX12_shape_150 : decode cX12_shape 150 = .ok (.aload_n 0, 1) := by decide +kernel
theorem dX12_shape_151 : decode cX12_shape 151 = .ok (.getfield 30, 3) := by decide +kernel
theorem dX12_shape_154 : decode cX12_shape 154 = .ok (.aload_n 0, 1) := by decide +kernel
theorem dX12_shape_155 : decode cX12_shape 155 = .ok (.invokevirtual 108, 3) := by decide +kernel
theorem dX12_shape_158 : decode cX12_shape 158 = .ok (.baload, 1) := by decide +kernel
theorem dX12_shape_159 : decode cX12_shape 159 = .ok (.imul, 1) := by decide +kernel
theorem dX12_shape_160 : decode cX12_shape 160 = .ok (.isub, 1) := by decide +kernel
theorem dX12_shape_161 : decode cX12_shape 161 = .ok (.goto 19, 3) := by decide +kernel
theorem dX12_shape_164 : decode cX12_shape 164 = .ok (.iload_n 1, 1) := by decide +kernel
theorem dX12_shape_165 : decode cX12_shape 165 = .ok (.iconst 3, 1) := by decide +kernel
theorem dX12_shape_166 : decode cX12_shape 166 = .ok (.if_icmp .ne 10, 3) := by decide +kernel
theorem dX12_shape_169 : decode cX12_shape 169 = .ok (.aload_n 0, 1) := by decide +kernel
theorem dX12_shape_170 : decode cX12_shape 170 = .ok (.getfield 128, 3) := by decide +kernel
theorem dX12_shape_173 : decode cX12_shape 173 = .ok (.goto 7, 3) := by decide +kernel
theorem dX12_shape_176 : decode cX12_shape 176 = .ok (.aload_n 0, 1) := by decide +kernel
theorem dX12_shape_177 : decode cX12_shape 177 = .ok (.getfield 125, 3) := by decide +kernel
theorem dX12_shape_180 : decode cX12_shape 180 = .ok (.ireturn, 1) := by decide +kernel
set_option maxRecDepth 20000 in
theorem ggX12_count_X12_findWorth : GoodIn wsX12_count wsX12_findWorth := goodIn_r _ [10, 11, 12, 5, 13, 14, 15, 16, 17, 18, 19, 9, 20, 21, 29, 30, 31, 32, 33, 34, 35, 36, 37, 38, 39, 40, 41, 42, 43, 44, 45, 46, 47, 48, 49, 50, 51, 52, 53, 54, 55, 56, 57, 58, 59, 60, 61, 62, 63, 64, 65] rfl (by decide +kernel)
set_option maxRecDepth 20000 in
theorem gX12_count_X12_findWorth : GoodIn wsX12_count (wsV RX12 104 RX12 yX12_findWorth wsX12_findWorth) := goodIn_app (goodIn_of _ (by decide +kernel)) ggX12_count_X12_findWorth
set_option maxRecDepth 20000 in
theorem ggX12_count_X12_all : GoodIn wsX12_count wsX12_all := goodIn_r _ [25, 4, 29, 30, 31, 32, 33, 34, 35, 36, 37, 38, 39, 40, 41, 42, 43, 44, 45, 46, 47, 48, 49, 50, 51, 52, 53, 54, 55, 56, 57, 58, 59, 60, 61, 62, 63, 64, 65] rfl (by decide +kernel)
set_option maxRecDepth 20000 in
theorem gX12_count_X12_all : GoodIn wsX12_count (wsV RX12 108 RX12 yX12_all wsX12_all) := goodIn_app (goodIn_of _ (by decide +kernel)) ggX12_count_X12_all
set_option maxRecDepth 20000 in
theorem ggX12_count_X12_least : GoodIn wsX12_count wsX12_least := goodIn_r _ [28] rfl (by decide +kernel)
set_option maxRecDepth 20000 in
theorem gX12_count_X12_least : GoodIn wsX12_count (va_wsS RX12 112 yX12_least wsX12_least) := goodIn_app (goodIn_of _ (by decide +kernel)) ggX12_count_X12_least
theorem dX12_count_0 : decode cX12_count 0 = .ok (.iload_n 1, 1) := by decide +kernel
theorem dX12_count_1 : decode cX12_count 1 = .ok (.ifCond .ge 7, 3) := by decide +kernel
theorem dX12_count_4 : decode cX12_count 4 = .ok (.ldc2_w 179, 3) := by decide +kernel
theorem dX12_count_7 : decode cX12_count 7 = .ok (.lreturn, 1) := by decide +kernel
theorem dX12_count_8 : decode cX12_count 8 = .ok (.iload_n 1, 1) := by decide +kernel
theorem dX12_count_9 : decode cX12_count 9 = .ok (.bipush 8, 2) := by decide +kernel
theorem dX12_count_11 : decode cX12_count 11 = .ok (.if_icmp .le 5, 3) := by decide +kernel
theorem dX12_count_14 : decode cX12_count 14 = .ok (.lconst 0, 1) := by decide +kernel
theorem dX12_count_15 : decode cX12_count 15 = .ok (.lreturn, 1) := by decide +kernel
theorem dX12_count_16 : decode cX12_count 16 = .ok (.aload_n 0, 1) := by decide +kernel
theorem dX12_count_17 : decode cX12_count 17 = .ok (.iconst 0, 1) := by decide +kernel
theorem dX12_count_18 : decode cX12_count 18 = .ok (.invokevirtual 104, 3) := by decide +kernel
theorem dX12_count_21 : decode cX12_count 21 = .ok (.iconst 0, 1) := by decide +kernel
theorem dX12_count_22 : decode cX12_count 22 = .ok (.istore_n 2, 1) := by decide +kernel
theorem dX12_count_23 : decode cX12_count 23 = .ok (.iload_n 2, 1) := by decide +kernel
theorem dX12_count_24 : decode cX12_count 24 = .ok (.aload_n 0, 1) := by decide +kernel
theorem dX12_count_25 : decode cX12_count 25 = .ok (.invokevirtual 108, 3) := by decide +kernel
theorem dX12_count_28 : decode cX12_count 28 = .ok (.if_icmp .gt 16, 3) := by decide +kernel
theorem dX12_count_31 : decode cX12_count 31 = .ok (.aload_n 0, 1) := by decide +kernel
theorem dX12_count_32 : decode cX12_count 32 = .ok (.getfield 76, 3) := by decide +kernel
theorem dX12_count_35 : decode cX12_count 35 = .ok (.iload_n 2, 1) := by decide +kernel
theorem dX12_count_36 : decode cX12_count 36 = .ok (.lconst 1, 1) := by decide +kernel
theorem dX12_count_37 : decode cX12_count 37 = .ok (.lastore, 1) := by decide +kernel
theorem dX12_count_38 : decode cX12_count 38 = .ok (.iinc 2 1, 3) := by decide +kernel
theorem dX12_count_41 : decode cX12_count 41 = .ok (.goto (-18), 3) := by decide +kernel
theorem dX12_count_44 : decode cX12_count 44 = .ok (.iconst 1, 1) := by decide +kernel
theorem dX12_count_45 : decode cX12_count 45 = .ok (.istore_n 2, 1) := by decide +kernel
theorem dX12_count_46 : decode cX12_count 46 = .ok (.iload_n 2, 1) := by decide +kernel
theorem dX12_count_47 : decode cX12_count 47 = .ok (.iload_n 1, 1) := by decide +kernel
theorem dX12_count_48 : decode cX12_count 48 = .ok (.if_icmp .gt 175, 3) := by decide +kernel
theorem dX12_count_51 : decode cX12_count 51 = .ok (.iconst 0, 1) := by decide +kernel
theorem dX12_count_52 : decode cX12_count 52 = .ok (.istore_n 3, 1) := by decide +kernel
theorem dX12_count_53 : decode cX12_count 53 = .ok (.iload_n 3, 1) := by decide +kernel
theorem dX12_count_54 : decode cX12_count 54 = .ok (.aload_n 0, 1) := by decide +kernel
theorem dX12_count_55 : decode cX12_count 55 = .ok (.invokevirtual 108, 3) := by decide +kernel
theorem dX12_count_58 : decode cX12_count 58 = .ok (.if_icmp .gt 21, 3) := by decide +kernel
theorem dX12_count_61 : decode cX12_count 61 = .ok (.aload_n 0, 1) := by decide +kernel
theorem dX12_count_62 : decode cX12_count 62 = .ok (.getfield 80, 3) := by decide +kernel
theorem dX12_count_65 : decode cX12_count 65 = .ok (.iload_n 3, 1) := by decide +kernel
theorem dX12_count_66 : decode cX12_count 66 = .ok (.aload_n 0, 1) := by decide +kernel
theorem dX12_count_67 : decode cX12_count 67 = .ok (.getfield 76, 3) := by decide +kernel
theorem dX12_count_70 : decode cX12_count 70 = .ok (.iload_n 3, 1) := by decide +kernel
theorem dX12_count_71 : decode cX12_count 71 = .ok (.laload, 1) := by decide +kernel
theorem dX12_count_72 : decode cX12_count 72 = .ok (.lastore, 1) := by decide +kernel
theorem dX12_count_73 : decode cX12_count 73 = .ok (.iinc 3 1, 3) := by decide +kernel
theorem dX12_count_76 : decode cX12_count 76 = .ok (.goto (-23), 3) := by decide +kernel
theorem dX12_count_79 : decode cX12_count 79 = .ok (.aload_n 0, 1) := by decide +kernel
theorem dX12_count_80 : decode cX12_count 80 = .ok (.getfield 76, 3) := by decide +kernel
theorem dX12_count_83 : decode cX12_count 83 = .ok (.iconst 0, 1) := by decide +kernel
theorem dX12_count_84 : decode cX12_count 84 = .ok (.lconst 0, 1) := by decide +kernel
theorem dX12_count_85 : decode cX12_count 85 = .ok (.lastore, 1) := by decide +kernel
theorem dX12_count_86 : decode cX12_count 86 = .ok (.iconst 1, 1) := by decide +kernel
theorem dX12_count_87 : decode cX12_count 87 = .ok (.istore_n 3, 1) := by decide +kernel
theorem dX12_count_88 : decode cX12_count 88 = .ok (.iload_n 3, 1) := by decide +kernel
theorem dX12_count_89 : decode cX12_count 89 = .ok (.aload_n 0, 1) := by decide +kernel
theorem dX12_count_90 : decode cX12_count 90 = .ok (.invokevirtual 108, 3) := by decide +kernel
theorem dX12_count_93 : decode cX12_count 93 = .ok (.if_icmp .gt 124, 3) := by decide +kernel
theorem dX12_count_96 : decode cX12_count 96 = .ok (.iload_n 3, 1) := by decide +kernel
theorem dX12_count_97 : decode cX12_count 97 = .ok (.invokestatic 112, 3) := by decide +kernel
theorem dX12_count_100 : decode cX12_count 100 = .ok (.istore 4, 2) := by decide +kernel
theorem dX12_count_102 : decode cX12_count 102 = .ok (.iload_n 3, 1) := by decide +kernel
theorem dX12_count_103 : decode cX12_count 103 = .ok (.iconst 1, 1) := by decide +kernel
theorem dX12_count_104 : decode cX12_count 104 = .ok (.iload 4, 2) := by decide +kernel
theorem dX12_count_106 : decode cX12_count 106 = .ok (.ishl, 1) := by decide +kernel
theorem dX12_count_107 : decode cX12_count 107 = .ok (.iconst (-1), 1) := by decide +kernel
theorem dX12_count_108 : decode cX12_count 108 = .ok (.ixor, 1) := by decide +kernel
theorem dX12_count_109 : decode cX12_count 109 = .ok (.iand, 1) := by decide +kernel
theorem dX12_count_110 : decode cX12_count 110 = .ok (.istore 5, 2) := by decide +kernel
theorem dX12_count_112 : decode cX12_count 112 = .ok (.aload_n 0, 1) := by decide +kernel
theorem dX12_count_113 : decode cX12_count 113 = .ok (.getfield 76, 3) := by decide +kernel
theorem dX12_count_116 : decode cX12_count 116 = .ok (.iload 5, 2) := by decide +kernel
theorem dX12_count_118 : decode cX12_count 118 = .ok (.laload, 1) := by decide +kernel
theorem dX12_count_119 : decode cX12_count 119 = .ok (.lstore 6, 2) := by decide +kernel
theorem dX12_count_121 : decode cX12_count 121 = .ok (.iload 4, 2) := by decide +kernel
theorem dX12_count_123 : decode cX12_count 123 = .ok (.iconst 1, 1) := by decide +kernel
theorem dX12_count_124 : decode cX12_count 124 = .ok (.iadd, 1) := by decide +kernel
theorem dX12_count_125 : decode cX12_count 125 = .ok (.istore 8, 2) := by decide +kernel
theorem dX12_count_127 : decode cX12_count 127 = .ok (.iload 8, 2) := by decide +kernel
theorem dX12_count_129 : decode cX12_count 129 = .ok (.aload_n 0, 1) := by decide +kernel
theorem dX12_count_130 : decode cX12_count 130 = .ok (.getfield 92, 3) := by decide +kernel
theorem dX12_count_133 : decode cX12_count 133 = .ok (.if_icmp .ge 70, 3) := by decide +kernel
theorem dX12_count_136 : decode cX12_count 136 = .ok (.iload 5, 2) := by decide +kernel
theorem dX12_count_138 : decode cX12_count 138 = .ok (.iload 8, 2) := by decide +kernel
theorem dX12_count_140 : decode cX12_count 140 = .ok (.ishr, 1) := by decide +kernel
theorem dX12_count_141 : decode cX12_count 141 = .ok (.iconst 1, 1) := by decide +kernel
theorem dX12_count_142 : decode cX12_count 142 = .ok (.iand, 1) := by decide +kernel
theorem dX12_count_143 : decode cX12_count 143 = .ok (.iconst 1, 1) := by decide +kernel
theorem dX12_count_144 : decode cX12_count 144 = .ok (.if_icmp .ne 53, 3) := by decide +kernel
theorem dX12_count_147 : decode cX12_count 147 = .ok (.aload_n 0, 1) := by decide +kernel
theorem dX12_count_148 : decode cX12_count 148 = .ok (.getfield 37, 3) := by decide +kernel
theorem dX12_count_151 : decode cX12_count 151 = .ok (.bipush 16, 2) := by decide +kernel
theorem dX12_count_153 : decode cX12_count 153 = .ok (.iload 4, 2) := by decide +kernel
theorem dX12_count_155 : decode cX12_count 155 = .ok (.imul, 1) := by decide +kernel
theorem dX12_count_156 : decode cX12_count 156 = .ok (.iload 8, 2) := by decide +kernel
theorem dX12_count_158 : decode cX12_count 158 = .ok (.iadd, 1) := by decide +kernel
theorem dX12_count_159 : decode cX12_count 159 = .ok (.iaload, 1) := by decide +kernel
theorem dX12_count_160 : decode cX12_count 160 = .ok (.ifCond .le 37, 3) := by decide +kernel
theorem dX12_count_163 : decode cX12_count 163 = .ok (.lload 6, 2) := by decide +kernel
theorem dX12_count_165 : decode cX12_count 165 = .ok (.aload_n 0, 1) := by decide +kernel
theorem dX12_count_166 : decode cX12_count 166 = .ok (.getfield 37, 3) := by decide +kernel
theorem dX12_count_169 : decode cX12_count 169 = .ok (.bipush 16, 2) := by decide +kernel
theorem dX12_count_171 : decode cX12_count 171 = .ok (.iload 4, 2) := by decide +kernel
theorem dX12_count_173 : decode cX12_count 173 = .ok (.imul, 1) := by decide +kernel
theorem dX12_count_174 : decode cX12_count 174 = .ok (.iload 8, 2) := by decide +kernel
theorem dX12_count_176 : decode cX12_count 176 = .ok (.iadd, 1) := by decide +kernel
theorem dX12_count_177 : decode cX12_count 177 = .ok (.iaload, 1) := by decide +kernel
theorem dX12_count_178 : decode cX12_count 178 = .ok (.i2l, 1) := by decide +kernel
theorem dX12_count_179 : decode cX12_count 179 = .ok (.aload_n 0, 1) := by decide +kernel
theorem dX12_count_180 : decode cX12_count 180 = .ok (.getfield 80, 3) := by decide +kernel
theorem dX12_count_183 : decode cX12_count 183 = .ok (.iload 5, 2) := by decide +kernel
theorem dX12_count_185 : decode cX12_count 185 = .ok (.iconst 1, 1) := by decide +kernel
theorem dX12_count_186 : decode cX12_count 186 = .ok (.iload 8, 2) := by decide +kernel
theorem dX12_count_188 : decode cX12_count 188 = .ok (.ishl, 1) := by decide +kernel
theorem dX12_count_189 : decode cX12_count 189 = .ok (.iconst (-1), 1) := by decide +kernel
theorem dX12_count_190 : decode cX12_count 190 = .ok (.ixor, 1) := by decide +kernel
theorem dX12_count_191 : decode cX12_count 191 = .ok (.iand, 1) := by decide +kernel
theorem dX12_count_192 : decode cX12_count 192 = .ok (.laload, 1) := by decide +kernel
theorem dX12_count_193 : decode cX12_count 193 = .ok (.lmul, 1) := by decide +kernel
theorem dX12_count_194 : decode cX12_count 194 = .ok (.ladd, 1) := by decide +kernel
theorem dX12_count_195 : decode cX12_count 195 = .ok (.lstore 6, 2) := by decide +kernel
theorem dX12_count_197 : decode cX12_count 197 = .ok (.iinc 8 1, 3) := by decide +kernel
theorem dX12_count_200 : decode cX12_count 200 = .ok (.goto (-73), 3) := by decide +kernel
theorem dX12_count_203 : decode cX12_count 203 = .ok (.aload_n 0, 1) := by decide +kernel
theorem dX12_count_204 : decode cX12_count 204 = .ok (.getfield 76, 3) := by decide +kernel
theorem dX12_count_207 : decode cX12_count 207 = .ok (.iload_n 3, 1) := by decide +kernel
theorem dX12_count_208 : decode cX12_count 208 = .ok (.lload 6, 2) := by decide +kernel
theorem dX12_count_210 : decode cX12_count 210 = .ok (.lastore, 1) := by decide +kernel
theorem dX12_count_211 : decode cX12_count 211 = .ok (.iinc 3 1, 3) := by decide +kernel
theorem dX12_count_214 : decode cX12_count 214 = .ok (.goto (-126), 3) := by decide +kernel
theorem dX12_count_217 : decode cX12_count 217 = .ok (.iinc 2 1, 3) := by decide +kernel
theorem dX12_count_220 : decode cX12_count 220 = .ok (.goto (-174), 3) := by decide +kernel
theorem dX12_count_223 : decode cX12_count 223 = .ok (.aload_n 0, 1) := by decide +kernel
theorem dX12_count_224 : decode cX12_count 224 = .ok (.getfield 76, 3) := by decide +kernel
theorem dX12_count_227 : decode cX12_count 227 = .ok (.aload_n 0, 1) := by decide +kernel
theorem dX12_count_228 : decode cX12_count 228 = .ok (.invokevirtual 108, 3) := by decide +kernel
theorem dX12_count_231 : decode cX12_count 231 = .ok (.laload, 1) := by decide +kernel
theorem dX12_count_232 : decode cX12_count 232 = .ok (.lreturn, 1) := by decide +kernel
set_option maxRecDepth 20000 in
theorem ggX12_cover_X12_know : GoodIn wsX12_cover wsX12_know := goodIn_r _ [6, 7, 8, 9, 10, 5, 11, 12, 13, 14, 15, 16, 17, 18, 19, 20, 21, 22, 23, 24, 25, 26, 27, 28, 29, 30, 31, 32, 33, 34, 35, 36, 37, 38, 39, 40, 41, 42, 43, 44, 45, 46, 47, 48, 49, 50, 51, 52, 53, 54, 55, 56, 57, 58, 59, 60, 61, 62, 63, 64, 65, 66, 67, 68, 1, 69, 70, 71, 72, 73, 74, 75, 76, 77, 78, 79, 80, 81, 82, 83, 84, 85, 86, 87, 88, 89, 90, 91, 92, 93, 94, 95, 96, 97, 98, 99, 100, 101, 102, 103, 104, 105, 106, 107, 108, 109, 110, 111, 112, 113, 114, 115, 116, 117, 118, 119, 120, 121] rfl (by decide +kernel)
set_option maxRecDepth 20000 in
theorem gX12_cover_X12_know : GoodIn wsX12_cover (wsV RX12 176 RX12 yX12_know wsX12_know) := goodIn_app (goodIn_of _ (by decide +kernel)) ggX12_cover_X12_know
theorem dX12_cover_0 : decode cX12_cover 0 = .ok (.aload_n 0, 1) := by decide +kernel
theorem dX12_cover_1 : decode cX12_cover 1 = .ok (.invokevirtual 176, 3) := by decide +kernel
theorem dX12_cover_4 : decode cX12_cover 4 = .ok (.aload_n 0, 1) := by decide +kernel
theorem dX12_cover_5 : decode cX12_cover 5 = .ok (.getfield 134, 3) := by decide +kernel
theorem dX12_cover_8 : decode cX12_cover 8 = .ok (.ireturn, 1) := by decide +kernel
set_option maxRecDepth 20000 in
theorem ggX12_coverArc_X12_know : GoodIn wsX12_coverArc wsX12_know := goodIn_r _ [8, 9, 10, 11, 12, 7, 13, 14, 15, 16, 17, 18, 19, 20, 2, 21, 22, 23, 24, 25, 26, 27, 28, 29, 30, 31, 32, 33, 34, 35, 36, 37, 38, 39, 40, 41, 42, 43, 44, 45, 46, 47, 48, 49, 50, 51, 52, 53, 54, 55, 56, 57, 58, 59, 60, 61, 62, 63, 64, 65, 66, 67, 68, 3, 1, 69, 70, 71, 72, 73, 74, 75, 76, 77, 78, 79, 80, 81, 82, 83, 84, 85, 86, 87, 88, 89, 90, 91, 92, 93, 94, 95, 96, 97, 98, 99, 100, 101, 102, 103, 104, 105, 106, 107, 108, 109, 110, 111, 112, 113, 114, 115, 116, 117, 118, 119, 120, 121] rfl (by decide +kernel)
set_option maxRecDepth 20000 in
theorem gX12_coverArc_X12_know : GoodIn wsX12_coverArc (wsV RX12 176 RX12 yX12_know wsX12_know) := goodIn_app (goodIn_of _ (by decide +kernel)) ggX12_coverArc_X12_know
theorem dX12_coverArc_0 : decode cX12_coverArc 0 = .ok (.aload_n 0, 1) := by decide +kernel
theorem dX12_coverArc_1 : decode cX12_coverArc 1 = .ok (.invokevirtual 176, 3) := by decide +kernel
theorem dX12_coverArc_4 : decode cX12_coverArc 4 = .ok (.aload_n 0, 1) := by decide +kernel
theorem dX12_coverArc_5 : decode cX12_coverArc 5 = .ok (.getfield 134, 3) := by decide +kernel
theorem dX12_coverArc_8 : decode cX12_coverArc 8 = .ok (.ifCond .ge 6, 3) := by decide +kernel
theorem dX12_coverArc_11 : decode cX12_coverArc 11 = .ok (.bipush (-3), 2) := by decide +kernel
theorem dX12_coverArc_13 : decode cX12_coverArc 13 = .ok (.ireturn, 1) := by decide +kernel
theorem dX12_coverArc_14 : decode cX12_coverArc 14 = .ok (.iconst 0, 1) := by decide +kernel
theorem dX12_coverArc_15 : decode cX12_coverArc 15 = .ok (.istore_n 2, 1) := by decide +kernel
theorem dX12_coverArc_16 : decode cX12_coverArc 16 = .ok (.iconst 0, 1) := by decide +kernel
theorem dX12_coverArc_17 : decode cX12_coverArc 17 = .ok (.istore_n 3, 1) := by decide +kernel
theorem dX12_coverArc_18 : decode cX12_coverArc 18 = .ok (.iload_n 3, 1) := by decide +kernel
theorem dX12_coverArc_19 : decode cX12_coverArc 19 = .ok (.aload_n 0, 1) := by decide +kernel
theorem dX12_coverArc_20 : decode cX12_coverArc 20 = .ok (.getfield 97, 3) := by decide +kernel
theorem dX12_coverArc_23 : decode cX12_coverArc 23 = .ok (.if_icmp .ge 28, 3) := by decide +kernel
theorem dX12_coverArc_26 : decode cX12_coverArc 26 = .ok (.aload_n 0, 1) := by decide +kernel
theorem dX12_coverArc_27 : decode cX12_coverArc 27 = .ok (.getfield 61, 3) := by decide +kernel
theorem dX12_coverArc_30 : decode cX12_coverArc 30 = .ok (.iload_n 3, 1) := by decide +kernel
theorem dX12_coverArc_31 : decode cX12_coverArc 31 = .ok (.baload, 1) := by decide +kernel
theorem dX12_coverArc_32 : decode cX12_coverArc 32 = .ok (.ifCond .eq 13, 3) := by decide +kernel
theorem dX12_coverArc_35 : decode cX12_coverArc 35 = .ok (.iload_n 2, 1) := by decide +kernel
theorem dX12_coverArc_36 : decode cX12_coverArc 36 = .ok (.iload_n 1, 1) := by decide +kernel
theorem dX12_coverArc_37 : decode cX12_coverArc 37 = .ok (.if_icmp .ne 5, 3) := by decide +kernel
theorem dX12_coverArc_40 : decode cX12_coverArc 40 = .ok (.iload_n 3, 1) := by decide +kernel
theorem dX12_coverArc_41 : decode cX12_coverArc 41 = .ok (.ireturn, 1) := by decide +kernel
theorem dX12_coverArc_42 : decode cX12_coverArc 42 = .ok (.iinc 2 1, 3) := by decide +kernel
theorem dX12_coverArc_45 : decode cX12_coverArc 45 = .ok (.iinc 3 1, 3) := by decide +kernel
theorem dX12_coverArc_48 : decode cX12_coverArc 48 = .ok (.goto (-30), 3) := by decide +kernel
theorem dX12_coverArc_51 : decode cX12_coverArc 51 = .ok (.iconst (-1), 1) := by decide +kernel
theorem dX12_coverArc_52 : decode cX12_coverArc 52 = .ok (.ireturn, 1) := by decide +kernel
set_option maxRecDepth 20000 in
theorem ggX12_hold_X12_know : GoodIn wsX12_hold wsX12_know := goodIn_r _ [6, 7, 8, 9, 10, 5, 11, 12, 13, 14, 15, 16, 17, 18, 19, 20, 21, 22, 23, 24, 25, 26, 27, 28, 29, 30, 31, 32, 33, 34, 35, 36, 37, 38, 39, 40, 41, 42, 43, 44, 45, 46, 47, 48, 49, 50, 51, 52, 53, 54, 55, 56, 57, 58, 59, 60, 61, 62, 63, 64, 65, 66, 67, 68, 69, 70, 71, 72, 73, 74, 75, 76, 77, 1, 78, 79, 80, 81, 82, 83, 84, 85, 86, 87, 88, 89, 90, 91, 92, 93, 94, 95, 96, 97, 98, 99, 100, 101, 102, 103, 104, 105, 106, 107, 108, 109, 110, 111, 112, 113, 114, 115, 116, 117, 118, 119, 120, 121] rfl (by decide +kernel)
set_option maxRecDepth 20000 in
theorem gX12_hold_X12_know : GoodIn wsX12_hold (wsV RX12 176 RX12 yX12_know wsX12_know) := goodIn_app (goodIn_of _ (by decide +kernel)) ggX12_hold_X12_know
set_option maxRecDepth 20000 in
theorem ggX12_hold_X12_bits : GoodIn wsX12_hold wsX12_bits := goodIn_r _ [72] rfl (by decide +kernel)
set_option maxRecDepth 20000 in
theorem gX12_hold_X12_bits : GoodIn wsX12_hold (va_wsS RX12 137 yX12_bits wsX12_bits) := goodIn_app (goodIn_of _ (by decide +kernel)) ggX12_hold_X12_bits
theorem dX12_hold_0 : decode cX12_hold 0 = .ok (.aload_n 0, 1) := by decide +kernel
theorem dX12_hold_1 : decode cX12_hold 1 = .ok (.invokevirtual 176, 3) := by decide +kernel
theorem dX12_hold_4 : decode cX12_hold 4 = .ok (.aload_n 0, 1) := by decide +kernel
theorem dX12_hold_5 : decode cX12_hold 5 = .ok (.getfield 140, 3) := by decide +kernel
theorem dX12_hold_8 : decode cX12_hold 8 = .ok (.invokestatic 137, 3) := by decide +kernel
theorem dX12_hold_11 : decode cX12_hold 11 = .ok (.ireturn, 1) := by decide +kernel
set_option maxRecDepth 20000 in
theorem ggX12_holdNode_X12_know : GoodIn wsX12_holdNode wsX12_know := goodIn_r _ [7, 8, 9, 10, 11, 6, 12, 13, 14, 15, 16, 17, 18, 19, 20, 21, 22, 23, 24, 25, 26, 27, 28, 1, 29, 30, 31, 32, 33, 34, 35, 36, 37, 38, 39, 40, 41, 42, 43, 44, 45, 46, 47, 48, 49, 50, 51, 52, 53, 54, 55, 56, 57, 58, 59, 60, 61, 62, 63, 64, 65, 66, 67, 68, 69, 70, 71, 72, 73, 74, 75, 76, 77, 2, 78, 79, 80, 81, 82, 83, 84, 85, 86, 87, 88, 89, 90, 91, 92, 93, 94, 95, 96, 97, 98, 99, 100, 101, 102, 103, 104, 105, 106, 107, 108, 109, 110, 111, 112, 113, 114, 115, 116, 117, 118, 119, 120, 121] rfl (by decide +kernel)
set_option maxRecDepth 20000 in
theorem gX12_holdNode_X12_know : GoodIn wsX12_holdNode (wsV RX12 176 RX12 yX12_know wsX12_know) := goodIn_app (goodIn_of _ (by decide +kernel)) ggX12_holdNode_X12_know
theorem dX12_holdNode_0 : decode cX12_holdNode 0 = .ok (.aload_n 0, 1) := by decide +kernel
theorem dX12_holdNode_1 : decode cX12_holdNode 1 = .ok (.invokevirtual 176, 3) := by decide +kernel
theorem dX12_holdNode_4 : decode cX12_holdNode 4 = .ok (.iconst 0, 1) := by decide +kernel
theorem dX12_holdNode_5 : decode cX12_holdNode 5 = .ok (.istore_n 2, 1) := by decide +kernel
theorem dX12_holdNode_6 : decode cX12_holdNode 6 = .ok (.iconst 0, 1) := by decide +kernel
theorem dX12_holdNode_7 : decode cX12_holdNode 7 = .ok (.istore_n 3, 1) := by decide +kernel
theorem dX12_holdNode_8 : decode cX12_holdNode 8 = .ok (.iload_n 3, 1) := by decide +kernel
theorem dX12_holdNode_9 : decode cX12_holdNode 9 = .ok (.aload_n 0, 1) := by decide +kernel
theorem dX12_holdNode_10 : decode cX12_holdNode 10 = .ok (.getfield 92, 3) := by decide +kernel
theorem dX12_holdNode_13 : decode cX12_holdNode 13 = .ok (.if_icmp .ge 31, 3) := by decide +kernel
theorem dX12_holdNode_16 : decode cX12_holdNode 16 = .ok (.aload_n 0, 1) := by decide +kernel
theorem dX12_holdNode_17 : decode cX12_holdNode 17 = .ok (.getfield 140, 3) := by decide +kernel
theorem dX12_holdNode_20 : decode cX12_holdNode 20 = .ok (.iload_n 3, 1) := by decide +kernel
theorem dX12_holdNode_21 : decode cX12_holdNode 21 = .ok (.ishr, 1) := by decide +kernel
theorem dX12_holdNode_22 : decode cX12_holdNode 22 = .ok (.iconst 1, 1) := by decide +kernel
theorem dX12_holdNode_23 : decode cX12_holdNode 23 = .ok (.iand, 1) := by decide +kernel
theorem dX12_holdNode_24 : decode cX12_holdNode 24 = .ok (.iconst 1, 1) := by decide +kernel
theorem dX12_holdNode_25 : decode cX12_holdNode 25 = .ok (.if_icmp .ne 13, 3) := by decide +kernel
theorem dX12_holdNode_28 : decode cX12_holdNode 28 = .ok (.iload_n 2, 1) := by decide +kernel
theorem dX12_holdNode_29 : decode cX12_holdNode 29 = .ok (.iload_n 1, 1) := by decide +kernel
theorem dX12_holdNode_30 : decode cX12_holdNode 30 = .ok (.if_icmp .ne 5, 3) := by decide +kernel
theorem dX12_holdNode_33 : decode cX12_holdNode 33 = .ok (.iload_n 3, 1) := by decide +kernel
theorem dX12_holdNode_34 : decode cX12_holdNode 34 = .ok (.ireturn, 1) := by decide +kernel
theorem dX12_holdNode_35 : decode cX12_holdNode 35 = .ok (.iinc 2 1, 3) := by decide +kernel
theorem dX12_holdNode_38 : decode cX12_holdNode 38 = .ok (.iinc 3 1, 3) := by decide +kernel
theorem dX12_holdNode_41 : decode cX12_holdNode 41 = .ok (.goto (-33), 3) := by decide +kernel
theorem dX12_holdNode_44 : decode cX12_holdNode 44 = .ok (.iconst (-1), 1) := by decide +kernel
theorem dX12_holdNode_45 : decode cX12_holdNode 45 = .ok (.ireturn, 1) := by decide +kernel
set_option maxRecDepth 20000 in
theorem ggX12_join_X12_all : GoodIn wsX12_join wsX12_all := goodIn_r _ [14, 15, 87, 88, 89, 90, 91, 92, 93, 94, 95, 96, 97, 98, 99, 100, 101, 102, 103, 104, 105, 106, 107, 108, 109, 110, 111, 112, 113, 114, 115, 116, 117, 118, 119, 120, 121, 122, 123] rfl (by decide +kernel)
set_option maxRecDepth 20000 in
theorem gX12_join_X12_all : GoodIn wsX12_join (wsV RX12 108 RX12 yX12_all wsX12_all) := goodIn_app (goodIn_of _ (by decide +kernel)) ggX12_join_X12_all
set_option maxRecDepth 20000 in
theorem ggX12_join_X12_know : GoodIn wsX12_join wsX12_know := goodIn_r _ [19, 20, 21, 22, 23, 13, 24, 25, 26, 27, 28, 29, 30, 31, 4, 6, 7, 8, 9, 32, 33, 34, 35, 15, 36, 37, 38, 39, 40, 41, 42, 43, 44, 45, 10, 11, 12, 14, 46, 47, 48, 49, 50, 51, 52, 53, 54, 55, 56, 57, 58, 59, 60, 61, 62, 63, 64, 65, 66, 67, 68, 69, 70, 71, 72, 73, 74, 75, 76, 77, 78, 79, 80, 81, 82, 83, 84, 85, 86, 2, 1, 87, 88, 89, 90, 91, 92, 93, 94, 95, 96, 97, 98, 99, 100, 101, 102, 103, 104, 105, 106, 107, 108, 109, 110, 111, 112, 113, 114, 115, 116, 117, 118, 119, 120, 121, 122, 123] rfl (by decide +kernel)
set_option maxRecDepth 20000 in
theorem gX12_join_X12_know : GoodIn wsX12_join (wsV RX12 176 RX12 yX12_know wsX12_know) := goodIn_app (goodIn_of _ (by decide +kernel)) ggX12_join_X12_know
theorem dX12_join_0 : decode cX12_join 0 = .ok (.iload_n 1, 1) := by decide +kernel
theorem dX12_join_1 : decode cX12_join 1 = .ok (.aload_n 0, 1) := by decide +kernel
theorem dX12_join_2 : decode cX12_join 2 = .ok (.invokevirtual 108, 3) := by decide +kernel
theorem dX12_join_5 : decode cX12_join 5 = .ok (.iconst (-1), 1) := by decide +kernel
theorem dX12_join_6 : decode cX12_join 6 = .ok (.ixor, 1) := by decide +kernel
theorem dX12_join_7 : decode cX12_join 7 = .ok (.iand, 1) := by decide +kernel
theorem dX12_join_8 : decode cX12_join 8 = .ok (.ifCond .eq 6, 3) := by decide +kernel
theorem dX12_join_11 : decode cX12_join 11 = .ok (.bipush (-2), 2) := by decide +kernel
theorem dX12_join_13 : decode cX12_join 13 = .ok (.ireturn, 1) := by decide +kernel
theorem dX12_join_14 : decode cX12_join 14 = .ok (.aload_n 0, 1) := by decide +kernel
theorem dX12_join_15 : decode cX12_join 15 = .ok (.invokevirtual 176, 3) := by decide +kernel
theorem dX12_join_18 : decode cX12_join 18 = .ok (.aload_n 0, 1) := by decide +kernel
theorem dX12_join_19 : decode cX12_join 19 = .ok (.getfield 64, 3) := by decide +kernel
theorem dX12_join_22 : decode cX12_join 22 = .ok (.iload_n 1, 1) := by decide +kernel
theorem dX12_join_23 : decode cX12_join 23 = .ok (.iaload, 1) := by decide +kernel
theorem dX12_join_24 : decode cX12_join 24 = .ok (.ldc 143, 2) := by decide +kernel
theorem dX12_join_26 : decode cX12_join 26 = .ok (.if_icmp .lt 6, 3) := by decide +kernel
theorem dX12_join_29 : decode cX12_join 29 = .ok (.bipush (-3), 2) := by decide +kernel
theorem dX12_join_31 : decode cX12_join 31 = .ok (.ireturn, 1) := by decide +kernel
theorem dX12_join_32 : decode cX12_join 32 = .ok (.iload_n 1, 1) := by decide +kernel
theorem dX12_join_33 : decode cX12_join 33 = .ok (.istore_n 2, 1) := by decide +kernel
theorem dX12_join_34 : decode cX12_join 34 = .ok (.aload_n 0, 1) := by decide +kernel
theorem dX12_join_35 : decode cX12_join 35 = .ok (.getfield 64, 3) := by decide +kernel
theorem dX12_join_38 : decode cX12_join 38 = .ok (.iload_n 1, 1) := by decide +kernel
theorem dX12_join_39 : decode cX12_join 39 = .ok (.iaload, 1) := by decide +kernel
theorem dX12_join_40 : decode cX12_join 40 = .ok (.istore_n 3, 1) := by decide +kernel
theorem dX12_join_41 : decode cX12_join 41 = .ok (.iconst 0, 1) := by decide +kernel
theorem dX12_join_42 : decode cX12_join 42 = .ok (.istore 4, 2) := by decide +kernel
theorem dX12_join_44 : decode cX12_join 44 = .ok (.aload_n 0, 1) := by decide +kernel
