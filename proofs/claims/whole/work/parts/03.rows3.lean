theorem dX11_currentSorts_19 : decode cX11_currentSorts 19 = .ok (.putfield 209, 3) := by decide +kernel
theorem dX11_currentSorts_22 : decode cX11_currentSorts 22 = .ok (.aload_n 0, 1) := by decide +kernel
theorem dX11_currentSorts_23 : decode cX11_currentSorts 23 = .ok (.getfield 209, 3) := by decide +kernel
theorem dX11_currentSorts_26 : decode cX11_currentSorts 26 = .ok (.aload_n 0, 1) := by decide +kernel
theorem dX11_currentSorts_27 : decode cX11_currentSorts 27 = .ok (.invokevirtual 59, 3) := by decide +kernel
theorem dX11_currentSorts_30 : decode cX11_currentSorts 30 = .ok (.getfield 214, 3) := by decide +kernel
theorem dX11_currentSorts_33 : decode cX11_currentSorts 33 = .ok (.getfield 218, 3) := by decide +kernel
theorem dX11_currentSorts_36 : decode cX11_currentSorts 36 = .ok (.invokevirtual 224, 3) := by decide +kernel
theorem dX11_currentSorts_39 : decode cX11_currentSorts 39 = .ok (.aload_n 0, 1) := by decide +kernel
theorem dX11_currentSorts_40 : decode cX11_currentSorts 40 = .ok (.getfield 209, 3) := by decide +kernel
theorem dX11_currentSorts_43 : decode cX11_currentSorts 43 = .ok (.areturn, 1) := by decide +kernel
set_option maxRecDepth 20000 in
theorem ggX11_currentCounts_X1_init : GoodIn wsX11_currentCounts wsX1_init := goodIn_r _ [8, 9, 10, 11, 12, 13, 14, 15, 16, 17, 18, 140, 141, 142, 143, 144] rfl (by decide +kernel)
set_option maxRecDepth 20000 in
theorem gX11_currentCounts_X1_init : GoodIn wsX11_currentCounts (wsX1_init) := ggX11_currentCounts_X1_init
set_option maxRecDepth 20000 in
theorem ggX11_currentCounts_X11_currentWays : GoodIn wsX11_currentCounts wsX11_currentWays := goodIn_r _ [23, 24, 25, 26, 27, 5, 28, 29, 30, 31, 10, 11, 32, 33, 34, 35, 36, 37, 38, 14, 39, 40, 41, 42, 43, 44, 45, 46, 47, 48, 12, 49, 50, 51, 52, 53, 54, 55, 56, 57, 58, 59, 60, 61, 62, 63, 64, 65, 66, 67, 68, 69, 70, 71, 72, 73, 74, 75, 76, 77, 78, 79, 80, 81, 22, 82, 83, 84, 85, 86, 87, 88, 89, 90, 91, 92, 93, 94, 95, 96, 97, 98, 99, 100, 101, 102, 103, 104, 105, 106, 107, 108, 109, 110, 132, 133, 134, 135, 136, 137, 138, 139, 145, 146, 147, 148, 149, 150, 151, 152, 153, 154, 155, 156, 157, 158, 159, 160, 161, 162, 163, 164, 165, 166, 167, 168, 169, 170, 171] rfl (by decide +kernel)
set_option maxRecDepth 20000 in
theorem gX11_currentCounts_X11_currentWays : GoodIn wsX11_currentCounts (wsV RX11 59 RX11 yX11_currentWays wsX11_currentWays) := goodIn_app (goodIn_of _ (by decide +kernel)) ggX11_currentCounts_X11_currentWays
set_option maxRecDepth 20000 in
theorem ggX11_currentCounts_X1_refresh : GoodIn wsX11_currentCounts wsX1_refresh := goodIn_r _ [114, 17, 18, 16, 115, 116, 117, 4, 118, 13, 119, 120, 121, 122, 83, 22, 84, 123, 124, 125, 126, 15, 94, 95, 96, 97, 98, 99, 100, 101, 102, 127, 90, 91, 47, 92, 93, 56, 76, 57, 58, 128, 129, 130, 131, 81, 82, 140, 141, 142, 143, 144, 163, 164, 165, 166, 167, 168, 169, 170, 171, 156, 157, 158, 159, 160, 161, 162] rfl (by decide +kernel)
set_option maxRecDepth 20000 in
theorem gX11_currentCounts_X1_refresh : GoodIn wsX11_currentCounts (wsV RX11 232 RX1 yX1_refresh wsX1_refresh) := goodIn_app (goodIn_of _ (by decide +kernel)) ggX11_currentCounts_X1_refresh
theorem dX11_currentCounts_0 : decode cX11_currentCounts 0 = .ok (.aload_n 0, 1) := by decide +kernel
theorem dX11_currentCounts_1 : decode cX11_currentCounts 1 = .ok (.getfield 227, 3) := by decide +kernel
theorem dX11_currentCounts_4 : decode cX11_currentCounts 4 = .ok (.ifnonnull 18, 3) := by decide +kernel
theorem dX11_currentCounts_7 : decode cX11_currentCounts 7 = .ok (.aload_n 0, 1) := by decide +kernel
theorem dX11_currentCounts_8 : decode cX11_currentCounts 8 = .ok (.new 134, 3) := by decide +kernel
theorem dX11_currentCounts_11 : decode cX11_currentCounts 11 = .ok (.dup, 1) := by decide +kernel
theorem dX11_currentCounts_12 : decode cX11_currentCounts 12 = .ok (.aload_n 0, 1) := by decide +kernel
theorem dX11_currentCounts_13 : decode cX11_currentCounts 13 = .ok (.getfield 12, 3) := by decide +kernel
theorem dX11_currentCounts_16 : decode cX11_currentCounts 16 = .ok (.invokespecial 231, 3) := by decide +kernel
theorem dX11_currentCounts_19 : decode cX11_currentCounts 19 = .ok (.putfield 227, 3) := by decide +kernel
theorem dX11_currentCounts_22 : decode cX11_currentCounts 22 = .ok (.aload_n 0, 1) := by decide +kernel
theorem dX11_currentCounts_23 : decode cX11_currentCounts 23 = .ok (.getfield 227, 3) := by decide +kernel
theorem dX11_currentCounts_26 : decode cX11_currentCounts 26 = .ok (.aload_n 0, 1) := by decide +kernel
theorem dX11_currentCounts_27 : decode cX11_currentCounts 27 = .ok (.invokevirtual 59, 3) := by decide +kernel
theorem dX11_currentCounts_30 : decode cX11_currentCounts 30 = .ok (.getfield 214, 3) := by decide +kernel
theorem dX11_currentCounts_33 : decode cX11_currentCounts 33 = .ok (.getfield 218, 3) := by decide +kernel
theorem dX11_currentCounts_36 : decode cX11_currentCounts 36 = .ok (.invokevirtual 232, 3) := by decide +kernel
theorem dX11_currentCounts_39 : decode cX11_currentCounts 39 = .ok (.aload_n 0, 1) := by decide +kernel
theorem dX11_currentCounts_40 : decode cX11_currentCounts 40 = .ok (.getfield 227, 3) := by decide +kernel
theorem dX11_currentCounts_43 : decode cX11_currentCounts 43 = .ok (.areturn, 1) := by decide +kernel
set_option maxRecDepth 20000 in
theorem ggX11_currentHolds_X3_init : GoodIn wsX11_currentHolds wsX3_init := goodIn_r _ [8, 9, 10, 11, 12, 13, 14, 15, 62, 63, 64, 65] rfl (by decide +kernel)
set_option maxRecDepth 20000 in
theorem gX11_currentHolds_X3_init : GoodIn wsX11_currentHolds (wsX3_init) := ggX11_currentHolds_X3_init
set_option maxRecDepth 20000 in
theorem ggX11_currentHolds_X3_refresh : GoodIn wsX11_currentHolds wsX3_refresh := goodIn_r _ [19, 14, 15, 13, 20, 21, 22, 23, 4, 24, 25, 26, 27, 28, 29, 30, 31, 32, 33, 34, 35, 36, 37, 38, 39, 40, 41, 42, 43, 44, 45, 46, 47, 48, 49, 50, 51, 52, 53, 62, 63, 64, 65, 66, 67, 68, 69, 70, 71, 72, 73, 74] rfl (by decide +kernel)
set_option maxRecDepth 20000 in
theorem gX11_currentHolds_X3_refresh : GoodIn wsX11_currentHolds (wsV RX11 238 RX3 yX3_refresh wsX3_refresh) := goodIn_app (goodIn_of _ (by decide +kernel)) ggX11_currentHolds_X3_refresh
theorem dX11_currentHolds_0 : decode cX11_currentHolds 0 = .ok (.aload_n 0, 1) := by decide +kernel
theorem dX11_currentHolds_1 : decode cX11_currentHolds 1 = .ok (.getfield 233, 3) := by decide +kernel
theorem dX11_currentHolds_4 : decode cX11_currentHolds 4 = .ok (.ifnonnull 18, 3) := by decide +kernel
theorem dX11_currentHolds_7 : decode cX11_currentHolds 7 = .ok (.aload_n 0, 1) := by decide +kernel
theorem dX11_currentHolds_8 : decode cX11_currentHolds 8 = .ok (.new 146, 3) := by decide +kernel
theorem dX11_currentHolds_11 : decode cX11_currentHolds 11 = .ok (.dup, 1) := by decide +kernel
theorem dX11_currentHolds_12 : decode cX11_currentHolds 12 = .ok (.aload_n 0, 1) := by decide +kernel
theorem dX11_currentHolds_13 : decode cX11_currentHolds 13 = .ok (.getfield 12, 3) := by decide +kernel
theorem dX11_currentHolds_16 : decode cX11_currentHolds 16 = .ok (.invokespecial 237, 3) := by decide +kernel
theorem dX11_currentHolds_19 : decode cX11_currentHolds 19 = .ok (.putfield 233, 3) := by decide +kernel
theorem dX11_currentHolds_22 : decode cX11_currentHolds 22 = .ok (.aload_n 0, 1) := by decide +kernel
theorem dX11_currentHolds_23 : decode cX11_currentHolds 23 = .ok (.getfield 233, 3) := by decide +kernel
theorem dX11_currentHolds_26 : decode cX11_currentHolds 26 = .ok (.invokevirtual 238, 3) := by decide +kernel
theorem dX11_currentHolds_29 : decode cX11_currentHolds 29 = .ok (.aload_n 0, 1) := by decide +kernel
theorem dX11_currentHolds_30 : decode cX11_currentHolds 30 = .ok (.getfield 233, 3) := by decide +kernel
theorem dX11_currentHolds_33 : decode cX11_currentHolds 33 = .ok (.areturn, 1) := by decide +kernel
set_option maxRecDepth 20000 in
theorem ggX11_currentJoins_X4_init : GoodIn wsX11_currentJoins wsX4_init := goodIn_r _ [8, 9, 10, 11, 12, 13, 14, 15, 16, 17, 18, 19, 20, 21, 22, 23, 24, 25, 26, 27, 28, 29, 30, 31, 32, 33, 34, 35, 36, 37, 38, 39, 61, 62, 63, 64, 65, 54, 55, 56, 57, 58, 59, 60, 66, 67, 68, 69, 70, 71, 72] rfl (by decide +kernel)
set_option maxRecDepth 20000 in
theorem gX11_currentJoins_X4_init : GoodIn wsX11_currentJoins (wsX4_init) := ggX11_currentJoins_X4_init
set_option maxRecDepth 20000 in
theorem ggX11_currentJoins_X4_refresh : GoodIn wsX11_currentJoins wsX4_refresh := goodIn_r _ [43, 18, 19, 44, 45, 54, 55, 56, 57, 58, 59, 60, 73, 74, 75, 76, 77, 78, 79, 80, 81] rfl (by decide +kernel)
set_option maxRecDepth 20000 in
theorem gX11_currentJoins_X4_refresh : GoodIn wsX11_currentJoins (wsV RX11 173 RX4 yX4_refresh wsX4_refresh) := goodIn_app (goodIn_of _ (by decide +kernel)) ggX11_currentJoins_X4_refresh
theorem dX11_currentJoins_0 : decode cX11_currentJoins 0 = .ok (.aload_n 0, 1) := by decide +kernel
theorem dX11_currentJoins_1 : decode cX11_currentJoins 1 = .ok (.getfield 169, 3) := by decide +kernel
theorem dX11_currentJoins_4 : decode cX11_currentJoins 4 = .ok (.ifnonnull 18, 3) := by decide +kernel
theorem dX11_currentJoins_7 : decode cX11_currentJoins 7 = .ok (.aload_n 0, 1) := by decide +kernel
theorem dX11_currentJoins_8 : decode cX11_currentJoins 8 = .ok (.new 161, 3) := by decide +kernel
theorem dX11_currentJoins_11 : decode cX11_currentJoins 11 = .ok (.dup, 1) := by decide +kernel
theorem dX11_currentJoins_12 : decode cX11_currentJoins 12 = .ok (.aload_n 0, 1) := by decide +kernel
theorem dX11_currentJoins_13 : decode cX11_currentJoins 13 = .ok (.getfield 12, 3) := by decide +kernel
theorem dX11_currentJoins_16 : decode cX11_currentJoins 16 = .ok (.invokespecial 239, 3) := by decide +kernel
theorem dX11_currentJoins_19 : decode cX11_currentJoins 19 = .ok (.putfield 169, 3) := by decide +kernel
theorem dX11_currentJoins_22 : decode cX11_currentJoins 22 = .ok (.aload_n 0, 1) := by decide +kernel
theorem dX11_currentJoins_23 : decode cX11_currentJoins 23 = .ok (.getfield 169, 3) := by decide +kernel
theorem dX11_currentJoins_26 : decode cX11_currentJoins 26 = .ok (.invokevirtual 173, 3) := by decide +kernel
theorem dX11_currentJoins_29 : decode cX11_currentJoins 29 = .ok (.aload_n 0, 1) := by decide +kernel
theorem dX11_currentJoins_30 : decode cX11_currentJoins 30 = .ok (.getfield 169, 3) := by decide +kernel
theorem dX11_currentJoins_33 : decode cX11_currentJoins 33 = .ok (.areturn, 1) := by decide +kernel
set_option maxRecDepth 20000 in
theorem ggX11_currentStables_X9_init : GoodIn wsX11_currentStables wsX9_init := goodIn_r _ [9, 10, 11, 12, 13, 14, 15, 16, 17, 18, 19, 20, 21, 22, 91, 92, 93, 94, 95, 96, 97, 98, 99, 100] rfl (by decide +kernel)
set_option maxRecDepth 20000 in
theorem gX11_currentStables_X9_init : GoodIn wsX11_currentStables (wsX9_init) := ggX11_currentStables_X9_init
set_option maxRecDepth 20000 in
theorem ggX11_currentStables_X9_refresh : GoodIn wsX11_currentStables wsX9_refresh := goodIn_r _ [26, 19, 21, 20, 22, 16, 27, 28, 29, 30, 31, 4, 32, 14, 33, 34, 35, 36, 37, 38, 39, 40, 41, 42, 43, 44, 45, 46, 47, 48, 49, 50, 51, 52, 53, 54, 55, 17, 56, 57, 58, 59, 18, 60, 61, 62, 63, 64, 65, 66, 67, 68, 69, 70, 71, 72, 73, 74, 75, 76, 77, 78, 79, 80, 81, 82, 91, 92, 93, 94, 95, 96, 97, 98, 99, 100, 101, 102, 103, 104, 105, 106, 107, 108, 109, 110, 111] rfl (by decide +kernel)
set_option maxRecDepth 20000 in
theorem gX11_currentStables_X9_refresh : GoodIn wsX11_currentStables (wsV RX11 247 RX9 yX9_refresh wsX9_refresh) := goodIn_app (goodIn_of _ (by decide +kernel)) ggX11_currentStables_X9_refresh
theorem dX11_currentStables_0 : decode cX11_currentStables 0 = .ok (.aload_n 0, 1) := by decide +kernel
theorem dX11_currentStables_1 : decode cX11_currentStables 1 = .ok (.getfield 240, 3) := by decide +kernel
theorem dX11_currentStables_4 : decode cX11_currentStables 4 = .ok (.ifnonnull 22, 3) := by decide +kernel
theorem dX11_currentStables_7 : decode cX11_currentStables 7 = .ok (.aload_n 0, 1) := by decide +kernel
theorem dX11_currentStables_8 : decode cX11_currentStables 8 = .ok (.new 187, 3) := by decide +kernel
theorem dX11_currentStables_11 : decode cX11_currentStables 11 = .ok (.dup, 1) := by decide +kernel
theorem dX11_currentStables_12 : decode cX11_currentStables 12 = .ok (.aload_n 0, 1) := by decide +kernel
theorem dX11_currentStables_13 : decode cX11_currentStables 13 = .ok (.getfield 12, 3) := by decide +kernel
theorem dX11_currentStables_16 : decode cX11_currentStables 16 = .ok (.aload_n 0, 1) := by decide +kernel
theorem dX11_currentStables_17 : decode cX11_currentStables 17 = .ok (.getfield 19, 3) := by decide +kernel
theorem dX11_currentStables_20 : decode cX11_currentStables 20 = .ok (.invokespecial 244, 3) := by decide +kernel
theorem dX11_currentStables_23 : decode cX11_currentStables 23 = .ok (.putfield 240, 3) := by decide +kernel
theorem dX11_currentStables_26 : decode cX11_currentStables 26 = .ok (.aload_n 0, 1) := by decide +kernel
theorem dX11_currentStables_27 : decode cX11_currentStables 27 = .ok (.getfield 240, 3) := by decide +kernel
theorem dX11_currentStables_30 : decode cX11_currentStables 30 = .ok (.invokevirtual 247, 3) := by decide +kernel
theorem dX11_currentStables_33 : decode cX11_currentStables 33 = .ok (.aload_n 0, 1) := by decide +kernel
theorem dX11_currentStables_34 : decode cX11_currentStables 34 = .ok (.getfield 240, 3) := by decide +kernel
theorem dX11_currentStables_37 : decode cX11_currentStables 37 = .ok (.areturn, 1) := by decide +kernel
theorem dJ6_bitCount_0f7a4_0 : decode cJ6_bitCount_0f7a4 0 = .ok (.iload_n 0, 1) := by decide +kernel
theorem dJ6_bitCount_0f7a4_1 : decode cJ6_bitCount_0f7a4 1 = .ok (.iload_n 0, 1) := by decide +kernel
theorem dJ6_bitCount_0f7a4_2 : decode cJ6_bitCount_0f7a4 2 = .ok (.iconst 1, 1) := by decide +kernel
theorem dJ6_bitCount_0f7a4_3 : decode cJ6_bitCount_0f7a4 3 = .ok (.iushr, 1) := by decide +kernel
theorem dJ6_bitCount_0f7a4_4 : decode cJ6_bitCount_0f7a4 4 = .ok (.ldc_w 265, 3) := by decide +kernel
theorem dJ6_bitCount_0f7a4_7 : decode cJ6_bitCount_0f7a4 7 = .ok (.iand, 1) := by decide +kernel
theorem dJ6_bitCount_0f7a4_8 : decode cJ6_bitCount_0f7a4 8 = .ok (.isub, 1) := by decide +kernel
theorem dJ6_bitCount_0f7a4_9 : decode cJ6_bitCount_0f7a4 9 = .ok (.istore_n 0, 1) := by decide +kernel
theorem dJ6_bitCount_0f7a4_10 : decode cJ6_bitCount_0f7a4 10 = .ok (.iload_n 0, 1) := by decide +kernel
theorem dJ6_bitCount_0f7a4_11 : decode cJ6_bitCount_0f7a4 11 = .ok (.ldc_w 266, 3) := by decide +kernel
theorem dJ6_bitCount_0f7a4_14 : decode cJ6_bitCount_0f7a4 14 = .ok (.iand, 1) := by decide +kernel
theorem dJ6_bitCount_0f7a4_15 : decode cJ6_bitCount_0f7a4 15 = .ok (.iload_n 0, 1) := by decide +kernel
theorem dJ6_bitCount_0f7a4_16 : decode cJ6_bitCount_0f7a4 16 = .ok (.iconst 2, 1) := by decide +kernel
theorem dJ6_bitCount_0f7a4_17 : decode cJ6_bitCount_0f7a4 17 = .ok (.iushr, 1) := by decide +kernel
theorem dJ6_bitCount_0f7a4_18 : decode cJ6_bitCount_0f7a4 18 = .ok (.ldc_w 266, 3) := by decide +kernel
theorem dJ6_bitCount_0f7a4_21 : decode cJ6_bitCount_0f7a4 21 = .ok (.iand, 1) := by decide +kernel
theorem dJ6_bitCount_0f7a4_22 : decode cJ6_bitCount_0f7a4 22 = .ok (.iadd, 1) := by decide +kernel
theorem dJ6_bitCount_0f7a4_23 : decode cJ6_bitCount_0f7a4 23 = .ok (.istore_n 0, 1) := by decide +kernel
theorem dJ6_bitCount_0f7a4_24 : decode cJ6_bitCount_0f7a4 24 = .ok (.iload_n 0, 1) := by decide +kernel
theorem dJ6_bitCount_0f7a4_25 : decode cJ6_bitCount_0f7a4 25 = .ok (.iload_n 0, 1) := by decide +kernel
theorem dJ6_bitCount_0f7a4_26 : decode cJ6_bitCount_0f7a4 26 = .ok (.iconst 4, 1) := by decide +kernel
theorem dJ6_bitCount_0f7a4_27 : decode cJ6_bitCount_0f7a4 27 = .ok (.iushr, 1) := by decide +kernel
theorem dJ6_bitCount_0f7a4_28 : decode cJ6_bitCount_0f7a4 28 = .ok (.iadd, 1) := by decide +kernel
theorem dJ6_bitCount_0f7a4_29 : decode cJ6_bitCount_0f7a4 29 = .ok (.ldc_w 267, 3) := by decide +kernel
theorem dJ6_bitCount_0f7a4_32 : decode cJ6_bitCount_0f7a4 32 = .ok (.iand, 1) := by decide +kernel
theorem dJ6_bitCount_0f7a4_33 : decode cJ6_bitCount_0f7a4 33 = .ok (.istore_n 0, 1) := by decide +kernel
theorem dJ6_bitCount_0f7a4_34 : decode cJ6_bitCount_0f7a4 34 = .ok (.iload_n 0, 1) := by decide +kernel
theorem dJ6_bitCount_0f7a4_35 : decode cJ6_bitCount_0f7a4 35 = .ok (.iload_n 0, 1) := by decide +kernel
theorem dJ6_bitCount_0f7a4_36 : decode cJ6_bitCount_0f7a4 36 = .ok (.bipush 8, 2) := by decide +kernel
theorem dJ6_bitCount_0f7a4_38 : decode cJ6_bitCount_0f7a4 38 = .ok (.iushr, 1) := by decide +kernel
theorem dJ6_bitCount_0f7a4_39 : decode cJ6_bitCount_0f7a4 39 = .ok (.iadd, 1) := by decide +kernel
theorem dJ6_bitCount_0f7a4_40 : decode cJ6_bitCount_0f7a4 40 = .ok (.istore_n 0, 1) := by decide +kernel
theorem dJ6_bitCount_0f7a4_41 : decode cJ6_bitCount_0f7a4 41 = .ok (.iload_n 0, 1) := by decide +kernel
theorem dJ6_bitCount_0f7a4_42 : decode cJ6_bitCount_0f7a4 42 = .ok (.iload_n 0, 1) := by decide +kernel
theorem dJ6_bitCount_0f7a4_43 : decode cJ6_bitCount_0f7a4 43 = .ok (.bipush 16, 2) := by decide +kernel
theorem dJ6_bitCount_0f7a4_45 : decode cJ6_bitCount_0f7a4 45 = .ok (.iushr, 1) := by decide +kernel
theorem dJ6_bitCount_0f7a4_46 : decode cJ6_bitCount_0f7a4 46 = .ok (.iadd, 1) := by decide +kernel
theorem dJ6_bitCount_0f7a4_47 : decode cJ6_bitCount_0f7a4 47 = .ok (.istore_n 0, 1) := by decide +kernel
theorem dJ6_bitCount_0f7a4_48 : decode cJ6_bitCount_0f7a4 48 = .ok (.iload_n 0, 1) := by decide +kernel
theorem dJ6_bitCount_0f7a4_49 : decode cJ6_bitCount_0f7a4 49 = .ok (.bipush 63, 2) := by decide +kernel
theorem dJ6_bitCount_0f7a4_51 : decode cJ6_bitCount_0f7a4 51 = .ok (.iand, 1) := by decide +kernel
theorem dJ6_bitCount_0f7a4_52 : decode cJ6_bitCount_0f7a4 52 = .ok (.ireturn, 1) := by decide +kernel
theorem dJ13_bitCount_95d88_0 : decode cJ13_bitCount_95d88 0 = .ok (.lload_n 0, 1) := by decide +kernel
theorem dJ13_bitCount_95d88_1 : decode cJ13_bitCount_95d88 1 = .ok (.lload_n 0, 1) := by decide +kernel
theorem dJ13_bitCount_95d88_2 : decode cJ13_bitCount_95d88 2 = .ok (.iconst 1, 1) := by decide +kernel
theorem dJ13_bitCount_95d88_3 : decode cJ13_bitCount_95d88 3 = .ok (.lushr, 1) := by decide +kernel
theorem dJ13_bitCount_95d88_4 : decode cJ13_bitCount_95d88 4 = .ok (.ldc2_w 314, 3) := by decide +kernel
theorem dJ13_bitCount_95d88_7 : decode cJ13_bitCount_95d88 7 = .ok (.land, 1) := by decide +kernel
theorem dJ13_bitCount_95d88_8 : decode cJ13_bitCount_95d88 8 = .ok (.lsub, 1) := by decide +kernel
theorem dJ13_bitCount_95d88_9 : decode cJ13_bitCount_95d88 9 = .ok (.lstore_n 0, 1) := by decide +kernel
theorem dJ13_bitCount_95d88_10 : decode cJ13_bitCount_95d88 10 = .ok (.lload_n 0, 1) := by decide +kernel
theorem dJ13_bitCount_95d88_11 : decode cJ13_bitCount_95d88 11 = .ok (.ldc2_w 316, 3) := by decide +kernel
theorem dJ13_bitCount_95d88_14 : decode cJ13_bitCount_95d88 14 = .ok (.land, 1) := by decide +kernel
theorem dJ13_bitCount_95d88_15 : decode cJ13_bitCount_95d88 15 = .ok (.lload_n 0, 1) := by decide +kernel
theorem dJ13_bitCount_95d88_16 : decode cJ13_bitCount_95d88 16 = .ok (.iconst 2, 1) := by decide +kernel
theorem dJ13_bitCount_95d88_17 : decode cJ13_bitCount_95d88 17 = .ok (.lushr, 1) := by decide +kernel
theorem dJ13_bitCount_95d88_18 : decode cJ13_bitCount_95d88 18 = .ok (.ldc2_w 316, 3) := by decide +kernel
theorem dJ13_bitCount_95d88_21 : decode cJ13_bitCount_95d88 21 = .ok (.land, 1) := by decide +kernel
theorem dJ13_bitCount_95d88_22 : decode cJ13_bitCount_95d88 22 = .ok (.ladd, 1) := by decide +kernel
theorem dJ13_bitCount_95d88_23 : decode cJ13_bitCount_95d88 23 = .ok (.lstore_n 0, 1) := by decide +kernel
theorem dJ13_bitCount_95d88_24 : decode cJ13_bitCount_95d88 24 = .ok (.lload_n 0, 1) := by decide +kernel
theorem dJ13_bitCount_95d88_25 : decode cJ13_bitCount_95d88 25 = .ok (.lload_n 0, 1) := by decide +kernel
theorem dJ13_bitCount_95d88_26 : decode cJ13_bitCount_95d88 26 = .ok (.iconst 4, 1) := by decide +kernel
theorem dJ13_bitCount_95d88_27 : decode cJ13_bitCount_95d88 27 = .ok (.lushr, 1) := by decide +kernel
theorem dJ13_bitCount_95d88_28 : decode cJ13_bitCount_95d88 28 = .ok (.ladd, 1) := by decide +kernel
theorem dJ13_bitCount_95d88_29 : decode cJ13_bitCount_95d88 29 = .ok (.ldc2_w 318, 3) := by decide +kernel
theorem dJ13_bitCount_95d88_32 : decode cJ13_bitCount_95d88 32 = .ok (.land, 1) := by decide +kernel
theorem dJ13_bitCount_95d88_33 : decode cJ13_bitCount_95d88 33 = .ok (.lstore_n 0, 1) := by decide +kernel
theorem dJ13_bitCount_95d88_34 : decode cJ13_bitCount_95d88 34 = .ok (.lload_n 0, 1) := by decide +kernel
theorem dJ13_bitCount_95d88_35 : decode cJ13_bitCount_95d88 35 = .ok (.lload_n 0, 1) := by decide +kernel
theorem dJ13_bitCount_95d88_36 : decode cJ13_bitCount_95d88 36 = .ok (.bipush 8, 2) := by decide +kernel
theorem dJ13_bitCount_95d88_38 : decode cJ13_bitCount_95d88 38 = .ok (.lushr, 1) := by decide +kernel
theorem dJ13_bitCount_95d88_39 : decode cJ13_bitCount_95d88 39 = .ok (.ladd, 1) := by decide +kernel
theorem dJ13_bitCount_95d88_40 : decode cJ13_bitCount_95d88 40 = .ok (.lstore_n 0, 1) := by decide +kernel
theorem dJ13_bitCount_95d88_41 : decode cJ13_bitCount_95d88 41 = .ok (.lload_n 0, 1) := by decide +kernel
theorem dJ13_bitCount_95d88_42 : decode cJ13_bitCount_95d88 42 = .ok (.lload_n 0, 1) := by decide +kernel
theorem dJ13_bitCount_95d88_43 : decode cJ13_bitCount_95d88 43 = .ok (.bipush 16, 2) := by decide +kernel
theorem dJ13_bitCount_95d88_45 : decode cJ13_bitCount_95d88 45 = .ok (.lushr, 1) := by decide +kernel
theorem dJ13_bitCount_95d88_46 : decode cJ13_bitCount_95d88 46 = .ok (.ladd, 1) := by decide +kernel
theorem dJ13_bitCount_95d88_47 : decode cJ13_bitCount_95d88 47 = .ok (.lstore_n 0, 1) := by decide +kernel
theorem dJ13_bitCount_95d88_48 : decode cJ13_bitCount_95d88 48 = .ok (.lload_n 0, 1) := by decide +kernel
theorem dJ13_bitCount_95d88_49 : decode cJ13_bitCount_95d88 49 = .ok (.lload_n 0, 1) := by decide +kernel
theorem dJ13_bitCount_95d88_50 : decode cJ13_bitCount_95d88 50 = .ok (.bipush 32, 2) := by decide +kernel
theorem dJ13_bitCount_95d88_52 : decode cJ13_bitCount_95d88 52 = .ok (.lushr, 1) := by decide +kernel
theorem dJ13_bitCount_95d88_53 : decode cJ13_bitCount_95d88 53 = .ok (.ladd, 1) := by decide +kernel
theorem dJ13_bitCount_95d88_54 : decode cJ13_bitCount_95d88 54 = .ok (.lstore_n 0, 1) := by decide +kernel
theorem dJ13_bitCount_95d88_55 : decode cJ13_bitCount_95d88 55 = .ok (.lload_n 0, 1) := by decide +kernel
theorem dJ13_bitCount_95d88_56 : decode cJ13_bitCount_95d88 56 = .ok (.l2i, 1) := by decide +kernel
theorem dJ13_bitCount_95d88_57 : decode cJ13_bitCount_95d88 57 = .ok (.bipush 127, 2) := by decide +kernel
theorem dJ13_bitCount_95d88_59 : decode cJ13_bitCount_95d88 59 = .ok (.iand, 1) := by decide +kernel
theorem dJ13_bitCount_95d88_60 : decode cJ13_bitCount_95d88 60 = .ok (.ireturn, 1) := by decide +kernel
theorem dJ9_max_f86c9_0 : decode cJ9_max_f86c9 0 = .ok (.lload_n 0, 1) := by decide +kernel
theorem dJ9_max_f86c9_1 : decode cJ9_max_f86c9 1 = .ok (.lload_n 2, 1) := by decide +kernel
theorem dJ9_max_f86c9_2 : decode cJ9_max_f86c9 2 = .ok (.lcmp, 1) := by decide +kernel
theorem dJ9_max_f86c9_3 : decode cJ9_max_f86c9 3 = .ok (.ifCond .lt 7, 3) := by decide +kernel
theorem dJ9_max_f86c9_6 : decode cJ9_max_f86c9 6 = .ok (.lload_n 0, 1) := by decide +kernel
theorem dJ9_max_f86c9_7 : decode cJ9_max_f86c9 7 = .ok (.goto 4, 3) := by decide +kernel
theorem dJ9_max_f86c9_10 : decode cJ9_max_f86c9 10 = .ok (.lload_n 2, 1) := by decide +kernel
theorem dJ9_max_f86c9_11 : decode cJ9_max_f86c9 11 = .ok (.lreturn, 1) := by decide +kernel
theorem dJ9_min_7cf53_0 : decode cJ9_min_7cf53 0 = .ok (.iload_n 0, 1) := by decide +kernel
theorem dJ9_min_7cf53_1 : decode cJ9_min_7cf53 1 = .ok (.iload_n 1, 1) := by decide +kernel
theorem dJ9_min_7cf53_2 : decode cJ9_min_7cf53 2 = .ok (.if_icmp .gt 7, 3) := by decide +kernel
theorem dJ9_min_7cf53_5 : decode cJ9_min_7cf53 5 = .ok (.iload_n 0, 1) := by decide +kernel
theorem dJ9_min_7cf53_6 : decode cJ9_min_7cf53 6 = .ok (.goto 4, 3) := by decide +kernel
theorem dJ9_min_7cf53_9 : decode cJ9_min_7cf53 9 = .ok (.iload_n 1, 1) := by decide +kernel
theorem dJ9_min_7cf53_10 : decode cJ9_min_7cf53 10 = .ok (.ireturn, 1) := by decide +kernel
theorem dJ7_fill_d0a16_0 : decode cJ7_fill_d0a16 0 = .ok (.iconst 0, 1) := by decide +kernel
theorem dJ7_fill_d0a16_1 : decode cJ7_fill_d0a16 1 = .ok (.istore_n 3, 1) := by decide +kernel
theorem dJ7_fill_d0a16_2 : decode cJ7_fill_d0a16 2 = .ok (.aload_n 0, 1) := by decide +kernel
theorem dJ7_fill_d0a16_3 : decode cJ7_fill_d0a16 3 = .ok (.arraylength, 1) := by decide +kernel
theorem dJ7_fill_d0a16_4 : decode cJ7_fill_d0a16 4 = .ok (.istore 4, 2) := by decide +kernel
theorem dJ7_fill_d0a16_6 : decode cJ7_fill_d0a16 6 = .ok (.iload_n 3, 1) := by decide +kernel
theorem dJ7_fill_d0a16_7 : decode cJ7_fill_d0a16 7 = .ok (.iload 4, 2) := by decide +kernel
theorem dJ7_fill_d0a16_9 : decode cJ7_fill_d0a16 9 = .ok (.if_icmp .ge 13, 3) := by decide +kernel
theorem dJ7_fill_d0a16_12 : decode cJ7_fill_d0a16 12 = .ok (.aload_n 0, 1) := by decide +kernel
theorem dJ7_fill_d0a16_13 : decode cJ7_fill_d0a16 13 = .ok (.iload_n 3, 1) := by decide +kernel
theorem dJ7_fill_d0a16_14 : decode cJ7_fill_d0a16 14 = .ok (.lload_n 1, 1) := by decide +kernel
theorem dJ7_fill_d0a16_15 : decode cJ7_fill_d0a16 15 = .ok (.lastore, 1) := by decide +kernel
theorem dJ7_fill_d0a16_16 : decode cJ7_fill_d0a16 16 = .ok (.iinc 3 1, 3) := by decide +kernel
theorem dJ7_fill_d0a16_19 : decode cJ7_fill_d0a16 19 = .ok (.goto (-13), 3) := by decide +kernel
theorem dJ7_fill_d0a16_22 : decode cJ7_fill_d0a16 22 = .ok (.return_, 1) := by decide +kernel
theorem dJ7_fill_53178_0 : decode cJ7_fill_53178 0 = .ok (.iconst 0, 1) := by decide +kernel
theorem dJ7_fill_53178_1 : decode cJ7_fill_53178 1 = .ok (.istore_n 2, 1) := by decide +kernel
theorem dJ7_fill_53178_2 : decode cJ7_fill_53178 2 = .ok (.aload_n 0, 1) := by decide +kernel
theorem dJ7_fill_53178_3 : decode cJ7_fill_53178 3 = .ok (.arraylength, 1) := by decide +kernel
theorem dJ7_fill_53178_4 : decode cJ7_fill_53178 4 = .ok (.istore_n 3, 1) := by decide +kernel
theorem dJ7_fill_53178_5 : decode cJ7_fill_53178 5 = .ok (.iload_n 2, 1) := by decide +kernel
theorem dJ7_fill_53178_6 : decode cJ7_fill_53178 6 = .ok (.iload_n 3, 1) := by decide +kernel
theorem dJ7_fill_53178_7 : decode cJ7_fill_53178 7 = .ok (.if_icmp .ge 13, 3) := by decide +kernel
theorem dJ7_fill_53178_10 : decode cJ7_fill_53178 10 = .ok (.aload_n 0, 1) := by decide +kernel
theorem dJ7_fill_53178_11 : decode cJ7_fill_53178 11 = .ok (.iload_n 2, 1) := by decide +kernel
theorem dJ7_fill_53178_12 : decode cJ7_fill_53178 12 = .ok (.iload_n 1, 1) := by decide +kernel
theorem dJ7_fill_53178_13 : decode cJ7_fill_53178 13 = .ok (.iastore, 1) := by decide +kernel
theorem dJ7_fill_53178_14 : decode cJ7_fill_53178 14 = .ok (.iinc 2 1, 3) := by decide +kernel
theorem dJ7_fill_53178_17 : decode cJ7_fill_53178 17 = .ok (.goto (-12), 3) := by decide +kernel
theorem dJ7_fill_53178_20 : decode cJ7_fill_53178 20 = .ok (.return_, 1) := by decide +kernel
