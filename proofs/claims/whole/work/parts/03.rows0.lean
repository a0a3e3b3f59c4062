set_option maxRecDepth 20000 in
theorem ggX0_init_X7_init : GoodIn wsX0_init wsX7_init := goodIn_r _ [15, 16, 2, 3, 8, 17, 18, 19, 20, 21, 22, 23, 24, 25, 26, 27, 28] rfl (by decide +kernel)
set_option maxRecDepth 20000 in
theorem gX0_init_X7_init_n11 : GoodIn wsX0_init (wsX7_init) := ggX0_init_X7_init
theorem dX0_init_0 : decode cX0_init 0 = .ok (.aload_n 0, 1) := by decide +kernel
theorem dX0_init_1 : decode cX0_init 1 = .ok (.invokespecial 3, 3) := by decide +kernel
theorem dX0_init_4 : decode cX0_init 4 = .ok (.aload_n 0, 1) := by decide +kernel
theorem dX0_init_5 : decode cX0_init 5 = .ok (.new 9, 3) := by decide +kernel
theorem dX0_init_8 : decode cX0_init 8 = .ok (.dup, 1) := by decide +kernel
theorem dX0_init_9 : decode cX0_init 9 = .ok (.invokespecial 11, 3) := by decide +kernel
theorem dX0_init_12 : decode cX0_init 12 = .ok (.putfield 12, 3) := by decide +kernel
theorem dX0_init_15 : decode cX0_init 15 = .ok (.aload_n 0, 1) := by decide +kernel
theorem dX0_init_16 : decode cX0_init 16 = .ok (.sipush 256, 3) := by decide +kernel
theorem dX0_init_19 : decode cX0_init 19 = .ok (.newarray .int, 2) := by decide +kernel
theorem dX0_init_21 : decode cX0_init 21 = .ok (.putfield 18, 3) := by decide +kernel
theorem dX0_init_24 : decode cX0_init 24 = .ok (.aload_n 0, 1) := by decide +kernel
theorem dX0_init_25 : decode cX0_init 25 = .ok (.sipush 256, 3) := by decide +kernel
theorem dX0_init_28 : decode cX0_init 28 = .ok (.newarray .long, 2) := by decide +kernel
theorem dX0_init_30 : decode cX0_init 30 = .ok (.putfield 22, 3) := by decide +kernel
theorem dX0_init_33 : decode cX0_init 33 = .ok (.aload_n 0, 1) := by decide +kernel
theorem dX0_init_34 : decode cX0_init 34 = .ok (.sipush 2584, 3) := by decide +kernel
theorem dX0_init_37 : decode cX0_init 37 = .ok (.newarray .int, 2) := by decide +kernel
theorem dX0_init_39 : decode cX0_init 39 = .ok (.putfield 26, 3) := by decide +kernel
theorem dX0_init_42 : decode cX0_init 42 = .ok (.aload_n 0, 1) := by decide +kernel
theorem dX0_init_43 : decode cX0_init 43 = .ok (.sipush 2584, 3) := by decide +kernel
theorem dX0_init_46 : decode cX0_init 46 = .ok (.newarray .long, 2) := by decide +kernel
theorem dX0_init_48 : decode cX0_init 48 = .ok (.putfield 29, 3) := by decide +kernel
theorem dX0_init_51 : decode cX0_init 51 = .ok (.return_, 1) := by decide +kernel
set_option maxRecDepth 20000 in
theorem ggX0_forgetOffers_J7_fill_53178 : GoodIn wsX0_forgetOffers wsJ7_fill_53178 := goodIn_r _ [7] rfl (by decide +kernel)
set_option maxRecDepth 20000 in
theorem gX0_forgetOffers_J7_fill_53178 : GoodIn wsX0_forgetOffers (va_wsS RX0 33 yJ7_fill_53178 wsJ7_fill_53178) := goodIn_app (goodIn_of _ (by decide +kernel)) ggX0_forgetOffers_J7_fill_53178
set_option maxRecDepth 20000 in
theorem ggX0_forgetOffers_J7_fill_d0a16 : GoodIn wsX0_forgetOffers wsJ7_fill_d0a16 := goodIn_r _ [10] rfl (by decide +kernel)
set_option maxRecDepth 20000 in
theorem gX0_forgetOffers_J7_fill_d0a16 : GoodIn wsX0_forgetOffers (va_wsS RX0 39 yJ7_fill_d0a16 wsJ7_fill_d0a16) := goodIn_app (goodIn_of _ (by decide +kernel)) ggX0_forgetOffers_J7_fill_d0a16
theorem dX0_forgetOffers_0 : decode cX0_forgetOffers 0 = .ok (.aload_n 0, 1) := by decide +kernel
theorem dX0_forgetOffers_1 : decode cX0_forgetOffers 1 = .ok (.getfield 18, 3) := by decide +kernel
theorem dX0_forgetOffers_4 : decode cX0_forgetOffers 4 = .ok (.ldc 32, 2) := by decide +kernel
theorem dX0_forgetOffers_6 : decode cX0_forgetOffers 6 = .ok (.invokestatic 33, 3) := by decide +kernel
theorem dX0_forgetOffers_9 : decode cX0_forgetOffers 9 = .ok (.aload_n 0, 1) := by decide +kernel
theorem dX0_forgetOffers_10 : decode cX0_forgetOffers 10 = .ok (.getfield 22, 3) := by decide +kernel
theorem dX0_forgetOffers_13 : decode cX0_forgetOffers 13 = .ok (.lconst 0, 1) := by decide +kernel
theorem dX0_forgetOffers_14 : decode cX0_forgetOffers 14 = .ok (.invokestatic 39, 3) := by decide +kernel
theorem dX0_forgetOffers_17 : decode cX0_forgetOffers 17 = .ok (.return_, 1) := by decide +kernel
set_option maxRecDepth 20000 in
theorem ggX0_offer_X11_cell : GoodIn wsX0_offer wsX11_cell := goodIn_r _ [5] rfl (by decide +kernel)
set_option maxRecDepth 20000 in
theorem gX0_offer_X11_cell_n42 : GoodIn wsX0_offer (wsX11_cell) := ggX0_offer_X11_cell
theorem dX0_offer_0 : decode cX0_offer 0 = .ok (.iload_n 3, 1) := by decide +kernel
theorem dX0_offer_1 : decode cX0_offer 1 = .ok (.aload_n 0, 1) := by decide +kernel
theorem dX0_offer_2 : decode cX0_offer 2 = .ok (.getfield 18, 3) := by decide +kernel
theorem dX0_offer_5 : decode cX0_offer 5 = .ok (.iload_n 1, 1) := by decide +kernel
theorem dX0_offer_6 : decode cX0_offer 6 = .ok (.iload_n 2, 1) := by decide +kernel
theorem dX0_offer_7 : decode cX0_offer 7 = .ok (.invokestatic 42, 3) := by decide +kernel
theorem dX0_offer_10 : decode cX0_offer 10 = .ok (.iaload, 1) := by decide +kernel
theorem dX0_offer_11 : decode cX0_offer 11 = .ok (.if_icmp .le 49, 3) := by decide +kernel
theorem dX0_offer_14 : decode cX0_offer 14 = .ok (.aload_n 0, 1) := by decide +kernel
theorem dX0_offer_15 : decode cX0_offer 15 = .ok (.getfield 18, 3) := by decide +kernel
theorem dX0_offer_18 : decode cX0_offer 18 = .ok (.iload_n 1, 1) := by decide +kernel
theorem dX0_offer_19 : decode cX0_offer 19 = .ok (.iload_n 2, 1) := by decide +kernel
theorem dX0_offer_20 : decode cX0_offer 20 = .ok (.invokestatic 42, 3) := by decide +kernel
theorem dX0_offer_23 : decode cX0_offer 23 = .ok (.iload_n 3, 1) := by decide +kernel
theorem dX0_offer_24 : decode cX0_offer 24 = .ok (.iastore, 1) := by decide +kernel
theorem dX0_offer_25 : decode cX0_offer 25 = .ok (.aload_n 0, 1) := by decide +kernel
theorem dX0_offer_26 : decode cX0_offer 26 = .ok (.getfield 18, 3) := by decide +kernel
theorem dX0_offer_29 : decode cX0_offer 29 = .ok (.iload_n 2, 1) := by decide +kernel
theorem dX0_offer_30 : decode cX0_offer 30 = .ok (.iload_n 1, 1) := by decide +kernel
theorem dX0_offer_31 : decode cX0_offer 31 = .ok (.invokestatic 42, 3) := by decide +kernel
theorem dX0_offer_34 : decode cX0_offer 34 = .ok (.iload_n 3, 1) := by decide +kernel
theorem dX0_offer_35 : decode cX0_offer 35 = .ok (.iastore, 1) := by decide +kernel
theorem dX0_offer_36 : decode cX0_offer 36 = .ok (.aload_n 0, 1) := by decide +kernel
theorem dX0_offer_37 : decode cX0_offer 37 = .ok (.getfield 22, 3) := by decide +kernel
theorem dX0_offer_40 : decode cX0_offer 40 = .ok (.iload_n 1, 1) := by decide +kernel
theorem dX0_offer_41 : decode cX0_offer 41 = .ok (.iload_n 2, 1) := by decide +kernel
theorem dX0_offer_42 : decode cX0_offer 42 = .ok (.invokestatic 42, 3) := by decide +kernel
theorem dX0_offer_45 : decode cX0_offer 45 = .ok (.lload 4, 2) := by decide +kernel
theorem dX0_offer_47 : decode cX0_offer 47 = .ok (.lastore, 1) := by decide +kernel
theorem dX0_offer_48 : decode cX0_offer 48 = .ok (.aload_n 0, 1) := by decide +kernel
theorem dX0_offer_49 : decode cX0_offer 49 = .ok (.getfield 22, 3) := by decide +kernel
theorem dX0_offer_52 : decode cX0_offer 52 = .ok (.iload_n 2, 1) := by decide +kernel
theorem dX0_offer_53 : decode cX0_offer 53 = .ok (.iload_n 1, 1) := by decide +kernel
theorem dX0_offer_54 : decode cX0_offer 54 = .ok (.invokestatic 42, 3) := by decide +kernel
theorem dX0_offer_57 : decode cX0_offer 57 = .ok (.lload 4, 2) := by decide +kernel
theorem dX0_offer_59 : decode cX0_offer 59 = .ok (.lastore, 1) := by decide +kernel
theorem dX0_offer_60 : decode cX0_offer 60 = .ok (.return_, 1) := by decide +kernel
set_option maxRecDepth 20000 in
theorem ggX0_choose_X0_chooseFor : GoodIn wsX0_choose wsX0_chooseFor := goodIn_r _ [9, 1, 10, 11, 12, 13, 14, 15, 16, 17, 18, 19, 20, 21, 22, 23, 24, 8, 25, 3, 4, 2, 26, 27, 28, 29, 30, 31, 32, 33, 34, 35, 36, 37, 38, 39, 40, 41, 42, 43, 44, 45, 46, 47, 48, 49, 50, 51, 52, 53, 54, 55, 56, 57, 58, 59, 60, 61, 62] rfl (by decide +kernel)
set_option maxRecDepth 20000 in
theorem gX0_choose_X0_chooseFor : GoodIn wsX0_choose (wsV RX0 53 RX0 yX0_chooseFor wsX0_chooseFor) := goodIn_app (goodIn_of _ (by decide +kernel)) ggX0_choose_X0_chooseFor
theorem dX0_choose_0 : decode cX0_choose 0 = .ok (.iconst 0, 1) := by decide +kernel
theorem dX0_choose_1 : decode cX0_choose 1 = .ok (.istore_n 2, 1) := by decide +kernel
theorem dX0_choose_2 : decode cX0_choose 2 = .ok (.iload_n 2, 1) := by decide +kernel
theorem dX0_choose_3 : decode cX0_choose 3 = .ok (.aload_n 0, 1) := by decide +kernel
theorem dX0_choose_4 : decode cX0_choose 4 = .ok (.getfield 12, 3) := by decide +kernel
theorem dX0_choose_7 : decode cX0_choose 7 = .ok (.getfield 46, 3) := by decide +kernel
theorem dX0_choose_10 : decode cX0_choose 10 = .ok (.if_icmp .ge 55, 3) := by decide +kernel
theorem dX0_choose_13 : decode cX0_choose 13 = .ok (.aload_n 0, 1) := by decide +kernel
theorem dX0_choose_14 : decode cX0_choose 14 = .ok (.getfield 12, 3) := by decide +kernel
theorem dX0_choose_17 : decode cX0_choose 17 = .ok (.getfield 50, 3) := by decide +kernel
theorem dX0_choose_20 : decode cX0_choose 20 = .ok (.iload_n 2, 1) := by decide +kernel
theorem dX0_choose_21 : decode cX0_choose 21 = .ok (.iaload, 1) := by decide +kernel
theorem dX0_choose_22 : decode cX0_choose 22 = .ok (.istore_n 3, 1) := by decide +kernel
theorem dX0_choose_23 : decode cX0_choose 23 = .ok (.aload_n 0, 1) := by decide +kernel
theorem dX0_choose_24 : decode cX0_choose 24 = .ok (.getfield 29, 3) := by decide +kernel
theorem dX0_choose_27 : decode cX0_choose 27 = .ok (.iload_n 2, 1) := by decide +kernel
theorem dX0_choose_28 : decode cX0_choose 28 = .ok (.lconst 0, 1) := by decide +kernel
theorem dX0_choose_29 : decode cX0_choose 29 = .ok (.lastore, 1) := by decide +kernel
theorem dX0_choose_30 : decode cX0_choose 30 = .ok (.iload_n 3, 1) := by decide +kernel
theorem dX0_choose_31 : decode cX0_choose 31 = .ok (.ifCond .ne 13, 3) := by decide +kernel
theorem dX0_choose_34 : decode cX0_choose 34 = .ok (.aload_n 0, 1) := by decide +kernel
theorem dX0_choose_35 : decode cX0_choose 35 = .ok (.getfield 26, 3) := by decide +kernel
theorem dX0_choose_38 : decode cX0_choose 38 = .ok (.iload_n 2, 1) := by decide +kernel
theorem dX0_choose_39 : decode cX0_choose 39 = .ok (.iconst 0, 1) := by decide +kernel
theorem dX0_choose_40 : decode cX0_choose 40 = .ok (.iastore, 1) := by decide +kernel
theorem dX0_choose_41 : decode cX0_choose 41 = .ok (.goto 18, 3) := by decide +kernel
theorem dX0_choose_44 : decode cX0_choose 44 = .ok (.aload_n 0, 1) := by decide +kernel
theorem dX0_choose_45 : decode cX0_choose 45 = .ok (.getfield 26, 3) := by decide +kernel
theorem dX0_choose_48 : decode cX0_choose 48 = .ok (.iload_n 2, 1) := by decide +kernel
theorem dX0_choose_49 : decode cX0_choose 49 = .ok (.ldc 32, 2) := by decide +kernel
theorem dX0_choose_51 : decode cX0_choose 51 = .ok (.iastore, 1) := by decide +kernel
theorem dX0_choose_52 : decode cX0_choose 52 = .ok (.aload_n 0, 1) := by decide +kernel
theorem dX0_choose_53 : decode cX0_choose 53 = .ok (.iload_n 2, 1) := by decide +kernel
theorem dX0_choose_54 : decode cX0_choose 54 = .ok (.iload_n 3, 1) := by decide +kernel
theorem dX0_choose_55 : decode cX0_choose 55 = .ok (.iload_n 1, 1) := by decide +kernel
theorem dX0_choose_56 : decode cX0_choose 56 = .ok (.invokevirtual 53, 3) := by decide +kernel
theorem dX0_choose_59 : decode cX0_choose 59 = .ok (.iinc 2 1, 3) := by decide +kernel
theorem dX0_choose_62 : decode cX0_choose 62 = .ok (.goto (-60), 3) := by decide +kernel
theorem dX0_choose_65 : decode cX0_choose 65 = .ok (.return_, 1) := by decide +kernel
theorem dX0_found_0 : decode cX0_found 0 = .ok (.aload_n 0, 1) := by decide +kernel
theorem dX0_found_1 : decode cX0_found 1 = .ok (.getfield 12, 3) := by decide +kernel
theorem dX0_found_4 : decode cX0_found 4 = .ok (.getfield 46, 3) := by decide +kernel
theorem dX0_found_7 : decode cX0_found 7 = .ok (.ifCond .le 26, 3) := by decide +kernel
theorem dX0_found_10 : decode cX0_found 10 = .ok (.aload_n 0, 1) := by decide +kernel
theorem dX0_found_11 : decode cX0_found 11 = .ok (.getfield 26, 3) := by decide +kernel
theorem dX0_found_14 : decode cX0_found 14 = .ok (.aload_n 0, 1) := by decide +kernel
theorem dX0_found_15 : decode cX0_found 15 = .ok (.getfield 12, 3) := by decide +kernel
theorem dX0_found_18 : decode cX0_found 18 = .ok (.getfield 46, 3) := by decide +kernel
theorem dX0_found_21 : decode cX0_found 21 = .ok (.iconst 1, 1) := by decide +kernel
theorem dX0_found_22 : decode cX0_found 22 = .ok (.isub, 1) := by decide +kernel
theorem dX0_found_23 : decode cX0_found 23 = .ok (.iaload, 1) := by decide +kernel
theorem dX0_found_24 : decode cX0_found 24 = .ok (.ldc 32, 2) := by decide +kernel
theorem dX0_found_26 : decode cX0_found 26 = .ok (.if_icmp .eq 7, 3) := by decide +kernel
theorem dX0_found_29 : decode cX0_found 29 = .ok (.iconst 1, 1) := by decide +kernel
theorem dX0_found_30 : decode cX0_found 30 = .ok (.goto 4, 3) := by decide +kernel
theorem dX0_found_33 : decode cX0_found 33 = .ok (.iconst 0, 1) := by decide +kernel
theorem dX0_found_34 : decode cX0_found 34 = .ok (.ireturn, 1) := by decide +kernel
theorem dX0_chosen_0 : decode cX0_chosen 0 = .ok (.aload_n 0, 1) := by decide +kernel
theorem dX0_chosen_1 : decode cX0_chosen 1 = .ok (.getfield 12, 3) := by decide +kernel
theorem dX0_chosen_4 : decode cX0_chosen 4 = .ok (.getfield 46, 3) := by decide +kernel
theorem dX0_chosen_7 : decode cX0_chosen 7 = .ok (.ifCond .le 20, 3) := by decide +kernel
theorem dX0_chosen_10 : decode cX0_chosen 10 = .ok (.aload_n 0, 1) := by decide +kernel
theorem dX0_chosen_11 : decode cX0_chosen 11 = .ok (.getfield 29, 3) := by decide +kernel
theorem dX0_chosen_14 : decode cX0_chosen 14 = .ok (.aload_n 0, 1) := by decide +kernel
theorem dX0_chosen_15 : decode cX0_chosen 15 = .ok (.getfield 12, 3) := by decide +kernel
theorem dX0_chosen_18 : decode cX0_chosen 18 = .ok (.getfield 46, 3) := by decide +kernel
theorem dX0_chosen_21 : decode cX0_chosen 21 = .ok (.iconst 1, 1) := by decide +kernel
theorem dX0_chosen_22 : decode cX0_chosen 22 = .ok (.isub, 1) := by decide +kernel
theorem dX0_chosen_23 : decode cX0_chosen 23 = .ok (.laload, 1) := by decide +kernel
theorem dX0_chosen_24 : decode cX0_chosen 24 = .ok (.goto 4, 3) := by decide +kernel
theorem dX0_chosen_27 : decode cX0_chosen 27 = .ok (.lconst 0, 1) := by decide +kernel
theorem dX0_chosen_28 : decode cX0_chosen 28 = .ok (.lreturn, 1) := by decide +kernel
set_option maxRecDepth 20000 in
theorem ggX0_chooseFor_X11_leastNode : GoodIn wsX0_chooseFor wsX11_leastNode := goodIn_r _ [6, 7, 8, 9, 10, 11, 12, 13] rfl (by decide +kernel)
set_option maxRecDepth 20000 in
theorem gX0_chooseFor_X11_leastNode_n57 : GoodIn wsX0_chooseFor (wsX11_leastNode) := ggX0_chooseFor_X11_leastNode
set_option maxRecDepth 20000 in
theorem ggX0_chooseFor_X0_take : GoodIn wsX0_chooseFor wsX0_take := goodIn_r _ [18, 1, 19, 20, 21, 22, 23, 24, 25, 26, 27, 28, 29, 30, 31, 47, 48, 49, 50, 51, 52, 53, 54, 55, 56, 57, 58] rfl (by decide +kernel)
set_option maxRecDepth 20000 in
theorem gX0_chooseFor_X0_take : GoodIn wsX0_chooseFor (wsV RX0 61 RX0 yX0_take wsX0_take) := goodIn_app (goodIn_of _ (by decide +kernel)) ggX0_chooseFor_X0_take
set_option maxRecDepth 20000 in
theorem ggX0_chooseFor_X0_firstOutOf : GoodIn wsX0_chooseFor wsX0_firstOutOf := goodIn_r _ [35, 3, 36, 37, 38, 39, 40, 5, 41, 42, 43, 47, 48, 49, 50, 51] rfl (by decide +kernel)
set_option maxRecDepth 20000 in
theorem gX0_chooseFor_X0_firstOutOf : GoodIn wsX0_chooseFor (wsV RX0 65 RX0 yX0_firstOutOf wsX0_firstOutOf) := goodIn_app (goodIn_of _ (by decide +kernel)) ggX0_chooseFor_X0_firstOutOf
set_option maxRecDepth 20000 in
theorem ggX0_chooseFor_X0_gainOf : GoodIn wsX0_chooseFor wsX0_gainOf := goodIn_r _ [46] rfl (by decide +kernel)
set_option maxRecDepth 20000 in
theorem gX0_chooseFor_X0_gainOf : GoodIn wsX0_chooseFor (va_wsS RX0 69 yX0_gainOf wsX0_gainOf) := goodIn_app (goodIn_of _ (by decide +kernel)) ggX0_chooseFor_X0_gainOf
set_option maxRecDepth 20000 in
theorem ggX0_chooseFor_X11_cell : GoodIn wsX0_chooseFor wsX11_cell := goodIn_r _ [43] rfl (by decide +kernel)
set_option maxRecDepth 20000 in
theorem gX0_chooseFor_X11_cell_n42 : GoodIn wsX0_chooseFor (wsX11_cell) := ggX0_chooseFor_X11_cell
set_option maxRecDepth 20000 in
theorem ggX0_chooseFor_X11_has : GoodIn wsX0_chooseFor wsX11_has := goodIn_r _ [41] rfl (by decide +kernel)
set_option maxRecDepth 20000 in
theorem gX0_chooseFor_X11_has_n78 : GoodIn wsX0_chooseFor (wsX11_has) := ggX0_chooseFor_X11_has
theorem dX0_chooseFor_0 : decode cX0_chooseFor 0 = .ok (.iload_n 2, 1) := by decide +kernel
theorem dX0_chooseFor_1 : decode cX0_chooseFor 1 = .ok (.invokestatic 57, 3) := by decide +kernel
theorem dX0_chooseFor_4 : decode cX0_chooseFor 4 = .ok (.istore 4, 2) := by decide +kernel
theorem dX0_chooseFor_6 : decode cX0_chooseFor 6 = .ok (.iload_n 2, 1) := by decide +kernel
theorem dX0_chooseFor_7 : decode cX0_chooseFor 7 = .ok (.iload_n 2, 1) := by decide +kernel
theorem dX0_chooseFor_8 : decode cX0_chooseFor 8 = .ok (.iconst 1, 1) := by decide +kernel
theorem dX0_chooseFor_9 : decode cX0_chooseFor 9 = .ok (.isub, 1) := by decide +kernel
theorem dX0_chooseFor_10 : decode cX0_chooseFor 10 = .ok (.iand, 1) := by decide +kernel
theorem dX0_chooseFor_11 : decode cX0_chooseFor 11 = .ok (.istore 5, 2) := by decide +kernel
theorem dX0_chooseFor_13 : decode cX0_chooseFor 13 = .ok (.iload_n 3, 1) := by decide +kernel
theorem dX0_chooseFor_14 : decode cX0_chooseFor 14 = .ok (.ifCond .ne 15, 3) := by decide +kernel
theorem dX0_chooseFor_17 : decode cX0_chooseFor 17 = .ok (.aload_n 0, 1) := by decide +kernel
theorem dX0_chooseFor_18 : decode cX0_chooseFor 18 = .ok (.iload_n 1, 1) := by decide +kernel
theorem dX0_chooseFor_19 : decode cX0_chooseFor 19 = .ok (.iload 5, 2) := by decide +kernel
theorem dX0_chooseFor_21 : decode cX0_chooseFor 21 = .ok (.iconst 0, 1) := by decide +kernel
theorem dX0_chooseFor_22 : decode cX0_chooseFor 22 = .ok (.lconst 0, 1) := by decide +kernel
theorem dX0_chooseFor_23 : decode cX0_chooseFor 23 = .ok (.invokevirtual 61, 3) := by decide +kernel
theorem dX0_chooseFor_26 : decode cX0_chooseFor 26 = .ok (.goto 38, 3) := by decide +kernel
theorem dX0_chooseFor_29 : decode cX0_chooseFor 29 = .ok (.iload_n 3, 1) := by decide +kernel
theorem dX0_chooseFor_30 : decode cX0_chooseFor 30 = .ok (.iconst 2, 1) := by decide +kernel
theorem dX0_chooseFor_31 : decode cX0_chooseFor 31 = .ok (.if_icmp .ne 33, 3) := by decide +kernel
theorem dX0_chooseFor_34 : decode cX0_chooseFor 34 = .ok (.aload_n 0, 1) := by decide +kernel
theorem dX0_chooseFor_35 : decode cX0_chooseFor 35 = .ok (.iload_n 2, 1) := by decide +kernel
theorem dX0_chooseFor_36 : decode cX0_chooseFor 36 = .ok (.iload 4, 2) := by decide +kernel
theorem dX0_chooseFor_38 : decode cX0_chooseFor 38 = .ok (.invokevirtual 65, 3) := by decide +kernel
theorem dX0_chooseFor_41 : decode cX0_chooseFor 41 = .ok (.lstore 6, 2) := by decide +kernel
theorem dX0_chooseFor_43 : decode cX0_chooseFor 43 = .ok (.lload 6, 2) := by decide +kernel
theorem dX0_chooseFor_45 : decode cX0_chooseFor 45 = .ok (.lconst 0, 1) := by decide +kernel
theorem dX0_chooseFor_46 : decode cX0_chooseFor 46 = .ok (.lcmp, 1) := by decide +kernel
theorem dX0_chooseFor_47 : decode cX0_chooseFor 47 = .ok (.ifCond .eq 17, 3) := by decide +kernel
theorem dX0_chooseFor_50 : decode cX0_chooseFor 50 = .ok (.aload_n 0, 1) := by decide +kernel
theorem dX0_chooseFor_51 : decode cX0_chooseFor 51 = .ok (.iload_n 1, 1) := by decide +kernel
theorem dX0_chooseFor_52 : decode cX0_chooseFor 52 = .ok (.iload 5, 2) := by decide +kernel
theorem dX0_chooseFor_54 : decode cX0_chooseFor 54 = .ok (.iconst 4, 1) := by decide +kernel
theorem dX0_chooseFor_55 : decode cX0_chooseFor 55 = .ok (.iconst 0, 1) := by decide +kernel
theorem dX0_chooseFor_56 : decode cX0_chooseFor 56 = .ok (.invokestatic 69, 3) := by decide +kernel
theorem dX0_chooseFor_59 : decode cX0_chooseFor 59 = .ok (.lload 6, 2) := by decide +kernel
theorem dX0_chooseFor_61 : decode cX0_chooseFor 61 = .ok (.invokevirtual 61, 3) := by decide +kernel
theorem dX0_chooseFor_64 : decode cX0_chooseFor 64 = .ok (.iconst 0, 1) := by decide +kernel
theorem dX0_chooseFor_65 : decode cX0_chooseFor 65 = .ok (.istore 6, 2) := by decide +kernel
theorem dX0_chooseFor_67 : decode cX0_chooseFor 67 = .ok (.iload 6, 2) := by decide +kernel
theorem dX0_chooseFor_69 : decode cX0_chooseFor 69 = .ok (.aload_n 0, 1) := by decide +kernel
theorem dX0_chooseFor_70 : decode cX0_chooseFor 70 = .ok (.getfield 12, 3) := by decide +kernel
theorem dX0_chooseFor_73 : decode cX0_chooseFor 73 = .ok (.getfield 72, 3) := by decide +kernel
theorem dX0_chooseFor_76 : decode cX0_chooseFor 76 = .ok (.iload 4, 2) := by decide +kernel
theorem dX0_chooseFor_78 : decode cX0_chooseFor 78 = .ok (.iaload, 1) := by decide +kernel
theorem dX0_chooseFor_79 : decode cX0_chooseFor 79 = .ok (.if_icmp .ge 74, 3) := by decide +kernel
theorem dX0_chooseFor_82 : decode cX0_chooseFor 82 = .ok (.aload_n 0, 1) := by decide +kernel
theorem dX0_chooseFor_83 : decode cX0_chooseFor 83 = .ok (.getfield 12, 3) := by decide +kernel
theorem dX0_chooseFor_86 : decode cX0_chooseFor 86 = .ok (.getfield 75, 3) := by decide +kernel
theorem dX0_chooseFor_89 : decode cX0_chooseFor 89 = .ok (.iload 4, 2) := by decide +kernel
theorem dX0_chooseFor_91 : decode cX0_chooseFor 91 = .ok (.iload 6, 2) := by decide +kernel
theorem dX0_chooseFor_93 : decode cX0_chooseFor 93 = .ok (.invokestatic 42, 3) := by decide +kernel
theorem dX0_chooseFor_96 : decode cX0_chooseFor 96 = .ok (.iaload, 1) := by decide +kernel
theorem dX0_chooseFor_97 : decode cX0_chooseFor 97 = .ok (.istore 7, 2) := by decide +kernel
theorem dX0_chooseFor_99 : decode cX0_chooseFor 99 = .ok (.iload 5, 2) := by decide +kernel
theorem dX0_chooseFor_101 : decode cX0_chooseFor 101 = .ok (.iload 7, 2) := by decide +kernel
theorem dX0_chooseFor_103 : decode cX0_chooseFor 103 = .ok (.invokestatic 78, 3) := by decide +kernel
theorem dX0_chooseFor_106 : decode cX0_chooseFor 106 = .ok (.ifCond .eq 41, 3) := by decide +kernel
theorem dX0_chooseFor_109 : decode cX0_chooseFor 109 = .ok (.aload_n 0, 1) := by decide +kernel
theorem dX0_chooseFor_110 : decode cX0_chooseFor 110 = .ok (.iload_n 1, 1) := by decide +kernel
theorem dX0_chooseFor_111 : decode cX0_chooseFor 111 = .ok (.iload 5, 2) := by decide +kernel
theorem dX0_chooseFor_113 : decode cX0_chooseFor 113 = .ok (.iconst 1, 1) := by decide +kernel
theorem dX0_chooseFor_114 : decode cX0_chooseFor 114 = .ok (.iload 7, 2) := by decide +kernel
theorem dX0_chooseFor_116 : decode cX0_chooseFor 116 = .ok (.ishl, 1) := by decide +kernel
theorem dX0_chooseFor_117 : decode cX0_chooseFor 117 = .ok (.iconst (-1), 1) := by decide +kernel
theorem dX0_chooseFor_118 : decode cX0_chooseFor 118 = .ok (.ixor, 1) := by decide +kernel
theorem dX0_chooseFor_119 : decode cX0_chooseFor 119 = .ok (.iand, 1) := by decide +kernel
theorem dX0_chooseFor_120 : decode cX0_chooseFor 120 = .ok (.aload_n 0, 1) := by decide +kernel
theorem dX0_chooseFor_121 : decode cX0_chooseFor 121 = .ok (.getfield 18, 3) := by decide +kernel
theorem dX0_chooseFor_124 : decode cX0_chooseFor 124 = .ok (.iload 4, 2) := by decide +kernel
theorem dX0_chooseFor_126 : decode cX0_chooseFor 126 = .ok (.iload 7, 2) := by decide +kernel
theorem dX0_chooseFor_128 : decode cX0_chooseFor 128 = .ok (.invokestatic 42, 3) := by decide +kernel
theorem dX0_chooseFor_131 : decode cX0_chooseFor 131 = .ok (.iaload, 1) := by decide +kernel
theorem dX0_chooseFor_132 : decode cX0_chooseFor 132 = .ok (.aload_n 0, 1) := by decide +kernel
theorem dX0_chooseFor_133 : decode cX0_chooseFor 133 = .ok (.getfield 22, 3) := by decide +kernel
theorem dX0_chooseFor_136 : decode cX0_chooseFor 136 = .ok (.iload 4, 2) := by decide +kernel
theorem dX0_chooseFor_138 : decode cX0_chooseFor 138 = .ok (.iload 7, 2) := by decide +kernel
theorem dX0_chooseFor_140 : decode cX0_chooseFor 140 = .ok (.invokestatic 42, 3) := by decide +kernel
theorem dX0_chooseFor_143 : decode cX0_chooseFor 143 = .ok (.laload, 1) := by decide +kernel
theorem dX0_chooseFor_144 : decode cX0_chooseFor 144 = .ok (.invokevirtual 61, 3) := by decide +kernel
theorem dX0_chooseFor_147 : decode cX0_chooseFor 147 = .ok (.iinc 6 1, 3) := by decide +kernel
theorem dX0_chooseFor_150 : decode cX0_chooseFor 150 = .ok (.goto (-83), 3) := by decide +kernel
theorem dX0_chooseFor_153 : decode cX0_chooseFor 153 = .ok (.return_, 1) := by decide +kernel
set_option maxRecDepth 20000 in
theorem ggX0_firstOutOf_X11_has : GoodIn wsX0_firstOutOf wsX11_has := goodIn_r _ [8] rfl (by decide +kernel)
set_option maxRecDepth 20000 in
theorem gX0_firstOutOf_X11_has_n78 : GoodIn wsX0_firstOutOf (wsX11_has) := ggX0_firstOutOf_X11_has
set_option maxRecDepth 20000 in
theorem ggX0_firstOutOf_X11_cell : GoodIn wsX0_firstOutOf wsX11_cell := goodIn_r _ [10] rfl (by decide +kernel)
set_option maxRecDepth 20000 in
theorem gX0_firstOutOf_X11_cell_n42 : GoodIn wsX0_firstOutOf (wsX11_cell) := ggX0_firstOutOf_X11_cell
theorem dX0_firstOutOf_0 : decode cX0_firstOutOf 0 = .ok (.lconst 0, 1) := by decide +kernel
theorem dX0_firstOutOf_1 : decode cX0_firstOutOf 1 = .ok (.lstore_n 3, 1) := by decide +kernel
theorem dX0_firstOutOf_2 : decode cX0_firstOutOf 2 = .ok (.iconst 0, 1) := by decide +kernel
theorem dX0_firstOutOf_3 : decode cX0_firstOutOf 3 = .ok (.istore 5, 2) := by decide +kernel
theorem dX0_firstOutOf_5 : decode cX0_firstOutOf 5 = .ok (.iload 5, 2) := by decide +kernel
theorem dX0_firstOutOf_7 : decode cX0_firstOutOf 7 = .ok (.bipush 16, 2) := by decide +kernel
theorem dX0_firstOutOf_9 : decode cX0_firstOutOf 9 = .ok (.if_icmp .ge 34, 3) := by decide +kernel
theorem dX0_firstOutOf_12 : decode cX0_firstOutOf 12 = .ok (.iload_n 1, 1) := by decide +kernel
theorem dX0_firstOutOf_13 : decode cX0_firstOutOf 13 = .ok (.iload 5, 2) := by decide +kernel
theorem dX0_firstOutOf_15 : decode cX0_firstOutOf 15 = .ok (.invokestatic 78, 3) := by decide +kernel
theorem dX0_firstOutOf_18 : decode cX0_firstOutOf 18 = .ok (.ifCond .ne 19, 3) := by decide +kernel
theorem dX0_firstOutOf_21 : decode cX0_firstOutOf 21 = .ok (.lload_n 3, 1) := by decide +kernel
theorem dX0_firstOutOf_22 : decode cX0_firstOutOf 22 = .ok (.aload_n 0, 1) := by decide +kernel
theorem dX0_firstOutOf_23 : decode cX0_firstOutOf 23 = .ok (.getfield 22, 3) := by decide +kernel
theorem dX0_firstOutOf_26 : decode cX0_firstOutOf 26 = .ok (.iload_n 2, 1) := by decide +kernel
theorem dX0_firstOutOf_27 : decode cX0_firstOutOf 27 = .ok (.iload 5, 2) := by decide +kernel
theorem dX0_firstOutOf_29 : decode cX0_firstOutOf 29 = .ok (.invokestatic 42, 3) := by decide +kernel
theorem dX0_firstOutOf_32 : decode cX0_firstOutOf 32 = .ok (.laload, 1) := by decide +kernel
theorem dX0_firstOutOf_33 : decode cX0_firstOutOf 33 = .ok (.invokestatic 82, 3) := by decide +kernel
theorem dX0_firstOutOf_36 : decode cX0_firstOutOf 36 = .ok (.lstore_n 3, 1) := by decide +kernel
theorem dX0_firstOutOf_37 : decode cX0_firstOutOf 37 = .ok (.iinc 5 1, 3) := by decide +kernel
theorem dX0_firstOutOf_40 : decode cX0_firstOutOf 40 = .ok (.goto (-35), 3) := by decide +kernel
theorem dX0_firstOutOf_43 : decode cX0_firstOutOf 43 = .ok (.lload_n 3, 1) := by decide +kernel
theorem dX0_firstOutOf_44 : decode cX0_firstOutOf 44 = .ok (.lreturn, 1) := by decide +kernel
set_option maxRecDepth 20000 in
theorem ggX0_take_X7_placeOf : GoodIn wsX0_take wsX7_placeOf := goodIn_r _ [9, 10, 11, 12, 13, 14, 20, 21, 22, 23, 24, 25, 26] rfl (by decide +kernel)
set_option maxRecDepth 20000 in
theorem gX0_take_X7_placeOf : GoodIn wsX0_take (wsV RX0 88 RX7 yX7_placeOf wsX7_placeOf) := goodIn_app (goodIn_of _ (by decide +kernel)) ggX0_take_X7_placeOf
theorem dX0_take_0 : decode cX0_take 0 = .ok (.aload_n 0, 1) := by decide +kernel
theorem dX0_take_1 : decode cX0_take 1 = .ok (.getfield 12, 3) := by decide +kernel
theorem dX0_take_4 : decode cX0_take 4 = .ok (.iload_n 2, 1) := by decide +kernel
theorem dX0_take_5 : decode cX0_take 5 = .ok (.invokevirtual 88, 3) := by decide +kernel
theorem dX0_take_8 : decode cX0_take 8 = .ok (.istore 6, 2) := by decide +kernel
theorem dX0_take_10 : decode cX0_take 10 = .ok (.iload 6, 2) := by decide +kernel
theorem dX0_take_12 : decode cX0_take 12 = .ok (.iconst (-1), 1) := by decide +kernel
theorem dX0_take_13 : decode cX0_take 13 = .ok (.if_icmp .eq 15, 3) := by decide +kernel
theorem dX0_take_16 : decode cX0_take 16 = .ok (.aload_n 0, 1) := by decide +kernel
theorem dX0_take_17 : decode cX0_take 17 = .ok (.getfield 26, 3) := by decide +kernel
theorem dX0_take_20 : decode cX0_take 20 = .ok (.iload 6, 2) := by decide +kernel
theorem dX0_take_22 : decode cX0_take 22 = .ok (.iaload, 1) := by decide +kernel
theorem dX0_take_23 : decode cX0_take 23 = .ok (.ldc 32, 2) := by decide +kernel
theorem dX0_take_25 : decode cX0_take 25 = .ok (.if_icmp .ne 4, 3) := by decide +kernel
theorem dX0_take_28 : decode cX0_take 28 = .ok (.return_, 1) := by decide +kernel
theorem dX0_take_29 : decode cX0_take 29 = .ok (.aload_n 0, 1) := by decide +kernel
theorem dX0_take_30 : decode cX0_take 30 = .ok (.getfield 26, 3) := by decide +kernel
theorem dX0_take_33 : decode cX0_take 33 = .ok (.iload 6, 2) := by decide +kernel
theorem dX0_take_35 : decode cX0_take 35 = .ok (.iaload, 1) := by decide +kernel
theorem dX0_take_36 : decode cX0_take 36 = .ok (.iload_n 3, 1) := by decide +kernel
theorem dX0_take_37 : decode cX0_take 37 = .ok (.iadd, 1) := by decide +kernel
theorem dX0_take_38 : decode cX0_take 38 = .ok (.istore 7, 2) := by decide +kernel
theorem dX0_take_40 : decode cX0_take 40 = .ok (.aload_n 0, 1) := by decide +kernel
theorem dX0_take_41 : decode cX0_take 41 = .ok (.getfield 29, 3) := by decide +kernel
theorem dX0_take_44 : decode cX0_take 44 = .ok (.iload 6, 2) := by decide +kernel
theorem dX0_take_46 : decode cX0_take 46 = .ok (.laload, 1) := by decide +kernel
theorem dX0_take_47 : decode cX0_take 47 = .ok (.lload 4, 2) := by decide +kernel
theorem dX0_take_49 : decode cX0_take 49 = .ok (.ladd, 1) := by decide +kernel
theorem dX0_take_50 : decode cX0_take 50 = .ok (.lstore 8, 2) := by decide +kernel
theorem dX0_take_52 : decode cX0_take 52 = .ok (.iload 7, 2) := by decide +kernel
theorem dX0_take_54 : decode cX0_take 54 = .ok (.aload_n 0, 1) := by decide +kernel
theorem dX0_take_55 : decode cX0_take 55 = .ok (.getfield 26, 3) := by decide +kernel
theorem dX0_take_58 : decode cX0_take 58 = .ok (.iload_n 1, 1) := by decide +kernel
theorem dX0_take_59 : decode cX0_take 59 = .ok (.iaload, 1) := by decide +kernel
theorem dX0_take_60 : decode cX0_take 60 = .ok (.if_icmp .gt 26, 3) := by decide +kernel
theorem dX0_take_63 : decode cX0_take 63 = .ok (.iload 7, 2) := by decide +kernel
theorem dX0_take_65 : decode cX0_take 65 = .ok (.aload_n 0, 1) := by decide +kernel
theorem dX0_take_66 : decode cX0_take 66 = .ok (.getfield 26, 3) := by decide +kernel
theorem dX0_take_69 : decode cX0_take 69 = .ok (.iload_n 1, 1) := by decide +kernel
theorem dX0_take_70 : decode cX0_take 70 = .ok (.iaload, 1) := by decide +kernel
theorem dX0_take_71 : decode cX0_take 71 = .ok (.if_icmp .ne 31, 3) := by decide +kernel
theorem dX0_take_74 : decode cX0_take 74 = .ok (.lload 8, 2) := by decide +kernel
theorem dX0_take_76 : decode cX0_take 76 = .ok (.aload_n 0, 1) := by decide +kernel
theorem dX0_take_77 : decode cX0_take 77 = .ok (.getfield 29, 3) := by decide +kernel
theorem dX0_take_80 : decode cX0_take 80 = .ok (.iload_n 1, 1) := by decide +kernel
theorem dX0_take_81 : decode cX0_take 81 = .ok (.laload, 1) := by decide +kernel
theorem dX0_take_82 : decode cX0_take 82 = .ok (.lcmp, 1) := by decide +kernel
theorem dX0_take_83 : decode cX0_take 83 = .ok (.ifCond .le 19, 3) := by decide +kernel
theorem dX0_take_86 : decode cX0_take 86 = .ok (.aload_n 0, 1) := by decide +kernel
theorem dX0_take_87 : decode cX0_take 87 = .ok (.getfield 26, 3) := by decide +kernel
theorem dX0_take_90 : decode cX0_take 90 = .ok (.iload_n 1, 1) := by decide +kernel
theorem dX0_take_91 : decode cX0_take 91 = .ok (.iload 7, 2) := by decide +kernel
theorem dX0_take_93 : decode cX0_take 93 = .ok (.iastore, 1) := by decide +kernel
theorem dX0_take_94 : decode cX0_take 94 = .ok (.aload_n 0, 1) := by decide +kernel
theorem dX0_take_95 : decode cX0_take 95 = .ok (.getfield 29, 3) := by decide +kernel
theorem dX0_take_98 : decode cX0_take 98 = .ok (.iload_n 1, 1) := by decide +kernel
theorem dX0_take_99 : decode cX0_take 99 = .ok (.lload 8, 2) := by decide +kernel
theorem dX0_take_101 : decode cX0_take 101 = .ok (.lastore, 1) := by decide +kernel
theorem dX0_take_102 : decode cX0_take 102 = .ok (.return_, 1) := by decide +kernel
theorem dX0_gainOf_0 : decode cX0_gainOf 0 = .ok (.iload_n 0, 1) := by decide +kernel
theorem dX0_gainOf_1 : decode cX0_gainOf 1 = .ok (.tableswitch 45 0 3 #[31, 33, 40, 43], 31) := by decide +kernel
theorem dX0_gainOf_32 : decode cX0_gainOf 32 = .ok (.iconst 1, 1) := by decide +kernel
theorem dX0_gainOf_33 : decode cX0_gainOf 33 = .ok (.ireturn, 1) := by decide +kernel
theorem dX0_gainOf_34 : decode cX0_gainOf 34 = .ok (.iload_n 1, 1) := by decide +kernel
theorem dX0_gainOf_35 : decode cX0_gainOf 35 = .ok (.bipush 16, 2) := by decide +kernel
theorem dX0_gainOf_37 : decode cX0_gainOf 37 = .ok (.imul, 1) := by decide +kernel
theorem dX0_gainOf_38 : decode cX0_gainOf 38 = .ok (.iconst 1, 1) := by decide +kernel
theorem dX0_gainOf_39 : decode cX0_gainOf 39 = .ok (.isub, 1) := by decide +kernel
theorem dX0_gainOf_40 : decode cX0_gainOf 40 = .ok (.ireturn, 1) := by decide +kernel
theorem dX0_gainOf_41 : decode cX0_gainOf 41 = .ok (.iload_n 1, 1) := by decide +kernel
theorem dX0_gainOf_42 : decode cX0_gainOf 42 = .ok (.ineg, 1) := by decide +kernel
theorem dX0_gainOf_43 : decode cX0_gainOf 43 = .ok (.ireturn, 1) := by decide +kernel
theorem dX0_gainOf_44 : decode cX0_gainOf 44 = .ok (.iload_n 1, 1) := by decide +kernel
theorem dX0_gainOf_45 : decode cX0_gainOf 45 = .ok (.ireturn, 1) := by decide +kernel
theorem dX0_gainOf_46 : decode cX0_gainOf 46 = .ok (.iconst (-1), 1) := by decide +kernel
theorem dX0_gainOf_47 : decode cX0_gainOf 47 = .ok (.ireturn, 1) := by decide +kernel
theorem dX1_init_0 : decode cX1_init 0 = .ok (.aload_n 0, 1) := by decide +kernel
theorem dX1_init_1 : decode cX1_init 1 = .ok (.invokespecial 3, 3) := by decide +kernel
theorem dX1_init_4 : decode cX1_init 4 = .ok (.aload_n 0, 1) := by decide +kernel
theorem dX1_init_5 : decode cX1_init 5 = .ok (.sipush 256, 3) := by decide +kernel
theorem dX1_init_8 : decode cX1_init 8 = .ok (.newarray .int, 2) := by decide +kernel
theorem dX1_init_10 : decode cX1_init 10 = .ok (.putfield 9, 3) := by decide +kernel
theorem dX1_init_13 : decode cX1_init 13 = .ok (.aload_n 0, 1) := by decide +kernel
theorem dX1_init_14 : decode cX1_init 14 = .ok (.sipush 23256, 3) := by decide +kernel
theorem dX1_init_17 : decode cX1_init 17 = .ok (.newarray .long, 2) := by decide +kernel
theorem dX1_init_19 : decode cX1_init 19 = .ok (.putfield 17, 3) := by decide +kernel
theorem dX1_init_22 : decode cX1_init 22 = .ok (.aload_n 0, 1) := by decide +kernel
theorem dX1_init_23 : decode cX1_init 23 = .ok (.iconst (-1), 1) := by decide +kernel
theorem dX1_init_24 : decode cX1_init 24 = .ok (.putfield 21, 3) := by decide +kernel
theorem dX1_init_27 : decode cX1_init 27 = .ok (.aload_n 0, 1) := by decide +kernel
theorem dX1_init_28 : decode cX1_init 28 = .ok (.iconst (-1), 1) := by decide +kernel
theorem dX1_init_29 : decode cX1_init 29 = .ok (.putfield 25, 3) := by decide +kernel
theorem dX1_init_32 : decode cX1_init 32 = .ok (.aload_n 0, 1) := by decide +kernel
theorem dX1_init_33 : decode cX1_init 33 = .ok (.aload_n 1, 1) := by decide +kernel
theorem dX1_init_34 : decode cX1_init 34 = .ok (.putfield 28, 3) := by decide +kernel
theorem dX1_init_37 : decode cX1_init 37 = .ok (.return_, 1) := by decide +kernel
set_option maxRecDepth 20000 in
theorem ggX1_refresh_X1_countArcs : GoodIn wsX1_refresh wsX1_countArcs := goodIn_r _ [8, 9, 2, 10, 11, 12, 13, 14, 15, 16, 47, 48, 49, 50, 51, 52, 53, 54, 55, 56, 57, 58, 59, 60] rfl (by decide +kernel)
set_option maxRecDepth 20000 in
theorem gX1_refresh_X1_countArcs : GoodIn wsX1_refresh (wsV RX1 35 RX1 yX1_countArcs wsX1_countArcs) := goodIn_app (goodIn_of _ (by decide +kernel)) ggX1_refresh_X1_countArcs
set_option maxRecDepth 20000 in
theorem ggX1_refresh_X1_countFor : GoodIn wsX1_refresh wsX1_countFor := goodIn_r _ [20, 21, 9, 22, 15, 23, 24, 25, 26, 27, 28, 29, 30, 31, 32, 33, 34, 35, 36, 37, 38, 39, 40, 41, 42, 43, 7, 44, 14, 16, 45, 46, 47, 48, 49, 50, 51, 61, 62, 63, 64, 65, 66, 67] rfl (by decide +kernel)
set_option maxRecDepth 20000 in
theorem gX1_refresh_X1_countFor : GoodIn wsX1_refresh (wsV RX1 41 RX1 yX1_countFor wsX1_countFor) := goodIn_app (goodIn_of _ (by decide +kernel)) ggX1_refresh_X1_countFor
theorem dX1_refresh_0 : decode cX1_refresh 0 = .ok (.aload_n 0, 1) := by decide +kernel
theorem dX1_refresh_1 : decode cX1_refresh 1 = .ok (.getfield 25, 3) := by decide +kernel
theorem dX1_refresh_4 : decode cX1_refresh 4 = .ok (.aload_n 0, 1) := by decide +kernel
theorem dX1_refresh_5 : decode cX1_refresh 5 = .ok (.getfield 28, 3) := by decide +kernel
theorem dX1_refresh_8 : decode cX1_refresh 8 = .ok (.getfield 32, 3) := by decide +kernel
theorem dX1_refresh_11 : decode cX1_refresh 11 = .ok (.if_icmp .eq 50, 3) := by decide +kernel
theorem dX1_refresh_14 : decode cX1_refresh 14 = .ok (.aload_n 0, 1) := by decide +kernel
theorem dX1_refresh_15 : decode cX1_refresh 15 = .ok (.aload_n 0, 1) := by decide +kernel
theorem dX1_refresh_16 : decode cX1_refresh 16 = .ok (.getfield 28, 3) := by decide +kernel
theorem dX1_refresh_19 : decode cX1_refresh 19 = .ok (.getfield 32, 3) := by decide +kernel
theorem dX1_refresh_22 : decode cX1_refresh 22 = .ok (.putfield 25, 3) := by decide +kernel
theorem dX1_refresh_25 : decode cX1_refresh 25 = .ok (.aload_n 0, 1) := by decide +kernel
theorem dX1_refresh_26 : decode cX1_refresh 26 = .ok (.invokevirtual 35, 3) := by decide +kernel
theorem dX1_refresh_29 : decode cX1_refresh 29 = .ok (.iconst 0, 1) := by decide +kernel
theorem dX1_refresh_30 : decode cX1_refresh 30 = .ok (.istore_n 2, 1) := by decide +kernel
theorem dX1_refresh_31 : decode cX1_refresh 31 = .ok (.iload_n 2, 1) := by decide +kernel
theorem dX1_refresh_32 : decode cX1_refresh 32 = .ok (.aload_n 1, 1) := by decide +kernel
theorem dX1_refresh_33 : decode cX1_refresh 33 = .ok (.getfield 38, 3) := by decide +kernel
theorem dX1_refresh_36 : decode cX1_refresh 36 = .ok (.if_icmp .ge 15, 3) := by decide +kernel
theorem dX1_refresh_39 : decode cX1_refresh 39 = .ok (.aload_n 0, 1) := by decide +kernel
theorem dX1_refresh_40 : decode cX1_refresh 40 = .ok (.aload_n 1, 1) := by decide +kernel
theorem dX1_refresh_41 : decode cX1_refresh 41 = .ok (.iload_n 2, 1) := by decide +kernel
theorem dX1_refresh_42 : decode cX1_refresh 42 = .ok (.invokevirtual 41, 3) := by decide +kernel
theorem dX1_refresh_45 : decode cX1_refresh 45 = .ok (.iinc 2 1, 3) := by decide +kernel
theorem dX1_refresh_48 : decode cX1_refresh 48 = .ok (.goto (-17), 3) := by decide +kernel
theorem dX1_refresh_51 : decode cX1_refresh 51 = .ok (.aload_n 0, 1) := by decide +kernel
theorem dX1_refresh_52 : decode cX1_refresh 52 = .ok (.aload_n 1, 1) := by decide +kernel
theorem dX1_refresh_53 : decode cX1_refresh 53 = .ok (.getfield 38, 3) := by decide +kernel
theorem dX1_refresh_56 : decode cX1_refresh 56 = .ok (.iconst 1, 1) := by decide +kernel
theorem dX1_refresh_57 : decode cX1_refresh 57 = .ok (.isub, 1) := by decide +kernel
theorem dX1_refresh_58 : decode cX1_refresh 58 = .ok (.putfield 21, 3) := by decide +kernel
theorem dX1_refresh_61 : decode cX1_refresh 61 = .ok (.return_, 1) := by decide +kernel
theorem dX1_ofSize_0 : decode cX1_ofSize 0 = .ok (.aload_n 0, 1) := by decide +kernel
theorem dX1_ofSize_1 : decode cX1_ofSize 1 = .ok (.getfield 21, 3) := by decide +kernel
theorem dX1_ofSize_4 : decode cX1_ofSize 4 = .ok (.ifCond .lt 30, 3) := by decide +kernel
theorem dX1_ofSize_7 : decode cX1_ofSize 7 = .ok (.iload_n 1, 1) := by decide +kernel
theorem dX1_ofSize_8 : decode cX1_ofSize 8 = .ok (.ifCond .lt 26, 3) := by decide +kernel
theorem dX1_ofSize_11 : decode cX1_ofSize 11 = .ok (.iload_n 1, 1) := by decide +kernel
theorem dX1_ofSize_12 : decode cX1_ofSize 12 = .ok (.bipush 9, 2) := by decide +kernel
theorem dX1_ofSize_14 : decode cX1_ofSize 14 = .ok (.if_icmp .ge 20, 3) := by decide +kernel
theorem dX1_ofSize_17 : decode cX1_ofSize 17 = .ok (.aload_n 0, 1) := by decide +kernel
theorem dX1_ofSize_18 : decode cX1_ofSize 18 = .ok (.getfield 17, 3) := by decide +kernel
theorem dX1_ofSize_21 : decode cX1_ofSize 21 = .ok (.aload_n 0, 1) := by decide +kernel
theorem dX1_ofSize_22 : decode cX1_ofSize 22 = .ok (.getfield 21, 3) := by decide +kernel
theorem dX1_ofSize_25 : decode cX1_ofSize 25 = .ok (.bipush 9, 2) := by decide +kernel
theorem dX1_ofSize_27 : decode cX1_ofSize 27 = .ok (.imul, 1) := by decide +kernel
theorem dX1_ofSize_28 : decode cX1_ofSize 28 = .ok (.iload_n 1, 1) := by decide +kernel
theorem dX1_ofSize_29 : decode cX1_ofSize 29 = .ok (.iadd, 1) := by decide +kernel
theorem dX1_ofSize_30 : decode cX1_ofSize 30 = .ok (.laload, 1) := by decide +kernel
theorem dX1_ofSize_31 : decode cX1_ofSize 31 = .ok (.goto 4, 3) := by decide +kernel
theorem dX1_ofSize_34 : decode cX1_ofSize 34 = .ok (.lconst 0, 1) := by decide +kernel
theorem dX1_ofSize_35 : decode cX1_ofSize 35 = .ok (.lreturn, 1) := by decide +kernel
set_option maxRecDepth 20000 in
theorem ggX1_countArcs_J7_fill_53178 : GoodIn wsX1_countArcs wsJ7_fill_53178 := goodIn_r _ [6] rfl (by decide +kernel)
set_option maxRecDepth 20000 in
theorem gX1_countArcs_J7_fill_53178 : GoodIn wsX1_countArcs (va_wsS RX1 45 yJ7_fill_53178 wsJ7_fill_53178) := goodIn_app (goodIn_of _ (by decide +kernel)) ggX1_countArcs_J7_fill_53178
set_option maxRecDepth 20000 in
theorem ggX1_countArcs_X11_cell : GoodIn wsX1_countArcs wsX11_cell := goodIn_r _ [9] rfl (by decide +kernel)
set_option maxRecDepth 20000 in
theorem gX1_countArcs_X11_cell_n64 : GoodIn wsX1_countArcs (wsX11_cell) := ggX1_countArcs_X11_cell
theorem dX1_countArcs_0 : decode cX1_countArcs 0 = .ok (.aload_n 0, 1) := by decide +kernel
theorem dX1_countArcs_1 : decode cX1_countArcs 1 = .ok (.getfield 9, 3) := by decide +kernel
theorem dX1_countArcs_4 : decode cX1_countArcs 4 = .ok (.iconst 0, 1) := by decide +kernel
theorem dX1_countArcs_5 : decode cX1_countArcs 5 = .ok (.invokestatic 45, 3) := by decide +kernel
theorem dX1_countArcs_8 : decode cX1_countArcs 8 = .ok (.iconst 0, 1) := by decide +kernel
theorem dX1_countArcs_9 : decode cX1_countArcs 9 = .ok (.istore_n 1, 1) := by decide +kernel
theorem dX1_countArcs_10 : decode cX1_countArcs 10 = .ok (.iload_n 1, 1) := by decide +kernel
theorem dX1_countArcs_11 : decode cX1_countArcs 11 = .ok (.aload_n 0, 1) := by decide +kernel
theorem dX1_countArcs_12 : decode cX1_countArcs 12 = .ok (.getfield 28, 3) := by decide +kernel
theorem dX1_countArcs_15 : decode cX1_countArcs 15 = .ok (.getfield 51, 3) := by decide +kernel
theorem dX1_countArcs_18 : decode cX1_countArcs 18 = .ok (.if_icmp .ge 81, 3) := by decide +kernel
theorem dX1_countArcs_21 : decode cX1_countArcs 21 = .ok (.aload_n 0, 1) := by decide +kernel
theorem dX1_countArcs_22 : decode cX1_countArcs 22 = .ok (.getfield 28, 3) := by decide +kernel
theorem dX1_countArcs_25 : decode cX1_countArcs 25 = .ok (.getfield 54, 3) := by decide +kernel
theorem dX1_countArcs_28 : decode cX1_countArcs 28 = .ok (.iload_n 1, 1) := by decide +kernel
theorem dX1_countArcs_29 : decode cX1_countArcs 29 = .ok (.baload, 1) := by decide +kernel
theorem dX1_countArcs_30 : decode cX1_countArcs 30 = .ok (.ifCond .eq 63, 3) := by decide +kernel
theorem dX1_countArcs_33 : decode cX1_countArcs 33 = .ok (.aload_n 0, 1) := by decide +kernel
theorem dX1_countArcs_34 : decode cX1_countArcs 34 = .ok (.getfield 9, 3) := by decide +kernel
theorem dX1_countArcs_37 : decode cX1_countArcs 37 = .ok (.aload_n 0, 1) := by decide +kernel
theorem dX1_countArcs_38 : decode cX1_countArcs 38 = .ok (.getfield 28, 3) := by decide +kernel
theorem dX1_countArcs_41 : decode cX1_countArcs 41 = .ok (.getfield 58, 3) := by decide +kernel
theorem dX1_countArcs_44 : decode cX1_countArcs 44 = .ok (.iload_n 1, 1) := by decide +kernel
theorem dX1_countArcs_45 : decode cX1_countArcs 45 = .ok (.iaload, 1) := by decide +kernel
theorem dX1_countArcs_46 : decode cX1_countArcs 46 = .ok (.aload_n 0, 1) := by decide +kernel
theorem dX1_countArcs_47 : decode cX1_countArcs 47 = .ok (.getfield 28, 3) := by decide +kernel
theorem dX1_countArcs_50 : decode cX1_countArcs 50 = .ok (.getfield 61, 3) := by decide +kernel
theorem dX1_countArcs_53 : decode cX1_countArcs 53 = .ok (.iload_n 1, 1) := by decide +kernel
theorem dX1_countArcs_54 : decode cX1_countArcs 54 = .ok (.iaload, 1) := by decide +kernel
theorem dX1_countArcs_55 : decode cX1_countArcs 55 = .ok (.invokestatic 64, 3) := by decide +kernel
theorem dX1_countArcs_58 : decode cX1_countArcs 58 = .ok (.dup2, 1) := by decide +kernel
theorem dX1_countArcs_59 : decode cX1_countArcs 59 = .ok (.iaload, 1) := by decide +kernel
theorem dX1_countArcs_60 : decode cX1_countArcs 60 = .ok (.iconst 1, 1) := by decide +kernel
theorem dX1_countArcs_61 : decode cX1_countArcs 61 = .ok (.iadd, 1) := by decide +kernel
theorem dX1_countArcs_62 : decode cX1_countArcs 62 = .ok (.iastore, 1) := by decide +kernel
theorem dX1_countArcs_63 : decode cX1_countArcs 63 = .ok (.aload_n 0, 1) := by decide +kernel
theorem dX1_countArcs_64 : decode cX1_countArcs 64 = .ok (.getfield 9, 3) := by decide +kernel
theorem dX1_countArcs_67 : decode cX1_countArcs 67 = .ok (.aload_n 0, 1) := by decide +kernel
theorem dX1_countArcs_68 : decode cX1_countArcs 68 = .ok (.getfield 28, 3) := by decide +kernel
theorem dX1_countArcs_71 : decode cX1_countArcs 71 = .ok (.getfield 61, 3) := by decide +kernel
theorem dX1_countArcs_74 : decode cX1_countArcs 74 = .ok (.iload_n 1, 1) := by decide +kernel
theorem dX1_countArcs_75 : decode cX1_countArcs 75 = .ok (.iaload, 1) := by decide +kernel
theorem dX1_countArcs_76 : decode cX1_countArcs 76 = .ok (.aload_n 0, 1) := by decide +kernel
theorem dX1_countArcs_77 : decode cX1_countArcs 77 = .ok (.getfield 28, 3) := by decide +kernel
theorem dX1_countArcs_80 : decode cX1_countArcs 80 = .ok (.getfield 58, 3) := by decide +kernel
theorem dX1_countArcs_83 : decode cX1_countArcs 83 = .ok (.iload_n 1, 1) := by decide +kernel
theorem dX1_countArcs_84 : decode cX1_countArcs 84 = .ok (.iaload, 1) := by decide +kernel
theorem dX1_countArcs_85 : decode cX1_countArcs 85 = .ok (.invokestatic 64, 3) := by decide +kernel
theorem dX1_countArcs_88 : decode cX1_countArcs 88 = .ok (.dup2, 1) := by decide +kernel
theorem dX1_countArcs_89 : decode cX1_countArcs 89 = .ok (.iaload, 1) := by decide +kernel
theorem dX1_countArcs_90 : decode cX1_countArcs 90 = .ok (.iconst 1, 1) := by decide +kernel
theorem dX1_countArcs_91 : decode cX1_countArcs 91 = .ok (.iadd, 1) := by decide +kernel
theorem dX1_countArcs_92 : decode cX1_countArcs 92 = .ok (.iastore, 1) := by decide +kernel
theorem dX1_countArcs_93 : decode cX1_countArcs 93 = .ok (.iinc 1 1, 3) := by decide +kernel
theorem dX1_countArcs_96 : decode cX1_countArcs 96 = .ok (.goto (-86), 3) := by decide +kernel
theorem dX1_countArcs_99 : decode cX1_countArcs 99 = .ok (.return_, 1) := by decide +kernel
set_option maxRecDepth 20000 in
theorem ggX1_countFor_X11_leastNode : GoodIn wsX1_countFor wsX11_leastNode := goodIn_r _ [5, 6, 7, 8, 9, 10, 11, 12] rfl (by decide +kernel)
set_option maxRecDepth 20000 in
theorem gX1_countFor_X11_leastNode_n71 : GoodIn wsX1_countFor (wsX11_leastNode) := ggX1_countFor_X11_leastNode
set_option maxRecDepth 20000 in
theorem ggX1_countFor_X7_placeOf : GoodIn wsX1_countFor wsX7_placeOf := goodIn_r _ [17, 18, 19, 20, 21, 22, 37, 38, 39, 40, 41, 42, 43] rfl (by decide +kernel)
set_option maxRecDepth 20000 in
theorem gX1_countFor_X7_placeOf : GoodIn wsX1_countFor (wsV RX1 75 RX7 yX7_placeOf wsX7_placeOf) := goodIn_app (goodIn_of _ (by decide +kernel)) ggX1_countFor_X7_placeOf
set_option maxRecDepth 20000 in
theorem ggX1_countFor_X1_add : GoodIn wsX1_countFor wsX1_add := goodIn_r _ [27, 1, 32, 33, 34, 35, 36] rfl (by decide +kernel)
set_option maxRecDepth 20000 in
theorem gX1_countFor_X1_add : GoodIn wsX1_countFor (wsV RX1 78 RX1 yX1_add wsX1_add) := goodIn_app (goodIn_of _ (by decide +kernel)) ggX1_countFor_X1_add
set_option maxRecDepth 20000 in
theorem ggX1_countFor_X11_cell : GoodIn wsX1_countFor wsX11_cell := goodIn_r _ [29] rfl (by decide +kernel)
set_option maxRecDepth 20000 in
theorem gX1_countFor_X11_cell_n64 : GoodIn wsX1_countFor (wsX11_cell) := ggX1_countFor_X11_cell
set_option maxRecDepth 20000 in
theorem ggX1_countFor_X11_has : GoodIn wsX1_countFor wsX11_has := goodIn_r _ [31] rfl (by decide +kernel)
set_option maxRecDepth 20000 in
theorem gX1_countFor_X11_has_n88 : GoodIn wsX1_countFor (wsX11_has) := ggX1_countFor_X11_has
theorem dX1_countFor_0 : decode cX1_countFor 0 = .ok (.iconst 0, 1) := by decide +kernel
theorem dX1_countFor_1 : decode cX1_countFor 1 = .ok (.istore_n 3, 1) := by decide +kernel
theorem dX1_countFor_2 : decode cX1_countFor 2 = .ok (.iload_n 3, 1) := by decide +kernel
theorem dX1_countFor_3 : decode cX1_countFor 3 = .ok (.bipush 9, 2) := by decide +kernel
theorem dX1_countFor_5 : decode cX1_countFor 5 = .ok (.if_icmp .ge 21, 3) := by decide +kernel
theorem dX1_countFor_8 : decode cX1_countFor 8 = .ok (.aload_n 0, 1) := by decide +kernel
theorem dX1_countFor_9 : decode cX1_countFor 9 = .ok (.getfield 17, 3) := by decide +kernel
theorem dX1_countFor_12 : decode cX1_countFor 12 = .ok (.iload_n 2, 1) := by decide +kernel
theorem dX1_countFor_13 : decode cX1_countFor 13 = .ok (.bipush 9, 2) := by decide +kernel
theorem dX1_countFor_15 : decode cX1_countFor 15 = .ok (.imul, 1) := by decide +kernel
theorem dX1_countFor_16 : decode cX1_countFor 16 = .ok (.iload_n 3, 1) := by decide +kernel
theorem dX1_countFor_17 : decode cX1_countFor 17 = .ok (.iadd, 1) := by decide +kernel
theorem dX1_countFor_18 : decode cX1_countFor 18 = .ok (.lconst 0, 1) := by decide +kernel
theorem dX1_countFor_19 : decode cX1_countFor 19 = .ok (.lastore, 1) := by decide +kernel
theorem dX1_countFor_20 : decode cX1_countFor 20 = .ok (.iinc 3 1, 3) := by decide +kernel
theorem dX1_countFor_23 : decode cX1_countFor 23 = .ok (.goto (-21), 3) := by decide +kernel
theorem dX1_countFor_26 : decode cX1_countFor 26 = .ok (.aload_n 1, 1) := by decide +kernel
theorem dX1_countFor_27 : decode cX1_countFor 27 = .ok (.getfield 68, 3) := by decide +kernel
theorem dX1_countFor_30 : decode cX1_countFor 30 = .ok (.iload_n 2, 1) := by decide +kernel
theorem dX1_countFor_31 : decode cX1_countFor 31 = .ok (.iaload, 1) := by decide +kernel
theorem dX1_countFor_32 : decode cX1_countFor 32 = .ok (.istore_n 3, 1) := by decide +kernel
theorem dX1_countFor_33 : decode cX1_countFor 33 = .ok (.iload_n 3, 1) := by decide +kernel
theorem dX1_countFor_34 : decode cX1_countFor 34 = .ok (.ifCond .ne 14, 3) := by decide +kernel
theorem dX1_countFor_37 : decode cX1_countFor 37 = .ok (.aload_n 0, 1) := by decide +kernel
theorem dX1_countFor_38 : decode cX1_countFor 38 = .ok (.getfield 17, 3) := by decide +kernel
theorem dX1_countFor_41 : decode cX1_countFor 41 = .ok (.iload_n 2, 1) := by decide +kernel
theorem dX1_countFor_42 : decode cX1_countFor 42 = .ok (.bipush 9, 2) := by decide +kernel
theorem dX1_countFor_44 : decode cX1_countFor 44 = .ok (.imul, 1) := by decide +kernel
theorem dX1_countFor_45 : decode cX1_countFor 45 = .ok (.lconst 1, 1) := by decide +kernel
theorem dX1_countFor_46 : decode cX1_countFor 46 = .ok (.lastore, 1) := by decide +kernel
theorem dX1_countFor_47 : decode cX1_countFor 47 = .ok (.return_, 1) := by decide +kernel
theorem dX1_countFor_48 : decode cX1_countFor 48 = .ok (.iload_n 3, 1) := by decide +kernel
theorem dX1_countFor_49 : decode cX1_countFor 49 = .ok (.invokestatic 71, 3) := by decide +kernel
theorem dX1_countFor_52 : decode cX1_countFor 52 = .ok (.istore 4, 2) := by decide +kernel
theorem dX1_countFor_54 : decode cX1_countFor 54 = .ok (.iload_n 3, 1) := by decide +kernel
theorem dX1_countFor_55 : decode cX1_countFor 55 = .ok (.iload_n 3, 1) := by decide +kernel
theorem dX1_countFor_56 : decode cX1_countFor 56 = .ok (.iconst 1, 1) := by decide +kernel
theorem dX1_countFor_57 : decode cX1_countFor 57 = .ok (.isub, 1) := by decide +kernel
theorem dX1_countFor_58 : decode cX1_countFor 58 = .ok (.iand, 1) := by decide +kernel
theorem dX1_countFor_59 : decode cX1_countFor 59 = .ok (.istore 5, 2) := by decide +kernel
theorem dX1_countFor_61 : decode cX1_countFor 61 = .ok (.aload_n 0, 1) := by decide +kernel
theorem dX1_countFor_62 : decode cX1_countFor 62 = .ok (.iload_n 2, 1) := by decide +kernel
theorem dX1_countFor_63 : decode cX1_countFor 63 = .ok (.aload_n 1, 1) := by decide +kernel
theorem dX1_countFor_64 : decode cX1_countFor 64 = .ok (.iload 5, 2) := by decide +kernel
theorem dX1_countFor_66 : decode cX1_countFor 66 = .ok (.invokevirtual 75, 3) := by decide +kernel
theorem dX1_countFor_69 : decode cX1_countFor 69 = .ok (.iconst 0, 1) := by decide +kernel
theorem dX1_countFor_70 : decode cX1_countFor 70 = .ok (.lconst 1, 1) := by decide +kernel
theorem dX1_countFor_71 : decode cX1_countFor 71 = .ok (.invokevirtual 78, 3) := by decide +kernel
theorem dX1_countFor_74 : decode cX1_countFor 74 = .ok (.iconst 0, 1) := by decide +kernel
theorem dX1_countFor_75 : decode cX1_countFor 75 = .ok (.istore 6, 2) := by decide +kernel
theorem dX1_countFor_77 : decode cX1_countFor 77 = .ok (.iload 6, 2) := by decide +kernel
theorem dX1_countFor_79 : decode cX1_countFor 79 = .ok (.aload_n 1, 1) := by decide +kernel
theorem dX1_countFor_80 : decode cX1_countFor 80 = .ok (.getfield 82, 3) := by decide +kernel
theorem dX1_countFor_83 : decode cX1_countFor 83 = .ok (.iload 4, 2) := by decide +kernel
theorem dX1_countFor_85 : decode cX1_countFor 85 = .ok (.iaload, 1) := by decide +kernel
theorem dX1_countFor_86 : decode cX1_countFor 86 = .ok (.if_icmp .ge 69, 3) := by decide +kernel
theorem dX1_countFor_89 : decode cX1_countFor 89 = .ok (.aload_n 1, 1) := by decide +kernel
theorem dX1_countFor_90 : decode cX1_countFor 90 = .ok (.getfield 85, 3) := by decide +kernel
theorem dX1_countFor_93 : decode cX1_countFor 93 = .ok (.iload 4, 2) := by decide +kernel
theorem dX1_countFor_95 : decode cX1_countFor 95 = .ok (.iload 6, 2) := by decide +kernel
theorem dX1_countFor_97 : decode cX1_countFor 97 = .ok (.invokestatic 64, 3) := by decide +kernel
theorem dX1_countFor_100 : decode cX1_countFor 100 = .ok (.iaload, 1) := by decide +kernel
theorem dX1_countFor_101 : decode cX1_countFor 101 = .ok (.istore 7, 2) := by decide +kernel
theorem dX1_countFor_103 : decode cX1_countFor 103 = .ok (.iload 5, 2) := by decide +kernel
theorem dX1_countFor_105 : decode cX1_countFor 105 = .ok (.iload 7, 2) := by decide +kernel
theorem dX1_countFor_107 : decode cX1_countFor 107 = .ok (.invokestatic 88, 3) := by decide +kernel
theorem dX1_countFor_110 : decode cX1_countFor 110 = .ok (.ifCond .eq 39, 3) := by decide +kernel
theorem dX1_countFor_113 : decode cX1_countFor 113 = .ok (.aload_n 1, 1) := by decide +kernel
theorem dX1_countFor_114 : decode cX1_countFor 114 = .ok (.iload 5, 2) := by decide +kernel
theorem dX1_countFor_116 : decode cX1_countFor 116 = .ok (.iconst 1, 1) := by decide +kernel
theorem dX1_countFor_117 : decode cX1_countFor 117 = .ok (.iload 7, 2) := by decide +kernel
theorem dX1_countFor_119 : decode cX1_countFor 119 = .ok (.ishl, 1) := by decide +kernel
theorem dX1_countFor_120 : decode cX1_countFor 120 = .ok (.iconst (-1), 1) := by decide +kernel
theorem dX1_countFor_121 : decode cX1_countFor 121 = .ok (.ixor, 1) := by decide +kernel
theorem dX1_countFor_122 : decode cX1_countFor 122 = .ok (.iand, 1) := by decide +kernel
theorem dX1_countFor_123 : decode cX1_countFor 123 = .ok (.invokevirtual 75, 3) := by decide +kernel
theorem dX1_countFor_126 : decode cX1_countFor 126 = .ok (.istore 8, 2) := by decide +kernel
theorem dX1_countFor_128 : decode cX1_countFor 128 = .ok (.aload_n 0, 1) := by decide +kernel
theorem dX1_countFor_129 : decode cX1_countFor 129 = .ok (.iload_n 2, 1) := by decide +kernel
theorem dX1_countFor_130 : decode cX1_countFor 130 = .ok (.iload 8, 2) := by decide +kernel
theorem dX1_countFor_132 : decode cX1_countFor 132 = .ok (.iconst 1, 1) := by decide +kernel
theorem dX1_countFor_133 : decode cX1_countFor 133 = .ok (.aload_n 0, 1) := by decide +kernel
theorem dX1_countFor_134 : decode cX1_countFor 134 = .ok (.getfield 9, 3) := by decide +kernel
theorem dX1_countFor_137 : decode cX1_countFor 137 = .ok (.iload 4, 2) := by decide +kernel
theorem dX1_countFor_139 : decode cX1_countFor 139 = .ok (.iload 7, 2) := by decide +kernel
theorem dX1_countFor_141 : decode cX1_countFor 141 = .ok (.invokestatic 64, 3) := by decide +kernel
theorem dX1_countFor_144 : decode cX1_countFor 144 = .ok (.iaload, 1) := by decide +kernel
theorem dX1_countFor_145 : decode cX1_countFor 145 = .ok (.i2l, 1) := by decide +kernel
theorem dX1_countFor_146 : decode cX1_countFor 146 = .ok (.invokevirtual 78, 3) := by decide +kernel
theorem dX1_countFor_149 : decode cX1_countFor 149 = .ok (.iinc 6 1, 3) := by decide +kernel
theorem dX1_countFor_152 : decode cX1_countFor 152 = .ok (.goto (-75), 3) := by decide +kernel
theorem dX1_countFor_155 : decode cX1_countFor 155 = .ok (.return_, 1) := by decide +kernel
theorem dX1_add_0 : decode cX1_add 0 = .ok (.iload_n 2, 1) := by decide +kernel
theorem dX1_add_1 : decode cX1_add 1 = .ok (.iconst (-1), 1) := by decide +kernel
theorem dX1_add_2 : decode cX1_add 2 = .ok (.if_icmp .ne 4, 3) := by decide +kernel
theorem dX1_add_5 : decode cX1_add 5 = .ok (.return_, 1) := by decide +kernel
theorem dX1_add_6 : decode cX1_add 6 = .ok (.iload_n 3, 1) := by decide +kernel
theorem dX1_add_7 : decode cX1_add 7 = .ok (.istore 6, 2) := by decide +kernel
theorem dX1_add_9 : decode cX1_add 9 = .ok (.iload 6, 2) := by decide +kernel
theorem dX1_add_11 : decode cX1_add 11 = .ok (.bipush 9, 2) := by decide +kernel
theorem dX1_add_13 : decode cX1_add 13 = .ok (.if_icmp .ge 45, 3) := by decide +kernel
theorem dX1_add_16 : decode cX1_add 16 = .ok (.aload_n 0, 1) := by decide +kernel
theorem dX1_add_17 : decode cX1_add 17 = .ok (.getfield 17, 3) := by decide +kernel
theorem dX1_add_20 : decode cX1_add 20 = .ok (.iload_n 2, 1) := by decide +kernel
theorem dX1_add_21 : decode cX1_add 21 = .ok (.bipush 9, 2) := by decide +kernel
theorem dX1_add_23 : decode cX1_add 23 = .ok (.imul, 1) := by decide +kernel
theorem dX1_add_24 : decode cX1_add 24 = .ok (.iload 6, 2) := by decide +kernel
theorem dX1_add_26 : decode cX1_add 26 = .ok (.iadd, 1) := by decide +kernel
theorem dX1_add_27 : decode cX1_add 27 = .ok (.iload_n 3, 1) := by decide +kernel
theorem dX1_add_28 : decode cX1_add 28 = .ok (.isub, 1) := by decide +kernel
theorem dX1_add_29 : decode cX1_add 29 = .ok (.laload, 1) := by decide +kernel
theorem dX1_add_30 : decode cX1_add 30 = .ok (.lstore 7, 2) := by decide +kernel
theorem dX1_add_32 : decode cX1_add 32 = .ok (.aload_n 0, 1) := by decide +kernel
theorem dX1_add_33 : decode cX1_add 33 = .ok (.getfield 17, 3) := by decide +kernel
theorem dX1_add_36 : decode cX1_add 36 = .ok (.iload_n 1, 1) := by decide +kernel
theorem dX1_add_37 : decode cX1_add 37 = .ok (.bipush 9, 2) := by decide +kernel
theorem dX1_add_39 : decode cX1_add 39 = .ok (.imul, 1) := by decide +kernel
theorem dX1_add_40 : decode cX1_add 40 = .ok (.iload 6, 2) := by decide +kernel
theorem dX1_add_42 : decode cX1_add 42 = .ok (.iadd, 1) := by decide +kernel
theorem dX1_add_43 : decode cX1_add 43 = .ok (.dup2, 1) := by decide +kernel
theorem dX1_add_44 : decode cX1_add 44 = .ok (.laload, 1) := by decide +kernel
theorem dX1_add_45 : decode cX1_add 45 = .ok (.lload 4, 2) := by decide +kernel
theorem dX1_add_47 : decode cX1_add 47 = .ok (.lload 7, 2) := by decide +kernel
theorem dX1_add_49 : decode cX1_add 49 = .ok (.lmul, 1) := by decide +kernel
theorem dX1_add_50 : decode cX1_add 50 = .ok (.ladd, 1) := by decide +kernel
theorem dX1_add_51 : decode cX1_add 51 = .ok (.lastore, 1) := by decide +kernel
theorem dX1_add_52 : decode cX1_add 52 = .ok (.iinc 6 1, 3) := by decide +kernel
theorem dX1_add_55 : decode cX1_add 55 = .ok (.goto (-46), 3) := by decide +kernel
theorem dX1_add_58 : decode cX1_add 58 = .ok (.return_, 1) := by decide +kernel
theorem dX2_init_0 : decode cX2_init 0 = .ok (.aload_n 0, 1) := by decide +kernel
theorem dX2_init_1 : decode cX2_init 1 = .ok (.invokespecial 3, 3) := by decide +kernel
theorem dX2_init_4 : decode cX2_init 4 = .ok (.aload_n 0, 1) := by decide +kernel
theorem dX2_init_5 : decode cX2_init 5 = .ok (.bipush 60, 2) := by decide +kernel
theorem dX2_init_7 : decode cX2_init 7 = .ok (.newarray .int, 2) := by decide +kernel
theorem dX2_init_9 : decode cX2_init 9 = .ok (.putfield 9, 3) := by decide +kernel
theorem dX2_init_12 : decode cX2_init 12 = .ok (.aload_n 0, 1) := by decide +kernel
theorem dX2_init_13 : decode cX2_init 13 = .ok (.bipush 60, 2) := by decide +kernel
theorem dX2_init_15 : decode cX2_init 15 = .ok (.newarray .int, 2) := by decide +kernel
theorem dX2_init_17 : decode cX2_init 17 = .ok (.putfield 15, 3) := by decide +kernel
theorem dX2_init_20 : decode cX2_init 20 = .ok (.aload_n 0, 1) := by decide +kernel
theorem dX2_init_21 : decode cX2_init 21 = .ok (.bipush 60, 2) := by decide +kernel
theorem dX2_init_23 : decode cX2_init 23 = .ok (.newarray .int, 2) := by decide +kernel
theorem dX2_init_25 : decode cX2_init 25 = .ok (.putfield 18, 3) := by decide +kernel
theorem dX2_init_28 : decode cX2_init 28 = .ok (.aload_n 0, 1) := by decide +kernel
theorem dX2_init_29 : decode cX2_init 29 = .ok (.bipush 60, 2) := by decide +kernel
theorem dX2_init_31 : decode cX2_init 31 = .ok (.newarray .boolean, 2) := by decide +kernel
theorem dX2_init_33 : decode cX2_init 33 = .ok (.putfield 21, 3) := by decide +kernel
theorem dX2_init_36 : decode cX2_init 36 = .ok (.aload_n 0, 1) := by decide +kernel
theorem dX2_init_37 : decode cX2_init 37 = .ok (.bipush 16, 2) := by decide +kernel
theorem dX2_init_39 : decode cX2_init 39 = .ok (.newarray .int, 2) := by decide +kernel
theorem dX2_init_41 : decode cX2_init 41 = .ok (.putfield 25, 3) := by decide +kernel
theorem dX2_init_44 : decode cX2_init 44 = .ok (.return_, 1) := by decide +kernel
theorem dX2_isNode_0 : decode cX2_isNode 0 = .ok (.iload_n 1, 1) := by decide +kernel
theorem dX2_isNode_1 : decode cX2_isNode 1 = .ok (.ifCond .lt 15, 3) := by decide +kernel
theorem dX2_isNode_4 : decode cX2_isNode 4 = .ok (.iload_n 1, 1) := by decide +kernel
theorem dX2_isNode_5 : decode cX2_isNode 5 = .ok (.aload_n 0, 1) := by decide +kernel
theorem dX2_isNode_6 : decode cX2_isNode 6 = .ok (.getfield 28, 3) := by decide +kernel
theorem dX2_isNode_9 : decode cX2_isNode 9 = .ok (.if_icmp .ge 7, 3) := by decide +kernel
theorem dX2_isNode_12 : decode cX2_isNode 12 = .ok (.iconst 1, 1) := by decide +kernel
theorem dX2_isNode_13 : decode cX2_isNode 13 = .ok (.goto 4, 3) := by decide +kernel
theorem dX2_isNode_16 : decode cX2_isNode 16 = .ok (.iconst 0, 1) := by decide +kernel
theorem dX2_isNode_17 : decode cX2_isNode 17 = .ok (.ireturn, 1) := by decide +kernel
theorem dX2_isArc_0 : decode cX2_isArc 0 = .ok (.iload_n 1, 1) := by decide +kernel
theorem dX2_isArc_1 : decode cX2_isArc 1 = .ok (.ifCond .lt 24, 3) := by decide +kernel
theorem dX2_isArc_4 : decode cX2_isArc 4 = .ok (.iload_n 1, 1) := by decide +kernel
theorem dX2_isArc_5 : decode cX2_isArc 5 = .ok (.aload_n 0, 1) := by decide +kernel
theorem dX2_isArc_6 : decode cX2_isArc 6 = .ok (.getfield 32, 3) := by decide +kernel
theorem dX2_isArc_9 : decode cX2_isArc 9 = .ok (.if_icmp .ge 16, 3) := by decide +kernel
theorem dX2_isArc_12 : decode cX2_isArc 12 = .ok (.aload_n 0, 1) := by decide +kernel
theorem dX2_isArc_13 : decode cX2_isArc 13 = .ok (.getfield 21, 3) := by decide +kernel
theorem dX2_isArc_16 : decode cX2_isArc 16 = .ok (.iload_n 1, 1) := by decide +kernel
theorem dX2_isArc_17 : decode cX2_isArc 17 = .ok (.baload, 1) := by decide +kernel
theorem dX2_isArc_18 : decode cX2_isArc 18 = .ok (.ifCond .eq 7, 3) := by decide +kernel
theorem dX2_isArc_21 : decode cX2_isArc 21 = .ok (.iconst 1, 1) := by decide +kernel
theorem dX2_isArc_22 : decode cX2_isArc 22 = .ok (.goto 4, 3) := by decide +kernel
theorem dX2_isArc_25 : decode cX2_isArc 25 = .ok (.iconst 0, 1) := by decide +kernel
theorem dX2_isArc_26 : decode cX2_isArc 26 = .ok (.ireturn, 1) := by decide +kernel
theorem dX2_allNodes_0 : decode cX2_allNodes 0 = .ok (.iconst 1, 1) := by decide +kernel
theorem dX2_allNodes_1 : decode cX2_allNodes 1 = .ok (.aload_n 0, 1) := by decide +kernel
theorem dX2_allNodes_2 : decode cX2_allNodes 2 = .ok (.getfield 28, 3) := by decide +kernel
theorem dX2_allNodes_5 : decode cX2_allNodes 5 = .ok (.ishl, 1) := by decide +kernel
theorem dX2_allNodes_6 : decode cX2_allNodes 6 = .ok (.iconst 1, 1) := by decide +kernel
theorem dX2_allNodes_7 : decode cX2_allNodes 7 = .ok (.isub, 1) := by decide +kernel
theorem dX2_allNodes_8 : decode cX2_allNodes 8 = .ok (.ireturn, 1) := by decide +kernel
theorem dX2_addNode_0 : decode cX2_addNode 0 = .ok (.aload_n 0, 1) := by decide +kernel
theorem dX2_addNode_1 : decode cX2_addNode 1 = .ok (.dup, 1) := by decide +kernel
theorem dX2_addNode_2 : decode cX2_addNode 2 = .ok (.getfield 35, 3) := by decide +kernel
theorem dX2_addNode_5 : decode cX2_addNode 5 = .ok (.iconst 1, 1) := by decide +kernel
theorem dX2_addNode_6 : decode cX2_addNode 6 = .ok (.iadd, 1) := by decide +kernel
theorem dX2_addNode_7 : decode cX2_addNode 7 = .ok (.putfield 35, 3) := by decide +kernel
theorem dX2_addNode_10 : decode cX2_addNode 10 = .ok (.aload_n 0, 1) := by decide +kernel
theorem dX2_addNode_11 : decode cX2_addNode 11 = .ok (.dup, 1) := by decide +kernel
theorem dX2_addNode_12 : decode cX2_addNode 12 = .ok (.getfield 28, 3) := by decide +kernel
theorem dX2_addNode_15 : decode cX2_addNode 15 = .ok (.iconst 1, 1) := by decide +kernel
theorem dX2_addNode_16 : decode cX2_addNode 16 = .ok (.iadd, 1) := by decide +kernel
theorem dX2_addNode_17 : decode cX2_addNode 17 = .ok (.putfield 28, 3) := by decide +kernel
theorem dX2_addNode_20 : decode cX2_addNode 20 = .ok (.aload_n 0, 1) := by decide +kernel
theorem dX2_addNode_21 : decode cX2_addNode 21 = .ok (.getfield 28, 3) := by decide +kernel
theorem dX2_addNode_24 : decode cX2_addNode 24 = .ok (.iconst 1, 1) := by decide +kernel
theorem dX2_addNode_25 : decode cX2_addNode 25 = .ok (.isub, 1) := by decide +kernel
theorem dX2_addNode_26 : decode cX2_addNode 26 = .ok (.ireturn, 1) := by decide +kernel
set_option maxRecDepth 20000 in
theorem ggX2_addArc_X2_link : GoodIn wsX2_addArc wsX2_link := goodIn_r _ [12, 4, 5, 13, 14, 15, 16, 17, 18, 19, 20, 21, 22] rfl (by decide +kernel)
set_option maxRecDepth 20000 in
theorem gX2_addArc_X2_link : GoodIn wsX2_addArc (wsV RX2 41 RX2 yX2_link wsX2_link) := goodIn_app (goodIn_of _ (by decide +kernel)) ggX2_addArc_X2_link
theorem dX2_addArc_0 : decode cX2_addArc 0 = .ok (.aload_n 0, 1) := by decide +kernel
theorem dX2_addArc_1 : decode cX2_addArc 1 = .ok (.dup, 1) := by decide +kernel
theorem dX2_addArc_2 : decode cX2_addArc 2 = .ok (.getfield 35, 3) := by decide +kernel
theorem dX2_addArc_5 : decode cX2_addArc 5 = .ok (.iconst 1, 1) := by decide +kernel
theorem dX2_addArc_6 : decode cX2_addArc 6 = .ok (.iadd, 1) := by decide +kernel
theorem dX2_addArc_7 : decode cX2_addArc 7 = .ok (.putfield 35, 3) := by decide +kernel
theorem dX2_addArc_10 : decode cX2_addArc 10 = .ok (.aload_n 0, 1) := by decide +kernel
theorem dX2_addArc_11 : decode cX2_addArc 11 = .ok (.getfield 32, 3) := by decide +kernel
theorem dX2_addArc_14 : decode cX2_addArc 14 = .ok (.istore 4, 2) := by decide +kernel
theorem dX2_addArc_16 : decode cX2_addArc 16 = .ok (.aload_n 0, 1) := by decide +kernel
theorem dX2_addArc_17 : decode cX2_addArc 17 = .ok (.dup, 1) := by decide +kernel
theorem dX2_addArc_18 : decode cX2_addArc 18 = .ok (.getfield 32, 3) := by decide +kernel
theorem dX2_addArc_21 : decode cX2_addArc 21 = .ok (.iconst 1, 1) := by decide +kernel
theorem dX2_addArc_22 : decode cX2_addArc 22 = .ok (.iadd, 1) := by decide +kernel
theorem dX2_addArc_23 : decode cX2_addArc 23 = .ok (.putfield 32, 3) := by decide +kernel
theorem dX2_addArc_26 : decode cX2_addArc 26 = .ok (.aload_n 0, 1) := by decide +kernel
theorem dX2_addArc_27 : decode cX2_addArc 27 = .ok (.dup, 1) := by decide +kernel
theorem dX2_addArc_28 : decode cX2_addArc 28 = .ok (.getfield 38, 3) := by decide +kernel
theorem dX2_addArc_31 : decode cX2_addArc 31 = .ok (.iconst 1, 1) := by decide +kernel
theorem dX2_addArc_32 : decode cX2_addArc 32 = .ok (.iadd, 1) := by decide +kernel
theorem dX2_addArc_33 : decode cX2_addArc 33 = .ok (.putfield 38, 3) := by decide +kernel
theorem dX2_addArc_36 : decode cX2_addArc 36 = .ok (.aload_n 0, 1) := by decide +kernel
theorem dX2_addArc_37 : decode cX2_addArc 37 = .ok (.getfield 9, 3) := by decide +kernel
theorem dX2_addArc_40 : decode cX2_addArc 40 = .ok (.iload 4, 2) := by decide +kernel
theorem dX2_addArc_42 : decode cX2_addArc 42 = .ok (.iload_n 1, 1) := by decide +kernel
theorem dX2_addArc_43 : decode cX2_addArc 43 = .ok (.iastore, 1) := by decide +kernel
theorem dX2_addArc_44 : decode cX2_addArc 44 = .ok (.aload_n 0, 1) := by decide +kernel
theorem dX2_addArc_45 : decode cX2_addArc 45 = .ok (.getfield 15, 3) := by decide +kernel
theorem dX2_addArc_48 : decode cX2_addArc 48 = .ok (.iload 4, 2) := by decide +kernel
theorem dX2_addArc_50 : decode cX2_addArc 50 = .ok (.iload_n 2, 1) := by decide +kernel
theorem dX2_addArc_51 : decode cX2_addArc 51 = .ok (.iastore, 1) := by decide +kernel
theorem dX2_addArc_52 : decode cX2_addArc 52 = .ok (.aload_n 0, 1) := by decide +kernel
theorem dX2_addArc_53 : decode cX2_addArc 53 = .ok (.getfield 18, 3) := by decide +kernel
theorem dX2_addArc_56 : decode cX2_addArc 56 = .ok (.iload 4, 2) := by decide +kernel
theorem dX2_addArc_58 : decode cX2_addArc 58 = .ok (.iload_n 3, 1) := by decide +kernel
theorem dX2_addArc_59 : decode cX2_addArc 59 = .ok (.iastore, 1) := by decide +kernel
theorem dX2_addArc_60 : decode cX2_addArc 60 = .ok (.aload_n 0, 1) := by decide +kernel
theorem dX2_addArc_61 : decode cX2_addArc 61 = .ok (.getfield 21, 3) := by decide +kernel
theorem dX2_addArc_64 : decode cX2_addArc 64 = .ok (.iload 4, 2) := by decide +kernel
theorem dX2_addArc_66 : decode cX2_addArc 66 = .ok (.iconst 1, 1) := by decide +kernel
theorem dX2_addArc_67 : decode cX2_addArc 67 = .ok (.bastore, 1) := by decide +kernel
theorem dX2_addArc_68 : decode cX2_addArc 68 = .ok (.aload_n 0, 1) := by decide +kernel
theorem dX2_addArc_69 : decode cX2_addArc 69 = .ok (.iload 4, 2) := by decide +kernel
theorem dX2_addArc_71 : decode cX2_addArc 71 = .ok (.invokevirtual 41, 3) := by decide +kernel
theorem dX2_addArc_74 : decode cX2_addArc 74 = .ok (.iload 4, 2) := by decide +kernel
theorem dX2_addArc_76 : decode cX2_addArc 76 = .ok (.ireturn, 1) := by decide +kernel
set_option maxRecDepth 20000 in
theorem ggX2_removeArc_J7_fill_53178 : GoodIn wsX2_removeArc wsJ7_fill_53178 := goodIn_r _ [9] rfl (by decide +kernel)
set_option maxRecDepth 20000 in
theorem gX2_removeArc_J7_fill_53178 : GoodIn wsX2_removeArc (va_wsS RX2 45 yJ7_fill_53178 wsJ7_fill_53178) := goodIn_app (goodIn_of _ (by decide +kernel)) ggX2_removeArc_J7_fill_53178
set_option maxRecDepth 20000 in
theorem ggX2_removeArc_X2_link : GoodIn wsX2_removeArc wsX2_link := goodIn_r _ [14, 15, 16, 4, 17, 18, 19, 20, 21, 22, 23, 24, 25] rfl (by decide +kernel)
set_option maxRecDepth 20000 in
theorem gX2_removeArc_X2_link : GoodIn wsX2_removeArc (wsV RX2 41 RX2 yX2_link wsX2_link) := goodIn_app (goodIn_of _ (by decide +kernel)) ggX2_removeArc_X2_link
theorem dX2_removeArc_0 : decode cX2_removeArc 0 = .ok (.aload_n 0, 1) := by decide +kernel
theorem dX2_removeArc_1 : decode cX2_removeArc 1 = .ok (.dup, 1) := by decide +kernel
theorem dX2_removeArc_2 : decode cX2_removeArc 2 = .ok (.getfield 35, 3) := by decide +kernel
theorem dX2_removeArc_5 : decode cX2_removeArc 5 = .ok (.iconst 1, 1) := by decide +kernel
theorem dX2_removeArc_6 : decode cX2_removeArc 6 = .ok (.iadd, 1) := by decide +kernel
theorem dX2_removeArc_7 : decode cX2_removeArc 7 = .ok (.putfield 35, 3) := by decide +kernel
theorem dX2_removeArc_10 : decode cX2_removeArc 10 = .ok (.aload_n 0, 1) := by decide +kernel
theorem dX2_removeArc_11 : decode cX2_removeArc 11 = .ok (.dup, 1) := by decide +kernel
theorem dX2_removeArc_12 : decode cX2_removeArc 12 = .ok (.getfield 38, 3) := by decide +kernel
theorem dX2_removeArc_15 : decode cX2_removeArc 15 = .ok (.iconst 1, 1) := by decide +kernel
theorem dX2_removeArc_16 : decode cX2_removeArc 16 = .ok (.isub, 1) := by decide +kernel
theorem dX2_removeArc_17 : decode cX2_removeArc 17 = .ok (.putfield 38, 3) := by decide +kernel
theorem dX2_removeArc_20 : decode cX2_removeArc 20 = .ok (.aload_n 0, 1) := by decide +kernel
theorem dX2_removeArc_21 : decode cX2_removeArc 21 = .ok (.getfield 21, 3) := by decide +kernel
theorem dX2_removeArc_24 : decode cX2_removeArc 24 = .ok (.iload_n 1, 1) := by decide +kernel
theorem dX2_removeArc_25 : decode cX2_removeArc 25 = .ok (.iconst 0, 1) := by decide +kernel
theorem dX2_removeArc_26 : decode cX2_removeArc 26 = .ok (.bastore, 1) := by decide +kernel
theorem dX2_removeArc_27 : decode cX2_removeArc 27 = .ok (.aload_n 0, 1) := by decide +kernel
theorem dX2_removeArc_28 : decode cX2_removeArc 28 = .ok (.getfield 25, 3) := by decide +kernel
theorem dX2_removeArc_31 : decode cX2_removeArc 31 = .ok (.iconst 0, 1) := by decide +kernel
theorem dX2_removeArc_32 : decode cX2_removeArc 32 = .ok (.invokestatic 45, 3) := by decide +kernel
theorem dX2_removeArc_35 : decode cX2_removeArc 35 = .ok (.iconst 0, 1) := by decide +kernel
theorem dX2_removeArc_36 : decode cX2_removeArc 36 = .ok (.istore_n 2, 1) := by decide +kernel
theorem dX2_removeArc_37 : decode cX2_removeArc 37 = .ok (.iload_n 2, 1) := by decide +kernel
theorem dX2_removeArc_38 : decode cX2_removeArc 38 = .ok (.aload_n 0, 1) := by decide +kernel
theorem dX2_removeArc_39 : decode cX2_removeArc 39 = .ok (.getfield 32, 3) := by decide +kernel
theorem dX2_removeArc_42 : decode cX2_removeArc 42 = .ok (.if_icmp .ge 23, 3) := by decide +kernel
theorem dX2_removeArc_45 : decode cX2_removeArc 45 = .ok (.aload_n 0, 1) := by decide +kernel
theorem dX2_removeArc_46 : decode cX2_removeArc 46 = .ok (.getfield 21, 3) := by decide +kernel
theorem dX2_removeArc_49 : decode cX2_removeArc 49 = .ok (.iload_n 2, 1) := by decide +kernel
theorem dX2_removeArc_50 : decode cX2_removeArc 50 = .ok (.baload, 1) := by decide +kernel
theorem dX2_removeArc_51 : decode cX2_removeArc 51 = .ok (.ifCond .eq 8, 3) := by decide +kernel
theorem dX2_removeArc_54 : decode cX2_removeArc 54 = .ok (.aload_n 0, 1) := by decide +kernel
theorem dX2_removeArc_55 : decode cX2_removeArc 55 = .ok (.iload_n 2, 1) := by decide +kernel
theorem dX2_removeArc_56 : decode cX2_removeArc 56 = .ok (.invokevirtual 41, 3) := by decide +kernel
theorem dX2_removeArc_59 : decode cX2_removeArc 59 = .ok (.iinc 2 1, 3) := by decide +kernel
theorem dX2_removeArc_62 : decode cX2_removeArc 62 = .ok (.goto (-25), 3) := by decide +kernel
theorem dX2_removeArc_65 : decode cX2_removeArc 65 = .ok (.return_, 1) := by decide +kernel
set_option maxRecDepth 20000 in
theorem ggX2_removeAll_J7_fill_53178 : GoodIn wsX2_removeAll wsJ7_fill_53178 := goodIn_r _ [9] rfl (by decide +kernel)
set_option maxRecDepth 20000 in
theorem gX2_removeAll_J7_fill_53178 : GoodIn wsX2_removeAll (va_wsS RX2 45 yJ7_fill_53178 wsJ7_fill_53178) := goodIn_app (goodIn_of _ (by decide +kernel)) ggX2_removeAll_J7_fill_53178
theorem dX2_removeAll_0 : decode cX2_removeAll 0 = .ok (.aload_n 0, 1) := by decide +kernel
theorem dX2_removeAll_1 : decode cX2_removeAll 1 = .ok (.dup, 1) := by decide +kernel
theorem dX2_removeAll_2 : decode cX2_removeAll 2 = .ok (.getfield 35, 3) := by decide +kernel
theorem dX2_removeAll_5 : decode cX2_removeAll 5 = .ok (.iconst 1, 1) := by decide +kernel
theorem dX2_removeAll_6 : decode cX2_removeAll 6 = .ok (.iadd, 1) := by decide +kernel
theorem dX2_removeAll_7 : decode cX2_removeAll 7 = .ok (.putfield 35, 3) := by decide +kernel
theorem dX2_removeAll_10 : decode cX2_removeAll 10 = .ok (.aload_n 0, 1) := by decide +kernel
theorem dX2_removeAll_11 : decode cX2_removeAll 11 = .ok (.iconst 0, 1) := by decide +kernel
theorem dX2_removeAll_12 : decode cX2_removeAll 12 = .ok (.putfield 28, 3) := by decide +kernel
theorem dX2_removeAll_15 : decode cX2_removeAll 15 = .ok (.aload_n 0, 1) := by decide +kernel
theorem dX2_removeAll_16 : decode cX2_removeAll 16 = .ok (.iconst 0, 1) := by decide +kernel
theorem dX2_removeAll_17 : decode cX2_removeAll 17 = .ok (.putfield 32, 3) := by decide +kernel
theorem dX2_removeAll_20 : decode cX2_removeAll 20 = .ok (.aload_n 0, 1) := by decide +kernel
theorem dX2_removeAll_21 : decode cX2_removeAll 21 = .ok (.iconst 0, 1) := by decide +kernel
theorem dX2_removeAll_22 : decode cX2_removeAll 22 = .ok (.putfield 38, 3) := by decide +kernel
theorem dX2_removeAll_25 : decode cX2_removeAll 25 = .ok (.aload_n 0, 1) := by decide +kernel
theorem dX2_removeAll_26 : decode cX2_removeAll 26 = .ok (.getfield 25, 3) := by decide +kernel
theorem dX2_removeAll_29 : decode cX2_removeAll 29 = .ok (.iconst 0, 1) := by decide +kernel
theorem dX2_removeAll_30 : decode cX2_removeAll 30 = .ok (.invokestatic 45, 3) := by decide +kernel
theorem dX2_removeAll_33 : decode cX2_removeAll 33 = .ok (.return_, 1) := by decide +kernel
set_option maxRecDepth 20000 in
theorem ggX2_weightOf_X11_markOf : GoodIn wsX2_weightOf wsX11_markOf := goodIn_r _ [5] rfl (by decide +kernel)
set_option maxRecDepth 20000 in
theorem gX2_weightOf_X11_markOf_n51 : GoodIn wsX2_weightOf (wsX11_markOf) := ggX2_weightOf_X11_markOf
theorem dX2_weightOf_0 : decode cX2_weightOf 0 = .ok (.iconst 0, 1) := by decide +kernel
theorem dX2_weightOf_1 : decode cX2_weightOf 1 = .ok (.istore_n 3, 1) := by decide +kernel
theorem dX2_weightOf_2 : decode cX2_weightOf 2 = .ok (.iconst 0, 1) := by decide +kernel
theorem dX2_weightOf_3 : decode cX2_weightOf 3 = .ok (.istore 4, 2) := by decide +kernel
theorem dX2_weightOf_5 : decode cX2_weightOf 5 = .ok (.iload 4, 2) := by decide +kernel
theorem dX2_weightOf_7 : decode cX2_weightOf 7 = .ok (.aload_n 0, 1) := by decide +kernel
theorem dX2_weightOf_8 : decode cX2_weightOf 8 = .ok (.getfield 32, 3) := by decide +kernel
theorem dX2_weightOf_11 : decode cX2_weightOf 11 = .ok (.if_icmp .ge 31, 3) := by decide +kernel
theorem dX2_weightOf_14 : decode cX2_weightOf 14 = .ok (.lload_n 1, 1) := by decide +kernel
theorem dX2_weightOf_15 : decode cX2_weightOf 15 = .ok (.iload 4, 2) := by decide +kernel
theorem dX2_weightOf_17 : decode cX2_weightOf 17 = .ok (.invokestatic 51, 3) := by decide +kernel
theorem dX2_weightOf_20 : decode cX2_weightOf 20 = .ok (.land, 1) := by decide +kernel
theorem dX2_weightOf_21 : decode cX2_weightOf 21 = .ok (.lconst 0, 1) := by decide +kernel
theorem dX2_weightOf_22 : decode cX2_weightOf 22 = .ok (.lcmp, 1) := by decide +kernel
theorem dX2_weightOf_23 : decode cX2_weightOf 23 = .ok (.ifCond .eq 13, 3) := by decide +kernel
theorem dX2_weightOf_26 : decode cX2_weightOf 26 = .ok (.iload_n 3, 1) := by decide +kernel
theorem dX2_weightOf_27 : decode cX2_weightOf 27 = .ok (.aload_n 0, 1) := by decide +kernel
theorem dX2_weightOf_28 : decode cX2_weightOf 28 = .ok (.getfield 18, 3) := by decide +kernel
theorem dX2_weightOf_31 : decode cX2_weightOf 31 = .ok (.iload 4, 2) := by decide +kernel
theorem dX2_weightOf_33 : decode cX2_weightOf 33 = .ok (.iaload, 1) := by decide +kernel
theorem dX2_weightOf_34 : decode cX2_weightOf 34 = .ok (.iadd, 1) := by decide +kernel
theorem dX2_weightOf_35 : decode cX2_weightOf 35 = .ok (.istore_n 3, 1) := by decide +kernel
theorem dX2_weightOf_36 : decode cX2_weightOf 36 = .ok (.iinc 4 1, 3) := by decide +kernel
theorem dX2_weightOf_39 : decode cX2_weightOf 39 = .ok (.goto (-34), 3) := by decide +kernel
theorem dX2_weightOf_42 : decode cX2_weightOf 42 = .ok (.iload_n 3, 1) := by decide +kernel
theorem dX2_weightOf_43 : decode cX2_weightOf 43 = .ok (.ireturn, 1) := by decide +kernel
set_option maxRecDepth 20000 in
theorem ggX2_arcAt_X11_markOf : GoodIn wsX2_arcAt wsX11_markOf := goodIn_r _ [6] rfl (by decide +kernel)
set_option maxRecDepth 20000 in
theorem gX2_arcAt_X11_markOf_n51 : GoodIn wsX2_arcAt (wsX11_markOf) := ggX2_arcAt_X11_markOf
theorem dX2_arcAt_0 : decode cX2_arcAt 0 = .ok (.iconst 0, 1) := by decide +kernel
theorem dX2_arcAt_1 : decode cX2_arcAt 1 = .ok (.istore 4, 2) := by decide +kernel
theorem dX2_arcAt_3 : decode cX2_arcAt 3 = .ok (.iload 4, 2) := by decide +kernel
theorem dX2_arcAt_5 : decode cX2_arcAt 5 = .ok (.aload_n 0, 1) := by decide +kernel
theorem dX2_arcAt_6 : decode cX2_arcAt 6 = .ok (.getfield 32, 3) := by decide +kernel
theorem dX2_arcAt_9 : decode cX2_arcAt 9 = .ok (.if_icmp .ge 46, 3) := by decide +kernel
theorem dX2_arcAt_12 : decode cX2_arcAt 12 = .ok (.lload_n 1, 1) := by decide +kernel
theorem dX2_arcAt_13 : decode cX2_arcAt 13 = .ok (.iload 4, 2) := by decide +kernel
theorem dX2_arcAt_15 : decode cX2_arcAt 15 = .ok (.invokestatic 51, 3) := by decide +kernel
theorem dX2_arcAt_18 : decode cX2_arcAt 18 = .ok (.land, 1) := by decide +kernel
theorem dX2_arcAt_19 : decode cX2_arcAt 19 = .ok (.lconst 0, 1) := by decide +kernel
theorem dX2_arcAt_20 : decode cX2_arcAt 20 = .ok (.lcmp, 1) := by decide +kernel
theorem dX2_arcAt_21 : decode cX2_arcAt 21 = .ok (.ifCond .eq 28, 3) := by decide +kernel
theorem dX2_arcAt_24 : decode cX2_arcAt 24 = .ok (.aload_n 0, 1) := by decide +kernel
theorem dX2_arcAt_25 : decode cX2_arcAt 25 = .ok (.getfield 9, 3) := by decide +kernel
theorem dX2_arcAt_28 : decode cX2_arcAt 28 = .ok (.iload 4, 2) := by decide +kernel
theorem dX2_arcAt_30 : decode cX2_arcAt 30 = .ok (.iaload, 1) := by decide +kernel
theorem dX2_arcAt_31 : decode cX2_arcAt 31 = .ok (.iload_n 3, 1) := by decide +kernel
theorem dX2_arcAt_32 : decode cX2_arcAt 32 = .ok (.if_icmp .eq 14, 3) := by decide +kernel
theorem dX2_arcAt_35 : decode cX2_arcAt 35 = .ok (.aload_n 0, 1) := by decide +kernel
theorem dX2_arcAt_36 : decode cX2_arcAt 36 = .ok (.getfield 15, 3) := by decide +kernel
theorem dX2_arcAt_39 : decode cX2_arcAt 39 = .ok (.iload 4, 2) := by decide +kernel
theorem dX2_arcAt_41 : decode cX2_arcAt 41 = .ok (.iaload, 1) := by decide +kernel
theorem dX2_arcAt_42 : decode cX2_arcAt 42 = .ok (.iload_n 3, 1) := by decide +kernel
theorem dX2_arcAt_43 : decode cX2_arcAt 43 = .ok (.if_icmp .ne 6, 3) := by decide +kernel
theorem dX2_arcAt_46 : decode cX2_arcAt 46 = .ok (.iload 4, 2) := by decide +kernel
theorem dX2_arcAt_48 : decode cX2_arcAt 48 = .ok (.ireturn, 1) := by decide +kernel
theorem dX2_arcAt_49 : decode cX2_arcAt 49 = .ok (.iinc 4 1, 3) := by decide +kernel
theorem dX2_arcAt_52 : decode cX2_arcAt 52 = .ok (.goto (-49), 3) := by decide +kernel
theorem dX2_arcAt_55 : decode cX2_arcAt 55 = .ok (.bipush (-3), 2) := by decide +kernel
theorem dX2_arcAt_57 : decode cX2_arcAt 57 = .ok (.ireturn, 1) := by decide +kernel
theorem dX2_link_0 : decode cX2_link 0 = .ok (.aload_n 0, 1) := by decide +kernel
theorem dX2_link_1 : decode cX2_link 1 = .ok (.getfield 9, 3) := by decide +kernel
theorem dX2_link_4 : decode cX2_link 4 = .ok (.iload_n 1, 1) := by decide +kernel
theorem dX2_link_5 : decode cX2_link 5 = .ok (.iaload, 1) := by decide +kernel
theorem dX2_link_6 : decode cX2_link 6 = .ok (.istore_n 2, 1) := by decide +kernel
theorem dX2_link_7 : decode cX2_link 7 = .ok (.aload_n 0, 1) := by decide +kernel
theorem dX2_link_8 : decode cX2_link 8 = .ok (.getfield 15, 3) := by decide +kernel
theorem dX2_link_11 : decode cX2_link 11 = .ok (.iload_n 1, 1) := by decide +kernel
theorem dX2_link_12 : decode cX2_link 12 = .ok (.iaload, 1) := by decide +kernel
theorem dX2_link_13 : decode cX2_link 13 = .ok (.istore_n 3, 1) := by decide +kernel
theorem dX2_link_14 : decode cX2_link 14 = .ok (.aload_n 0, 1) := by decide +kernel
theorem dX2_link_15 : decode cX2_link 15 = .ok (.getfield 25, 3) := by decide +kernel
theorem dX2_link_18 : decode cX2_link 18 = .ok (.iload_n 2, 1) := by decide +kernel
theorem dX2_link_19 : decode cX2_link 19 = .ok (.dup2, 1) := by decide +kernel
theorem dX2_link_20 : decode cX2_link 20 = .ok (.iaload, 1) := by decide +kernel
theorem dX2_link_21 : decode cX2_link 21 = .ok (.iconst 1, 1) := by decide +kernel
theorem dX2_link_22 : decode cX2_link 22 = .ok (.iload_n 3, 1) := by decide +kernel
theorem dX2_link_23 : decode cX2_link 23 = .ok (.ishl, 1) := by decide +kernel
theorem dX2_link_24 : decode cX2_link 24 = .ok (.ior, 1) := by decide +kernel
theorem dX2_link_25 : decode cX2_link 25 = .ok (.iastore, 1) := by decide +kernel
theorem dX2_link_26 : decode cX2_link 26 = .ok (.aload_n 0, 1) := by decide +kernel
theorem dX2_link_27 : decode cX2_link 27 = .ok (.getfield 25, 3) := by decide +kernel
theorem dX2_link_30 : decode cX2_link 30 = .ok (.iload_n 3, 1) := by decide +kernel
theorem dX2_link_31 : decode cX2_link 31 = .ok (.dup2, 1) := by decide +kernel
theorem dX2_link_32 : decode cX2_link 32 = .ok (.iaload, 1) := by decide +kernel
theorem dX2_link_33 : decode cX2_link 33 = .ok (.iconst 1, 1) := by decide +kernel
theorem dX2_link_34 : decode cX2_link 34 = .ok (.iload_n 2, 1) := by decide +kernel
theorem dX2_link_35 : decode cX2_link 35 = .ok (.ishl, 1) := by decide +kernel
theorem dX2_link_36 : decode cX2_link 36 = .ok (.ior, 1) := by decide +kernel
theorem dX2_link_37 : decode cX2_link 37 = .ok (.iastore, 1) := by decide +kernel
theorem dX2_link_38 : decode cX2_link 38 = .ok (.return_, 1) := by decide +kernel
theorem dX3_init_0 : decode cX3_init 0 = .ok (.aload_n 0, 1) := by decide +kernel
theorem dX3_init_1 : decode cX3_init 1 = .ok (.invokespecial 3, 3) := by decide +kernel
theorem dX3_init_4 : decode cX3_init 4 = .ok (.aload_n 0, 1) := by decide +kernel
theorem dX3_init_5 : decode cX3_init 5 = .ok (.bipush 16, 2) := by decide +kernel
theorem dX3_init_7 : decode cX3_init 7 = .ok (.newarray .int, 2) := by decide +kernel
theorem dX3_init_9 : decode cX3_init 9 = .ok (.putfield 9, 3) := by decide +kernel
theorem dX3_init_12 : decode cX3_init 12 = .ok (.aload_n 0, 1) := by decide +kernel
theorem dX3_init_13 : decode cX3_init 13 = .ok (.iconst (-1), 1) := by decide +kernel
theorem dX3_init_14 : decode cX3_init 14 = .ok (.putfield 15, 3) := by decide +kernel
theorem dX3_init_17 : decode cX3_init 17 = .ok (.aload_n 0, 1) := by decide +kernel
theorem dX3_init_18 : decode cX3_init 18 = .ok (.aload_n 1, 1) := by decide +kernel
theorem dX3_init_19 : decode cX3_init 19 = .ok (.putfield 19, 3) := by decide +kernel
theorem dX3_init_22 : decode cX3_init 22 = .ok (.return_, 1) := by decide +kernel
set_option maxRecDepth 20000 in
theorem ggX3_refresh_X3_flip : GoodIn wsX3_refresh wsX3_flip := goodIn_r _ [9] rfl (by decide +kernel)
set_option maxRecDepth 20000 in
theorem gX3_refresh_X3_flip : GoodIn wsX3_refresh (va_wsS RX3 29 yX3_flip wsX3_flip) := goodIn_app (goodIn_of _ (by decide +kernel)) ggX3_refresh_X3_flip
set_option maxRecDepth 20000 in
theorem ggX3_refresh_X3_leastPrice : GoodIn wsX3_refresh wsX3_leastPrice := goodIn_r _ [13, 3, 14, 15, 16, 17, 18, 19, 20, 8, 21, 22, 23, 24, 25, 26, 27, 28, 29, 30, 31, 32, 33, 34, 35, 10, 11, 12, 39, 40, 41, 42] rfl (by decide +kernel)
set_option maxRecDepth 20000 in
theorem gX3_refresh_X3_leastPrice : GoodIn wsX3_refresh (wsV RX3 34 RX3 yX3_leastPrice wsX3_leastPrice) := goodIn_app (goodIn_of _ (by decide +kernel)) ggX3_refresh_X3_leastPrice
set_option maxRecDepth 20000 in
theorem ggX3_refresh_X3_nodesOf : GoodIn wsX3_refresh wsX3_nodesOf := goodIn_r _ [38, 4] rfl (by decide +kernel)
set_option maxRecDepth 20000 in
theorem gX3_refresh_X3_nodesOf : GoodIn wsX3_refresh (va_wsS RX3 38 yX3_nodesOf wsX3_nodesOf) := goodIn_app (goodIn_of _ (by decide +kernel)) ggX3_refresh_X3_nodesOf
theorem dX3_refresh_0 : decode cX3_refresh 0 = .ok (.aload_n 0, 1) := by decide +kernel
theorem dX3_refresh_1 : decode cX3_refresh 1 = .ok (.getfield 15, 3) := by decide +kernel
theorem dX3_refresh_4 : decode cX3_refresh 4 = .ok (.aload_n 0, 1) := by decide +kernel
theorem dX3_refresh_5 : decode cX3_refresh 5 = .ok (.getfield 19, 3) := by decide +kernel
theorem dX3_refresh_8 : decode cX3_refresh 8 = .ok (.getfield 23, 3) := by decide +kernel
theorem dX3_refresh_11 : decode cX3_refresh 11 = .ok (.if_icmp .eq 66, 3) := by decide +kernel
theorem dX3_refresh_14 : decode cX3_refresh 14 = .ok (.aload_n 0, 1) := by decide +kernel
theorem dX3_refresh_15 : decode cX3_refresh 15 = .ok (.aload_n 0, 1) := by decide +kernel
theorem dX3_refresh_16 : decode cX3_refresh 16 = .ok (.getfield 19, 3) := by decide +kernel
theorem dX3_refresh_19 : decode cX3_refresh 19 = .ok (.getfield 23, 3) := by decide +kernel
theorem dX3_refresh_22 : decode cX3_refresh 22 = .ok (.putfield 15, 3) := by decide +kernel
theorem dX3_refresh_25 : decode cX3_refresh 25 = .ok (.iconst 0, 1) := by decide +kernel
theorem dX3_refresh_26 : decode cX3_refresh 26 = .ok (.istore_n 1, 1) := by decide +kernel
theorem dX3_refresh_27 : decode cX3_refresh 27 = .ok (.iload_n 1, 1) := by decide +kernel
theorem dX3_refresh_28 : decode cX3_refresh 28 = .ok (.bipush 16, 2) := by decide +kernel
theorem dX3_refresh_30 : decode cX3_refresh 30 = .ok (.if_icmp .ge 30, 3) := by decide +kernel
theorem dX3_refresh_33 : decode cX3_refresh 33 = .ok (.aload_n 0, 1) := by decide +kernel
theorem dX3_refresh_34 : decode cX3_refresh 34 = .ok (.getfield 9, 3) := by decide +kernel
theorem dX3_refresh_37 : decode cX3_refresh 37 = .ok (.bipush 15, 2) := by decide +kernel
theorem dX3_refresh_39 : decode cX3_refresh 39 = .ok (.iload_n 1, 1) := by decide +kernel
theorem dX3_refresh_40 : decode cX3_refresh 40 = .ok (.isub, 1) := by decide +kernel
theorem dX3_refresh_41 : decode cX3_refresh 41 = .ok (.aload_n 0, 1) := by decide +kernel
theorem dX3_refresh_42 : decode cX3_refresh 42 = .ok (.getfield 19, 3) := by decide +kernel
theorem dX3_refresh_45 : decode cX3_refresh 45 = .ok (.getfield 26, 3) := by decide +kernel
theorem dX3_refresh_48 : decode cX3_refresh 48 = .ok (.iload_n 1, 1) := by decide +kernel
theorem dX3_refresh_49 : decode cX3_refresh 49 = .ok (.iaload, 1) := by decide +kernel
theorem dX3_refresh_50 : decode cX3_refresh 50 = .ok (.invokestatic 29, 3) := by decide +kernel
theorem dX3_refresh_53 : decode cX3_refresh 53 = .ok (.iastore, 1) := by decide +kernel
theorem dX3_refresh_54 : decode cX3_refresh 54 = .ok (.iinc 1 1, 3) := by decide +kernel
theorem dX3_refresh_57 : decode cX3_refresh 57 = .ok (.goto (-30), 3) := by decide +kernel
theorem dX3_refresh_60 : decode cX3_refresh 60 = .ok (.aload_n 0, 1) := by decide +kernel
theorem dX3_refresh_61 : decode cX3_refresh 61 = .ok (.aload_n 0, 1) := by decide +kernel
theorem dX3_refresh_62 : decode cX3_refresh 62 = .ok (.ldc 33, 2) := by decide +kernel
theorem dX3_refresh_64 : decode cX3_refresh 64 = .ok (.iconst 0, 1) := by decide +kernel
theorem dX3_refresh_65 : decode cX3_refresh 65 = .ok (.invokevirtual 34, 3) := by decide +kernel
theorem dX3_refresh_68 : decode cX3_refresh 68 = .ok (.invokestatic 38, 3) := by decide +kernel
theorem dX3_refresh_71 : decode cX3_refresh 71 = .ok (.invokestatic 29, 3) := by decide +kernel
theorem dX3_refresh_74 : decode cX3_refresh 74 = .ok (.putfield 41, 3) := by decide +kernel
theorem dX3_refresh_77 : decode cX3_refresh 77 = .ok (.return_, 1) := by decide +kernel
theorem dX3_flip_0 : decode cX3_flip 0 = .ok (.iconst 0, 1) := by decide +kernel
theorem dX3_flip_1 : decode cX3_flip 1 = .ok (.istore_n 1, 1) := by decide +kernel
theorem dX3_flip_2 : decode cX3_flip 2 = .ok (.iconst 0, 1) := by decide +kernel
theorem dX3_flip_3 : decode cX3_flip 3 = .ok (.istore_n 2, 1) := by decide +kernel
theorem dX3_flip_4 : decode cX3_flip 4 = .ok (.iload_n 2, 1) := by decide +kernel
theorem dX3_flip_5 : decode cX3_flip 5 = .ok (.bipush 16, 2) := by decide +kernel
theorem dX3_flip_7 : decode cX3_flip 7 = .ok (.if_icmp .ge 19, 3) := by decide +kernel
theorem dX3_flip_10 : decode cX3_flip 10 = .ok (.iload_n 1, 1) := by decide +kernel
theorem dX3_flip_11 : decode cX3_flip 11 = .ok (.iconst 1, 1) := by decide +kernel
theorem dX3_flip_12 : decode cX3_flip 12 = .ok (.ishl, 1) := by decide +kernel
theorem dX3_flip_13 : decode cX3_flip 13 = .ok (.iload_n 0, 1) := by decide +kernel
theorem dX3_flip_14 : decode cX3_flip 14 = .ok (.iload_n 2, 1) := by decide +kernel
theorem dX3_flip_15 : decode cX3_flip 15 = .ok (.ishr, 1) := by decide +kernel
theorem dX3_flip_16 : decode cX3_flip 16 = .ok (.iconst 1, 1) := by decide +kernel
theorem dX3_flip_17 : decode cX3_flip 17 = .ok (.iand, 1) := by decide +kernel
theorem dX3_flip_18 : decode cX3_flip 18 = .ok (.ior, 1) := by decide +kernel
theorem dX3_flip_19 : decode cX3_flip 19 = .ok (.istore_n 1, 1) := by decide +kernel
theorem dX3_flip_20 : decode cX3_flip 20 = .ok (.iinc 2 1, 3) := by decide +kernel
theorem dX3_flip_23 : decode cX3_flip 23 = .ok (.goto (-19), 3) := by decide +kernel
theorem dX3_flip_26 : decode cX3_flip 26 = .ok (.iload_n 1, 1) := by decide +kernel
theorem dX3_flip_27 : decode cX3_flip 27 = .ok (.ireturn, 1) := by decide +kernel
set_option maxRecDepth 20000 in
theorem ggX3_priceOf_J6_bitCount_0f7a4 : GoodIn wsX3_priceOf wsJ6_bitCount_0f7a4 := goodIn_r _ [5, 6, 7, 8] rfl (by decide +kernel)
set_option maxRecDepth 20000 in
theorem gX3_priceOf_J6_bitCount_0f7a4 : GoodIn wsX3_priceOf (va_wsS RX3 44 yJ6_bitCount_0f7a4 wsJ6_bitCount_0f7a4) := goodIn_app (goodIn_of _ (by decide +kernel)) ggX3_priceOf_J6_bitCount_0f7a4
theorem dX3_priceOf_0 : decode cX3_priceOf 0 = .ok (.iload_n 0, 1) := by decide +kernel
theorem dX3_priceOf_1 : decode cX3_priceOf 1 = .ok (.invokestatic 44, 3) := by decide +kernel
theorem dX3_priceOf_4 : decode cX3_priceOf 4 = .ok (.ldc 49, 2) := by decide +kernel
theorem dX3_priceOf_6 : decode cX3_priceOf 6 = .ok (.imul, 1) := by decide +kernel
theorem dX3_priceOf_7 : decode cX3_priceOf 7 = .ok (.iload_n 0, 1) := by decide +kernel
theorem dX3_priceOf_8 : decode cX3_priceOf 8 = .ok (.isub, 1) := by decide +kernel
theorem dX3_priceOf_9 : decode cX3_priceOf 9 = .ok (.ireturn, 1) := by decide +kernel
theorem dX3_nodesOf_0 : decode cX3_nodesOf 0 = .ok (.iload_n 0, 1) := by decide +kernel
theorem dX3_nodesOf_1 : decode cX3_nodesOf 1 = .ok (.ineg, 1) := by decide +kernel
theorem dX3_nodesOf_2 : decode cX3_nodesOf 2 = .ok (.ldc 33, 2) := by decide +kernel
theorem dX3_nodesOf_4 : decode cX3_nodesOf 4 = .ok (.iand, 1) := by decide +kernel
theorem dX3_nodesOf_5 : decode cX3_nodesOf 5 = .ok (.ireturn, 1) := by decide +kernel
set_option maxRecDepth 20000 in
theorem ggX3_leastPrice_X3_busiestOf : GoodIn wsX3_leastPrice wsX3_busiestOf := goodIn_r _ [10, 1, 11, 12, 13, 14, 15, 16, 17, 18, 19, 20, 28, 29, 30, 31] rfl (by decide +kernel)
set_option maxRecDepth 20000 in
theorem gX3_leastPrice_X3_busiestOf : GoodIn wsX3_leastPrice (wsV RX3 50 RX3 yX3_busiestOf wsX3_busiestOf) := goodIn_app (goodIn_of _ (by decide +kernel)) ggX3_leastPrice_X3_busiestOf
set_option maxRecDepth 20000 in
theorem ggX3_leastPrice_X3_priceOf : GoodIn wsX3_leastPrice wsX3_priceOf := goodIn_r _ [23, 24, 14, 15, 16, 17, 18, 19, 20] rfl (by decide +kernel)
set_option maxRecDepth 20000 in
theorem gX3_leastPrice_X3_priceOf : GoodIn wsX3_leastPrice (va_wsS RX3 53 yX3_priceOf wsX3_priceOf) := goodIn_app (goodIn_of _ (by decide +kernel)) ggX3_leastPrice_X3_priceOf
set_option maxRecDepth 20000 in
theorem ggX3_leastPrice_X3_leastPrice : GoodIn wsX3_leastPrice wsX3_leastPrice := goodIn_r _ [0, 1, 2, 3, 4, 5, 6, 7, 8, 9, 10, 11, 12, 13, 14, 15, 16, 17, 18, 19, 20, 21, 22, 23, 24, 25, 26, 27, 28, 29, 30, 31] rfl (by decide +kernel)
set_option maxRecDepth 20000 in
theorem gX3_leastPrice_X3_leastPrice : GoodIn wsX3_leastPrice (wsV RX3 34 RX3 yX3_leastPrice wsX3_leastPrice) := goodIn_app (goodIn_of _ (by decide +kernel)) ggX3_leastPrice_X3_leastPrice
theorem dX3_leastPrice_0 : decode cX3_leastPrice 0 = .ok (.aload_n 0, 1) := by decide +kernel
theorem dX3_leastPrice_1 : decode cX3_leastPrice 1 = .ok (.iload_n 1, 1) := by decide +kernel
theorem dX3_leastPrice_2 : decode cX3_leastPrice 2 = .ok (.invokevirtual 50, 3) := by decide +kernel
theorem dX3_leastPrice_5 : decode cX3_leastPrice 5 = .ok (.istore_n 3, 1) := by decide +kernel
theorem dX3_leastPrice_6 : decode cX3_leastPrice 6 = .ok (.iload_n 2, 1) := by decide +kernel
theorem dX3_leastPrice_7 : decode cX3_leastPrice 7 = .ok (.bipush 16, 2) := by decide +kernel
theorem dX3_leastPrice_9 : decode cX3_leastPrice 9 = .ok (.if_icmp .gt 8, 3) := by decide +kernel
theorem dX3_leastPrice_12 : decode cX3_leastPrice 12 = .ok (.iload_n 3, 1) := by decide +kernel
theorem dX3_leastPrice_13 : decode cX3_leastPrice 13 = .ok (.iconst (-1), 1) := by decide +kernel
theorem dX3_leastPrice_14 : decode cX3_leastPrice 14 = .ok (.if_icmp .ne 5, 3) := by decide +kernel
theorem dX3_leastPrice_17 : decode cX3_leastPrice 17 = .ok (.iconst 0, 1) := by decide +kernel
theorem dX3_leastPrice_18 : decode cX3_leastPrice 18 = .ok (.ireturn, 1) := by decide +kernel
theorem dX3_leastPrice_19 : decode cX3_leastPrice 19 = .ok (.aload_n 0, 1) := by decide +kernel
theorem dX3_leastPrice_20 : decode cX3_leastPrice 20 = .ok (.getfield 9, 3) := by decide +kernel
theorem dX3_leastPrice_23 : decode cX3_leastPrice 23 = .ok (.iload_n 3, 1) := by decide +kernel
theorem dX3_leastPrice_24 : decode cX3_leastPrice 24 = .ok (.iaload, 1) := by decide +kernel
theorem dX3_leastPrice_25 : decode cX3_leastPrice 25 = .ok (.iload_n 1, 1) := by decide +kernel
theorem dX3_leastPrice_26 : decode cX3_leastPrice 26 = .ok (.iand, 1) := by decide +kernel
theorem dX3_leastPrice_27 : decode cX3_leastPrice 27 = .ok (.istore 4, 2) := by decide +kernel
theorem dX3_leastPrice_29 : decode cX3_leastPrice 29 = .ok (.iload_n 1, 1) := by decide +kernel
theorem dX3_leastPrice_30 : decode cX3_leastPrice 30 = .ok (.iconst 1, 1) := by decide +kernel
theorem dX3_leastPrice_31 : decode cX3_leastPrice 31 = .ok (.iload_n 3, 1) := by decide +kernel
theorem dX3_leastPrice_32 : decode cX3_leastPrice 32 = .ok (.ishl, 1) := by decide +kernel
theorem dX3_leastPrice_33 : decode cX3_leastPrice 33 = .ok (.iconst (-1), 1) := by decide +kernel
theorem dX3_leastPrice_34 : decode cX3_leastPrice 34 = .ok (.ixor, 1) := by decide +kernel
theorem dX3_leastPrice_35 : decode cX3_leastPrice 35 = .ok (.iand, 1) := by decide +kernel
theorem dX3_leastPrice_36 : decode cX3_leastPrice 36 = .ok (.istore 5, 2) := by decide +kernel
theorem dX3_leastPrice_38 : decode cX3_leastPrice 38 = .ok (.iconst 1, 1) := by decide +kernel
theorem dX3_leastPrice_39 : decode cX3_leastPrice 39 = .ok (.iload_n 3, 1) := by decide +kernel
theorem dX3_leastPrice_40 : decode cX3_leastPrice 40 = .ok (.ishl, 1) := by decide +kernel
theorem dX3_leastPrice_41 : decode cX3_leastPrice 41 = .ok (.invokestatic 53, 3) := by decide +kernel
theorem dX3_leastPrice_44 : decode cX3_leastPrice 44 = .ok (.aload_n 0, 1) := by decide +kernel
theorem dX3_leastPrice_45 : decode cX3_leastPrice 45 = .ok (.iload 5, 2) := by decide +kernel
theorem dX3_leastPrice_47 : decode cX3_leastPrice 47 = .ok (.iload_n 2, 1) := by decide +kernel
theorem dX3_leastPrice_48 : decode cX3_leastPrice 48 = .ok (.iconst 1, 1) := by decide +kernel
theorem dX3_leastPrice_49 : decode cX3_leastPrice 49 = .ok (.iadd, 1) := by decide +kernel
theorem dX3_leastPrice_50 : decode cX3_leastPrice 50 = .ok (.invokevirtual 34, 3) := by decide +kernel
theorem dX3_leastPrice_53 : decode cX3_leastPrice 53 = .ok (.iadd, 1) := by decide +kernel
theorem dX3_leastPrice_54 : decode cX3_leastPrice 54 = .ok (.istore 6, 2) := by decide +kernel
theorem dX3_leastPrice_56 : decode cX3_leastPrice 56 = .ok (.iload 4, 2) := by decide +kernel
theorem dX3_leastPrice_58 : decode cX3_leastPrice 58 = .ok (.invokestatic 53, 3) := by decide +kernel
theorem dX3_leastPrice_61 : decode cX3_leastPrice 61 = .ok (.aload_n 0, 1) := by decide +kernel
theorem dX3_leastPrice_62 : decode cX3_leastPrice 62 = .ok (.iload 5, 2) := by decide +kernel
theorem dX3_leastPrice_64 : decode cX3_leastPrice 64 = .ok (.iload 4, 2) := by decide +kernel
theorem dX3_leastPrice_66 : decode cX3_leastPrice 66 = .ok (.iconst (-1), 1) := by decide +kernel
theorem dX3_leastPrice_67 : decode cX3_leastPrice 67 = .ok (.ixor, 1) := by decide +kernel
theorem dX3_leastPrice_68 : decode cX3_leastPrice 68 = .ok (.iand, 1) := by decide +kernel
theorem dX3_leastPrice_69 : decode cX3_leastPrice 69 = .ok (.iload_n 2, 1) := by decide +kernel
theorem dX3_leastPrice_70 : decode cX3_leastPrice 70 = .ok (.iconst 1, 1) := by decide +kernel
theorem dX3_leastPrice_71 : decode cX3_leastPrice 71 = .ok (.iadd, 1) := by decide +kernel
theorem dX3_leastPrice_72 : decode cX3_leastPrice 72 = .ok (.invokevirtual 34, 3) := by decide +kernel
theorem dX3_leastPrice_75 : decode cX3_leastPrice 75 = .ok (.iadd, 1) := by decide +kernel
theorem dX3_leastPrice_76 : decode cX3_leastPrice 76 = .ok (.istore 7, 2) := by decide +kernel
theorem dX3_leastPrice_78 : decode cX3_leastPrice 78 = .ok (.iload 6, 2) := by decide +kernel
theorem dX3_leastPrice_80 : decode cX3_leastPrice 80 = .ok (.iload 7, 2) := by decide +kernel
theorem dX3_leastPrice_82 : decode cX3_leastPrice 82 = .ok (.invokestatic 56, 3) := by decide +kernel
theorem dX3_leastPrice_85 : decode cX3_leastPrice 85 = .ok (.ireturn, 1) := by decide +kernel
set_option maxRecDepth 20000 in
theorem ggX3_busiestOf_X11_has : GoodIn wsX3_busiestOf wsX11_has := goodIn_r _ [4] rfl (by decide +kernel)
set_option maxRecDepth 20000 in
theorem gX3_busiestOf_X11_has_n61 : GoodIn wsX3_busiestOf (wsX11_has) := ggX3_busiestOf_X11_has
set_option maxRecDepth 20000 in
theorem ggX3_busiestOf_J6_bitCount_0f7a4 : GoodIn wsX3_busiestOf wsJ6_bitCount_0f7a4 := goodIn_r _ [8, 9, 10, 11] rfl (by decide +kernel)
set_option maxRecDepth 20000 in
theorem gX3_busiestOf_J6_bitCount_0f7a4 : GoodIn wsX3_busiestOf (va_wsS RX3 44 yJ6_bitCount_0f7a4 wsJ6_bitCount_0f7a4) := goodIn_app (goodIn_of _ (by decide +kernel)) ggX3_busiestOf_J6_bitCount_0f7a4
theorem dX3_busiestOf_0 : decode cX3_busiestOf 0 = .ok (.iconst (-1), 1) := by decide +kernel
theorem dX3_busiestOf_1 : decode cX3_busiestOf 1 = .ok (.istore_n 2, 1) := by decide +kernel
theorem dX3_busiestOf_2 : decode cX3_busiestOf 2 = .ok (.iconst 0, 1) := by decide +kernel
theorem dX3_busiestOf_3 : decode cX3_busiestOf 3 = .ok (.istore_n 3, 1) := by decide +kernel
theorem dX3_busiestOf_4 : decode cX3_busiestOf 4 = .ok (.iconst 0, 1) := by decide +kernel
theorem dX3_busiestOf_5 : decode cX3_busiestOf 5 = .ok (.istore 4, 2) := by decide +kernel
theorem dX3_busiestOf_7 : decode cX3_busiestOf 7 = .ok (.iload 4, 2) := by decide +kernel
theorem dX3_busiestOf_9 : decode cX3_busiestOf 9 = .ok (.bipush 16, 2) := by decide +kernel
theorem dX3_busiestOf_11 : decode cX3_busiestOf 11 = .ok (.if_icmp .ge 48, 3) := by decide +kernel
theorem dX3_busiestOf_14 : decode cX3_busiestOf 14 = .ok (.iload_n 1, 1) := by decide +kernel
theorem dX3_busiestOf_15 : decode cX3_busiestOf 15 = .ok (.iload 4, 2) := by decide +kernel
theorem dX3_busiestOf_17 : decode cX3_busiestOf 17 = .ok (.invokestatic 61, 3) := by decide +kernel
theorem dX3_busiestOf_20 : decode cX3_busiestOf 20 = .ok (.ifCond .eq 18, 3) := by decide +kernel
theorem dX3_busiestOf_23 : decode cX3_busiestOf 23 = .ok (.aload_n 0, 1) := by decide +kernel
theorem dX3_busiestOf_24 : decode cX3_busiestOf 24 = .ok (.getfield 9, 3) := by decide +kernel
theorem dX3_busiestOf_27 : decode cX3_busiestOf 27 = .ok (.iload 4, 2) := by decide +kernel
theorem dX3_busiestOf_29 : decode cX3_busiestOf 29 = .ok (.iaload, 1) := by decide +kernel
theorem dX3_busiestOf_30 : decode cX3_busiestOf 30 = .ok (.iload_n 1, 1) := by decide +kernel
theorem dX3_busiestOf_31 : decode cX3_busiestOf 31 = .ok (.iand, 1) := by decide +kernel
theorem dX3_busiestOf_32 : decode cX3_busiestOf 32 = .ok (.invokestatic 44, 3) := by decide +kernel
theorem dX3_busiestOf_35 : decode cX3_busiestOf 35 = .ok (.goto 4, 3) := by decide +kernel
theorem dX3_busiestOf_38 : decode cX3_busiestOf 38 = .ok (.iconst 0, 1) := by decide +kernel
theorem dX3_busiestOf_39 : decode cX3_busiestOf 39 = .ok (.istore 5, 2) := by decide +kernel
theorem dX3_busiestOf_41 : decode cX3_busiestOf 41 = .ok (.iload 5, 2) := by decide +kernel
theorem dX3_busiestOf_43 : decode cX3_busiestOf 43 = .ok (.iload_n 3, 1) := by decide +kernel
theorem dX3_busiestOf_44 : decode cX3_busiestOf 44 = .ok (.if_icmp .le 9, 3) := by decide +kernel
theorem dX3_busiestOf_47 : decode cX3_busiestOf 47 = .ok (.iload 5, 2) := by decide +kernel
theorem dX3_busiestOf_49 : decode cX3_busiestOf 49 = .ok (.istore_n 3, 1) := by decide +kernel
theorem dX3_busiestOf_50 : decode cX3_busiestOf 50 = .ok (.iload 4, 2) := by decide +kernel
theorem dX3_busiestOf_52 : decode cX3_busiestOf 52 = .ok (.istore_n 2, 1) := by decide +kernel
theorem dX3_busiestOf_53 : decode cX3_busiestOf 53 = .ok (.iinc 4 1, 3) := by decide +kernel
theorem dX3_busiestOf_56 : decode cX3_busiestOf 56 = .ok (.goto (-49), 3) := by decide +kernel
theorem dX3_busiestOf_59 : decode cX3_busiestOf 59 = .ok (.iload_n 2, 1) := by decide +kernel
theorem dX3_busiestOf_60 : decode cX3_busiestOf 60 = .ok (.ireturn, 1) := by decide +kernel
set_option maxRecDepth 20000 in
theorem ggX4_init_X0_init : GoodIn wsX4_init wsX0_init := goodIn_r _ [13, 14, 2, 3, 15, 16, 17, 18, 8, 19, 20, 21, 22, 23, 24, 25, 26, 27, 28, 29, 30, 31, 44, 45, 46, 47, 48, 49, 50, 32, 33, 34, 35, 36] rfl (by decide +kernel)
set_option maxRecDepth 20000 in
theorem gX4_init_X0_init_n11 : GoodIn wsX4_init (wsX0_init) := ggX4_init_X0_init
theorem dX4_init_0 : decode cX4_init 0 = .ok (.aload_n 0, 1) := by decide +kernel
theorem dX4_init_1 : decode cX4_init 1 = .ok (.invokespecial 3, 3) := by decide +kernel
theorem dX4_init_4 : decode cX4_init 4 = .ok (.aload_n 0, 1) := by decide +kernel
theorem dX4_init_5 : decode cX4_init 5 = .ok (.new 9, 3) := by decide +kernel
theorem dX4_init_8 : decode cX4_init 8 = .ok (.dup, 1) := by decide +kernel
theorem dX4_init_9 : decode cX4_init 9 = .ok (.invokespecial 11, 3) := by decide +kernel
theorem dX4_init_12 : decode cX4_init 12 = .ok (.putfield 12, 3) := by decide +kernel
theorem dX4_init_15 : decode cX4_init 15 = .ok (.aload_n 0, 1) := by decide +kernel
theorem dX4_init_16 : decode cX4_init 16 = .ok (.bipush 16, 2) := by decide +kernel
theorem dX4_init_18 : decode cX4_init 18 = .ok (.newarray .int, 2) := by decide +kernel
theorem dX4_init_20 : decode cX4_init 20 = .ok (.putfield 18, 3) := by decide +kernel
theorem dX4_init_23 : decode cX4_init 23 = .ok (.aload_n 0, 1) := by decide +kernel
theorem dX4_init_24 : decode cX4_init 24 = .ok (.iconst (-1), 1) := by decide +kernel
theorem dX4_init_25 : decode cX4_init 25 = .ok (.putfield 22, 3) := by decide +kernel
theorem dX4_init_28 : decode cX4_init 28 = .ok (.aload_n 0, 1) := by decide +kernel
theorem dX4_init_29 : decode cX4_init 29 = .ok (.aload_n 1, 1) := by decide +kernel
theorem dX4_init_30 : decode cX4_init 30 = .ok (.putfield 26, 3) := by decide +kernel
theorem dX4_init_33 : decode cX4_init 33 = .ok (.return_, 1) := by decide +kernel
theorem dX4_refresh_0 : decode cX4_refresh 0 = .ok (.aload_n 0, 1) := by decide +kernel
theorem dX4_refresh_1 : decode cX4_refresh 1 = .ok (.getfield 22, 3) := by decide +kernel
theorem dX4_refresh_4 : decode cX4_refresh 4 = .ok (.aload_n 0, 1) := by decide +kernel
theorem dX4_refresh_5 : decode cX4_refresh 5 = .ok (.getfield 26, 3) := by decide +kernel
theorem dX4_refresh_8 : decode cX4_refresh 8 = .ok (.getfield 30, 3) := by decide +kernel
theorem dX4_refresh_11 : decode cX4_refresh 11 = .ok (.if_icmp .eq 24, 3) := by decide +kernel
theorem dX4_refresh_14 : decode cX4_refresh 14 = .ok (.aload_n 0, 1) := by decide +kernel
theorem dX4_refresh_15 : decode cX4_refresh 15 = .ok (.aload_n 0, 1) := by decide +kernel
theorem dX4_refresh_16 : decode cX4_refresh 16 = .ok (.getfield 26, 3) := by decide +kernel
theorem dX4_refresh_19 : decode cX4_refresh 19 = .ok (.getfield 30, 3) := by decide +kernel
theorem dX4_refresh_22 : decode cX4_refresh 22 = .ok (.putfield 22, 3) := by decide +kernel
theorem dX4_refresh_25 : decode cX4_refresh 25 = .ok (.aload_n 0, 1) := by decide +kernel
theorem dX4_refresh_26 : decode cX4_refresh 26 = .ok (.iconst 0, 1) := by decide +kernel
theorem dX4_refresh_27 : decode cX4_refresh 27 = .ok (.putfield 33, 3) := by decide +kernel
theorem dX4_refresh_30 : decode cX4_refresh 30 = .ok (.aload_n 0, 1) := by decide +kernel
theorem dX4_refresh_31 : decode cX4_refresh 31 = .ok (.iconst 0, 1) := by decide +kernel
theorem dX4_refresh_32 : decode cX4_refresh 32 = .ok (.putfield 37, 3) := by decide +kernel
theorem dX4_refresh_35 : decode cX4_refresh 35 = .ok (.return_, 1) := by decide +kernel
set_option maxRecDepth 20000 in
theorem ggX4_tell_X4_findPaths : GoodIn wsX4_tell wsX4_findPaths := goodIn_r _ [9, 10, 1, 11, 12, 13, 14, 15, 16, 17, 18, 19, 20, 21, 22, 23, 24, 25, 26, 27, 28, 29, 30, 31, 32, 33, 34, 35, 36, 37, 38, 39, 8, 40, 41, 42, 43, 44, 45, 46, 47, 48, 2, 128, 129, 130, 131, 132, 133, 134, 140, 141, 142, 143, 144, 145, 146, 147, 148, 135, 136, 137, 138, 139] rfl (by decide +kernel)
set_option maxRecDepth 20000 in
theorem gX4_tell_X4_findPaths : GoodIn wsX4_tell (wsV RX4 40 RX4 yX4_findPaths wsX4_findPaths) := goodIn_app (goodIn_of _ (by decide +kernel)) ggX4_tell_X4_findPaths
set_option maxRecDepth 20000 in
theorem ggX4_tell_X7_build : GoodIn wsX4_tell wsX7_build := goodIn_r _ [53, 54, 55, 56, 57, 58, 52, 59, 60, 61, 62, 29, 63, 35, 36, 64, 65, 66, 67, 68, 69, 70, 71, 72, 73, 74, 75, 76, 77, 78, 79, 80, 81, 82, 83, 84, 85, 86, 87, 88, 89, 90, 91, 92, 149, 150, 151, 152, 153, 154, 155] rfl (by decide +kernel)
set_option maxRecDepth 20000 in
theorem gX4_tell_X7_build : GoodIn wsX4_tell (wsV RX4 47 RX7 yX7_build wsX7_build) := goodIn_app (goodIn_of _ (by decide +kernel)) ggX4_tell_X7_build
set_option maxRecDepth 20000 in
theorem ggX4_tell_X0_choose : GoodIn wsX4_tell wsX0_choose := goodIn_r _ [96, 97, 98, 99, 19, 100, 101, 102, 16, 103, 18, 20, 76, 29, 77, 78, 79, 80, 81, 82, 83, 84, 104, 105, 106, 107, 108, 69, 70, 52, 71, 72, 73, 55, 74, 75, 109, 110, 111, 112, 113, 114, 115, 116, 62, 63, 35, 36, 117, 118, 119, 135, 136, 137, 138, 139, 149, 150, 151, 152, 153, 154, 155] rfl (by decide +kernel)
set_option maxRecDepth 20000 in
theorem gX4_tell_X0_choose : GoodIn wsX4_tell (wsV RX4 53 RX0 yX0_choose wsX0_choose) := goodIn_app (goodIn_of _ (by decide +kernel)) ggX4_tell_X0_choose
set_option maxRecDepth 20000 in
theorem ggX4_tell_X0_found : GoodIn wsX4_tell wsX0_found := goodIn_r _ [123, 97, 99, 19, 135, 136, 137, 138, 139, 149, 150, 151, 152, 153, 154, 155] rfl (by decide +kernel)
set_option maxRecDepth 20000 in
theorem gX4_tell_X0_found : GoodIn wsX4_tell (wsV RX4 57 RX0 yX0_found wsX0_found) := goodIn_app (goodIn_of _ (by decide +kernel)) ggX4_tell_X0_found
set_option maxRecDepth 20000 in
theorem ggX4_tell_X0_chosen : GoodIn wsX4_tell wsX0_chosen := goodIn_r _ [127, 97, 98, 135, 136, 137, 138, 139, 149, 150, 151, 152, 153, 154, 155] rfl (by decide +kernel)
set_option maxRecDepth 20000 in
theorem gX4_tell_X0_chosen : GoodIn wsX4_tell (wsV RX4 61 RX0 yX0_chosen wsX0_chosen) := goodIn_app (goodIn_of _ (by decide +kernel)) ggX4_tell_X0_chosen
theorem dX4_tell_0 : decode cX4_tell 0 = .ok (.aload_n 0, 1) := by decide +kernel
theorem dX4_tell_1 : decode cX4_tell 1 = .ok (.invokevirtual 40, 3) := by decide +kernel
theorem dX4_tell_4 : decode cX4_tell 4 = .ok (.aload_n 0, 1) := by decide +kernel
theorem dX4_tell_5 : decode cX4_tell 5 = .ok (.getfield 12, 3) := by decide +kernel
theorem dX4_tell_8 : decode cX4_tell 8 = .ok (.getfield 43, 3) := by decide +kernel
theorem dX4_tell_11 : decode cX4_tell 11 = .ok (.iload_n 1, 1) := by decide +kernel
theorem dX4_tell_12 : decode cX4_tell 12 = .ok (.aload_n 0, 1) := by decide +kernel
theorem dX4_tell_13 : decode cX4_tell 13 = .ok (.getfield 18, 3) := by decide +kernel
theorem dX4_tell_16 : decode cX4_tell 16 = .ok (.iconst 0, 1) := by decide +kernel
theorem dX4_tell_17 : decode cX4_tell 17 = .ok (.invokevirtual 47, 3) := by decide +kernel
theorem dX4_tell_20 : decode cX4_tell 20 = .ok (.aload_n 0, 1) := by decide +kernel
theorem dX4_tell_21 : decode cX4_tell 21 = .ok (.getfield 12, 3) := by decide +kernel
theorem dX4_tell_24 : decode cX4_tell 24 = .ok (.iconst 1, 1) := by decide +kernel
theorem dX4_tell_25 : decode cX4_tell 25 = .ok (.invokevirtual 53, 3) := by decide +kernel
theorem dX4_tell_28 : decode cX4_tell 28 = .ok (.aload_n 0, 1) := by decide +kernel
theorem dX4_tell_29 : decode cX4_tell 29 = .ok (.getfield 12, 3) := by decide +kernel
theorem dX4_tell_32 : decode cX4_tell 32 = .ok (.invokevirtual 57, 3) := by decide +kernel
theorem dX4_tell_35 : decode cX4_tell 35 = .ok (.ifCond .ne 5, 3) := by decide +kernel
theorem dX4_tell_38 : decode cX4_tell 38 = .ok (.iconst 0, 1) := by decide +kernel
theorem dX4_tell_39 : decode cX4_tell 39 = .ok (.ireturn, 1) := by decide +kernel
theorem dX4_tell_40 : decode cX4_tell 40 = .ok (.aload_n 0, 1) := by decide +kernel
theorem dX4_tell_41 : decode cX4_tell 41 = .ok (.iconst 1, 1) := by decide +kernel
theorem dX4_tell_42 : decode cX4_tell 42 = .ok (.putfield 33, 3) := by decide +kernel
theorem dX4_tell_45 : decode cX4_tell 45 = .ok (.aload_n 0, 1) := by decide +kernel
theorem dX4_tell_46 : decode cX4_tell 46 = .ok (.aload_n 0, 1) := by decide +kernel
theorem dX4_tell_47 : decode cX4_tell 47 = .ok (.getfield 12, 3) := by decide +kernel
theorem dX4_tell_50 : decode cX4_tell 50 = .ok (.invokevirtual 61, 3) := by decide +kernel
theorem dX4_tell_53 : decode cX4_tell 53 = .ok (.putfield 65, 3) := by decide +kernel
theorem dX4_tell_56 : decode cX4_tell 56 = .ok (.iconst 1, 1) := by decide +kernel
theorem dX4_tell_57 : decode cX4_tell 57 = .ok (.ireturn, 1) := by decide +kernel
set_option maxRecDepth 20000 in
theorem ggX4_findPaths_X0_forgetOffers : GoodIn wsX4_findPaths wsX0_forgetOffers := goodIn_r _ [9, 10, 11, 12, 13, 14, 15, 16, 17, 18, 19, 59, 60, 61, 62, 63] rfl (by decide +kernel)
set_option maxRecDepth 20000 in
theorem gX4_findPaths_X0_forgetOffers : GoodIn wsX4_findPaths (wsV RX4 69 RX0 yX0_forgetOffers wsX0_forgetOffers) := goodIn_app (goodIn_of _ (by decide +kernel)) ggX4_findPaths_X0_forgetOffers
set_option maxRecDepth 20000 in
theorem ggX4_findPaths_X11_markOf : GoodIn wsX4_findPaths wsX11_markOf := goodIn_r _ [22] rfl (by decide +kernel)
set_option maxRecDepth 20000 in
theorem gX4_findPaths_X11_markOf_n88 : GoodIn wsX4_findPaths (wsX11_markOf) := ggX4_findPaths_X11_markOf
set_option maxRecDepth 20000 in
theorem ggX4_findPaths_X0_offer : GoodIn wsX4_findPaths wsX0_offer := goodIn_r _ [26, 10, 12, 27, 21, 28, 59, 60, 61, 62, 63] rfl (by decide +kernel)
set_option maxRecDepth 20000 in
theorem gX4_findPaths_X0_offer : GoodIn wsX4_findPaths (wsV RX4 92 RX0 yX0_offer wsX0_offer) := goodIn_app (goodIn_of _ (by decide +kernel)) ggX4_findPaths_X0_offer
set_option maxRecDepth 20000 in
theorem ggX4_findPaths_X11_cell : GoodIn wsX4_findPaths wsX11_cell := goodIn_r _ [28] rfl (by decide +kernel)
set_option maxRecDepth 20000 in
theorem gX4_findPaths_X11_cell_n102 : GoodIn wsX4_findPaths (wsX11_cell) := ggX4_findPaths_X11_cell
set_option maxRecDepth 20000 in
theorem ggX4_findPaths_X4_lengthen : GoodIn wsX4_findPaths wsX4_lengthen := goodIn_r _ [33, 2, 3, 4, 27, 21, 28, 34, 35, 36, 32, 37, 43, 44, 45, 46, 47, 48, 49, 59, 60, 61, 62, 63, 50, 51, 52, 53, 54, 55, 56, 57, 58] rfl (by decide +kernel)
set_option maxRecDepth 20000 in
theorem gX4_findPaths_X4_lengthen : GoodIn wsX4_findPaths (wsV RX4 107 RX4 yX4_lengthen wsX4_lengthen) := goodIn_app (goodIn_of _ (by decide +kernel)) ggX4_findPaths_X4_lengthen
set_option maxRecDepth 20000 in
theorem ggX4_findPaths_X4_findReached : GoodIn wsX4_findPaths wsX4_findReached := goodIn_r _ [41, 42, 2, 4, 27, 21, 28, 43, 44, 45, 46, 47, 48, 49, 59, 60, 61, 62, 63] rfl (by decide +kernel)
set_option maxRecDepth 20000 in
theorem gX4_findPaths_X4_findReached : GoodIn wsX4_findPaths (wsV RX4 111 RX4 yX4_findReached wsX4_findReached) := goodIn_app (goodIn_of _ (by decide +kernel)) ggX4_findPaths_X4_findReached
theorem dX4_findPaths_0 : decode cX4_findPaths 0 = .ok (.aload_n 0, 1) := by decide +kernel
theorem dX4_findPaths_1 : decode cX4_findPaths 1 = .ok (.getfield 37, 3) := by decide +kernel
theorem dX4_findPaths_4 : decode cX4_findPaths 4 = .ok (.ifCond .eq 4, 3) := by decide +kernel
theorem dX4_findPaths_7 : decode cX4_findPaths 7 = .ok (.return_, 1) := by decide +kernel
theorem dX4_findPaths_8 : decode cX4_findPaths 8 = .ok (.aload_n 0, 1) := by decide +kernel
theorem dX4_findPaths_9 : decode cX4_findPaths 9 = .ok (.iconst 1, 1) := by decide +kernel
theorem dX4_findPaths_10 : decode cX4_findPaths 10 = .ok (.putfield 37, 3) := by decide +kernel
theorem dX4_findPaths_13 : decode cX4_findPaths 13 = .ok (.aload_n 0, 1) := by decide +kernel
theorem dX4_findPaths_14 : decode cX4_findPaths 14 = .ok (.getfield 12, 3) := by decide +kernel
theorem dX4_findPaths_17 : decode cX4_findPaths 17 = .ok (.invokevirtual 69, 3) := by decide +kernel
theorem dX4_findPaths_20 : decode cX4_findPaths 20 = .ok (.iconst 0, 1) := by decide +kernel
