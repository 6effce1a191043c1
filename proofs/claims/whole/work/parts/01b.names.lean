theorem dX0_init_0 : decode cX0_init 0 = .ok (.aload_n 0, 1) := by decide +kernel
theorem dX0_init_1 : decode cX0_init 1 = .ok (.invokespecial 3, 3) := by decide +kernel
theorem dX0_init_4 : decode cX0_init 4 = .ok (.aload_n 0, 1) := by decide +kernel
theorem dX0_init_5 : decode cX0_init 5 = .ok (.iconst 0, 1) := by decide +kernel
theorem dX0_init_6 : decode cX0_init 6 = .ok (.putfield 9, 3) := by decide +kernel
theorem dX0_init_9 : decode cX0_init 9 = .ok (.aload_n 0, 1) := by decide +kernel
theorem dX0_init_10 : decode cX0_init 10 = .ok (.iconst (-1), 1) := by decide +kernel
theorem dX0_init_11 : decode cX0_init 11 = .ok (.putfield 15, 3) := by decide +kernel
theorem dX0_init_14 : decode cX0_init 14 = .ok (.aload_n 0, 1) := by decide +kernel
theorem dX0_init_15 : decode cX0_init 15 = .ok (.iconst 0, 1) := by decide +kernel
theorem dX0_init_16 : decode cX0_init 16 = .ok (.putfield 18, 3) := by decide +kernel
theorem dX0_init_19 : decode cX0_init 19 = .ok (.aload_n 0, 1) := by decide +kernel
theorem dX0_init_20 : decode cX0_init 20 = .ok (.iconst 0, 1) := by decide +kernel
theorem dX0_init_21 : decode cX0_init 21 = .ok (.putfield 21, 3) := by decide +kernel
theorem dX0_init_24 : decode cX0_init 24 = .ok (.aload_n 0, 1) := by decide +kernel
theorem dX0_init_25 : decode cX0_init 25 = .ok (.iconst 0, 1) := by decide +kernel
theorem dX0_init_26 : decode cX0_init 26 = .ok (.putfield 24, 3) := by decide +kernel
theorem dX0_init_29 : decode cX0_init 29 = .ok (.aload_n 0, 1) := by decide +kernel
theorem dX0_init_30 : decode cX0_init 30 = .ok (.aconst_null, 1) := by decide +kernel
theorem dX0_init_31 : decode cX0_init 31 = .ok (.putfield 27, 3) := by decide +kernel
theorem dX0_init_34 : decode cX0_init 34 = .ok (.aload_n 0, 1) := by decide +kernel
theorem dX0_init_35 : decode cX0_init 35 = .ok (.iload_n 1, 1) := by decide +kernel
theorem dX0_init_36 : decode cX0_init 36 = .ok (.putfield 31, 3) := by decide +kernel
theorem dX0_init_39 : decode cX0_init 39 = .ok (.aload_n 0, 1) := by decide +kernel
theorem dX0_init_40 : decode cX0_init 40 = .ok (.aload_n 2, 1) := by decide +kernel
theorem dX0_init_41 : decode cX0_init 41 = .ok (.putfield 34, 3) := by decide +kernel
theorem dX0_init_44 : decode cX0_init 44 = .ok (.aload_n 0, 1) := by decide +kernel
theorem dX0_init_45 : decode cX0_init 45 = .ok (.iload_n 3, 1) := by decide +kernel
theorem dX0_init_46 : decode cX0_init 46 = .ok (.putfield 38, 3) := by decide +kernel
theorem dX0_init_49 : decode cX0_init 49 = .ok (.aload_n 0, 1) := by decide +kernel
theorem dX0_init_50 : decode cX0_init 50 = .ok (.iload 4, 2) := by decide +kernel
theorem dX0_init_52 : decode cX0_init 52 = .ok (.putfield 41, 3) := by decide +kernel
theorem dX0_init_55 : decode cX0_init 55 = .ok (.aload_n 0, 1) := by decide +kernel
theorem dX0_init_56 : decode cX0_init 56 = .ok (.iload 5, 2) := by decide +kernel
theorem dX0_init_58 : decode cX0_init 58 = .ok (.putfield 44, 3) := by decide +kernel
theorem dX0_init_61 : decode cX0_init 61 = .ok (.return_, 1) := by decide +kernel
theorem dX1_init_0 : decode cX1_init 0 = .ok (.aload_n 0, 1) := by decide +kernel
theorem dX1_init_1 : decode cX1_init 1 = .ok (.invokespecial 1, 3) := by decide +kernel
theorem dX1_init_4 : decode cX1_init 4 = .ok (.aload_n 0, 1) := by decide +kernel
theorem dX1_init_5 : decode cX1_init 5 = .ok (.iconst 0, 1) := by decide +kernel
theorem dX1_init_6 : decode cX1_init 6 = .ok (.putfield 9, 3) := by decide +kernel
theorem dX1_init_9 : decode cX1_init 9 = .ok (.aload_n 0, 1) := by decide +kernel
theorem dX1_init_10 : decode cX1_init 10 = .ok (.iconst 0, 1) := by decide +kernel
theorem dX1_init_11 : decode cX1_init 11 = .ok (.putfield 13, 3) := by decide +kernel
theorem dX1_init_14 : decode cX1_init 14 = .ok (.aload_n 0, 1) := by decide +kernel
theorem dX1_init_15 : decode cX1_init 15 = .ok (.iconst 0, 1) := by decide +kernel
theorem dX1_init_16 : decode cX1_init 16 = .ok (.putfield 16, 3) := by decide +kernel
theorem dX1_init_19 : decode cX1_init 19 = .ok (.aload_n 0, 1) := by decide +kernel
theorem dX1_init_20 : decode cX1_init 20 = .ok (.iconst 0, 1) := by decide +kernel
theorem dX1_init_21 : decode cX1_init 21 = .ok (.putfield 19, 3) := by decide +kernel
theorem dX1_init_24 : decode cX1_init 24 = .ok (.aload_n 0, 1) := by decide +kernel
theorem dX1_init_25 : decode cX1_init 25 = .ok (.aconst_null, 1) := by decide +kernel
theorem dX1_init_26 : decode cX1_init 26 = .ok (.putfield 22, 3) := by decide +kernel
theorem dX1_init_29 : decode cX1_init 29 = .ok (.aload_n 0, 1) := by decide +kernel
theorem dX1_init_30 : decode cX1_init 30 = .ok (.iload_n 1, 1) := by decide +kernel
theorem dX1_init_31 : decode cX1_init 31 = .ok (.putfield 26, 3) := by decide +kernel
theorem dX1_init_34 : decode cX1_init 34 = .ok (.return_, 1) := by decide +kernel
theorem dX1_canBegin_0 : decode cX1_canBegin 0 = .ok (.aload_n 0, 1) := by decide +kernel
theorem dX1_canBegin_1 : decode cX1_canBegin 1 = .ok (.getfield 9, 3) := by decide +kernel
theorem dX1_canBegin_4 : decode cX1_canBegin 4 = .ok (.ifCond .ne 14, 3) := by decide +kernel
theorem dX1_canBegin_7 : decode cX1_canBegin 7 = .ok (.aload_n 0, 1) := by decide +kernel
theorem dX1_canBegin_8 : decode cX1_canBegin 8 = .ok (.getfield 19, 3) := by decide +kernel
theorem dX1_canBegin_11 : decode cX1_canBegin 11 = .ok (.ifCond .ne 7, 3) := by decide +kernel
theorem dX1_canBegin_14 : decode cX1_canBegin 14 = .ok (.iconst 1, 1) := by decide +kernel
theorem dX1_canBegin_15 : decode cX1_canBegin 15 = .ok (.goto 4, 3) := by decide +kernel
theorem dX1_canBegin_18 : decode cX1_canBegin 18 = .ok (.iconst 0, 1) := by decide +kernel
theorem dX1_canBegin_19 : decode cX1_canBegin 19 = .ok (.ireturn, 1) := by decide +kernel
theorem dX1_begin_0 : decode cX1_begin 0 = .ok (.aload_n 0, 1) := by decide +kernel
theorem dX1_begin_1 : decode cX1_begin 1 = .ok (.iload_n 1, 1) := by decide +kernel
theorem dX1_begin_2 : decode cX1_begin 2 = .ok (.putfield 9, 3) := by decide +kernel
theorem dX1_begin_5 : decode cX1_begin 5 = .ok (.aload_n 0, 1) := by decide +kernel
theorem dX1_begin_6 : decode cX1_begin 6 = .ok (.iload_n 2, 1) := by decide +kernel
theorem dX1_begin_7 : decode cX1_begin 7 = .ok (.putfield 13, 3) := by decide +kernel
theorem dX1_begin_10 : decode cX1_begin 10 = .ok (.return_, 1) := by decide +kernel
theorem dX1_becomeFree_0 : decode cX1_becomeFree 0 = .ok (.aload_n 0, 1) := by decide +kernel
theorem dX1_becomeFree_1 : decode cX1_becomeFree 1 = .ok (.iconst 0, 1) := by decide +kernel
theorem dX1_becomeFree_2 : decode cX1_becomeFree 2 = .ok (.putfield 9, 3) := by decide +kernel
theorem dX1_becomeFree_5 : decode cX1_becomeFree 5 = .ok (.aload_n 0, 1) := by decide +kernel
theorem dX1_becomeFree_6 : decode cX1_becomeFree 6 = .ok (.iconst 0, 1) := by decide +kernel
theorem dX1_becomeFree_7 : decode cX1_becomeFree 7 = .ok (.putfield 13, 3) := by decide +kernel
theorem dX1_becomeFree_10 : decode cX1_becomeFree 10 = .ok (.aload_n 0, 1) := by decide +kernel
theorem dX1_becomeFree_11 : decode cX1_becomeFree 11 = .ok (.aconst_null, 1) := by decide +kernel
theorem dX1_becomeFree_12 : decode cX1_becomeFree 12 = .ok (.putfield 22, 3) := by decide +kernel
theorem dX1_becomeFree_15 : decode cX1_becomeFree 15 = .ok (.return_, 1) := by decide +kernel
theorem dX2_init_0 : decode cX2_init 0 = .ok (.aload_n 0, 1) := by decide +kernel
theorem dX2_init_1 : decode cX2_init 1 = .ok (.invokespecial 3, 3) := by decide +kernel
theorem dX2_init_4 : decode cX2_init 4 = .ok (.aload_n 0, 1) := by decide +kernel
theorem dX2_init_5 : decode cX2_init 5 = .ok (.iconst 5, 1) := by decide +kernel
theorem dX2_init_6 : decode cX2_init 6 = .ok (.anewarray 9, 3) := by decide +kernel
theorem dX2_init_9 : decode cX2_init 9 = .ok (.putfield 11, 3) := by decide +kernel
theorem dX2_init_12 : decode cX2_init 12 = .ok (.aload_n 0, 1) := by decide +kernel
theorem dX2_init_13 : decode cX2_init 13 = .ok (.iconst 5, 1) := by decide +kernel
theorem dX2_init_14 : decode cX2_init 14 = .ok (.newarray .int, 2) := by decide +kernel
theorem dX2_init_16 : decode cX2_init 16 = .ok (.putfield 17, 3) := by decide +kernel
theorem dX2_init_19 : decode cX2_init 19 = .ok (.aload_n 0, 1) := by decide +kernel
theorem dX2_init_20 : decode cX2_init 20 = .ok (.iconst 5, 1) := by decide +kernel
theorem dX2_init_21 : decode cX2_init 21 = .ok (.newarray .int, 2) := by decide +kernel
theorem dX2_init_23 : decode cX2_init 23 = .ok (.putfield 21, 3) := by decide +kernel
theorem dX2_init_26 : decode cX2_init 26 = .ok (.aload_n 0, 1) := by decide +kernel
theorem dX2_init_27 : decode cX2_init 27 = .ok (.iconst 5, 1) := by decide +kernel
theorem dX2_init_28 : decode cX2_init 28 = .ok (.newarray .boolean, 2) := by decide +kernel
theorem dX2_init_30 : decode cX2_init 30 = .ok (.putfield 24, 3) := by decide +kernel
theorem dX2_init_33 : decode cX2_init 33 = .ok (.aload_n 0, 1) := by decide +kernel
theorem dX2_init_34 : decode cX2_init 34 = .ok (.iconst 0, 1) := by decide +kernel
theorem dX2_init_35 : decode cX2_init 35 = .ok (.putfield 28, 3) := by decide +kernel
theorem dX2_init_38 : decode cX2_init 38 = .ok (.aload_n 0, 1) := by decide +kernel
theorem dX2_init_39 : decode cX2_init 39 = .ok (.iconst 0, 1) := by decide +kernel
theorem dX2_init_40 : decode cX2_init 40 = .ok (.putfield 32, 3) := by decide +kernel
theorem dX2_init_43 : decode cX2_init 43 = .ok (.aload_n 0, 1) := by decide +kernel
theorem dX2_init_44 : decode cX2_init 44 = .ok (.iload_n 1, 1) := by decide +kernel
theorem dX2_init_45 : decode cX2_init 45 = .ok (.newarray .int, 2) := by decide +kernel
theorem dX2_init_47 : decode cX2_init 47 = .ok (.putfield 35, 3) := by decide +kernel
theorem dX2_init_50 : decode cX2_init 50 = .ok (.return_, 1) := by decide +kernel
theorem dX2_clear_0 : decode cX2_clear 0 = .ok (.aload_n 0, 1) := by decide +kernel
theorem dX2_clear_1 : decode cX2_clear 1 = .ok (.iconst 0, 1) := by decide +kernel
theorem dX2_clear_2 : decode cX2_clear 2 = .ok (.putfield 28, 3) := by decide +kernel
theorem dX2_clear_5 : decode cX2_clear 5 = .ok (.return_, 1) := by decide +kernel
theorem dX2_add_0 : decode cX2_add 0 = .ok (.aload_n 0, 1) := by decide +kernel
theorem dX2_add_1 : decode cX2_add 1 = .ok (.getfield 28, 3) := by decide +kernel
theorem dX2_add_4 : decode cX2_add 4 = .ok (.iconst 5, 1) := by decide +kernel
theorem dX2_add_5 : decode cX2_add 5 = .ok (.if_icmp .ge 23, 3) := by decide +kernel
theorem dX2_add_8 : decode cX2_add 8 = .ok (.aload_n 0, 1) := by decide +kernel
theorem dX2_add_9 : decode cX2_add 9 = .ok (.getfield 11, 3) := by decide +kernel
theorem dX2_add_12 : decode cX2_add 12 = .ok (.aload_n 0, 1) := by decide +kernel
theorem dX2_add_13 : decode cX2_add 13 = .ok (.getfield 28, 3) := by decide +kernel
theorem dX2_add_16 : decode cX2_add 16 = .ok (.aload_n 1, 1) := by decide +kernel
theorem dX2_add_17 : decode cX2_add 17 = .ok (.aastore, 1) := by decide +kernel
theorem dX2_add_18 : decode cX2_add 18 = .ok (.aload_n 0, 1) := by decide +kernel
theorem dX2_add_19 : decode cX2_add 19 = .ok (.dup, 1) := by decide +kernel
theorem dX2_add_20 : decode cX2_add 20 = .ok (.getfield 28, 3) := by decide +kernel
theorem dX2_add_23 : decode cX2_add 23 = .ok (.iconst 1, 1) := by decide +kernel
theorem dX2_add_24 : decode cX2_add 24 = .ok (.iadd, 1) := by decide +kernel
theorem dX2_add_25 : decode cX2_add 25 = .ok (.putfield 28, 3) := by decide +kernel
theorem dX2_add_28 : decode cX2_add 28 = .ok (.return_, 1) := by decide +kernel
set_option maxRecDepth 20000 in
theorem ggX2_findBest_X2_sumOfOrder : GoodIn wsX2_findBest wsX2_sumOfOrder := goodIn_r _ [6, 7, 8, 9, 10, 11, 12, 13, 14, 15, 16, 17, 18, 19, 20, 21, 22, 5, 23, 24, 25, 26, 27, 28, 29, 30, 31, 46, 47, 48, 49, 50, 51, 52, 53, 54, 55, 56, 57, 58, 59, 60, 61, 62, 63, 64, 65, 66, 67, 68, 69] (by decide +kernel) (by decide +kernel)
set_option maxRecDepth 20000 in
theorem gX2_findBest_X2_sumOfOrder : GoodIn wsX2_findBest (wsV RX2 38 RX2 yX2_sumOfOrder wsX2_sumOfOrder) := goodIn_app (goodIn_of _ (by decide +kernel)) ggX2_findBest_X2_sumOfOrder
set_option maxRecDepth 20000 in
theorem ggX2_findBest_X2_keepOrder : GoodIn wsX2_findBest wsX2_keepOrder := goodIn_r _ [35, 8, 36, 9, 37, 46, 47, 48, 49, 50, 51, 52, 53, 54, 55, 56, 57, 58, 59, 60, 61, 62, 63] (by decide +kernel) (by decide +kernel)
set_option maxRecDepth 20000 in
theorem gX2_findBest_X2_keepOrder : GoodIn wsX2_findBest (wsV RX2 42 RX2 yX2_keepOrder wsX2_keepOrder) := goodIn_app (goodIn_of _ (by decide +kernel)) ggX2_findBest_X2_keepOrder
set_option maxRecDepth 20000 in
theorem ggX2_findBest_X2_nextOrder : GoodIn wsX2_findBest wsX2_nextOrder := goodIn_r _ [41, 8, 9, 37, 42, 43, 44, 5, 45, 46, 47, 48, 49, 50, 51, 52, 53, 54, 55, 56, 57, 58, 59, 60, 61, 62, 63] (by decide +kernel) (by decide +kernel)
set_option maxRecDepth 20000 in
theorem gX2_findBest_X2_nextOrder : GoodIn wsX2_findBest (wsV RX2 45 RX2 yX2_nextOrder wsX2_nextOrder) := goodIn_app (goodIn_of _ (by decide +kernel)) ggX2_findBest_X2_nextOrder
theorem dX2_findBest_0 : decode cX2_findBest 0 = .ok (.aload_n 0, 1) := by decide +kernel
theorem dX2_findBest_1 : decode cX2_findBest 1 = .ok (.aload_n 0, 1) := by decide +kernel
theorem dX2_findBest_2 : decode cX2_findBest 2 = .ok (.invokevirtual 38, 3) := by decide +kernel
theorem dX2_findBest_5 : decode cX2_findBest 5 = .ok (.putfield 32, 3) := by decide +kernel
theorem dX2_findBest_8 : decode cX2_findBest 8 = .ok (.aload_n 0, 1) := by decide +kernel
theorem dX2_findBest_9 : decode cX2_findBest 9 = .ok (.invokevirtual 42, 3) := by decide +kernel
theorem dX2_findBest_12 : decode cX2_findBest 12 = .ok (.iconst 1, 1) := by decide +kernel
theorem dX2_findBest_13 : decode cX2_findBest 13 = .ok (.istore_n 1, 1) := by decide +kernel
theorem dX2_findBest_14 : decode cX2_findBest 14 = .ok (.iload_n 1, 1) := by decide +kernel
theorem dX2_findBest_15 : decode cX2_findBest 15 = .ok (.bipush 120, 2) := by decide +kernel
theorem dX2_findBest_17 : decode cX2_findBest 17 = .ok (.if_icmp .ge 38, 3) := by decide +kernel
theorem dX2_findBest_20 : decode cX2_findBest 20 = .ok (.aload_n 0, 1) := by decide +kernel
theorem dX2_findBest_21 : decode cX2_findBest 21 = .ok (.invokevirtual 45, 3) := by decide +kernel
theorem dX2_findBest_24 : decode cX2_findBest 24 = .ok (.ifCond .eq 31, 3) := by decide +kernel
theorem dX2_findBest_27 : decode cX2_findBest 27 = .ok (.aload_n 0, 1) := by decide +kernel
theorem dX2_findBest_28 : decode cX2_findBest 28 = .ok (.invokevirtual 38, 3) := by decide +kernel
theorem dX2_findBest_31 : decode cX2_findBest 31 = .ok (.istore_n 2, 1) := by decide +kernel
theorem dX2_findBest_32 : decode cX2_findBest 32 = .ok (.iload_n 2, 1) := by decide +kernel
theorem dX2_findBest_33 : decode cX2_findBest 33 = .ok (.aload_n 0, 1) := by decide +kernel
theorem dX2_findBest_34 : decode cX2_findBest 34 = .ok (.getfield 32, 3) := by decide +kernel
theorem dX2_findBest_37 : decode cX2_findBest 37 = .ok (.if_icmp .ge 12, 3) := by decide +kernel
theorem dX2_findBest_40 : decode cX2_findBest 40 = .ok (.aload_n 0, 1) := by decide +kernel
theorem dX2_findBest_41 : decode cX2_findBest 41 = .ok (.iload_n 2, 1) := by decide +kernel
theorem dX2_findBest_42 : decode cX2_findBest 42 = .ok (.putfield 32, 3) := by decide +kernel
theorem dX2_findBest_45 : decode cX2_findBest 45 = .ok (.aload_n 0, 1) := by decide +kernel
theorem dX2_findBest_46 : decode cX2_findBest 46 = .ok (.invokevirtual 42, 3) := by decide +kernel
theorem dX2_findBest_49 : decode cX2_findBest 49 = .ok (.iinc 1 1, 3) := by decide +kernel
theorem dX2_findBest_52 : decode cX2_findBest 52 = .ok (.goto (-38), 3) := by decide +kernel
theorem dX2_findBest_55 : decode cX2_findBest 55 = .ok (.return_, 1) := by decide +kernel
set_option maxRecDepth 20000 in
theorem ggX2_bestAt_X4_isAmong : GoodIn wsX2_bestAt wsX4_isAmong := goodIn_r _ [5] (by decide +kernel) (by decide +kernel)
set_option maxRecDepth 20000 in
theorem gX2_bestAt_X4_isAmong_n49 : GoodIn wsX2_bestAt (wsX4_isAmong) := ggX2_bestAt_X4_isAmong
theorem dX2_bestAt_0 : decode cX2_bestAt 0 = .ok (.iload_n 1, 1) := by decide +kernel
theorem dX2_bestAt_1 : decode cX2_bestAt 1 = .ok (.aload_n 0, 1) := by decide +kernel
theorem dX2_bestAt_2 : decode cX2_bestAt 2 = .ok (.getfield 28, 3) := by decide +kernel
theorem dX2_bestAt_5 : decode cX2_bestAt 5 = .ok (.invokestatic 49, 3) := by decide +kernel
theorem dX2_bestAt_8 : decode cX2_bestAt 8 = .ok (.ifCond .eq 12, 3) := by decide +kernel
theorem dX2_bestAt_11 : decode cX2_bestAt 11 = .ok (.aload_n 0, 1) := by decide +kernel
theorem dX2_bestAt_12 : decode cX2_bestAt 12 = .ok (.getfield 17, 3) := by decide +kernel
theorem dX2_bestAt_15 : decode cX2_bestAt 15 = .ok (.iload_n 1, 1) := by decide +kernel
theorem dX2_bestAt_16 : decode cX2_bestAt 16 = .ok (.iaload, 1) := by decide +kernel
theorem dX2_bestAt_17 : decode cX2_bestAt 17 = .ok (.goto 4, 3) := by decide +kernel
theorem dX2_bestAt_20 : decode cX2_bestAt 20 = .ok (.iconst (-1), 1) := by decide +kernel
theorem dX2_bestAt_21 : decode cX2_bestAt 21 = .ok (.ireturn, 1) := by decide +kernel
theorem dX2_keepOrder_0 : decode cX2_keepOrder 0 = .ok (.iconst 0, 1) := by decide +kernel
theorem dX2_keepOrder_1 : decode cX2_keepOrder 1 = .ok (.istore_n 1, 1) := by decide +kernel
theorem dX2_keepOrder_2 : decode cX2_keepOrder 2 = .ok (.iload_n 1, 1) := by decide +kernel
theorem dX2_keepOrder_3 : decode cX2_keepOrder 3 = .ok (.aload_n 0, 1) := by decide +kernel
theorem dX2_keepOrder_4 : decode cX2_keepOrder 4 = .ok (.getfield 28, 3) := by decide +kernel
theorem dX2_keepOrder_7 : decode cX2_keepOrder 7 = .ok (.if_icmp .ge 24, 3) := by decide +kernel
theorem dX2_keepOrder_10 : decode cX2_keepOrder 10 = .ok (.aload_n 0, 1) := by decide +kernel
theorem dX2_keepOrder_11 : decode cX2_keepOrder 11 = .ok (.getfield 17, 3) := by decide +kernel
theorem dX2_keepOrder_14 : decode cX2_keepOrder 14 = .ok (.iload_n 1, 1) := by decide +kernel
theorem dX2_keepOrder_15 : decode cX2_keepOrder 15 = .ok (.aload_n 0, 1) := by decide +kernel
theorem dX2_keepOrder_16 : decode cX2_keepOrder 16 = .ok (.getfield 11, 3) := by decide +kernel
theorem dX2_keepOrder_19 : decode cX2_keepOrder 19 = .ok (.iload_n 1, 1) := by decide +kernel
theorem dX2_keepOrder_20 : decode cX2_keepOrder 20 = .ok (.aaload, 1) := by decide +kernel
theorem dX2_keepOrder_21 : decode cX2_keepOrder 21 = .ok (.getfield 53, 3) := by decide +kernel
theorem dX2_keepOrder_24 : decode cX2_keepOrder 24 = .ok (.iastore, 1) := by decide +kernel
theorem dX2_keepOrder_25 : decode cX2_keepOrder 25 = .ok (.iinc 1 1, 3) := by decide +kernel
theorem dX2_keepOrder_28 : decode cX2_keepOrder 28 = .ok (.goto (-26), 3) := by decide +kernel
theorem dX2_keepOrder_31 : decode cX2_keepOrder 31 = .ok (.return_, 1) := by decide +kernel
set_option maxRecDepth 20000 in
theorem ggX2_nextOrder_X2_swap : GoodIn wsX2_nextOrder wsX2_swap := goodIn_r _ [8, 2, 9, 10, 11, 12, 13, 14, 15] (by decide +kernel) (by decide +kernel)
set_option maxRecDepth 20000 in
theorem gX2_nextOrder_X2_swap : GoodIn wsX2_nextOrder (wsV RX2 56 RX2 yX2_swap wsX2_swap) := goodIn_app (goodIn_of _ (by decide +kernel)) ggX2_nextOrder_X2_swap
theorem dX2_nextOrder_0 : decode cX2_nextOrder 0 = .ok (.aload_n 0, 1) := by decide +kernel
theorem dX2_nextOrder_1 : decode cX2_nextOrder 1 = .ok (.getfield 28, 3) := by decide +kernel
theorem dX2_nextOrder_4 : decode cX2_nextOrder 4 = .ok (.iconst 2, 1) := by decide +kernel
theorem dX2_nextOrder_5 : decode cX2_nextOrder 5 = .ok (.isub, 1) := by decide +kernel
theorem dX2_nextOrder_6 : decode cX2_nextOrder 6 = .ok (.istore_n 1, 1) := by decide +kernel
theorem dX2_nextOrder_7 : decode cX2_nextOrder 7 = .ok (.iload_n 1, 1) := by decide +kernel
theorem dX2_nextOrder_8 : decode cX2_nextOrder 8 = .ok (.ifCond .lt 32, 3) := by decide +kernel
theorem dX2_nextOrder_11 : decode cX2_nextOrder 11 = .ok (.aload_n 0, 1) := by decide +kernel
theorem dX2_nextOrder_12 : decode cX2_nextOrder 12 = .ok (.getfield 11, 3) := by decide +kernel
theorem dX2_nextOrder_15 : decode cX2_nextOrder 15 = .ok (.iload_n 1, 1) := by decide +kernel
theorem dX2_nextOrder_16 : decode cX2_nextOrder 16 = .ok (.aaload, 1) := by decide +kernel
theorem dX2_nextOrder_17 : decode cX2_nextOrder 17 = .ok (.getfield 53, 3) := by decide +kernel
theorem dX2_nextOrder_20 : decode cX2_nextOrder 20 = .ok (.aload_n 0, 1) := by decide +kernel
theorem dX2_nextOrder_21 : decode cX2_nextOrder 21 = .ok (.getfield 11, 3) := by decide +kernel
theorem dX2_nextOrder_24 : decode cX2_nextOrder 24 = .ok (.iload_n 1, 1) := by decide +kernel
theorem dX2_nextOrder_25 : decode cX2_nextOrder 25 = .ok (.iconst 1, 1) := by decide +kernel
theorem dX2_nextOrder_26 : decode cX2_nextOrder 26 = .ok (.iadd, 1) := by decide +kernel
theorem dX2_nextOrder_27 : decode cX2_nextOrder 27 = .ok (.aaload, 1) := by decide +kernel
theorem dX2_nextOrder_28 : decode cX2_nextOrder 28 = .ok (.getfield 53, 3) := by decide +kernel
theorem dX2_nextOrder_31 : decode cX2_nextOrder 31 = .ok (.if_icmp .le 9, 3) := by decide +kernel
theorem dX2_nextOrder_34 : decode cX2_nextOrder 34 = .ok (.iinc 1 (-1), 3) := by decide +kernel
theorem dX2_nextOrder_37 : decode cX2_nextOrder 37 = .ok (.goto (-30), 3) := by decide +kernel
theorem dX2_nextOrder_40 : decode cX2_nextOrder 40 = .ok (.iload_n 1, 1) := by decide +kernel
theorem dX2_nextOrder_41 : decode cX2_nextOrder 41 = .ok (.ifCond .ge 5, 3) := by decide +kernel
theorem dX2_nextOrder_44 : decode cX2_nextOrder 44 = .ok (.iconst 0, 1) := by decide +kernel
theorem dX2_nextOrder_45 : decode cX2_nextOrder 45 = .ok (.ireturn, 1) := by decide +kernel
theorem dX2_nextOrder_46 : decode cX2_nextOrder 46 = .ok (.aload_n 0, 1) := by decide +kernel
theorem dX2_nextOrder_47 : decode cX2_nextOrder 47 = .ok (.getfield 28, 3) := by decide +kernel
theorem dX2_nextOrder_50 : decode cX2_nextOrder 50 = .ok (.iconst 1, 1) := by decide +kernel
theorem dX2_nextOrder_51 : decode cX2_nextOrder 51 = .ok (.isub, 1) := by decide +kernel
theorem dX2_nextOrder_52 : decode cX2_nextOrder 52 = .ok (.istore_n 2, 1) := by decide +kernel
theorem dX2_nextOrder_53 : decode cX2_nextOrder 53 = .ok (.iload_n 2, 1) := by decide +kernel
theorem dX2_nextOrder_54 : decode cX2_nextOrder 54 = .ok (.iload_n 1, 1) := by decide +kernel
theorem dX2_nextOrder_55 : decode cX2_nextOrder 55 = .ok (.iconst 1, 1) := by decide +kernel
theorem dX2_nextOrder_56 : decode cX2_nextOrder 56 = .ok (.iadd, 1) := by decide +kernel
theorem dX2_nextOrder_57 : decode cX2_nextOrder 57 = .ok (.if_icmp .le 30, 3) := by decide +kernel
theorem dX2_nextOrder_60 : decode cX2_nextOrder 60 = .ok (.aload_n 0, 1) := by decide +kernel
theorem dX2_nextOrder_61 : decode cX2_nextOrder 61 = .ok (.getfield 11, 3) := by decide +kernel
theorem dX2_nextOrder_64 : decode cX2_nextOrder 64 = .ok (.iload_n 2, 1) := by decide +kernel
theorem dX2_nextOrder_65 : decode cX2_nextOrder 65 = .ok (.aaload, 1) := by decide +kernel
theorem dX2_nextOrder_66 : decode cX2_nextOrder 66 = .ok (.getfield 53, 3) := by decide +kernel
theorem dX2_nextOrder_69 : decode cX2_nextOrder 69 = .ok (.aload_n 0, 1) := by decide +kernel
theorem dX2_nextOrder_70 : decode cX2_nextOrder 70 = .ok (.getfield 11, 3) := by decide +kernel
theorem dX2_nextOrder_73 : decode cX2_nextOrder 73 = .ok (.iload_n 1, 1) := by decide +kernel
theorem dX2_nextOrder_74 : decode cX2_nextOrder 74 = .ok (.aaload, 1) := by decide +kernel
theorem dX2_nextOrder_75 : decode cX2_nextOrder 75 = .ok (.getfield 53, 3) := by decide +kernel
theorem dX2_nextOrder_78 : decode cX2_nextOrder 78 = .ok (.if_icmp .ge 9, 3) := by decide +kernel
theorem dX2_nextOrder_81 : decode cX2_nextOrder 81 = .ok (.iinc 2 (-1), 3) := by decide +kernel
theorem dX2_nextOrder_84 : decode cX2_nextOrder 84 = .ok (.goto (-31), 3) := by decide +kernel
theorem dX2_nextOrder_87 : decode cX2_nextOrder 87 = .ok (.aload_n 0, 1) := by decide +kernel
theorem dX2_nextOrder_88 : decode cX2_nextOrder 88 = .ok (.iload_n 1, 1) := by decide +kernel
theorem dX2_nextOrder_89 : decode cX2_nextOrder 89 = .ok (.iload_n 2, 1) := by decide +kernel
theorem dX2_nextOrder_90 : decode cX2_nextOrder 90 = .ok (.invokevirtual 56, 3) := by decide +kernel
theorem dX2_nextOrder_93 : decode cX2_nextOrder 93 = .ok (.iload_n 1, 1) := by decide +kernel
theorem dX2_nextOrder_94 : decode cX2_nextOrder 94 = .ok (.iconst 1, 1) := by decide +kernel
theorem dX2_nextOrder_95 : decode cX2_nextOrder 95 = .ok (.iadd, 1) := by decide +kernel
theorem dX2_nextOrder_96 : decode cX2_nextOrder 96 = .ok (.istore_n 3, 1) := by decide +kernel
theorem dX2_nextOrder_97 : decode cX2_nextOrder 97 = .ok (.aload_n 0, 1) := by decide +kernel
theorem dX2_nextOrder_98 : decode cX2_nextOrder 98 = .ok (.getfield 28, 3) := by decide +kernel
theorem dX2_nextOrder_101 : decode cX2_nextOrder 101 = .ok (.iconst 1, 1) := by decide +kernel
theorem dX2_nextOrder_102 : decode cX2_nextOrder 102 = .ok (.isub, 1) := by decide +kernel
theorem dX2_nextOrder_103 : decode cX2_nextOrder 103 = .ok (.istore 4, 2) := by decide +kernel
theorem dX2_nextOrder_105 : decode cX2_nextOrder 105 = .ok (.iload_n 3, 1) := by decide +kernel
theorem dX2_nextOrder_106 : decode cX2_nextOrder 106 = .ok (.iload 4, 2) := by decide +kernel
theorem dX2_nextOrder_108 : decode cX2_nextOrder 108 = .ok (.if_icmp .ge 19, 3) := by decide +kernel
theorem dX2_nextOrder_111 : decode cX2_nextOrder 111 = .ok (.aload_n 0, 1) := by decide +kernel
theorem dX2_nextOrder_112 : decode cX2_nextOrder 112 = .ok (.iload_n 3, 1) := by decide +kernel
theorem dX2_nextOrder_113 : decode cX2_nextOrder 113 = .ok (.iload 4, 2) := by decide +kernel
theorem dX2_nextOrder_115 : decode cX2_nextOrder 115 = .ok (.invokevirtual 56, 3) := by decide +kernel
theorem dX2_nextOrder_118 : decode cX2_nextOrder 118 = .ok (.iinc 3 1, 3) := by decide +kernel
theorem dX2_nextOrder_121 : decode cX2_nextOrder 121 = .ok (.iinc 4 (-1), 3) := by decide +kernel
theorem dX2_nextOrder_124 : decode cX2_nextOrder 124 = .ok (.goto (-19), 3) := by decide +kernel
theorem dX2_nextOrder_127 : decode cX2_nextOrder 127 = .ok (.iconst 1, 1) := by decide +kernel
theorem dX2_nextOrder_128 : decode cX2_nextOrder 128 = .ok (.ireturn, 1) := by decide +kernel
theorem dX2_swap_0 : decode cX2_swap 0 = .ok (.aload_n 0, 1) := by decide +kernel
theorem dX2_swap_1 : decode cX2_swap 1 = .ok (.getfield 11, 3) := by decide +kernel
theorem dX2_swap_4 : decode cX2_swap 4 = .ok (.iload_n 1, 1) := by decide +kernel
theorem dX2_swap_5 : decode cX2_swap 5 = .ok (.aaload, 1) := by decide +kernel
theorem dX2_swap_6 : decode cX2_swap 6 = .ok (.astore_n 3, 1) := by decide +kernel
theorem dX2_swap_7 : decode cX2_swap 7 = .ok (.aload_n 0, 1) := by decide +kernel
theorem dX2_swap_8 : decode cX2_swap 8 = .ok (.getfield 11, 3) := by decide +kernel
theorem dX2_swap_11 : decode cX2_swap 11 = .ok (.iload_n 1, 1) := by decide +kernel
theorem dX2_swap_12 : decode cX2_swap 12 = .ok (.aload_n 0, 1) := by decide +kernel
theorem dX2_swap_13 : decode cX2_swap 13 = .ok (.getfield 11, 3) := by decide +kernel
theorem dX2_swap_16 : decode cX2_swap 16 = .ok (.iload_n 2, 1) := by decide +kernel
theorem dX2_swap_17 : decode cX2_swap 17 = .ok (.aaload, 1) := by decide +kernel
theorem dX2_swap_18 : decode cX2_swap 18 = .ok (.aastore, 1) := by decide +kernel
theorem dX2_swap_19 : decode cX2_swap 19 = .ok (.aload_n 0, 1) := by decide +kernel
theorem dX2_swap_20 : decode cX2_swap 20 = .ok (.getfield 11, 3) := by decide +kernel
theorem dX2_swap_23 : decode cX2_swap 23 = .ok (.iload_n 2, 1) := by decide +kernel
theorem dX2_swap_24 : decode cX2_swap 24 = .ok (.aload_n 3, 1) := by decide +kernel
theorem dX2_swap_25 : decode cX2_swap 25 = .ok (.aastore, 1) := by decide +kernel
theorem dX2_swap_26 : decode cX2_swap 26 = .ok (.return_, 1) := by decide +kernel
set_option maxRecDepth 20000 in
theorem ggX2_sumOfOrder_X2_groupFreeFirst : GoodIn wsX2_sumOfOrder wsX2_groupFreeFirst := goodIn_r _ [18, 1, 27, 28, 29, 30, 31, 32, 33] (by decide +kernel) (by decide +kernel)
set_option maxRecDepth 20000 in
theorem gX2_sumOfOrder_X2_groupFreeFirst : GoodIn wsX2_sumOfOrder (wsV RX2 69 RX2 yX2_groupFreeFirst wsX2_groupFreeFirst) := goodIn_app (goodIn_of _ (by decide +kernel)) ggX2_sumOfOrder_X2_groupFreeFirst
set_option maxRecDepth 20000 in
theorem ggX2_sumOfOrder_X2_sumOfSteamed : GoodIn wsX2_sumOfOrder wsX2_sumOfSteamed := goodIn_r _ [22, 2, 12, 6, 7, 8, 9, 10, 3, 4, 13, 23, 24, 25, 17, 26, 27, 28, 29, 30, 31, 32, 33, 34, 35, 36, 37, 38, 39, 40, 41, 42, 43, 44, 45, 46, 47, 48, 49, 50] (by decide +kernel) (by decide +kernel)
set_option maxRecDepth 20000 in
theorem gX2_sumOfOrder_X2_sumOfSteamed : GoodIn wsX2_sumOfOrder (wsV RX2 84 RX2 yX2_sumOfSteamed wsX2_sumOfSteamed) := goodIn_app (goodIn_of _ (by decide +kernel)) ggX2_sumOfOrder_X2_sumOfSteamed
theorem dX2_sumOfOrder_0 : decode cX2_sumOfOrder 0 = .ok (.iconst 0, 1) := by decide +kernel
theorem dX2_sumOfOrder_1 : decode cX2_sumOfOrder 1 = .ok (.istore_n 1, 1) := by decide +kernel
theorem dX2_sumOfOrder_2 : decode cX2_sumOfOrder 2 = .ok (.iload_n 1, 1) := by decide +kernel
theorem dX2_sumOfOrder_3 : decode cX2_sumOfOrder 3 = .ok (.aload_n 0, 1) := by decide +kernel
theorem dX2_sumOfOrder_4 : decode cX2_sumOfOrder 4 = .ok (.getfield 35, 3) := by decide +kernel
theorem dX2_sumOfOrder_7 : decode cX2_sumOfOrder 7 = .ok (.arraylength, 1) := by decide +kernel
theorem dX2_sumOfOrder_8 : decode cX2_sumOfOrder 8 = .ok (.if_icmp .ge 16, 3) := by decide +kernel
theorem dX2_sumOfOrder_11 : decode cX2_sumOfOrder 11 = .ok (.aload_n 0, 1) := by decide +kernel
theorem dX2_sumOfOrder_12 : decode cX2_sumOfOrder 12 = .ok (.getfield 35, 3) := by decide +kernel
theorem dX2_sumOfOrder_15 : decode cX2_sumOfOrder 15 = .ok (.iload_n 1, 1) := by decide +kernel
theorem dX2_sumOfOrder_16 : decode cX2_sumOfOrder 16 = .ok (.iconst 0, 1) := by decide +kernel
theorem dX2_sumOfOrder_17 : decode cX2_sumOfOrder 17 = .ok (.iastore, 1) := by decide +kernel
theorem dX2_sumOfOrder_18 : decode cX2_sumOfOrder 18 = .ok (.iinc 1 1, 3) := by decide +kernel
theorem dX2_sumOfOrder_21 : decode cX2_sumOfOrder 21 = .ok (.goto (-19), 3) := by decide +kernel
theorem dX2_sumOfOrder_24 : decode cX2_sumOfOrder 24 = .ok (.iconst 0, 1) := by decide +kernel
theorem dX2_sumOfOrder_25 : decode cX2_sumOfOrder 25 = .ok (.istore_n 1, 1) := by decide +kernel
theorem dX2_sumOfOrder_26 : decode cX2_sumOfOrder 26 = .ok (.iconst 0, 1) := by decide +kernel
theorem dX2_sumOfOrder_27 : decode cX2_sumOfOrder 27 = .ok (.istore_n 2, 1) := by decide +kernel
theorem dX2_sumOfOrder_28 : decode cX2_sumOfOrder 28 = .ok (.iconst 0, 1) := by decide +kernel
theorem dX2_sumOfOrder_29 : decode cX2_sumOfOrder 29 = .ok (.istore_n 3, 1) := by decide +kernel
theorem dX2_sumOfOrder_30 : decode cX2_sumOfOrder 30 = .ok (.iload_n 3, 1) := by decide +kernel
theorem dX2_sumOfOrder_31 : decode cX2_sumOfOrder 31 = .ok (.aload_n 0, 1) := by decide +kernel
theorem dX2_sumOfOrder_32 : decode cX2_sumOfOrder 32 = .ok (.getfield 28, 3) := by decide +kernel
theorem dX2_sumOfOrder_35 : decode cX2_sumOfOrder 35 = .ok (.if_icmp .ge 107, 3) := by decide +kernel
theorem dX2_sumOfOrder_38 : decode cX2_sumOfOrder 38 = .ok (.aload_n 0, 1) := by decide +kernel
theorem dX2_sumOfOrder_39 : decode cX2_sumOfOrder 39 = .ok (.getfield 11, 3) := by decide +kernel
theorem dX2_sumOfOrder_42 : decode cX2_sumOfOrder 42 = .ok (.iload_n 3, 1) := by decide +kernel
theorem dX2_sumOfOrder_43 : decode cX2_sumOfOrder 43 = .ok (.aaload, 1) := by decide +kernel
theorem dX2_sumOfOrder_44 : decode cX2_sumOfOrder 44 = .ok (.getfield 60, 3) := by decide +kernel
theorem dX2_sumOfOrder_47 : decode cX2_sumOfOrder 47 = .ok (.astore 4, 2) := by decide +kernel
theorem dX2_sumOfOrder_49 : decode cX2_sumOfOrder 49 = .ok (.iload_n 1, 1) := by decide +kernel
theorem dX2_sumOfOrder_50 : decode cX2_sumOfOrder 50 = .ok (.aload 4, 2) := by decide +kernel
theorem dX2_sumOfOrder_52 : decode cX2_sumOfOrder 52 = .ok (.getfield 64, 3) := by decide +kernel
theorem dX2_sumOfOrder_55 : decode cX2_sumOfOrder 55 = .ok (.iadd, 1) := by decide +kernel
theorem dX2_sumOfOrder_56 : decode cX2_sumOfOrder 56 = .ok (.istore_n 1, 1) := by decide +kernel
theorem dX2_sumOfOrder_57 : decode cX2_sumOfOrder 57 = .ok (.aload_n 0, 1) := by decide +kernel
theorem dX2_sumOfOrder_58 : decode cX2_sumOfOrder 58 = .ok (.invokevirtual 69, 3) := by decide +kernel
theorem dX2_sumOfOrder_61 : decode cX2_sumOfOrder 61 = .ok (.istore 5, 2) := by decide +kernel
theorem dX2_sumOfOrder_63 : decode cX2_sumOfOrder 63 = .ok (.aload_n 0, 1) := by decide +kernel
theorem dX2_sumOfOrder_64 : decode cX2_sumOfOrder 64 = .ok (.getfield 21, 3) := by decide +kernel
theorem dX2_sumOfOrder_67 : decode cX2_sumOfOrder 67 = .ok (.iload_n 3, 1) := by decide +kernel
theorem dX2_sumOfOrder_68 : decode cX2_sumOfOrder 68 = .ok (.iload_n 1, 1) := by decide +kernel
theorem dX2_sumOfOrder_69 : decode cX2_sumOfOrder 69 = .ok (.aload_n 0, 1) := by decide +kernel
theorem dX2_sumOfOrder_70 : decode cX2_sumOfOrder 70 = .ok (.getfield 35, 3) := by decide +kernel
theorem dX2_sumOfOrder_73 : decode cX2_sumOfOrder 73 = .ok (.iload 5, 2) := by decide +kernel
theorem dX2_sumOfOrder_75 : decode cX2_sumOfOrder 75 = .ok (.iaload, 1) := by decide +kernel
theorem dX2_sumOfOrder_76 : decode cX2_sumOfOrder 76 = .ok (.invokestatic 72, 3) := by decide +kernel
theorem dX2_sumOfOrder_79 : decode cX2_sumOfOrder 79 = .ok (.aload 4, 2) := by decide +kernel
theorem dX2_sumOfOrder_81 : decode cX2_sumOfOrder 81 = .ok (.getfield 78, 3) := by decide +kernel
theorem dX2_sumOfOrder_84 : decode cX2_sumOfOrder 84 = .ok (.iadd, 1) := by decide +kernel
theorem dX2_sumOfOrder_85 : decode cX2_sumOfOrder 85 = .ok (.iastore, 1) := by decide +kernel
theorem dX2_sumOfOrder_86 : decode cX2_sumOfOrder 86 = .ok (.aload_n 0, 1) := by decide +kernel
theorem dX2_sumOfOrder_87 : decode cX2_sumOfOrder 87 = .ok (.getfield 35, 3) := by decide +kernel
theorem dX2_sumOfOrder_90 : decode cX2_sumOfOrder 90 = .ok (.iload 5, 2) := by decide +kernel
theorem dX2_sumOfOrder_92 : decode cX2_sumOfOrder 92 = .ok (.aload_n 0, 1) := by decide +kernel
theorem dX2_sumOfOrder_93 : decode cX2_sumOfOrder 93 = .ok (.getfield 21, 3) := by decide +kernel
theorem dX2_sumOfOrder_96 : decode cX2_sumOfOrder 96 = .ok (.iload_n 3, 1) := by decide +kernel
theorem dX2_sumOfOrder_97 : decode cX2_sumOfOrder 97 = .ok (.iaload, 1) := by decide +kernel
theorem dX2_sumOfOrder_98 : decode cX2_sumOfOrder 98 = .ok (.iastore, 1) := by decide +kernel
theorem dX2_sumOfOrder_99 : decode cX2_sumOfOrder 99 = .ok (.aload_n 0, 1) := by decide +kernel
theorem dX2_sumOfOrder_100 : decode cX2_sumOfOrder 100 = .ok (.getfield 24, 3) := by decide +kernel
theorem dX2_sumOfOrder_103 : decode cX2_sumOfOrder 103 = .ok (.iload_n 3, 1) := by decide +kernel
theorem dX2_sumOfOrder_104 : decode cX2_sumOfOrder 104 = .ok (.aload 4, 2) := by decide +kernel
theorem dX2_sumOfOrder_106 : decode cX2_sumOfOrder 106 = .ok (.getfield 81, 3) := by decide +kernel
theorem dX2_sumOfOrder_109 : decode cX2_sumOfOrder 109 = .ok (.ifCond .le 7, 3) := by decide +kernel
theorem dX2_sumOfOrder_112 : decode cX2_sumOfOrder 112 = .ok (.iconst 1, 1) := by decide +kernel
theorem dX2_sumOfOrder_113 : decode cX2_sumOfOrder 113 = .ok (.goto 4, 3) := by decide +kernel
theorem dX2_sumOfOrder_116 : decode cX2_sumOfOrder 116 = .ok (.iconst 0, 1) := by decide +kernel
theorem dX2_sumOfOrder_117 : decode cX2_sumOfOrder 117 = .ok (.bastore, 1) := by decide +kernel
theorem dX2_sumOfOrder_118 : decode cX2_sumOfOrder 118 = .ok (.aload_n 0, 1) := by decide +kernel
theorem dX2_sumOfOrder_119 : decode cX2_sumOfOrder 119 = .ok (.getfield 24, 3) := by decide +kernel
theorem dX2_sumOfOrder_122 : decode cX2_sumOfOrder 122 = .ok (.iload_n 3, 1) := by decide +kernel
theorem dX2_sumOfOrder_123 : decode cX2_sumOfOrder 123 = .ok (.baload, 1) := by decide +kernel
theorem dX2_sumOfOrder_124 : decode cX2_sumOfOrder 124 = .ok (.ifCond .ne 12, 3) := by decide +kernel
theorem dX2_sumOfOrder_127 : decode cX2_sumOfOrder 127 = .ok (.iload_n 2, 1) := by decide +kernel
theorem dX2_sumOfOrder_128 : decode cX2_sumOfOrder 128 = .ok (.aload_n 0, 1) := by decide +kernel
theorem dX2_sumOfOrder_129 : decode cX2_sumOfOrder 129 = .ok (.getfield 21, 3) := by decide +kernel
theorem dX2_sumOfOrder_132 : decode cX2_sumOfOrder 132 = .ok (.iload_n 3, 1) := by decide +kernel
theorem dX2_sumOfOrder_133 : decode cX2_sumOfOrder 133 = .ok (.iaload, 1) := by decide +kernel
theorem dX2_sumOfOrder_134 : decode cX2_sumOfOrder 134 = .ok (.iadd, 1) := by decide +kernel
theorem dX2_sumOfOrder_135 : decode cX2_sumOfOrder 135 = .ok (.istore_n 2, 1) := by decide +kernel
theorem dX2_sumOfOrder_136 : decode cX2_sumOfOrder 136 = .ok (.iinc 3 1, 3) := by decide +kernel
theorem dX2_sumOfOrder_139 : decode cX2_sumOfOrder 139 = .ok (.goto (-109), 3) := by decide +kernel
theorem dX2_sumOfOrder_142 : decode cX2_sumOfOrder 142 = .ok (.iload_n 2, 1) := by decide +kernel
theorem dX2_sumOfOrder_143 : decode cX2_sumOfOrder 143 = .ok (.aload_n 0, 1) := by decide +kernel
theorem dX2_sumOfOrder_144 : decode cX2_sumOfOrder 144 = .ok (.invokevirtual 84, 3) := by decide +kernel
theorem dX2_sumOfOrder_147 : decode cX2_sumOfOrder 147 = .ok (.iadd, 1) := by decide +kernel
theorem dX2_sumOfOrder_148 : decode cX2_sumOfOrder 148 = .ok (.ireturn, 1) := by decide +kernel
theorem dX2_groupFreeFirst_0 : decode cX2_groupFreeFirst 0 = .ok (.iconst 0, 1) := by decide +kernel
theorem dX2_groupFreeFirst_1 : decode cX2_groupFreeFirst 1 = .ok (.istore_n 1, 1) := by decide +kernel
theorem dX2_groupFreeFirst_2 : decode cX2_groupFreeFirst 2 = .ok (.iconst 1, 1) := by decide +kernel
theorem dX2_groupFreeFirst_3 : decode cX2_groupFreeFirst 3 = .ok (.istore_n 2, 1) := by decide +kernel
theorem dX2_groupFreeFirst_4 : decode cX2_groupFreeFirst 4 = .ok (.iload_n 2, 1) := by decide +kernel
theorem dX2_groupFreeFirst_5 : decode cX2_groupFreeFirst 5 = .ok (.aload_n 0, 1) := by decide +kernel
theorem dX2_groupFreeFirst_6 : decode cX2_groupFreeFirst 6 = .ok (.getfield 35, 3) := by decide +kernel
theorem dX2_groupFreeFirst_9 : decode cX2_groupFreeFirst 9 = .ok (.arraylength, 1) := by decide +kernel
theorem dX2_groupFreeFirst_10 : decode cX2_groupFreeFirst 10 = .ok (.if_icmp .ge 26, 3) := by decide +kernel
theorem dX2_groupFreeFirst_13 : decode cX2_groupFreeFirst 13 = .ok (.aload_n 0, 1) := by decide +kernel
theorem dX2_groupFreeFirst_14 : decode cX2_groupFreeFirst 14 = .ok (.getfield 35, 3) := by decide +kernel
theorem dX2_groupFreeFirst_17 : decode cX2_groupFreeFirst 17 = .ok (.iload_n 2, 1) := by decide +kernel
theorem dX2_groupFreeFirst_18 : decode cX2_groupFreeFirst 18 = .ok (.iaload, 1) := by decide +kernel
theorem dX2_groupFreeFirst_19 : decode cX2_groupFreeFirst 19 = .ok (.aload_n 0, 1) := by decide +kernel
theorem dX2_groupFreeFirst_20 : decode cX2_groupFreeFirst 20 = .ok (.getfield 35, 3) := by decide +kernel
theorem dX2_groupFreeFirst_23 : decode cX2_groupFreeFirst 23 = .ok (.iload_n 1, 1) := by decide +kernel
theorem dX2_groupFreeFirst_24 : decode cX2_groupFreeFirst 24 = .ok (.iaload, 1) := by decide +kernel
theorem dX2_groupFreeFirst_25 : decode cX2_groupFreeFirst 25 = .ok (.if_icmp .ge 5, 3) := by decide +kernel
theorem dX2_groupFreeFirst_28 : decode cX2_groupFreeFirst 28 = .ok (.iload_n 2, 1) := by decide +kernel
theorem dX2_groupFreeFirst_29 : decode cX2_groupFreeFirst 29 = .ok (.istore_n 1, 1) := by decide +kernel
theorem dX2_groupFreeFirst_30 : decode cX2_groupFreeFirst 30 = .ok (.iinc 2 1, 3) := by decide +kernel
theorem dX2_groupFreeFirst_33 : decode cX2_groupFreeFirst 33 = .ok (.goto (-29), 3) := by decide +kernel
theorem dX2_groupFreeFirst_36 : decode cX2_groupFreeFirst 36 = .ok (.iload_n 1, 1) := by decide +kernel
theorem dX2_groupFreeFirst_37 : decode cX2_groupFreeFirst 37 = .ok (.ireturn, 1) := by decide +kernel
set_option maxRecDepth 20000 in
theorem ggX2_sumOfSteamed_X2_nextToSteam : GoodIn wsX2_sumOfSteamed wsX2_nextToSteam := goodIn_r _ [15, 1, 2, 3, 16, 17, 18, 19, 20, 21, 22] (by decide +kernel) (by decide +kernel)
set_option maxRecDepth 20000 in
theorem gX2_sumOfSteamed_X2_nextToSteam : GoodIn wsX2_sumOfSteamed (wsV RX2 87 RX2 yX2_nextToSteam wsX2_nextToSteam) := goodIn_app (goodIn_of _ (by decide +kernel)) ggX2_sumOfSteamed_X2_nextToSteam
theorem dX2_sumOfSteamed_0 : decode cX2_sumOfSteamed 0 = .ok (.iconst 0, 1) := by decide +kernel
theorem dX2_sumOfSteamed_1 : decode cX2_sumOfSteamed 1 = .ok (.istore_n 1, 1) := by decide +kernel
theorem dX2_sumOfSteamed_2 : decode cX2_sumOfSteamed 2 = .ok (.iconst 0, 1) := by decide +kernel
theorem dX2_sumOfSteamed_3 : decode cX2_sumOfSteamed 3 = .ok (.istore_n 2, 1) := by decide +kernel
theorem dX2_sumOfSteamed_4 : decode cX2_sumOfSteamed 4 = .ok (.iconst 0, 1) := by decide +kernel
theorem dX2_sumOfSteamed_5 : decode cX2_sumOfSteamed 5 = .ok (.istore_n 3, 1) := by decide +kernel
theorem dX2_sumOfSteamed_6 : decode cX2_sumOfSteamed 6 = .ok (.iload_n 3, 1) := by decide +kernel
theorem dX2_sumOfSteamed_7 : decode cX2_sumOfSteamed 7 = .ok (.aload_n 0, 1) := by decide +kernel
theorem dX2_sumOfSteamed_8 : decode cX2_sumOfSteamed 8 = .ok (.getfield 28, 3) := by decide +kernel
theorem dX2_sumOfSteamed_11 : decode cX2_sumOfSteamed 11 = .ok (.if_icmp .ge 61, 3) := by decide +kernel
theorem dX2_sumOfSteamed_14 : decode cX2_sumOfSteamed 14 = .ok (.aload_n 0, 1) := by decide +kernel
theorem dX2_sumOfSteamed_15 : decode cX2_sumOfSteamed 15 = .ok (.invokevirtual 87, 3) := by decide +kernel
theorem dX2_sumOfSteamed_18 : decode cX2_sumOfSteamed 18 = .ok (.istore 4, 2) := by decide +kernel
theorem dX2_sumOfSteamed_20 : decode cX2_sumOfSteamed 20 = .ok (.iload 4, 2) := by decide +kernel
theorem dX2_sumOfSteamed_22 : decode cX2_sumOfSteamed 22 = .ok (.ifCond .ge 6, 3) := by decide +kernel
theorem dX2_sumOfSteamed_25 : decode cX2_sumOfSteamed 25 = .ok (.goto 47, 3) := by decide +kernel
theorem dX2_sumOfSteamed_28 : decode cX2_sumOfSteamed 28 = .ok (.aload_n 0, 1) := by decide +kernel
theorem dX2_sumOfSteamed_29 : decode cX2_sumOfSteamed 29 = .ok (.getfield 24, 3) := by decide +kernel
theorem dX2_sumOfSteamed_32 : decode cX2_sumOfSteamed 32 = .ok (.iload 4, 2) := by decide +kernel
theorem dX2_sumOfSteamed_34 : decode cX2_sumOfSteamed 34 = .ok (.iconst 0, 1) := by decide +kernel
theorem dX2_sumOfSteamed_35 : decode cX2_sumOfSteamed 35 = .ok (.bastore, 1) := by decide +kernel
theorem dX2_sumOfSteamed_36 : decode cX2_sumOfSteamed 36 = .ok (.iload_n 1, 1) := by decide +kernel
theorem dX2_sumOfSteamed_37 : decode cX2_sumOfSteamed 37 = .ok (.aload_n 0, 1) := by decide +kernel
theorem dX2_sumOfSteamed_38 : decode cX2_sumOfSteamed 38 = .ok (.getfield 21, 3) := by decide +kernel
theorem dX2_sumOfSteamed_41 : decode cX2_sumOfSteamed 41 = .ok (.iload 4, 2) := by decide +kernel
theorem dX2_sumOfSteamed_43 : decode cX2_sumOfSteamed 43 = .ok (.iaload, 1) := by decide +kernel
theorem dX2_sumOfSteamed_44 : decode cX2_sumOfSteamed 44 = .ok (.invokestatic 72, 3) := by decide +kernel
theorem dX2_sumOfSteamed_47 : decode cX2_sumOfSteamed 47 = .ok (.aload_n 0, 1) := by decide +kernel
theorem dX2_sumOfSteamed_48 : decode cX2_sumOfSteamed 48 = .ok (.getfield 11, 3) := by decide +kernel
theorem dX2_sumOfSteamed_51 : decode cX2_sumOfSteamed 51 = .ok (.iload 4, 2) := by decide +kernel
theorem dX2_sumOfSteamed_53 : decode cX2_sumOfSteamed 53 = .ok (.aaload, 1) := by decide +kernel
theorem dX2_sumOfSteamed_54 : decode cX2_sumOfSteamed 54 = .ok (.getfield 60, 3) := by decide +kernel
theorem dX2_sumOfSteamed_57 : decode cX2_sumOfSteamed 57 = .ok (.getfield 81, 3) := by decide +kernel
theorem dX2_sumOfSteamed_60 : decode cX2_sumOfSteamed 60 = .ok (.iadd, 1) := by decide +kernel
theorem dX2_sumOfSteamed_61 : decode cX2_sumOfSteamed 61 = .ok (.istore_n 1, 1) := by decide +kernel
theorem dX2_sumOfSteamed_62 : decode cX2_sumOfSteamed 62 = .ok (.iload_n 2, 1) := by decide +kernel
theorem dX2_sumOfSteamed_63 : decode cX2_sumOfSteamed 63 = .ok (.iload_n 1, 1) := by decide +kernel
theorem dX2_sumOfSteamed_64 : decode cX2_sumOfSteamed 64 = .ok (.iadd, 1) := by decide +kernel
theorem dX2_sumOfSteamed_65 : decode cX2_sumOfSteamed 65 = .ok (.istore_n 2, 1) := by decide +kernel
theorem dX2_sumOfSteamed_66 : decode cX2_sumOfSteamed 66 = .ok (.iinc 3 1, 3) := by decide +kernel
theorem dX2_sumOfSteamed_69 : decode cX2_sumOfSteamed 69 = .ok (.goto (-63), 3) := by decide +kernel
theorem dX2_sumOfSteamed_72 : decode cX2_sumOfSteamed 72 = .ok (.iload_n 2, 1) := by decide +kernel
theorem dX2_sumOfSteamed_73 : decode cX2_sumOfSteamed 73 = .ok (.ireturn, 1) := by decide +kernel
theorem dX2_nextToSteam_0 : decode cX2_nextToSteam 0 = .ok (.iconst (-1), 1) := by decide +kernel
theorem dX2_nextToSteam_1 : decode cX2_nextToSteam 1 = .ok (.istore_n 1, 1) := by decide +kernel
theorem dX2_nextToSteam_2 : decode cX2_nextToSteam 2 = .ok (.iconst 0, 1) := by decide +kernel
theorem dX2_nextToSteam_3 : decode cX2_nextToSteam 3 = .ok (.istore_n 2, 1) := by decide +kernel
theorem dX2_nextToSteam_4 : decode cX2_nextToSteam 4 = .ok (.iload_n 2, 1) := by decide +kernel
theorem dX2_nextToSteam_5 : decode cX2_nextToSteam 5 = .ok (.aload_n 0, 1) := by decide +kernel
theorem dX2_nextToSteam_6 : decode cX2_nextToSteam 6 = .ok (.getfield 28, 3) := by decide +kernel
theorem dX2_nextToSteam_9 : decode cX2_nextToSteam 9 = .ok (.if_icmp .ge 40, 3) := by decide +kernel
theorem dX2_nextToSteam_12 : decode cX2_nextToSteam 12 = .ok (.aload_n 0, 1) := by decide +kernel
theorem dX2_nextToSteam_13 : decode cX2_nextToSteam 13 = .ok (.getfield 24, 3) := by decide +kernel
theorem dX2_nextToSteam_16 : decode cX2_nextToSteam 16 = .ok (.iload_n 2, 1) := by decide +kernel
theorem dX2_nextToSteam_17 : decode cX2_nextToSteam 17 = .ok (.baload, 1) := by decide +kernel
theorem dX2_nextToSteam_18 : decode cX2_nextToSteam 18 = .ok (.ifCond .eq 25, 3) := by decide +kernel
theorem dX2_nextToSteam_21 : decode cX2_nextToSteam 21 = .ok (.iload_n 1, 1) := by decide +kernel
theorem dX2_nextToSteam_22 : decode cX2_nextToSteam 22 = .ok (.iconst (-1), 1) := by decide +kernel
theorem dX2_nextToSteam_23 : decode cX2_nextToSteam 23 = .ok (.if_icmp .eq 18, 3) := by decide +kernel
theorem dX2_nextToSteam_26 : decode cX2_nextToSteam 26 = .ok (.aload_n 0, 1) := by decide +kernel
theorem dX2_nextToSteam_27 : decode cX2_nextToSteam 27 = .ok (.getfield 21, 3) := by decide +kernel
theorem dX2_nextToSteam_30 : decode cX2_nextToSteam 30 = .ok (.iload_n 2, 1) := by decide +kernel
theorem dX2_nextToSteam_31 : decode cX2_nextToSteam 31 = .ok (.iaload, 1) := by decide +kernel
theorem dX2_nextToSteam_32 : decode cX2_nextToSteam 32 = .ok (.aload_n 0, 1) := by decide +kernel
theorem dX2_nextToSteam_33 : decode cX2_nextToSteam 33 = .ok (.getfield 21, 3) := by decide +kernel
theorem dX2_nextToSteam_36 : decode cX2_nextToSteam 36 = .ok (.iload_n 1, 1) := by decide +kernel
theorem dX2_nextToSteam_37 : decode cX2_nextToSteam 37 = .ok (.iaload, 1) := by decide +kernel
theorem dX2_nextToSteam_38 : decode cX2_nextToSteam 38 = .ok (.if_icmp .ge 5, 3) := by decide +kernel
theorem dX2_nextToSteam_41 : decode cX2_nextToSteam 41 = .ok (.iload_n 2, 1) := by decide +kernel
theorem dX2_nextToSteam_42 : decode cX2_nextToSteam 42 = .ok (.istore_n 1, 1) := by decide +kernel
theorem dX2_nextToSteam_43 : decode cX2_nextToSteam 43 = .ok (.iinc 2 1, 3) := by decide +kernel
theorem dX2_nextToSteam_46 : decode cX2_nextToSteam 46 = .ok (.goto (-42), 3) := by decide +kernel
theorem dX2_nextToSteam_49 : decode cX2_nextToSteam 49 = .ok (.iload_n 1, 1) := by decide +kernel
theorem dX2_nextToSteam_50 : decode cX2_nextToSteam 50 = .ok (.ireturn, 1) := by decide +kernel
theorem dX3_init_0 : decode cX3_init 0 = .ok (.aload_n 0, 1) := by decide +kernel
theorem dX3_init_1 : decode cX3_init 1 = .ok (.invokespecial 1, 3) := by decide +kernel
theorem dX3_init_4 : decode cX3_init 4 = .ok (.aload_n 0, 1) := by decide +kernel
theorem dX3_init_5 : decode cX3_init 5 = .ok (.iload_n 1, 1) := by decide +kernel
theorem dX3_init_6 : decode cX3_init 6 = .ok (.putfield 7, 3) := by decide +kernel
theorem dX3_init_9 : decode cX3_init 9 = .ok (.aload_n 0, 1) := by decide +kernel
theorem dX3_init_10 : decode cX3_init 10 = .ok (.iload_n 2, 1) := by decide +kernel
theorem dX3_init_11 : decode cX3_init 11 = .ok (.putfield 13, 3) := by decide +kernel
theorem dX3_init_14 : decode cX3_init 14 = .ok (.aload_n 0, 1) := by decide +kernel
theorem dX3_init_15 : decode cX3_init 15 = .ok (.iload_n 3, 1) := by decide +kernel
theorem dX3_init_16 : decode cX3_init 16 = .ok (.putfield 16, 3) := by decide +kernel
theorem dX3_init_19 : decode cX3_init 19 = .ok (.aload_n 0, 1) := by decide +kernel
theorem dX3_init_20 : decode cX3_init 20 = .ok (.iload 4, 2) := by decide +kernel
theorem dX3_init_22 : decode cX3_init 22 = .ok (.putfield 19, 3) := by decide +kernel
theorem dX3_init_25 : decode cX3_init 25 = .ok (.aload_n 0, 1) := by decide +kernel
theorem dX3_init_26 : decode cX3_init 26 = .ok (.iload 5, 2) := by decide +kernel
theorem dX3_init_28 : decode cX3_init 28 = .ok (.putfield 22, 3) := by decide +kernel
theorem dX3_init_31 : decode cX3_init 31 = .ok (.aload_n 0, 1) := by decide +kernel
theorem dX3_init_32 : decode cX3_init 32 = .ok (.iload 6, 2) := by decide +kernel
theorem dX3_init_34 : decode cX3_init 34 = .ok (.putfield 25, 3) := by decide +kernel
theorem dX3_init_37 : decode cX3_init 37 = .ok (.return_, 1) := by decide +kernel
set_option maxRecDepth 20000 in
theorem ggX3_canBe_X3_isIn : GoodIn wsX3_canBe wsX3_isIn := goodIn_r _ [10] (by decide +kernel) (by decide +kernel)
set_option maxRecDepth 20000 in
theorem gX3_canBe_X3_isIn : GoodIn wsX3_canBe (va_wsS RX3 28 yX3_isIn wsX3_isIn) := goodIn_app (goodIn_of _ (by decide +kernel)) ggX3_canBe_X3_isIn
theorem dX3_canBe_0 : decode cX3_canBe 0 = .ok (.aload_n 0, 1) := by decide +kernel
theorem dX3_canBe_1 : decode cX3_canBe 1 = .ok (.getfield 7, 3) := by decide +kernel
theorem dX3_canBe_4 : decode cX3_canBe 4 = .ok (.iconst 5, 1) := by decide +kernel
theorem dX3_canBe_5 : decode cX3_canBe 5 = .ok (.bipush 30, 2) := by decide +kernel
theorem dX3_canBe_7 : decode cX3_canBe 7 = .ok (.invokestatic 28, 3) := by decide +kernel
theorem dX3_canBe_10 : decode cX3_canBe 10 = .ok (.ifCond .eq 89, 3) := by decide +kernel
theorem dX3_canBe_13 : decode cX3_canBe 13 = .ok (.aload_n 0, 1) := by decide +kernel
theorem dX3_canBe_14 : decode cX3_canBe 14 = .ok (.getfield 13, 3) := by decide +kernel
theorem dX3_canBe_17 : decode cX3_canBe 17 = .ok (.iconst 1, 1) := by decide +kernel
theorem dX3_canBe_18 : decode cX3_canBe 18 = .ok (.bipush 9, 2) := by decide +kernel
theorem dX3_canBe_20 : decode cX3_canBe 20 = .ok (.invokestatic 28, 3) := by decide +kernel
theorem dX3_canBe_23 : decode cX3_canBe 23 = .ok (.ifCond .eq 76, 3) := by decide +kernel
theorem dX3_canBe_26 : decode cX3_canBe 26 = .ok (.aload_n 0, 1) := by decide +kernel
theorem dX3_canBe_27 : decode cX3_canBe 27 = .ok (.getfield 16, 3) := by decide +kernel
theorem dX3_canBe_30 : decode cX3_canBe 30 = .ok (.iconst 1, 1) := by decide +kernel
theorem dX3_canBe_31 : decode cX3_canBe 31 = .ok (.bipush 30, 2) := by decide +kernel
theorem dX3_canBe_33 : decode cX3_canBe 33 = .ok (.invokestatic 28, 3) := by decide +kernel
theorem dX3_canBe_36 : decode cX3_canBe 36 = .ok (.ifCond .eq 63, 3) := by decide +kernel
theorem dX3_canBe_39 : decode cX3_canBe 39 = .ok (.aload_n 0, 1) := by decide +kernel
theorem dX3_canBe_40 : decode cX3_canBe 40 = .ok (.getfield 19, 3) := by decide +kernel
theorem dX3_canBe_43 : decode cX3_canBe 43 = .ok (.iconst 0, 1) := by decide +kernel
theorem dX3_canBe_44 : decode cX3_canBe 44 = .ok (.bipush 20, 2) := by decide +kernel
theorem dX3_canBe_46 : decode cX3_canBe 46 = .ok (.invokestatic 28, 3) := by decide +kernel
theorem dX3_canBe_49 : decode cX3_canBe 49 = .ok (.ifCond .eq 50, 3) := by decide +kernel
theorem dX3_canBe_52 : decode cX3_canBe 52 = .ok (.aload_n 0, 1) := by decide +kernel
theorem dX3_canBe_53 : decode cX3_canBe 53 = .ok (.getfield 22, 3) := by decide +kernel
theorem dX3_canBe_56 : decode cX3_canBe 56 = .ok (.bipush 10, 2) := by decide +kernel
theorem dX3_canBe_58 : decode cX3_canBe 58 = .ok (.sipush 250, 3) := by decide +kernel
theorem dX3_canBe_61 : decode cX3_canBe 61 = .ok (.invokestatic 28, 3) := by decide +kernel
theorem dX3_canBe_64 : decode cX3_canBe 64 = .ok (.ifCond .eq 35, 3) := by decide +kernel
theorem dX3_canBe_67 : decode cX3_canBe 67 = .ok (.aload_n 0, 1) := by decide +kernel
theorem dX3_canBe_68 : decode cX3_canBe 68 = .ok (.getfield 25, 3) := by decide +kernel
theorem dX3_canBe_71 : decode cX3_canBe 71 = .ok (.iconst 0, 1) := by decide +kernel
theorem dX3_canBe_72 : decode cX3_canBe 72 = .ok (.sipush 250, 3) := by decide +kernel
theorem dX3_canBe_75 : decode cX3_canBe 75 = .ok (.invokestatic 28, 3) := by decide +kernel
theorem dX3_canBe_78 : decode cX3_canBe 78 = .ok (.ifCond .eq 21, 3) := by decide +kernel
theorem dX3_canBe_81 : decode cX3_canBe 81 = .ok (.aload_n 0, 1) := by decide +kernel
theorem dX3_canBe_82 : decode cX3_canBe 82 = .ok (.getfield 19, 3) := by decide +kernel
theorem dX3_canBe_85 : decode cX3_canBe 85 = .ok (.ifCond .gt 10, 3) := by decide +kernel
theorem dX3_canBe_88 : decode cX3_canBe 88 = .ok (.aload_n 0, 1) := by decide +kernel
theorem dX3_canBe_89 : decode cX3_canBe 89 = .ok (.getfield 25, 3) := by decide +kernel
theorem dX3_canBe_92 : decode cX3_canBe 92 = .ok (.ifCond .ne 7, 3) := by decide +kernel
theorem dX3_canBe_95 : decode cX3_canBe 95 = .ok (.iconst 1, 1) := by decide +kernel
theorem dX3_canBe_96 : decode cX3_canBe 96 = .ok (.goto 4, 3) := by decide +kernel
theorem dX3_canBe_99 : decode cX3_canBe 99 = .ok (.iconst 0, 1) := by decide +kernel
theorem dX3_canBe_100 : decode cX3_canBe 100 = .ok (.ireturn, 1) := by decide +kernel
theorem dX3_isIn_0 : decode cX3_isIn 0 = .ok (.iload_n 0, 1) := by decide +kernel
theorem dX3_isIn_1 : decode cX3_isIn 1 = .ok (.iload_n 1, 1) := by decide +kernel
theorem dX3_isIn_2 : decode cX3_isIn 2 = .ok (.if_icmp .lt 12, 3) := by decide +kernel
theorem dX3_isIn_5 : decode cX3_isIn 5 = .ok (.iload_n 0, 1) := by decide +kernel
theorem dX3_isIn_6 : decode cX3_isIn 6 = .ok (.iload_n 2, 1) := by decide +kernel
theorem dX3_isIn_7 : decode cX3_isIn 7 = .ok (.if_icmp .gt 7, 3) := by decide +kernel
theorem dX3_isIn_10 : decode cX3_isIn 10 = .ok (.iconst 1, 1) := by decide +kernel
theorem dX3_isIn_11 : decode cX3_isIn 11 = .ok (.goto 4, 3) := by decide +kernel
theorem dX3_isIn_14 : decode cX3_isIn 14 = .ok (.iconst 0, 1) := by decide +kernel
theorem dX3_isIn_15 : decode cX3_isIn 15 = .ok (.ireturn, 1) := by decide +kernel
set_option maxRecDepth 20000 in
theorem ggX4_init_X4_within : GoodIn wsX4_init wsX4_within := goodIn_r _ [33, 34, 35, 36, 37, 38, 39, 40] (by decide +kernel) (by decide +kernel)
set_option maxRecDepth 20000 in
theorem gX4_init_X4_within : GoodIn wsX4_init (va_wsS RX4 60 yX4_within wsX4_within) := goodIn_app (goodIn_of _ (by decide +kernel)) ggX4_init_X4_within
set_option maxRecDepth 20000 in
theorem ggX4_init_X1_init : GoodIn wsX4_init wsX1_init := goodIn_r _ [43, 44, 2, 3, 45, 46, 47, 48, 49, 50, 81, 82, 83, 84, 85, 86] (by decide +kernel) (by decide +kernel)
set_option maxRecDepth 20000 in
theorem gX4_init_X1_init : GoodIn wsX4_init (wsX1_init) := ggX4_init_X1_init
set_option maxRecDepth 20000 in
theorem ggX4_init_X2_init : GoodIn wsX4_init wsX2_init := goodIn_r _ [53, 54, 2, 3, 55, 56, 10, 57, 58, 59, 60, 61, 62, 63, 87, 88, 89, 90, 91, 92, 93] (by decide +kernel) (by decide +kernel)
set_option maxRecDepth 20000 in
theorem gX4_init_X2_init : GoodIn wsX4_init (wsX2_init) := ggX4_init_X2_init
