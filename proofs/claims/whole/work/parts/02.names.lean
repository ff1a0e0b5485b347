theorem dX0_init_0 : decode cX0_init 0 = .ok (.aload_n 0, 1) := by decide +kernel
theorem dX0_init_1 : decode cX0_init 1 = .ok (.invokespecial 3, 3) := by decide +kernel
theorem dX0_init_4 : decode cX0_init 4 = .ok (.aload_n 0, 1) := by decide +kernel
theorem dX0_init_5 : decode cX0_init 5 = .ok (.bipush 8, 2) := by decide +kernel
theorem dX0_init_7 : decode cX0_init 7 = .ok (.newarray .int, 2) := by decide +kernel
theorem dX0_init_9 : decode cX0_init 9 = .ok (.putfield 9, 3) := by decide +kernel
theorem dX0_init_12 : decode cX0_init 12 = .ok (.aload_n 0, 1) := by decide +kernel
theorem dX0_init_13 : decode cX0_init 13 = .ok (.aload_n 1, 1) := by decide +kernel
theorem dX0_init_14 : decode cX0_init 14 = .ok (.putfield 15, 3) := by decide +kernel
theorem dX0_init_17 : decode cX0_init 17 = .ok (.return_, 1) := by decide +kernel
set_option maxRecDepth 20000 in
theorem ggX0_enter_X8_at : GoodIn wsX0_enter wsX8_at := goodIn_r _ [9] (by decide +kernel) (by decide +kernel)
set_option maxRecDepth 20000 in
theorem gX0_enter_X8_at_n24 : GoodIn wsX0_enter (wsX8_at) := ggX0_enter_X8_at
set_option maxRecDepth 20000 in
theorem ggX0_enter_X7_about : GoodIn wsX0_enter wsX7_about := goodIn_r _ [14, 15, 16, 8, 17, 45] (by decide +kernel) (by decide +kernel)
set_option maxRecDepth 20000 in
theorem gX0_enter_X7_about : GoodIn wsX0_enter (wsV RX0 49 RX7 yX7_about wsX7_about) := goodIn_app (goodIn_of _ (by decide +kernel)) ggX0_enter_X7_about
set_option maxRecDepth 20000 in
theorem ggX0_enter_X5_stoutAt : GoodIn wsX0_enter wsX5_stoutAt := goodIn_r _ [22, 23, 7, 8, 9, 41, 42, 43, 44] (by decide +kernel) (by decide +kernel)
set_option maxRecDepth 20000 in
theorem gX0_enter_X5_stoutAt : GoodIn wsX0_enter (wsV RX0 58 RX5 yX5_stoutAt wsX5_stoutAt) := goodIn_app (goodIn_of _ (by decide +kernel)) ggX0_enter_X5_stoutAt
set_option maxRecDepth 20000 in
theorem ggX0_enter_X8_put : GoodIn wsX0_enter wsX8_put := goodIn_r _ [25] (by decide +kernel) (by decide +kernel)
set_option maxRecDepth 20000 in
theorem gX0_enter_X8_put_n62 : GoodIn wsX0_enter (wsX8_put) := ggX0_enter_X8_put
theorem dX0_enter_0 : decode cX0_enter 0 = .ok (.aload_n 0, 1) := by decide +kernel
theorem dX0_enter_1 : decode cX0_enter 1 = .ok (.aload_n 0, 1) := by decide +kernel
theorem dX0_enter_2 : decode cX0_enter 2 = .ok (.getfield 15, 3) := by decide +kernel
theorem dX0_enter_5 : decode cX0_enter 5 = .ok (.getfield 19, 3) := by decide +kernel
theorem dX0_enter_8 : decode cX0_enter 8 = .ok (.iload_n 2, 1) := by decide +kernel
theorem dX0_enter_9 : decode cX0_enter 9 = .ok (.invokestatic 24, 3) := by decide +kernel
theorem dX0_enter_12 : decode cX0_enter 12 = .ok (.putfield 28, 3) := by decide +kernel
theorem dX0_enter_15 : decode cX0_enter 15 = .ok (.aload_n 0, 1) := by decide +kernel
theorem dX0_enter_16 : decode cX0_enter 16 = .ok (.aload_n 0, 1) := by decide +kernel
theorem dX0_enter_17 : decode cX0_enter 17 = .ok (.getfield 15, 3) := by decide +kernel
theorem dX0_enter_20 : decode cX0_enter 20 = .ok (.getfield 32, 3) := by decide +kernel
theorem dX0_enter_23 : decode cX0_enter 23 = .ok (.iload_n 2, 1) := by decide +kernel
theorem dX0_enter_24 : decode cX0_enter 24 = .ok (.invokestatic 24, 3) := by decide +kernel
theorem dX0_enter_27 : decode cX0_enter 27 = .ok (.putfield 35, 3) := by decide +kernel
theorem dX0_enter_30 : decode cX0_enter 30 = .ok (.aload_n 0, 1) := by decide +kernel
theorem dX0_enter_31 : decode cX0_enter 31 = .ok (.aload_n 0, 1) := by decide +kernel
theorem dX0_enter_32 : decode cX0_enter 32 = .ok (.getfield 15, 3) := by decide +kernel
theorem dX0_enter_35 : decode cX0_enter 35 = .ok (.getfield 37, 3) := by decide +kernel
theorem dX0_enter_38 : decode cX0_enter 38 = .ok (.iload_n 2, 1) := by decide +kernel
theorem dX0_enter_39 : decode cX0_enter 39 = .ok (.invokestatic 24, 3) := by decide +kernel
theorem dX0_enter_42 : decode cX0_enter 42 = .ok (.putfield 40, 3) := by decide +kernel
theorem dX0_enter_45 : decode cX0_enter 45 = .ok (.aload_n 0, 1) := by decide +kernel
theorem dX0_enter_46 : decode cX0_enter 46 = .ok (.aload_n 1, 1) := by decide +kernel
theorem dX0_enter_47 : decode cX0_enter 47 = .ok (.getfield 43, 3) := by decide +kernel
theorem dX0_enter_50 : decode cX0_enter 50 = .ok (.iload_n 2, 1) := by decide +kernel
theorem dX0_enter_51 : decode cX0_enter 51 = .ok (.invokevirtual 49, 3) := by decide +kernel
theorem dX0_enter_54 : decode cX0_enter 54 = .ok (.putfield 55, 3) := by decide +kernel
theorem dX0_enter_57 : decode cX0_enter 57 = .ok (.iconst 0, 1) := by decide +kernel
theorem dX0_enter_58 : decode cX0_enter 58 = .ok (.istore_n 3, 1) := by decide +kernel
theorem dX0_enter_59 : decode cX0_enter 59 = .ok (.iload_n 3, 1) := by decide +kernel
theorem dX0_enter_60 : decode cX0_enter 60 = .ok (.bipush 8, 2) := by decide +kernel
theorem dX0_enter_62 : decode cX0_enter 62 = .ok (.if_icmp .ge 23, 3) := by decide +kernel
theorem dX0_enter_65 : decode cX0_enter 65 = .ok (.aload_n 0, 1) := by decide +kernel
theorem dX0_enter_66 : decode cX0_enter 66 = .ok (.getfield 9, 3) := by decide +kernel
theorem dX0_enter_69 : decode cX0_enter 69 = .ok (.iload_n 3, 1) := by decide +kernel
theorem dX0_enter_70 : decode cX0_enter 70 = .ok (.aload_n 1, 1) := by decide +kernel
theorem dX0_enter_71 : decode cX0_enter 71 = .ok (.iload_n 2, 1) := by decide +kernel
theorem dX0_enter_72 : decode cX0_enter 72 = .ok (.iload_n 3, 1) := by decide +kernel
theorem dX0_enter_73 : decode cX0_enter 73 = .ok (.invokevirtual 58, 3) := by decide +kernel
theorem dX0_enter_76 : decode cX0_enter 76 = .ok (.invokestatic 62, 3) := by decide +kernel
theorem dX0_enter_79 : decode cX0_enter 79 = .ok (.iinc 3 1, 3) := by decide +kernel
theorem dX0_enter_82 : decode cX0_enter 82 = .ok (.goto (-23), 3) := by decide +kernel
theorem dX0_enter_85 : decode cX0_enter 85 = .ok (.return_, 1) := by decide +kernel
set_option maxRecDepth 20000 in
theorem ggX0_settle_X8_at : GoodIn wsX0_settle wsX8_at := goodIn_r _ [4] (by decide +kernel) (by decide +kernel)
set_option maxRecDepth 20000 in
theorem gX0_settle_X8_at_n24 : GoodIn wsX0_settle (wsX8_at) := ggX0_settle_X8_at
set_option maxRecDepth 20000 in
theorem ggX0_settle_X5_setStout : GoodIn wsX0_settle wsX5_setStout := goodIn_r _ [9, 10, 11, 3, 12, 19, 20, 21, 22] (by decide +kernel) (by decide +kernel)
set_option maxRecDepth 20000 in
theorem gX0_settle_X5_setStout : GoodIn wsX0_settle (wsV RX0 66 RX5 yX5_setStout wsX5_setStout) := goodIn_app (goodIn_of _ (by decide +kernel)) ggX0_settle_X5_setStout
theorem dX0_settle_0 : decode cX0_settle 0 = .ok (.iconst 0, 1) := by decide +kernel
theorem dX0_settle_1 : decode cX0_settle 1 = .ok (.istore_n 3, 1) := by decide +kernel
theorem dX0_settle_2 : decode cX0_settle 2 = .ok (.iload_n 3, 1) := by decide +kernel
theorem dX0_settle_3 : decode cX0_settle 3 = .ok (.bipush 8, 2) := by decide +kernel
theorem dX0_settle_5 : decode cX0_settle 5 = .ok (.if_icmp .ge 23, 3) := by decide +kernel
theorem dX0_settle_8 : decode cX0_settle 8 = .ok (.aload_n 1, 1) := by decide +kernel
theorem dX0_settle_9 : decode cX0_settle 9 = .ok (.iload_n 2, 1) := by decide +kernel
theorem dX0_settle_10 : decode cX0_settle 10 = .ok (.iload_n 3, 1) := by decide +kernel
theorem dX0_settle_11 : decode cX0_settle 11 = .ok (.aload_n 0, 1) := by decide +kernel
theorem dX0_settle_12 : decode cX0_settle 12 = .ok (.getfield 9, 3) := by decide +kernel
theorem dX0_settle_15 : decode cX0_settle 15 = .ok (.iload_n 3, 1) := by decide +kernel
theorem dX0_settle_16 : decode cX0_settle 16 = .ok (.invokestatic 24, 3) := by decide +kernel
theorem dX0_settle_19 : decode cX0_settle 19 = .ok (.invokevirtual 66, 3) := by decide +kernel
theorem dX0_settle_22 : decode cX0_settle 22 = .ok (.iinc 3 1, 3) := by decide +kernel
theorem dX0_settle_25 : decode cX0_settle 25 = .ok (.goto (-23), 3) := by decide +kernel
theorem dX0_settle_28 : decode cX0_settle 28 = .ok (.return_, 1) := by decide +kernel
set_option maxRecDepth 20000 in
theorem ggX0_passDays_X0_passDay : GoodIn wsX0_passDays wsX0_passDay := goodIn_r _ [5, 6, 7, 8, 9, 10, 11, 12, 13, 14, 15, 16, 17, 18, 19, 20, 21, 22, 23, 24, 25, 26, 27, 4, 28, 29, 30, 31, 32, 33, 34, 35, 36, 37, 38, 39, 40, 41, 42, 43, 44, 45, 46, 47, 48, 49, 50, 51, 52, 53, 54, 55, 56, 57, 58, 59, 60, 61, 62, 63, 64, 65, 66, 67, 68] (by decide +kernel) (by decide +kernel)
set_option maxRecDepth 20000 in
theorem gX0_passDays_X0_passDay : GoodIn wsX0_passDays (wsV RX0 70 RX0 yX0_passDay wsX0_passDay) := goodIn_app (goodIn_of _ (by decide +kernel)) ggX0_passDays_X0_passDay
set_option maxRecDepth 20000 in
theorem ggX0_passDays_J6_bitCount_0f7a4 : GoodIn wsX0_passDays wsJ6_bitCount_0f7a4 := goodIn_r _ [18, 19, 20, 21] (by decide +kernel) (by decide +kernel)
set_option maxRecDepth 20000 in
theorem gX0_passDays_J6_bitCount_0f7a4 : GoodIn wsX0_passDays (va_wsS RX0 74 yJ6_bitCount_0f7a4 wsJ6_bitCount_0f7a4) := goodIn_app (goodIn_of _ (by decide +kernel)) ggX0_passDays_J6_bitCount_0f7a4
theorem dX0_passDays_0 : decode cX0_passDays 0 = .ok (.iconst 0, 1) := by decide +kernel
theorem dX0_passDays_1 : decode cX0_passDays 1 = .ok (.istore_n 2, 1) := by decide +kernel
theorem dX0_passDays_2 : decode cX0_passDays 2 = .ok (.iconst 0, 1) := by decide +kernel
theorem dX0_passDays_3 : decode cX0_passDays 3 = .ok (.istore_n 3, 1) := by decide +kernel
theorem dX0_passDays_4 : decode cX0_passDays 4 = .ok (.iload_n 3, 1) := by decide +kernel
theorem dX0_passDays_5 : decode cX0_passDays 5 = .ok (.iload_n 1, 1) := by decide +kernel
theorem dX0_passDays_6 : decode cX0_passDays 6 = .ok (.if_icmp .ge 19, 3) := by decide +kernel
theorem dX0_passDays_9 : decode cX0_passDays 9 = .ok (.iload_n 2, 1) := by decide +kernel
theorem dX0_passDays_10 : decode cX0_passDays 10 = .ok (.aload_n 0, 1) := by decide +kernel
theorem dX0_passDays_11 : decode cX0_passDays 11 = .ok (.invokevirtual 70, 3) := by decide +kernel
theorem dX0_passDays_14 : decode cX0_passDays 14 = .ok (.invokestatic 74, 3) := by decide +kernel
theorem dX0_passDays_17 : decode cX0_passDays 17 = .ok (.iadd, 1) := by decide +kernel
theorem dX0_passDays_18 : decode cX0_passDays 18 = .ok (.istore_n 2, 1) := by decide +kernel
theorem dX0_passDays_19 : decode cX0_passDays 19 = .ok (.iinc 3 1, 3) := by decide +kernel
theorem dX0_passDays_22 : decode cX0_passDays 22 = .ok (.goto (-18), 3) := by decide +kernel
theorem dX0_passDays_25 : decode cX0_passDays 25 = .ok (.iload_n 2, 1) := by decide +kernel
theorem dX0_passDays_26 : decode cX0_passDays 26 = .ok (.ireturn, 1) := by decide +kernel
set_option maxRecDepth 20000 in
theorem ggX0_passDay_X7_callers : GoodIn wsX0_passDay wsX7_callers := goodIn_r _ [9] (by decide +kernel) (by decide +kernel)
set_option maxRecDepth 20000 in
theorem gX0_passDay_X7_callers : GoodIn wsX0_passDay (va_wsS RX0 83 yX7_callers wsX7_callers) := goodIn_app (goodIn_of _ (by decide +kernel)) ggX0_passDay_X7_callers
set_option maxRecDepth 20000 in
theorem ggX0_passDay_J6_bitCount_0f7a4 : GoodIn wsX0_passDay wsJ6_bitCount_0f7a4 := goodIn_r _ [13, 14, 15, 16] (by decide +kernel) (by decide +kernel)
set_option maxRecDepth 20000 in
theorem gX0_passDay_J6_bitCount_0f7a4 : GoodIn wsX0_passDay (va_wsS RX0 74 yJ6_bitCount_0f7a4 wsJ6_bitCount_0f7a4) := goodIn_app (goodIn_of _ (by decide +kernel)) ggX0_passDay_J6_bitCount_0f7a4
set_option maxRecDepth 20000 in
theorem ggX0_passDay_X8_at : GoodIn wsX0_passDay wsX8_at := goodIn_r _ [19] (by decide +kernel) (by decide +kernel)
set_option maxRecDepth 20000 in
theorem gX0_passDay_X8_at_n24 : GoodIn wsX0_passDay (wsX8_at) := ggX0_passDay_X8_at
set_option maxRecDepth 20000 in
theorem ggX0_passDay_X0_liveOn : GoodIn wsX0_passDay wsX0_liveOn := goodIn_r _ [24, 1, 4, 25, 26, 27, 28, 29, 30, 31, 17, 18, 19, 32, 33, 50, 51, 52, 53, 54, 55] (by decide +kernel) (by decide +kernel)
set_option maxRecDepth 20000 in
theorem gX0_passDay_X0_liveOn : GoodIn wsX0_passDay (wsV RX0 87 RX0 yX0_liveOn wsX0_liveOn) := goodIn_app (goodIn_of _ (by decide +kernel)) ggX0_passDay_X0_liveOn
set_option maxRecDepth 20000 in
theorem ggX0_passDay_X0_takeIn : GoodIn wsX0_passDay wsX0_takeIn := goodIn_r _ [37, 2, 4, 38, 39, 27, 40, 1, 41, 17, 18, 19, 32, 33, 50, 51, 52, 53, 54, 55, 56, 57, 58, 59, 60, 61, 62, 63, 64] (by decide +kernel) (by decide +kernel)
set_option maxRecDepth 20000 in
theorem gX0_passDay_X0_takeIn : GoodIn wsX0_passDay (wsV RX0 91 RX0 yX0_takeIn wsX0_takeIn) := goodIn_app (goodIn_of _ (by decide +kernel)) ggX0_passDay_X0_takeIn
set_option maxRecDepth 20000 in
theorem ggX0_passDay_X0_together : GoodIn wsX0_passDay wsX0_together := goodIn_r _ [45, 4, 17, 18, 19, 50, 51, 52, 53, 54, 55] (by decide +kernel) (by decide +kernel)
set_option maxRecDepth 20000 in
theorem gX0_passDay_X0_together : GoodIn wsX0_passDay (wsV RX0 98 RX0 yX0_together wsX0_together) := goodIn_app (goodIn_of _ (by decide +kernel)) ggX0_passDay_X0_together
set_option maxRecDepth 20000 in
theorem ggX0_passDay_X0_thinStoutest : GoodIn wsX0_passDay wsX0_thinStoutest := goodIn_r _ [49, 4, 29, 30, 27, 31, 17, 18, 19, 32, 33, 50, 51, 52, 53, 54, 55] (by decide +kernel) (by decide +kernel)
set_option maxRecDepth 20000 in
theorem gX0_passDay_X0_thinStoutest : GoodIn wsX0_passDay (wsV RX0 102 RX0 yX0_thinStoutest wsX0_thinStoutest) := goodIn_app (goodIn_of _ (by decide +kernel)) ggX0_passDay_X0_thinStoutest
theorem dX0_passDay_0 : decode cX0_passDay 0 = .ok (.iconst 0, 1) := by decide +kernel
theorem dX0_passDay_1 : decode cX0_passDay 1 = .ok (.istore_n 1, 1) := by decide +kernel
theorem dX0_passDay_2 : decode cX0_passDay 2 = .ok (.aload_n 0, 1) := by decide +kernel
theorem dX0_passDay_3 : decode cX0_passDay 3 = .ok (.getfield 28, 3) := by decide +kernel
theorem dX0_passDay_6 : decode cX0_passDay 6 = .ok (.iconst 4, 1) := by decide +kernel
theorem dX0_passDay_7 : decode cX0_passDay 7 = .ok (.if_icmp .ne 5, 3) := by decide +kernel
theorem dX0_passDay_10 : decode cX0_passDay 10 = .ok (.iload_n 1, 1) := by decide +kernel
theorem dX0_passDay_11 : decode cX0_passDay 11 = .ok (.ireturn, 1) := by decide +kernel
theorem dX0_passDay_12 : decode cX0_passDay 12 = .ok (.iconst 0, 1) := by decide +kernel
theorem dX0_passDay_13 : decode cX0_passDay 13 = .ok (.istore_n 2, 1) := by decide +kernel
theorem dX0_passDay_14 : decode cX0_passDay 14 = .ok (.iload_n 2, 1) := by decide +kernel
theorem dX0_passDay_15 : decode cX0_passDay 15 = .ok (.aload_n 0, 1) := by decide +kernel
theorem dX0_passDay_16 : decode cX0_passDay 16 = .ok (.getfield 15, 3) := by decide +kernel
theorem dX0_passDay_19 : decode cX0_passDay 19 = .ok (.getfield 80, 3) := by decide +kernel
theorem dX0_passDay_22 : decode cX0_passDay 22 = .ok (.if_icmp .ge 60, 3) := by decide +kernel
theorem dX0_passDay_25 : decode cX0_passDay 25 = .ok (.aload_n 0, 1) := by decide +kernel
theorem dX0_passDay_26 : decode cX0_passDay 26 = .ok (.getfield 55, 3) := by decide +kernel
theorem dX0_passDay_29 : decode cX0_passDay 29 = .ok (.iload_n 2, 1) := by decide +kernel
theorem dX0_passDay_30 : decode cX0_passDay 30 = .ok (.invokestatic 83, 3) := by decide +kernel
theorem dX0_passDay_33 : decode cX0_passDay 33 = .ok (.invokestatic 74, 3) := by decide +kernel
theorem dX0_passDay_36 : decode cX0_passDay 36 = .ok (.istore_n 3, 1) := by decide +kernel
theorem dX0_passDay_37 : decode cX0_passDay 37 = .ok (.aload_n 0, 1) := by decide +kernel
theorem dX0_passDay_38 : decode cX0_passDay 38 = .ok (.getfield 9, 3) := by decide +kernel
theorem dX0_passDay_41 : decode cX0_passDay 41 = .ok (.iload_n 2, 1) := by decide +kernel
theorem dX0_passDay_42 : decode cX0_passDay 42 = .ok (.invokestatic 24, 3) := by decide +kernel
theorem dX0_passDay_45 : decode cX0_passDay 45 = .ok (.ifCond .le 12, 3) := by decide +kernel
theorem dX0_passDay_48 : decode cX0_passDay 48 = .ok (.aload_n 0, 1) := by decide +kernel
theorem dX0_passDay_49 : decode cX0_passDay 49 = .ok (.iload_n 2, 1) := by decide +kernel
theorem dX0_passDay_50 : decode cX0_passDay 50 = .ok (.iload_n 3, 1) := by decide +kernel
theorem dX0_passDay_51 : decode cX0_passDay 51 = .ok (.invokevirtual 87, 3) := by decide +kernel
theorem dX0_passDay_54 : decode cX0_passDay 54 = .ok (.goto 22, 3) := by decide +kernel
theorem dX0_passDay_57 : decode cX0_passDay 57 = .ok (.iload_n 3, 1) := by decide +kernel
theorem dX0_passDay_58 : decode cX0_passDay 58 = .ok (.ifCond .le 18, 3) := by decide +kernel
theorem dX0_passDay_61 : decode cX0_passDay 61 = .ok (.aload_n 0, 1) := by decide +kernel
theorem dX0_passDay_62 : decode cX0_passDay 62 = .ok (.iload_n 2, 1) := by decide +kernel
theorem dX0_passDay_63 : decode cX0_passDay 63 = .ok (.iload_n 3, 1) := by decide +kernel
theorem dX0_passDay_64 : decode cX0_passDay 64 = .ok (.invokevirtual 91, 3) := by decide +kernel
theorem dX0_passDay_67 : decode cX0_passDay 67 = .ok (.ifCond .ne 9, 3) := by decide +kernel
theorem dX0_passDay_70 : decode cX0_passDay 70 = .ok (.iload_n 1, 1) := by decide +kernel
theorem dX0_passDay_71 : decode cX0_passDay 71 = .ok (.iconst 1, 1) := by decide +kernel
theorem dX0_passDay_72 : decode cX0_passDay 72 = .ok (.iload_n 2, 1) := by decide +kernel
theorem dX0_passDay_73 : decode cX0_passDay 73 = .ok (.ishl, 1) := by decide +kernel
theorem dX0_passDay_74 : decode cX0_passDay 74 = .ok (.ior, 1) := by decide +kernel
theorem dX0_passDay_75 : decode cX0_passDay 75 = .ok (.istore_n 1, 1) := by decide +kernel
theorem dX0_passDay_76 : decode cX0_passDay 76 = .ok (.iinc 2 1, 3) := by decide +kernel
theorem dX0_passDay_79 : decode cX0_passDay 79 = .ok (.goto (-65), 3) := by decide +kernel
theorem dX0_passDay_82 : decode cX0_passDay 82 = .ok (.aload_n 0, 1) := by decide +kernel
theorem dX0_passDay_83 : decode cX0_passDay 83 = .ok (.aload_n 0, 1) := by decide +kernel
theorem dX0_passDay_84 : decode cX0_passDay 84 = .ok (.getfield 15, 3) := by decide +kernel
theorem dX0_passDay_87 : decode cX0_passDay 87 = .ok (.getfield 95, 3) := by decide +kernel
theorem dX0_passDay_90 : decode cX0_passDay 90 = .ok (.invokevirtual 98, 3) := by decide +kernel
theorem dX0_passDay_93 : decode cX0_passDay 93 = .ok (.aload_n 0, 1) := by decide +kernel
theorem dX0_passDay_94 : decode cX0_passDay 94 = .ok (.getfield 40, 3) := by decide +kernel
theorem dX0_passDay_97 : decode cX0_passDay 97 = .ok (.if_icmp .le 7, 3) := by decide +kernel
theorem dX0_passDay_100 : decode cX0_passDay 100 = .ok (.aload_n 0, 1) := by decide +kernel
theorem dX0_passDay_101 : decode cX0_passDay 101 = .ok (.invokevirtual 102, 3) := by decide +kernel
theorem dX0_passDay_104 : decode cX0_passDay 104 = .ok (.iload_n 1, 1) := by decide +kernel
theorem dX0_passDay_105 : decode cX0_passDay 105 = .ok (.ireturn, 1) := by decide +kernel
set_option maxRecDepth 20000 in
theorem ggX0_liveOn_X8_at : GoodIn wsX0_liveOn wsX8_at := goodIn_r _ [12] (by decide +kernel) (by decide +kernel)
set_option maxRecDepth 20000 in
theorem gX0_liveOn_X8_at_n24 : GoodIn wsX0_liveOn (wsX8_at) := ggX0_liveOn_X8_at
set_option maxRecDepth 20000 in
theorem ggX0_liveOn_X8_put : GoodIn wsX0_liveOn wsX8_put := goodIn_r _ [14] (by decide +kernel) (by decide +kernel)
set_option maxRecDepth 20000 in
theorem gX0_liveOn_X8_put_n62 : GoodIn wsX0_liveOn (wsX8_put) := ggX0_liveOn_X8_put
theorem dX0_liveOn_0 : decode cX0_liveOn 0 = .ok (.aload_n 0, 1) := by decide +kernel
theorem dX0_liveOn_1 : decode cX0_liveOn 1 = .ok (.getfield 28, 3) := by decide +kernel
theorem dX0_liveOn_4 : decode cX0_liveOn 4 = .ok (.iconst 3, 1) := by decide +kernel
theorem dX0_liveOn_5 : decode cX0_liveOn 5 = .ok (.if_icmp .ne 7, 3) := by decide +kernel
theorem dX0_liveOn_8 : decode cX0_liveOn 8 = .ok (.iconst 2, 1) := by decide +kernel
theorem dX0_liveOn_9 : decode cX0_liveOn 9 = .ok (.goto 4, 3) := by decide +kernel
theorem dX0_liveOn_12 : decode cX0_liveOn 12 = .ok (.iconst 1, 1) := by decide +kernel
theorem dX0_liveOn_13 : decode cX0_liveOn 13 = .ok (.istore_n 3, 1) := by decide +kernel
theorem dX0_liveOn_14 : decode cX0_liveOn 14 = .ok (.aload_n 0, 1) := by decide +kernel
theorem dX0_liveOn_15 : decode cX0_liveOn 15 = .ok (.getfield 9, 3) := by decide +kernel
theorem dX0_liveOn_18 : decode cX0_liveOn 18 = .ok (.iload_n 1, 1) := by decide +kernel
theorem dX0_liveOn_19 : decode cX0_liveOn 19 = .ok (.invokestatic 24, 3) := by decide +kernel
theorem dX0_liveOn_22 : decode cX0_liveOn 22 = .ok (.iload_n 2, 1) := by decide +kernel
theorem dX0_liveOn_23 : decode cX0_liveOn 23 = .ok (.ifCond .le 7, 3) := by decide +kernel
theorem dX0_liveOn_26 : decode cX0_liveOn 26 = .ok (.iload_n 2, 1) := by decide +kernel
theorem dX0_liveOn_27 : decode cX0_liveOn 27 = .ok (.goto 5, 3) := by decide +kernel
theorem dX0_liveOn_30 : decode cX0_liveOn 30 = .ok (.iload_n 3, 1) := by decide +kernel
theorem dX0_liveOn_31 : decode cX0_liveOn 31 = .ok (.ineg, 1) := by decide +kernel
theorem dX0_liveOn_32 : decode cX0_liveOn 32 = .ok (.iadd, 1) := by decide +kernel
theorem dX0_liveOn_33 : decode cX0_liveOn 33 = .ok (.istore 4, 2) := by decide +kernel
theorem dX0_liveOn_35 : decode cX0_liveOn 35 = .ok (.aload_n 0, 1) := by decide +kernel
theorem dX0_liveOn_36 : decode cX0_liveOn 36 = .ok (.getfield 9, 3) := by decide +kernel
theorem dX0_liveOn_39 : decode cX0_liveOn 39 = .ok (.iload_n 1, 1) := by decide +kernel
theorem dX0_liveOn_40 : decode cX0_liveOn 40 = .ok (.iconst 0, 1) := by decide +kernel
theorem dX0_liveOn_41 : decode cX0_liveOn 41 = .ok (.bipush 9, 2) := by decide +kernel
theorem dX0_liveOn_43 : decode cX0_liveOn 43 = .ok (.iload 4, 2) := by decide +kernel
theorem dX0_liveOn_45 : decode cX0_liveOn 45 = .ok (.invokestatic 105, 3) := by decide +kernel
theorem dX0_liveOn_48 : decode cX0_liveOn 48 = .ok (.invokestatic 110, 3) := by decide +kernel
theorem dX0_liveOn_51 : decode cX0_liveOn 51 = .ok (.invokestatic 62, 3) := by decide +kernel
theorem dX0_liveOn_54 : decode cX0_liveOn 54 = .ok (.return_, 1) := by decide +kernel
set_option maxRecDepth 20000 in
theorem ggX0_takeIn_X8_at : GoodIn wsX0_takeIn wsX8_at := goodIn_r _ [11] (by decide +kernel) (by decide +kernel)
set_option maxRecDepth 20000 in
theorem gX0_takeIn_X8_at_n24 : GoodIn wsX0_takeIn (wsX8_at) := ggX0_takeIn_X8_at
set_option maxRecDepth 20000 in
theorem ggX0_takeIn_X8_put : GoodIn wsX0_takeIn wsX8_put := goodIn_r _ [13] (by decide +kernel) (by decide +kernel)
set_option maxRecDepth 20000 in
theorem gX0_takeIn_X8_put_n62 : GoodIn wsX0_takeIn (wsX8_put) := ggX0_takeIn_X8_put
theorem dX0_takeIn_0 : decode cX0_takeIn 0 = .ok (.aload_n 0, 1) := by decide +kernel
theorem dX0_takeIn_1 : decode cX0_takeIn 1 = .ok (.getfield 15, 3) := by decide +kernel
theorem dX0_takeIn_4 : decode cX0_takeIn 4 = .ok (.getfield 113, 3) := by decide +kernel
theorem dX0_takeIn_7 : decode cX0_takeIn 7 = .ok (.iload_n 1, 1) := by decide +kernel
theorem dX0_takeIn_8 : decode cX0_takeIn 8 = .ok (.invokestatic 24, 3) := by decide +kernel
theorem dX0_takeIn_11 : decode cX0_takeIn 11 = .ok (.istore_n 3, 1) := by decide +kernel
theorem dX0_takeIn_12 : decode cX0_takeIn 12 = .ok (.iconst 0, 1) := by decide +kernel
theorem dX0_takeIn_13 : decode cX0_takeIn 13 = .ok (.istore 4, 2) := by decide +kernel
theorem dX0_takeIn_15 : decode cX0_takeIn 15 = .ok (.iconst (-1), 1) := by decide +kernel
theorem dX0_takeIn_16 : decode cX0_takeIn 16 = .ok (.istore 5, 2) := by decide +kernel
theorem dX0_takeIn_18 : decode cX0_takeIn 18 = .ok (.iload_n 3, 1) := by decide +kernel
theorem dX0_takeIn_19 : decode cX0_takeIn 19 = .ok (.istore 6, 2) := by decide +kernel
theorem dX0_takeIn_21 : decode cX0_takeIn 21 = .ok (.iconst 0, 1) := by decide +kernel
theorem dX0_takeIn_22 : decode cX0_takeIn 22 = .ok (.istore 7, 2) := by decide +kernel
theorem dX0_takeIn_24 : decode cX0_takeIn 24 = .ok (.iconst 0, 1) := by decide +kernel
theorem dX0_takeIn_25 : decode cX0_takeIn 25 = .ok (.istore 8, 2) := by decide +kernel
theorem dX0_takeIn_27 : decode cX0_takeIn 27 = .ok (.iload 8, 2) := by decide +kernel
theorem dX0_takeIn_29 : decode cX0_takeIn 29 = .ok (.aload_n 0, 1) := by decide +kernel
theorem dX0_takeIn_30 : decode cX0_takeIn 30 = .ok (.getfield 15, 3) := by decide +kernel
theorem dX0_takeIn_33 : decode cX0_takeIn 33 = .ok (.getfield 80, 3) := by decide +kernel
theorem dX0_takeIn_36 : decode cX0_takeIn 36 = .ok (.if_icmp .ge 85, 3) := by decide +kernel
theorem dX0_takeIn_39 : decode cX0_takeIn 39 = .ok (.aload_n 0, 1) := by decide +kernel
theorem dX0_takeIn_40 : decode cX0_takeIn 40 = .ok (.getfield 9, 3) := by decide +kernel
theorem dX0_takeIn_43 : decode cX0_takeIn 43 = .ok (.iload 8, 2) := by decide +kernel
theorem dX0_takeIn_45 : decode cX0_takeIn 45 = .ok (.invokestatic 24, 3) := by decide +kernel
theorem dX0_takeIn_48 : decode cX0_takeIn 48 = .ok (.ifCond .le 67, 3) := by decide +kernel
theorem dX0_takeIn_51 : decode cX0_takeIn 51 = .ok (.aload_n 0, 1) := by decide +kernel
theorem dX0_takeIn_52 : decode cX0_takeIn 52 = .ok (.getfield 15, 3) := by decide +kernel
theorem dX0_takeIn_55 : decode cX0_takeIn 55 = .ok (.getfield 113, 3) := by decide +kernel
theorem dX0_takeIn_58 : decode cX0_takeIn 58 = .ok (.iload 8, 2) := by decide +kernel
theorem dX0_takeIn_60 : decode cX0_takeIn 60 = .ok (.invokestatic 24, 3) := by decide +kernel
theorem dX0_takeIn_63 : decode cX0_takeIn 63 = .ok (.istore 9, 2) := by decide +kernel
theorem dX0_takeIn_65 : decode cX0_takeIn 65 = .ok (.iinc 4 1, 3) := by decide +kernel
theorem dX0_takeIn_68 : decode cX0_takeIn 68 = .ok (.iload 7, 2) := by decide +kernel
theorem dX0_takeIn_70 : decode cX0_takeIn 70 = .ok (.iload_n 3, 1) := by decide +kernel
theorem dX0_takeIn_71 : decode cX0_takeIn 71 = .ok (.iload 9, 2) := by decide +kernel
theorem dX0_takeIn_73 : decode cX0_takeIn 73 = .ok (.isub, 1) := by decide +kernel
theorem dX0_takeIn_74 : decode cX0_takeIn 74 = .ok (.invokestatic 116, 3) := by decide +kernel
theorem dX0_takeIn_77 : decode cX0_takeIn 77 = .ok (.aload_n 0, 1) := by decide +kernel
theorem dX0_takeIn_78 : decode cX0_takeIn 78 = .ok (.getfield 15, 3) := by decide +kernel
theorem dX0_takeIn_81 : decode cX0_takeIn 81 = .ok (.getfield 119, 3) := by decide +kernel
theorem dX0_takeIn_84 : decode cX0_takeIn 84 = .ok (.if_icmp .lt 7, 3) := by decide +kernel
theorem dX0_takeIn_87 : decode cX0_takeIn 87 = .ok (.iconst 1, 1) := by decide +kernel
theorem dX0_takeIn_88 : decode cX0_takeIn 88 = .ok (.goto 4, 3) := by decide +kernel
theorem dX0_takeIn_91 : decode cX0_takeIn 91 = .ok (.iconst 0, 1) := by decide +kernel
theorem dX0_takeIn_92 : decode cX0_takeIn 92 = .ok (.ior, 1) := by decide +kernel
theorem dX0_takeIn_93 : decode cX0_takeIn 93 = .ok (.istore 7, 2) := by decide +kernel
theorem dX0_takeIn_95 : decode cX0_takeIn 95 = .ok (.iload 5, 2) := by decide +kernel
theorem dX0_takeIn_97 : decode cX0_takeIn 97 = .ok (.ifCond .lt 10, 3) := by decide +kernel
theorem dX0_takeIn_100 : decode cX0_takeIn 100 = .ok (.iload 9, 2) := by decide +kernel
theorem dX0_takeIn_102 : decode cX0_takeIn 102 = .ok (.iload 6, 2) := by decide +kernel
theorem dX0_takeIn_104 : decode cX0_takeIn 104 = .ok (.if_icmp .gt 11, 3) := by decide +kernel
theorem dX0_takeIn_107 : decode cX0_takeIn 107 = .ok (.iload 8, 2) := by decide +kernel
theorem dX0_takeIn_109 : decode cX0_takeIn 109 = .ok (.istore 5, 2) := by decide +kernel
theorem dX0_takeIn_111 : decode cX0_takeIn 111 = .ok (.iload 9, 2) := by decide +kernel
theorem dX0_takeIn_113 : decode cX0_takeIn 113 = .ok (.istore 6, 2) := by decide +kernel
theorem dX0_takeIn_115 : decode cX0_takeIn 115 = .ok (.iinc 8 1, 3) := by decide +kernel
theorem dX0_takeIn_118 : decode cX0_takeIn 118 = .ok (.goto (-91), 3) := by decide +kernel
theorem dX0_takeIn_121 : decode cX0_takeIn 121 = .ok (.aload_n 0, 1) := by decide +kernel
theorem dX0_takeIn_122 : decode cX0_takeIn 122 = .ok (.getfield 28, 3) := by decide +kernel
theorem dX0_takeIn_125 : decode cX0_takeIn 125 = .ok (.iconst 2, 1) := by decide +kernel
theorem dX0_takeIn_126 : decode cX0_takeIn 126 = .ok (.if_icmp .ne 10, 3) := by decide +kernel
theorem dX0_takeIn_129 : decode cX0_takeIn 129 = .ok (.iload 7, 2) := by decide +kernel
theorem dX0_takeIn_131 : decode cX0_takeIn 131 = .ok (.ifCond .eq 5, 3) := by decide +kernel
theorem dX0_takeIn_134 : decode cX0_takeIn 134 = .ok (.iconst 0, 1) := by decide +kernel
theorem dX0_takeIn_135 : decode cX0_takeIn 135 = .ok (.ireturn, 1) := by decide +kernel
theorem dX0_takeIn_136 : decode cX0_takeIn 136 = .ok (.iload 4, 2) := by decide +kernel
theorem dX0_takeIn_138 : decode cX0_takeIn 138 = .ok (.aload_n 0, 1) := by decide +kernel
theorem dX0_takeIn_139 : decode cX0_takeIn 139 = .ok (.getfield 35, 3) := by decide +kernel
theorem dX0_takeIn_142 : decode cX0_takeIn 142 = .ok (.if_icmp .lt 21, 3) := by decide +kernel
theorem dX0_takeIn_145 : decode cX0_takeIn 145 = .ok (.iload 6, 2) := by decide +kernel
theorem dX0_takeIn_147 : decode cX0_takeIn 147 = .ok (.iload_n 3, 1) := by decide +kernel
theorem dX0_takeIn_148 : decode cX0_takeIn 148 = .ok (.if_icmp .lt 5, 3) := by decide +kernel
theorem dX0_takeIn_151 : decode cX0_takeIn 151 = .ok (.iconst 0, 1) := by decide +kernel
theorem dX0_takeIn_152 : decode cX0_takeIn 152 = .ok (.ireturn, 1) := by decide +kernel
theorem dX0_takeIn_153 : decode cX0_takeIn 153 = .ok (.aload_n 0, 1) := by decide +kernel
theorem dX0_takeIn_154 : decode cX0_takeIn 154 = .ok (.getfield 9, 3) := by decide +kernel
theorem dX0_takeIn_157 : decode cX0_takeIn 157 = .ok (.iload 5, 2) := by decide +kernel
theorem dX0_takeIn_159 : decode cX0_takeIn 159 = .ok (.iconst 0, 1) := by decide +kernel
theorem dX0_takeIn_160 : decode cX0_takeIn 160 = .ok (.invokestatic 62, 3) := by decide +kernel
theorem dX0_takeIn_163 : decode cX0_takeIn 163 = .ok (.aload_n 0, 1) := by decide +kernel
theorem dX0_takeIn_164 : decode cX0_takeIn 164 = .ok (.getfield 9, 3) := by decide +kernel
theorem dX0_takeIn_167 : decode cX0_takeIn 167 = .ok (.iload_n 1, 1) := by decide +kernel
theorem dX0_takeIn_168 : decode cX0_takeIn 168 = .ok (.iload_n 2, 1) := by decide +kernel
theorem dX0_takeIn_169 : decode cX0_takeIn 169 = .ok (.invokestatic 62, 3) := by decide +kernel
theorem dX0_takeIn_172 : decode cX0_takeIn 172 = .ok (.iconst 1, 1) := by decide +kernel
theorem dX0_takeIn_173 : decode cX0_takeIn 173 = .ok (.ireturn, 1) := by decide +kernel
set_option maxRecDepth 20000 in
theorem ggX0_thinStoutest_X8_at : GoodIn wsX0_thinStoutest wsX8_at := goodIn_r _ [8] (by decide +kernel) (by decide +kernel)
set_option maxRecDepth 20000 in
theorem gX0_thinStoutest_X8_at_n24 : GoodIn wsX0_thinStoutest (wsX8_at) := ggX0_thinStoutest_X8_at
set_option maxRecDepth 20000 in
theorem ggX0_thinStoutest_X8_put : GoodIn wsX0_thinStoutest wsX8_put := goodIn_r _ [10] (by decide +kernel) (by decide +kernel)
set_option maxRecDepth 20000 in
theorem gX0_thinStoutest_X8_put_n62 : GoodIn wsX0_thinStoutest (wsX8_put) := ggX0_thinStoutest_X8_put
theorem dX0_thinStoutest_0 : decode cX0_thinStoutest 0 = .ok (.iconst 0, 1) := by decide +kernel
theorem dX0_thinStoutest_1 : decode cX0_thinStoutest 1 = .ok (.istore_n 1, 1) := by decide +kernel
theorem dX0_thinStoutest_2 : decode cX0_thinStoutest 2 = .ok (.iconst 1, 1) := by decide +kernel
theorem dX0_thinStoutest_3 : decode cX0_thinStoutest 3 = .ok (.istore_n 2, 1) := by decide +kernel
theorem dX0_thinStoutest_4 : decode cX0_thinStoutest 4 = .ok (.iload_n 2, 1) := by decide +kernel
theorem dX0_thinStoutest_5 : decode cX0_thinStoutest 5 = .ok (.bipush 8, 2) := by decide +kernel
theorem dX0_thinStoutest_7 : decode cX0_thinStoutest 7 = .ok (.if_icmp .ge 30, 3) := by decide +kernel
theorem dX0_thinStoutest_10 : decode cX0_thinStoutest 10 = .ok (.aload_n 0, 1) := by decide +kernel
theorem dX0_thinStoutest_11 : decode cX0_thinStoutest 11 = .ok (.getfield 9, 3) := by decide +kernel
theorem dX0_thinStoutest_14 : decode cX0_thinStoutest 14 = .ok (.iload_n 2, 1) := by decide +kernel
theorem dX0_thinStoutest_15 : decode cX0_thinStoutest 15 = .ok (.invokestatic 24, 3) := by decide +kernel
theorem dX0_thinStoutest_18 : decode cX0_thinStoutest 18 = .ok (.aload_n 0, 1) := by decide +kernel
theorem dX0_thinStoutest_19 : decode cX0_thinStoutest 19 = .ok (.getfield 9, 3) := by decide +kernel
theorem dX0_thinStoutest_22 : decode cX0_thinStoutest 22 = .ok (.iload_n 1, 1) := by decide +kernel
theorem dX0_thinStoutest_23 : decode cX0_thinStoutest 23 = .ok (.invokestatic 24, 3) := by decide +kernel
theorem dX0_thinStoutest_26 : decode cX0_thinStoutest 26 = .ok (.if_icmp .le 5, 3) := by decide +kernel
theorem dX0_thinStoutest_29 : decode cX0_thinStoutest 29 = .ok (.iload_n 2, 1) := by decide +kernel
theorem dX0_thinStoutest_30 : decode cX0_thinStoutest 30 = .ok (.istore_n 1, 1) := by decide +kernel
theorem dX0_thinStoutest_31 : decode cX0_thinStoutest 31 = .ok (.iinc 2 1, 3) := by decide +kernel
theorem dX0_thinStoutest_34 : decode cX0_thinStoutest 34 = .ok (.goto (-30), 3) := by decide +kernel
theorem dX0_thinStoutest_37 : decode cX0_thinStoutest 37 = .ok (.aload_n 0, 1) := by decide +kernel
theorem dX0_thinStoutest_38 : decode cX0_thinStoutest 38 = .ok (.getfield 9, 3) := by decide +kernel
theorem dX0_thinStoutest_41 : decode cX0_thinStoutest 41 = .ok (.iload_n 1, 1) := by decide +kernel
theorem dX0_thinStoutest_42 : decode cX0_thinStoutest 42 = .ok (.iconst 0, 1) := by decide +kernel
theorem dX0_thinStoutest_43 : decode cX0_thinStoutest 43 = .ok (.aload_n 0, 1) := by decide +kernel
theorem dX0_thinStoutest_44 : decode cX0_thinStoutest 44 = .ok (.getfield 9, 3) := by decide +kernel
theorem dX0_thinStoutest_47 : decode cX0_thinStoutest 47 = .ok (.iload_n 1, 1) := by decide +kernel
theorem dX0_thinStoutest_48 : decode cX0_thinStoutest 48 = .ok (.invokestatic 24, 3) := by decide +kernel
theorem dX0_thinStoutest_51 : decode cX0_thinStoutest 51 = .ok (.iconst 1, 1) := by decide +kernel
theorem dX0_thinStoutest_52 : decode cX0_thinStoutest 52 = .ok (.isub, 1) := by decide +kernel
theorem dX0_thinStoutest_53 : decode cX0_thinStoutest 53 = .ok (.invokestatic 110, 3) := by decide +kernel
theorem dX0_thinStoutest_56 : decode cX0_thinStoutest 56 = .ok (.invokestatic 62, 3) := by decide +kernel
theorem dX0_thinStoutest_59 : decode cX0_thinStoutest 59 = .ok (.return_, 1) := by decide +kernel
set_option maxRecDepth 20000 in
theorem ggX0_together_X8_at : GoodIn wsX0_together wsX8_at := goodIn_r _ [4] (by decide +kernel) (by decide +kernel)
set_option maxRecDepth 20000 in
theorem gX0_together_X8_at_n24 : GoodIn wsX0_together (wsX8_at) := ggX0_together_X8_at
theorem dX0_together_0 : decode cX0_together 0 = .ok (.iconst 0, 1) := by decide +kernel
theorem dX0_together_1 : decode cX0_together 1 = .ok (.istore_n 2, 1) := by decide +kernel
theorem dX0_together_2 : decode cX0_together 2 = .ok (.iconst 0, 1) := by decide +kernel
theorem dX0_together_3 : decode cX0_together 3 = .ok (.istore_n 3, 1) := by decide +kernel
theorem dX0_together_4 : decode cX0_together 4 = .ok (.iload_n 3, 1) := by decide +kernel
theorem dX0_together_5 : decode cX0_together 5 = .ok (.bipush 8, 2) := by decide +kernel
theorem dX0_together_7 : decode cX0_together 7 = .ok (.if_icmp .ge 28, 3) := by decide +kernel
theorem dX0_together_10 : decode cX0_together 10 = .ok (.aload_n 0, 1) := by decide +kernel
theorem dX0_together_11 : decode cX0_together 11 = .ok (.getfield 9, 3) := by decide +kernel
theorem dX0_together_14 : decode cX0_together 14 = .ok (.iload_n 3, 1) := by decide +kernel
theorem dX0_together_15 : decode cX0_together 15 = .ok (.invokestatic 24, 3) := by decide +kernel
theorem dX0_together_18 : decode cX0_together 18 = .ok (.ifCond .le 11, 3) := by decide +kernel
theorem dX0_together_21 : decode cX0_together 21 = .ok (.iload_n 2, 1) := by decide +kernel
theorem dX0_together_22 : decode cX0_together 22 = .ok (.aload_n 1, 1) := by decide +kernel
theorem dX0_together_23 : decode cX0_together 23 = .ok (.iload_n 3, 1) := by decide +kernel
theorem dX0_together_24 : decode cX0_together 24 = .ok (.invokestatic 24, 3) := by decide +kernel
theorem dX0_together_27 : decode cX0_together 27 = .ok (.iadd, 1) := by decide +kernel
theorem dX0_together_28 : decode cX0_together 28 = .ok (.istore_n 2, 1) := by decide +kernel
theorem dX0_together_29 : decode cX0_together 29 = .ok (.iinc 3 1, 3) := by decide +kernel
theorem dX0_together_32 : decode cX0_together 32 = .ok (.goto (-28), 3) := by decide +kernel
theorem dX0_together_35 : decode cX0_together 35 = .ok (.iload_n 2, 1) := by decide +kernel
theorem dX0_together_36 : decode cX0_together 36 = .ok (.ireturn, 1) := by decide +kernel
set_option maxRecDepth 20000 in
theorem ggX0_lodgers_X8_at : GoodIn wsX0_lodgers wsX8_at := goodIn_r _ [4] (by decide +kernel) (by decide +kernel)
set_option maxRecDepth 20000 in
theorem gX0_lodgers_X8_at_n24 : GoodIn wsX0_lodgers (wsX8_at) := ggX0_lodgers_X8_at
theorem dX0_lodgers_0 : decode cX0_lodgers 0 = .ok (.iconst 0, 1) := by decide +kernel
theorem dX0_lodgers_1 : decode cX0_lodgers 1 = .ok (.istore_n 1, 1) := by decide +kernel
theorem dX0_lodgers_2 : decode cX0_lodgers 2 = .ok (.iconst 0, 1) := by decide +kernel
theorem dX0_lodgers_3 : decode cX0_lodgers 3 = .ok (.istore_n 2, 1) := by decide +kernel
theorem dX0_lodgers_4 : decode cX0_lodgers 4 = .ok (.iload_n 2, 1) := by decide +kernel
theorem dX0_lodgers_5 : decode cX0_lodgers 5 = .ok (.bipush 8, 2) := by decide +kernel
theorem dX0_lodgers_7 : decode cX0_lodgers 7 = .ok (.if_icmp .ge 26, 3) := by decide +kernel
theorem dX0_lodgers_10 : decode cX0_lodgers 10 = .ok (.aload_n 0, 1) := by decide +kernel
theorem dX0_lodgers_11 : decode cX0_lodgers 11 = .ok (.getfield 9, 3) := by decide +kernel
theorem dX0_lodgers_14 : decode cX0_lodgers 14 = .ok (.iload_n 2, 1) := by decide +kernel
theorem dX0_lodgers_15 : decode cX0_lodgers 15 = .ok (.invokestatic 24, 3) := by decide +kernel
theorem dX0_lodgers_18 : decode cX0_lodgers 18 = .ok (.ifCond .le 9, 3) := by decide +kernel
theorem dX0_lodgers_21 : decode cX0_lodgers 21 = .ok (.iload_n 1, 1) := by decide +kernel
theorem dX0_lodgers_22 : decode cX0_lodgers 22 = .ok (.iconst 1, 1) := by decide +kernel
theorem dX0_lodgers_23 : decode cX0_lodgers 23 = .ok (.iload_n 2, 1) := by decide +kernel
theorem dX0_lodgers_24 : decode cX0_lodgers 24 = .ok (.ishl, 1) := by decide +kernel
theorem dX0_lodgers_25 : decode cX0_lodgers 25 = .ok (.ior, 1) := by decide +kernel
theorem dX0_lodgers_26 : decode cX0_lodgers 26 = .ok (.istore_n 1, 1) := by decide +kernel
theorem dX0_lodgers_27 : decode cX0_lodgers 27 = .ok (.iinc 2 1, 3) := by decide +kernel
theorem dX0_lodgers_30 : decode cX0_lodgers 30 = .ok (.goto (-26), 3) := by decide +kernel
theorem dX0_lodgers_33 : decode cX0_lodgers 33 = .ok (.iload_n 1, 1) := by decide +kernel
theorem dX0_lodgers_34 : decode cX0_lodgers 34 = .ok (.ireturn, 1) := by decide +kernel
set_option maxRecDepth 20000 in
theorem ggX0_fewestRooms_X0_hasAsUnkind : GoodIn wsX0_fewestRooms wsX0_hasAsUnkind := goodIn_r _ [6, 1, 7, 8, 9, 10, 11, 12, 13, 14, 15, 16, 17, 18, 19, 20, 21, 22, 23, 24, 25] (by decide +kernel) (by decide +kernel)
set_option maxRecDepth 20000 in
theorem gX0_fewestRooms_X0_hasAsUnkind : GoodIn wsX0_fewestRooms (wsV RX0 122 RX0 yX0_hasAsUnkind wsX0_hasAsUnkind) := goodIn_app (goodIn_of _ (by decide +kernel)) ggX0_fewestRooms_X0_hasAsUnkind
theorem dX0_fewestRooms_0 : decode cX0_fewestRooms 0 = .ok (.iconst 0, 1) := by decide +kernel
theorem dX0_fewestRooms_1 : decode cX0_fewestRooms 1 = .ok (.istore_n 1, 1) := by decide +kernel
theorem dX0_fewestRooms_2 : decode cX0_fewestRooms 2 = .ok (.iconst (-1), 1) := by decide +kernel
theorem dX0_fewestRooms_3 : decode cX0_fewestRooms 3 = .ok (.istore_n 2, 1) := by decide +kernel
theorem dX0_fewestRooms_4 : decode cX0_fewestRooms 4 = .ok (.iconst 0, 1) := by decide +kernel
theorem dX0_fewestRooms_5 : decode cX0_fewestRooms 5 = .ok (.istore_n 3, 1) := by decide +kernel
theorem dX0_fewestRooms_6 : decode cX0_fewestRooms 6 = .ok (.iload_n 3, 1) := by decide +kernel
theorem dX0_fewestRooms_7 : decode cX0_fewestRooms 7 = .ok (.bipush 20, 2) := by decide +kernel
theorem dX0_fewestRooms_9 : decode cX0_fewestRooms 9 = .ok (.if_icmp .gt 37, 3) := by decide +kernel
theorem dX0_fewestRooms_12 : decode cX0_fewestRooms 12 = .ok (.iload_n 3, 1) := by decide +kernel
theorem dX0_fewestRooms_13 : decode cX0_fewestRooms 13 = .ok (.iload_n 2, 1) := by decide +kernel
theorem dX0_fewestRooms_14 : decode cX0_fewestRooms 14 = .ok (.if_icmp .le 26, 3) := by decide +kernel
theorem dX0_fewestRooms_17 : decode cX0_fewestRooms 17 = .ok (.aload_n 0, 1) := by decide +kernel
theorem dX0_fewestRooms_18 : decode cX0_fewestRooms 18 = .ok (.iload_n 3, 1) := by decide +kernel
theorem dX0_fewestRooms_19 : decode cX0_fewestRooms 19 = .ok (.invokevirtual 122, 3) := by decide +kernel
theorem dX0_fewestRooms_22 : decode cX0_fewestRooms 22 = .ok (.ifCond .eq 18, 3) := by decide +kernel
theorem dX0_fewestRooms_25 : decode cX0_fewestRooms 25 = .ok (.iinc 1 1, 3) := by decide +kernel
theorem dX0_fewestRooms_28 : decode cX0_fewestRooms 28 = .ok (.iload_n 3, 1) := by decide +kernel
theorem dX0_fewestRooms_29 : decode cX0_fewestRooms 29 = .ok (.aload_n 0, 1) := by decide +kernel
theorem dX0_fewestRooms_30 : decode cX0_fewestRooms 30 = .ok (.getfield 15, 3) := by decide +kernel
theorem dX0_fewestRooms_33 : decode cX0_fewestRooms 33 = .ok (.getfield 119, 3) := by decide +kernel
theorem dX0_fewestRooms_36 : decode cX0_fewestRooms 36 = .ok (.iadd, 1) := by decide +kernel
theorem dX0_fewestRooms_37 : decode cX0_fewestRooms 37 = .ok (.iconst 1, 1) := by decide +kernel
theorem dX0_fewestRooms_38 : decode cX0_fewestRooms 38 = .ok (.isub, 1) := by decide +kernel
theorem dX0_fewestRooms_39 : decode cX0_fewestRooms 39 = .ok (.istore_n 2, 1) := by decide +kernel
theorem dX0_fewestRooms_40 : decode cX0_fewestRooms 40 = .ok (.iinc 3 1, 3) := by decide +kernel
theorem dX0_fewestRooms_43 : decode cX0_fewestRooms 43 = .ok (.goto (-37), 3) := by decide +kernel
theorem dX0_fewestRooms_46 : decode cX0_fewestRooms 46 = .ok (.iload_n 1, 1) := by decide +kernel
theorem dX0_fewestRooms_47 : decode cX0_fewestRooms 47 = .ok (.ireturn, 1) := by decide +kernel
set_option maxRecDepth 20000 in
theorem ggX0_hasAsUnkind_X8_at : GoodIn wsX0_hasAsUnkind wsX8_at := goodIn_r _ [5] (by decide +kernel) (by decide +kernel)
set_option maxRecDepth 20000 in
theorem gX0_hasAsUnkind_X8_at_n24 : GoodIn wsX0_hasAsUnkind (wsX8_at) := ggX0_hasAsUnkind_X8_at
theorem dX0_hasAsUnkind_0 : decode cX0_hasAsUnkind 0 = .ok (.iconst 0, 1) := by decide +kernel
theorem dX0_hasAsUnkind_1 : decode cX0_hasAsUnkind 1 = .ok (.istore_n 2, 1) := by decide +kernel
theorem dX0_hasAsUnkind_2 : decode cX0_hasAsUnkind 2 = .ok (.iload_n 2, 1) := by decide +kernel
theorem dX0_hasAsUnkind_3 : decode cX0_hasAsUnkind 3 = .ok (.aload_n 0, 1) := by decide +kernel
theorem dX0_hasAsUnkind_4 : decode cX0_hasAsUnkind 4 = .ok (.getfield 15, 3) := by decide +kernel
theorem dX0_hasAsUnkind_7 : decode cX0_hasAsUnkind 7 = .ok (.getfield 80, 3) := by decide +kernel
theorem dX0_hasAsUnkind_10 : decode cX0_hasAsUnkind 10 = .ok (.if_icmp .ge 37, 3) := by decide +kernel
theorem dX0_hasAsUnkind_13 : decode cX0_hasAsUnkind 13 = .ok (.aload_n 0, 1) := by decide +kernel
theorem dX0_hasAsUnkind_14 : decode cX0_hasAsUnkind 14 = .ok (.getfield 9, 3) := by decide +kernel
theorem dX0_hasAsUnkind_17 : decode cX0_hasAsUnkind 17 = .ok (.iload_n 2, 1) := by decide +kernel
theorem dX0_hasAsUnkind_18 : decode cX0_hasAsUnkind 18 = .ok (.invokestatic 24, 3) := by decide +kernel
theorem dX0_hasAsUnkind_21 : decode cX0_hasAsUnkind 21 = .ok (.ifCond .le 20, 3) := by decide +kernel
theorem dX0_hasAsUnkind_24 : decode cX0_hasAsUnkind 24 = .ok (.aload_n 0, 1) := by decide +kernel
theorem dX0_hasAsUnkind_25 : decode cX0_hasAsUnkind 25 = .ok (.getfield 15, 3) := by decide +kernel
theorem dX0_hasAsUnkind_28 : decode cX0_hasAsUnkind 28 = .ok (.getfield 113, 3) := by decide +kernel
theorem dX0_hasAsUnkind_31 : decode cX0_hasAsUnkind 31 = .ok (.iload_n 2, 1) := by decide +kernel
theorem dX0_hasAsUnkind_32 : decode cX0_hasAsUnkind 32 = .ok (.invokestatic 24, 3) := by decide +kernel
theorem dX0_hasAsUnkind_35 : decode cX0_hasAsUnkind 35 = .ok (.iload_n 1, 1) := by decide +kernel
theorem dX0_hasAsUnkind_36 : decode cX0_hasAsUnkind 36 = .ok (.if_icmp .ne 5, 3) := by decide +kernel
theorem dX0_hasAsUnkind_39 : decode cX0_hasAsUnkind 39 = .ok (.iconst 1, 1) := by decide +kernel
theorem dX0_hasAsUnkind_40 : decode cX0_hasAsUnkind 40 = .ok (.ireturn, 1) := by decide +kernel
theorem dX0_hasAsUnkind_41 : decode cX0_hasAsUnkind 41 = .ok (.iinc 2 1, 3) := by decide +kernel
theorem dX0_hasAsUnkind_44 : decode cX0_hasAsUnkind 44 = .ok (.goto (-42), 3) := by decide +kernel
theorem dX0_hasAsUnkind_47 : decode cX0_hasAsUnkind 47 = .ok (.iconst 0, 1) := by decide +kernel
theorem dX0_hasAsUnkind_48 : decode cX0_hasAsUnkind 48 = .ok (.ireturn, 1) := by decide +kernel
theorem dX1_init_0 : decode cX1_init 0 = .ok (.aload_n 0, 1) := by decide +kernel
theorem dX1_init_1 : decode cX1_init 1 = .ok (.invokespecial 3, 3) := by decide +kernel
theorem dX1_init_4 : decode cX1_init 4 = .ok (.aload_n 0, 1) := by decide +kernel
theorem dX1_init_5 : decode cX1_init 5 = .ok (.aload_n 1, 1) := by decide +kernel
theorem dX1_init_6 : decode cX1_init 6 = .ok (.putfield 9, 3) := by decide +kernel
theorem dX1_init_9 : decode cX1_init 9 = .ok (.aload_n 0, 1) := by decide +kernel
theorem dX1_init_10 : decode cX1_init 10 = .ok (.aload_n 2, 1) := by decide +kernel
theorem dX1_init_11 : decode cX1_init 11 = .ok (.putfield 15, 3) := by decide +kernel
theorem dX1_init_14 : decode cX1_init 14 = .ok (.aload_n 0, 1) := by decide +kernel
theorem dX1_init_15 : decode cX1_init 15 = .ok (.aload_n 3, 1) := by decide +kernel
theorem dX1_init_16 : decode cX1_init 16 = .ok (.putfield 19, 3) := by decide +kernel
theorem dX1_init_19 : decode cX1_init 19 = .ok (.return_, 1) := by decide +kernel
set_option maxRecDepth 20000 in
theorem ggX1_passDays_X0_enter : GoodIn wsX1_passDays wsX0_enter := goodIn_r _ [7, 8, 9, 10, 11, 12, 13, 14, 15, 16, 17, 18, 19, 20, 21, 22, 23, 24, 25, 26, 27, 28, 29, 30, 31, 32, 103, 104, 105, 106, 107, 108, 90, 91, 92, 93, 94, 95, 96, 97, 98, 99, 100, 101, 102, 109] (by decide +kernel) (by decide +kernel)
set_option maxRecDepth 20000 in
theorem gX1_passDays_X0_enter : GoodIn wsX1_passDays (wsV RX1 29 RX0 yX0_enter wsX0_enter) := goodIn_app (goodIn_of _ (by decide +kernel)) ggX1_passDays_X0_enter
set_option maxRecDepth 20000 in
theorem ggX1_passDays_X0_passDays : GoodIn wsX1_passDays wsX0_passDays := goodIn_r _ [36, 37, 38, 39, 6, 40, 9, 8, 12, 13, 11, 41, 42, 20, 43, 44, 45, 46, 47, 48, 49, 50, 14, 15, 16, 51, 52, 53, 54, 55, 56, 57, 58, 59, 60, 61, 31, 32, 62, 63, 64, 65, 66, 67, 68, 10, 69, 70, 71, 72, 73, 74, 75, 76, 103, 104, 105, 106, 107, 108, 90, 91, 92, 93, 94, 95, 96, 97, 98] (by decide +kernel) (by decide +kernel)
set_option maxRecDepth 20000 in
theorem gX1_passDays_X0_passDays : GoodIn wsX1_passDays (wsV RX1 40 RX0 yX0_passDays wsX0_passDays) := goodIn_app (goodIn_of _ (by decide +kernel)) ggX1_passDays_X0_passDays
set_option maxRecDepth 20000 in
theorem ggX1_passDays_X0_settle : GoodIn wsX1_passDays wsX0_settle := goodIn_r _ [80, 13, 14, 15, 16, 81, 82, 83, 28, 84, 30, 31, 32, 103, 104, 105, 106, 107, 108, 99, 100, 101, 102] (by decide +kernel) (by decide +kernel)
set_option maxRecDepth 20000 in
theorem gX1_passDays_X0_settle : GoodIn wsX1_passDays (wsV RX1 44 RX0 yX0_settle wsX0_settle) := goodIn_app (goodIn_of _ (by decide +kernel)) ggX1_passDays_X0_settle
theorem dX1_passDays_0 : decode cX1_passDays 0 = .ok (.iconst 0, 1) := by decide +kernel
theorem dX1_passDays_1 : decode cX1_passDays 1 = .ok (.istore_n 3, 1) := by decide +kernel
theorem dX1_passDays_2 : decode cX1_passDays 2 = .ok (.iload_n 3, 1) := by decide +kernel
theorem dX1_passDays_3 : decode cX1_passDays 3 = .ok (.aload_n 0, 1) := by decide +kernel
theorem dX1_passDays_4 : decode cX1_passDays 4 = .ok (.getfield 9, 3) := by decide +kernel
theorem dX1_passDays_7 : decode cX1_passDays 7 = .ok (.getfield 23, 3) := by decide +kernel
theorem dX1_passDays_10 : decode cX1_passDays 10 = .ok (.if_icmp .ge 44, 3) := by decide +kernel
theorem dX1_passDays_13 : decode cX1_passDays 13 = .ok (.aload_n 0, 1) := by decide +kernel
theorem dX1_passDays_14 : decode cX1_passDays 14 = .ok (.getfield 19, 3) := by decide +kernel
theorem dX1_passDays_17 : decode cX1_passDays 17 = .ok (.aload_n 1, 1) := by decide +kernel
theorem dX1_passDays_18 : decode cX1_passDays 18 = .ok (.iload_n 3, 1) := by decide +kernel
theorem dX1_passDays_19 : decode cX1_passDays 19 = .ok (.invokevirtual 29, 3) := by decide +kernel
theorem dX1_passDays_22 : decode cX1_passDays 22 = .ok (.aload_n 1, 1) := by decide +kernel
theorem dX1_passDays_23 : decode cX1_passDays 23 = .ok (.dup, 1) := by decide +kernel
theorem dX1_passDays_24 : decode cX1_passDays 24 = .ok (.getfield 35, 3) := by decide +kernel
theorem dX1_passDays_27 : decode cX1_passDays 27 = .ok (.aload_n 0, 1) := by decide +kernel
theorem dX1_passDays_28 : decode cX1_passDays 28 = .ok (.getfield 19, 3) := by decide +kernel
theorem dX1_passDays_31 : decode cX1_passDays 31 = .ok (.iload_n 2, 1) := by decide +kernel
theorem dX1_passDays_32 : decode cX1_passDays 32 = .ok (.invokevirtual 40, 3) := by decide +kernel
theorem dX1_passDays_35 : decode cX1_passDays 35 = .ok (.iadd, 1) := by decide +kernel
theorem dX1_passDays_36 : decode cX1_passDays 36 = .ok (.putfield 35, 3) := by decide +kernel
theorem dX1_passDays_39 : decode cX1_passDays 39 = .ok (.aload_n 0, 1) := by decide +kernel
theorem dX1_passDays_40 : decode cX1_passDays 40 = .ok (.getfield 19, 3) := by decide +kernel
theorem dX1_passDays_43 : decode cX1_passDays 43 = .ok (.aload_n 1, 1) := by decide +kernel
theorem dX1_passDays_44 : decode cX1_passDays 44 = .ok (.iload_n 3, 1) := by decide +kernel
theorem dX1_passDays_45 : decode cX1_passDays 45 = .ok (.invokevirtual 44, 3) := by decide +kernel
theorem dX1_passDays_48 : decode cX1_passDays 48 = .ok (.iinc 3 1, 3) := by decide +kernel
theorem dX1_passDays_51 : decode cX1_passDays 51 = .ok (.goto (-49), 3) := by decide +kernel
theorem dX1_passDays_54 : decode cX1_passDays 54 = .ok (.aload_n 1, 1) := by decide +kernel
theorem dX1_passDays_55 : decode cX1_passDays 55 = .ok (.dup, 1) := by decide +kernel
theorem dX1_passDays_56 : decode cX1_passDays 56 = .ok (.getfield 47, 3) := by decide +kernel
theorem dX1_passDays_59 : decode cX1_passDays 59 = .ok (.iload_n 2, 1) := by decide +kernel
theorem dX1_passDays_60 : decode cX1_passDays 60 = .ok (.iadd, 1) := by decide +kernel
theorem dX1_passDays_61 : decode cX1_passDays 61 = .ok (.putfield 47, 3) := by decide +kernel
theorem dX1_passDays_64 : decode cX1_passDays 64 = .ok (.return_, 1) := by decide +kernel
set_option maxRecDepth 20000 in
theorem ggX1_findHomeless_X0_enter : GoodIn wsX1_findHomeless wsX0_enter := goodIn_r _ [10, 11, 12, 13, 14, 15, 16, 17, 18, 19, 20, 21, 22, 23, 24, 25, 26, 27, 28, 29, 30, 31, 32, 33, 34, 35, 94, 95, 96, 97, 98, 99, 85, 86, 87, 88, 89, 90, 91, 92, 93, 100, 101, 102, 103, 104] (by decide +kernel) (by decide +kernel)
set_option maxRecDepth 20000 in
theorem gX1_findHomeless_X0_enter : GoodIn wsX1_findHomeless (wsV RX1 29 RX0 yX0_enter wsX0_enter) := goodIn_app (goodIn_of _ (by decide +kernel)) ggX1_findHomeless_X0_enter
set_option maxRecDepth 20000 in
theorem ggX1_findHomeless_X0_passDay : GoodIn wsX1_findHomeless wsX0_passDay := goodIn_r _ [39, 12, 11, 15, 16, 14, 40, 41, 23, 42, 43, 44, 45, 46, 47, 48, 49, 17, 18, 19, 50, 51, 52, 9, 53, 54, 55, 56, 57, 58, 59, 60, 34, 35, 61, 62, 63, 64, 65, 66, 67, 13, 68, 69, 70, 71, 72, 73, 74, 75, 94, 95, 96, 97, 98, 99, 85, 86, 87, 88, 89, 90, 91, 92, 93] (by decide +kernel) (by decide +kernel)
set_option maxRecDepth 20000 in
theorem gX1_findHomeless_X0_passDay : GoodIn wsX1_findHomeless (wsV RX1 53 RX0 yX0_passDay wsX0_passDay) := goodIn_app (goodIn_of _ (by decide +kernel)) ggX1_findHomeless_X0_passDay
set_option maxRecDepth 20000 in
theorem ggX1_findHomeless_X1_lowest : GoodIn wsX1_findHomeless wsX1_lowest := goodIn_r _ [79] (by decide +kernel) (by decide +kernel)
set_option maxRecDepth 20000 in
theorem gX1_findHomeless_X1_lowest : GoodIn wsX1_findHomeless (va_wsS RX1 57 yX1_lowest wsX1_lowest) := goodIn_app (goodIn_of _ (by decide +kernel)) ggX1_findHomeless_X1_lowest
theorem dX1_findHomeless_0 : decode cX1_findHomeless 0 = .ok (.aload_n 0, 1) := by decide +kernel
theorem dX1_findHomeless_1 : decode cX1_findHomeless 1 = .ok (.bipush 41, 2) := by decide +kernel
theorem dX1_findHomeless_3 : decode cX1_findHomeless 3 = .ok (.putfield 50, 3) := by decide +kernel
theorem dX1_findHomeless_6 : decode cX1_findHomeless 6 = .ok (.iconst 0, 1) := by decide +kernel
theorem dX1_findHomeless_7 : decode cX1_findHomeless 7 = .ok (.istore_n 1, 1) := by decide +kernel
theorem dX1_findHomeless_8 : decode cX1_findHomeless 8 = .ok (.iload_n 1, 1) := by decide +kernel
theorem dX1_findHomeless_9 : decode cX1_findHomeless 9 = .ok (.aload_n 0, 1) := by decide +kernel
theorem dX1_findHomeless_10 : decode cX1_findHomeless 10 = .ok (.getfield 9, 3) := by decide +kernel
theorem dX1_findHomeless_13 : decode cX1_findHomeless 13 = .ok (.getfield 23, 3) := by decide +kernel
theorem dX1_findHomeless_16 : decode cX1_findHomeless 16 = .ok (.if_icmp .ge 67, 3) := by decide +kernel
theorem dX1_findHomeless_19 : decode cX1_findHomeless 19 = .ok (.aload_n 0, 1) := by decide +kernel
theorem dX1_findHomeless_20 : decode cX1_findHomeless 20 = .ok (.getfield 19, 3) := by decide +kernel
theorem dX1_findHomeless_23 : decode cX1_findHomeless 23 = .ok (.aload_n 0, 1) := by decide +kernel
theorem dX1_findHomeless_24 : decode cX1_findHomeless 24 = .ok (.getfield 15, 3) := by decide +kernel
theorem dX1_findHomeless_27 : decode cX1_findHomeless 27 = .ok (.iload_n 1, 1) := by decide +kernel
theorem dX1_findHomeless_28 : decode cX1_findHomeless 28 = .ok (.invokevirtual 29, 3) := by decide +kernel
theorem dX1_findHomeless_31 : decode cX1_findHomeless 31 = .ok (.iconst 1, 1) := by decide +kernel
theorem dX1_findHomeless_32 : decode cX1_findHomeless 32 = .ok (.istore_n 2, 1) := by decide +kernel
theorem dX1_findHomeless_33 : decode cX1_findHomeless 33 = .ok (.iload_n 2, 1) := by decide +kernel
theorem dX1_findHomeless_34 : decode cX1_findHomeless 34 = .ok (.aload_n 0, 1) := by decide +kernel
theorem dX1_findHomeless_35 : decode cX1_findHomeless 35 = .ok (.getfield 50, 3) := by decide +kernel
theorem dX1_findHomeless_38 : decode cX1_findHomeless 38 = .ok (.if_icmp .ge 39, 3) := by decide +kernel
theorem dX1_findHomeless_41 : decode cX1_findHomeless 41 = .ok (.aload_n 0, 1) := by decide +kernel
theorem dX1_findHomeless_42 : decode cX1_findHomeless 42 = .ok (.getfield 19, 3) := by decide +kernel
theorem dX1_findHomeless_45 : decode cX1_findHomeless 45 = .ok (.invokevirtual 53, 3) := by decide +kernel
theorem dX1_findHomeless_48 : decode cX1_findHomeless 48 = .ok (.istore_n 3, 1) := by decide +kernel
theorem dX1_findHomeless_49 : decode cX1_findHomeless 49 = .ok (.iload_n 3, 1) := by decide +kernel
theorem dX1_findHomeless_50 : decode cX1_findHomeless 50 = .ok (.ifCond .eq 21, 3) := by decide +kernel
theorem dX1_findHomeless_53 : decode cX1_findHomeless 53 = .ok (.aload_n 0, 1) := by decide +kernel
theorem dX1_findHomeless_54 : decode cX1_findHomeless 54 = .ok (.bipush 10, 2) := by decide +kernel
theorem dX1_findHomeless_56 : decode cX1_findHomeless 56 = .ok (.iload_n 1, 1) := by decide +kernel
theorem dX1_findHomeless_57 : decode cX1_findHomeless 57 = .ok (.imul, 1) := by decide +kernel
theorem dX1_findHomeless_58 : decode cX1_findHomeless 58 = .ok (.iload_n 3, 1) := by decide +kernel
theorem dX1_findHomeless_59 : decode cX1_findHomeless 59 = .ok (.invokestatic 57, 3) := by decide +kernel
theorem dX1_findHomeless_62 : decode cX1_findHomeless 62 = .ok (.iadd, 1) := by decide +kernel
theorem dX1_findHomeless_63 : decode cX1_findHomeless 63 = .ok (.putfield 60, 3) := by decide +kernel
theorem dX1_findHomeless_66 : decode cX1_findHomeless 66 = .ok (.aload_n 0, 1) := by decide +kernel
theorem dX1_findHomeless_67 : decode cX1_findHomeless 67 = .ok (.iload_n 2, 1) := by decide +kernel
theorem dX1_findHomeless_68 : decode cX1_findHomeless 68 = .ok (.putfield 50, 3) := by decide +kernel
theorem dX1_findHomeless_71 : decode cX1_findHomeless 71 = .ok (.iinc 2 1, 3) := by decide +kernel
theorem dX1_findHomeless_74 : decode cX1_findHomeless 74 = .ok (.goto (-41), 3) := by decide +kernel
theorem dX1_findHomeless_77 : decode cX1_findHomeless 77 = .ok (.iinc 1 1, 3) := by decide +kernel
theorem dX1_findHomeless_80 : decode cX1_findHomeless 80 = .ok (.goto (-72), 3) := by decide +kernel
theorem dX1_findHomeless_83 : decode cX1_findHomeless 83 = .ok (.aload_n 0, 1) := by decide +kernel
theorem dX1_findHomeless_84 : decode cX1_findHomeless 84 = .ok (.getfield 50, 3) := by decide +kernel
theorem dX1_findHomeless_87 : decode cX1_findHomeless 87 = .ok (.bipush 40, 2) := by decide +kernel
theorem dX1_findHomeless_89 : decode cX1_findHomeless 89 = .ok (.if_icmp .gt 7, 3) := by decide +kernel
theorem dX1_findHomeless_92 : decode cX1_findHomeless 92 = .ok (.iconst 1, 1) := by decide +kernel
theorem dX1_findHomeless_93 : decode cX1_findHomeless 93 = .ok (.goto 4, 3) := by decide +kernel
theorem dX1_findHomeless_96 : decode cX1_findHomeless 96 = .ok (.iconst 0, 1) := by decide +kernel
theorem dX1_findHomeless_97 : decode cX1_findHomeless 97 = .ok (.ireturn, 1) := by decide +kernel
theorem dX1_lowest_0 : decode cX1_lowest 0 = .ok (.iconst 0, 1) := by decide +kernel
theorem dX1_lowest_1 : decode cX1_lowest 1 = .ok (.istore_n 1, 1) := by decide +kernel
theorem dX1_lowest_2 : decode cX1_lowest 2 = .ok (.iload_n 1, 1) := by decide +kernel
theorem dX1_lowest_3 : decode cX1_lowest 3 = .ok (.bipush 8, 2) := by decide +kernel
theorem dX1_lowest_5 : decode cX1_lowest 5 = .ok (.if_icmp .ge 19, 3) := by decide +kernel
theorem dX1_lowest_8 : decode cX1_lowest 8 = .ok (.iload_n 0, 1) := by decide +kernel
theorem dX1_lowest_9 : decode cX1_lowest 9 = .ok (.iconst 1, 1) := by decide +kernel
theorem dX1_lowest_10 : decode cX1_lowest 10 = .ok (.iload_n 1, 1) := by decide +kernel
theorem dX1_lowest_11 : decode cX1_lowest 11 = .ok (.ishl, 1) := by decide +kernel
theorem dX1_lowest_12 : decode cX1_lowest 12 = .ok (.iand, 1) := by decide +kernel
theorem dX1_lowest_13 : decode cX1_lowest 13 = .ok (.ifCond .eq 5, 3) := by decide +kernel
theorem dX1_lowest_16 : decode cX1_lowest 16 = .ok (.iload_n 1, 1) := by decide +kernel
theorem dX1_lowest_17 : decode cX1_lowest 17 = .ok (.ireturn, 1) := by decide +kernel
theorem dX1_lowest_18 : decode cX1_lowest 18 = .ok (.iinc 1 1, 3) := by decide +kernel
theorem dX1_lowest_21 : decode cX1_lowest 21 = .ok (.goto (-19), 3) := by decide +kernel
theorem dX1_lowest_24 : decode cX1_lowest 24 = .ok (.iconst 0, 1) := by decide +kernel
theorem dX1_lowest_25 : decode cX1_lowest 25 = .ok (.ireturn, 1) := by decide +kernel
set_option maxRecDepth 20000 in
theorem ggX1_findOut_X1_isAway : GoodIn wsX1_findOut wsX1_isAway := goodIn_r _ [8, 9, 10, 11, 12, 13, 14, 15, 16, 17, 18, 19, 20, 21, 22, 23, 24, 25, 26, 27, 28, 29, 30, 31, 32, 33, 34, 35, 36, 37, 38, 39, 40, 41, 42, 43, 44, 45, 46, 47, 48, 49, 50, 51, 52, 53, 54, 55, 56, 57, 58, 59, 60, 61, 62, 63, 64, 65, 66, 67, 68, 69, 70, 71, 72, 73, 74, 75, 76, 77, 78, 79, 80, 81, 82, 83, 84, 95, 96, 97, 98, 99, 109, 110, 111, 112, 113, 114, 100, 101, 102, 103, 104, 105, 106, 107, 108, 115, 116, 117, 118, 119] (by decide +kernel) (by decide +kernel)
set_option maxRecDepth 20000 in
theorem gX1_findOut_X1_isAway : GoodIn wsX1_findOut (wsV RX1 63 RX1 yX1_isAway wsX1_isAway) := goodIn_app (goodIn_of _ (by decide +kernel)) ggX1_findOut_X1_isAway
set_option maxRecDepth 20000 in
theorem ggX1_findOut_X1_choice : GoodIn wsX1_findOut wsX1_choice := goodIn_r _ [88, 1, 89, 90, 28, 91, 95, 96, 97, 98, 99, 100, 101, 102, 103, 104, 105, 106, 107, 108] (by decide +kernel) (by decide +kernel)
set_option maxRecDepth 20000 in
theorem gX1_findOut_X1_choice : GoodIn wsX1_findOut (wsV RX1 67 RX1 yX1_choice wsX1_choice) := goodIn_app (goodIn_of _ (by decide +kernel)) ggX1_findOut_X1_choice
set_option maxRecDepth 20000 in
theorem ggX1_findOut_X1_shown : GoodIn wsX1_findOut wsX1_shown := goodIn_r _ [94] (by decide +kernel) (by decide +kernel)
set_option maxRecDepth 20000 in
theorem gX1_findOut_X1_shown : GoodIn wsX1_findOut (va_wsS RX1 71 yX1_shown wsX1_shown) := goodIn_app (goodIn_of _ (by decide +kernel)) ggX1_findOut_X1_shown
theorem dX1_findOut_0 : decode cX1_findOut 0 = .ok (.aload_n 0, 1) := by decide +kernel
theorem dX1_findOut_1 : decode cX1_findOut 1 = .ok (.iload_n 1, 1) := by decide +kernel
theorem dX1_findOut_2 : decode cX1_findOut 2 = .ok (.iload_n 2, 1) := by decide +kernel
theorem dX1_findOut_3 : decode cX1_findOut 3 = .ok (.iload_n 3, 1) := by decide +kernel
theorem dX1_findOut_4 : decode cX1_findOut 4 = .ok (.lconst 0, 1) := by decide +kernel
theorem dX1_findOut_5 : decode cX1_findOut 5 = .ok (.invokevirtual 63, 3) := by decide +kernel
theorem dX1_findOut_8 : decode cX1_findOut 8 = .ok (.ifCond .eq 5, 3) := by decide +kernel
theorem dX1_findOut_11 : decode cX1_findOut 11 = .ok (.iconst 0, 1) := by decide +kernel
theorem dX1_findOut_12 : decode cX1_findOut 12 = .ok (.ireturn, 1) := by decide +kernel
theorem dX1_findOut_13 : decode cX1_findOut 13 = .ok (.bipush 8, 2) := by decide +kernel
theorem dX1_findOut_15 : decode cX1_findOut 15 = .ok (.aload_n 0, 1) := by decide +kernel
theorem dX1_findOut_16 : decode cX1_findOut 16 = .ok (.getfield 9, 3) := by decide +kernel
theorem dX1_findOut_19 : decode cX1_findOut 19 = .ok (.getfield 23, 3) := by decide +kernel
theorem dX1_findOut_22 : decode cX1_findOut 22 = .ok (.imul, 1) := by decide +kernel
theorem dX1_findOut_23 : decode cX1_findOut 23 = .ok (.istore 4, 2) := by decide +kernel
theorem dX1_findOut_25 : decode cX1_findOut 25 = .ok (.iconst 0, 1) := by decide +kernel
theorem dX1_findOut_26 : decode cX1_findOut 26 = .ok (.istore 5, 2) := by decide +kernel
theorem dX1_findOut_28 : decode cX1_findOut 28 = .ok (.iload 5, 2) := by decide +kernel
theorem dX1_findOut_30 : decode cX1_findOut 30 = .ok (.iload 4, 2) := by decide +kernel
theorem dX1_findOut_32 : decode cX1_findOut 32 = .ok (.if_icmp .ge 48, 3) := by decide +kernel
theorem dX1_findOut_35 : decode cX1_findOut 35 = .ok (.aload_n 0, 1) := by decide +kernel
theorem dX1_findOut_36 : decode cX1_findOut 36 = .ok (.iload_n 1, 1) := by decide +kernel
theorem dX1_findOut_37 : decode cX1_findOut 37 = .ok (.iload 5, 2) := by decide +kernel
theorem dX1_findOut_39 : decode cX1_findOut 39 = .ok (.invokevirtual 67, 3) := by decide +kernel
theorem dX1_findOut_42 : decode cX1_findOut 42 = .ok (.lstore 6, 2) := by decide +kernel
theorem dX1_findOut_44 : decode cX1_findOut 44 = .ok (.lload 6, 2) := by decide +kernel
theorem dX1_findOut_46 : decode cX1_findOut 46 = .ok (.lconst 0, 1) := by decide +kernel
theorem dX1_findOut_47 : decode cX1_findOut 47 = .ok (.lcmp, 1) := by decide +kernel
theorem dX1_findOut_48 : decode cX1_findOut 48 = .ok (.ifCond .eq 26, 3) := by decide +kernel
theorem dX1_findOut_51 : decode cX1_findOut 51 = .ok (.aload_n 0, 1) := by decide +kernel
theorem dX1_findOut_52 : decode cX1_findOut 52 = .ok (.iload_n 1, 1) := by decide +kernel
theorem dX1_findOut_53 : decode cX1_findOut 53 = .ok (.iload_n 2, 1) := by decide +kernel
theorem dX1_findOut_54 : decode cX1_findOut 54 = .ok (.iload_n 3, 1) := by decide +kernel
theorem dX1_findOut_55 : decode cX1_findOut 55 = .ok (.lload 6, 2) := by decide +kernel
theorem dX1_findOut_57 : decode cX1_findOut 57 = .ok (.invokevirtual 63, 3) := by decide +kernel
theorem dX1_findOut_60 : decode cX1_findOut 60 = .ok (.ifCond .eq 14, 3) := by decide +kernel
theorem dX1_findOut_63 : decode cX1_findOut 63 = .ok (.aload_n 0, 1) := by decide +kernel
theorem dX1_findOut_64 : decode cX1_findOut 64 = .ok (.iload 5, 2) := by decide +kernel
theorem dX1_findOut_66 : decode cX1_findOut 66 = .ok (.invokestatic 71, 3) := by decide +kernel
theorem dX1_findOut_69 : decode cX1_findOut 69 = .ok (.putfield 60, 3) := by decide +kernel
theorem dX1_findOut_72 : decode cX1_findOut 72 = .ok (.iconst 1, 1) := by decide +kernel
theorem dX1_findOut_73 : decode cX1_findOut 73 = .ok (.ireturn, 1) := by decide +kernel
theorem dX1_findOut_74 : decode cX1_findOut 74 = .ok (.iinc 5 1, 3) := by decide +kernel
theorem dX1_findOut_77 : decode cX1_findOut 77 = .ok (.goto (-49), 3) := by decide +kernel
theorem dX1_findOut_80 : decode cX1_findOut 80 = .ok (.iconst 0, 1) := by decide +kernel
theorem dX1_findOut_81 : decode cX1_findOut 81 = .ok (.istore 5, 2) := by decide +kernel
theorem dX1_findOut_83 : decode cX1_findOut 83 = .ok (.iload 5, 2) := by decide +kernel
theorem dX1_findOut_85 : decode cX1_findOut 85 = .ok (.iload 4, 2) := by decide +kernel
theorem dX1_findOut_87 : decode cX1_findOut 87 = .ok (.if_icmp .ge 95, 3) := by decide +kernel
theorem dX1_findOut_90 : decode cX1_findOut 90 = .ok (.aload_n 0, 1) := by decide +kernel
theorem dX1_findOut_91 : decode cX1_findOut 91 = .ok (.iload_n 1, 1) := by decide +kernel
theorem dX1_findOut_92 : decode cX1_findOut 92 = .ok (.iload 5, 2) := by decide +kernel
theorem dX1_findOut_94 : decode cX1_findOut 94 = .ok (.invokevirtual 67, 3) := by decide +kernel
theorem dX1_findOut_97 : decode cX1_findOut 97 = .ok (.lstore 6, 2) := by decide +kernel
theorem dX1_findOut_99 : decode cX1_findOut 99 = .ok (.iload 5, 2) := by decide +kernel
theorem dX1_findOut_101 : decode cX1_findOut 101 = .ok (.iconst 1, 1) := by decide +kernel
theorem dX1_findOut_102 : decode cX1_findOut 102 = .ok (.iadd, 1) := by decide +kernel
theorem dX1_findOut_103 : decode cX1_findOut 103 = .ok (.istore 8, 2) := by decide +kernel
theorem dX1_findOut_105 : decode cX1_findOut 105 = .ok (.lload 6, 2) := by decide +kernel
theorem dX1_findOut_107 : decode cX1_findOut 107 = .ok (.lconst 0, 1) := by decide +kernel
theorem dX1_findOut_108 : decode cX1_findOut 108 = .ok (.lcmp, 1) := by decide +kernel
theorem dX1_findOut_109 : decode cX1_findOut 109 = .ok (.ifCond .eq 67, 3) := by decide +kernel
theorem dX1_findOut_112 : decode cX1_findOut 112 = .ok (.iload 8, 2) := by decide +kernel
theorem dX1_findOut_114 : decode cX1_findOut 114 = .ok (.iload 4, 2) := by decide +kernel
theorem dX1_findOut_116 : decode cX1_findOut 116 = .ok (.if_icmp .ge 60, 3) := by decide +kernel
theorem dX1_findOut_119 : decode cX1_findOut 119 = .ok (.aload_n 0, 1) := by decide +kernel
theorem dX1_findOut_120 : decode cX1_findOut 120 = .ok (.iload_n 1, 1) := by decide +kernel
theorem dX1_findOut_121 : decode cX1_findOut 121 = .ok (.iload 8, 2) := by decide +kernel
theorem dX1_findOut_123 : decode cX1_findOut 123 = .ok (.invokevirtual 67, 3) := by decide +kernel
theorem dX1_findOut_126 : decode cX1_findOut 126 = .ok (.lstore 9, 2) := by decide +kernel
theorem dX1_findOut_128 : decode cX1_findOut 128 = .ok (.lload 9, 2) := by decide +kernel
theorem dX1_findOut_130 : decode cX1_findOut 130 = .ok (.lconst 0, 1) := by decide +kernel
theorem dX1_findOut_131 : decode cX1_findOut 131 = .ok (.lcmp, 1) := by decide +kernel
theorem dX1_findOut_132 : decode cX1_findOut 132 = .ok (.ifCond .eq 38, 3) := by decide +kernel
theorem dX1_findOut_135 : decode cX1_findOut 135 = .ok (.aload_n 0, 1) := by decide +kernel
theorem dX1_findOut_136 : decode cX1_findOut 136 = .ok (.iload_n 1, 1) := by decide +kernel
theorem dX1_findOut_137 : decode cX1_findOut 137 = .ok (.iload_n 2, 1) := by decide +kernel
theorem dX1_findOut_138 : decode cX1_findOut 138 = .ok (.iload_n 3, 1) := by decide +kernel
theorem dX1_findOut_139 : decode cX1_findOut 139 = .ok (.lload 6, 2) := by decide +kernel
theorem dX1_findOut_141 : decode cX1_findOut 141 = .ok (.lload 9, 2) := by decide +kernel
theorem dX1_findOut_143 : decode cX1_findOut 143 = .ok (.lor, 1) := by decide +kernel
theorem dX1_findOut_144 : decode cX1_findOut 144 = .ok (.invokevirtual 63, 3) := by decide +kernel
theorem dX1_findOut_147 : decode cX1_findOut 147 = .ok (.ifCond .eq 23, 3) := by decide +kernel
theorem dX1_findOut_150 : decode cX1_findOut 150 = .ok (.aload_n 0, 1) := by decide +kernel
theorem dX1_findOut_151 : decode cX1_findOut 151 = .ok (.iload 5, 2) := by decide +kernel
theorem dX1_findOut_153 : decode cX1_findOut 153 = .ok (.invokestatic 71, 3) := by decide +kernel
theorem dX1_findOut_156 : decode cX1_findOut 156 = .ok (.putfield 60, 3) := by decide +kernel
theorem dX1_findOut_159 : decode cX1_findOut 159 = .ok (.aload_n 0, 1) := by decide +kernel
theorem dX1_findOut_160 : decode cX1_findOut 160 = .ok (.iload 8, 2) := by decide +kernel
theorem dX1_findOut_162 : decode cX1_findOut 162 = .ok (.invokestatic 71, 3) := by decide +kernel
theorem dX1_findOut_165 : decode cX1_findOut 165 = .ok (.putfield 50, 3) := by decide +kernel
theorem dX1_findOut_168 : decode cX1_findOut 168 = .ok (.iconst 2, 1) := by decide +kernel
theorem dX1_findOut_169 : decode cX1_findOut 169 = .ok (.ireturn, 1) := by decide +kernel
theorem dX1_findOut_170 : decode cX1_findOut 170 = .ok (.iinc 8 1, 3) := by decide +kernel
theorem dX1_findOut_173 : decode cX1_findOut 173 = .ok (.goto (-68), 3) := by decide +kernel
theorem dX1_findOut_176 : decode cX1_findOut 176 = .ok (.iinc 5 1, 3) := by decide +kernel
theorem dX1_findOut_179 : decode cX1_findOut 179 = .ok (.goto (-96), 3) := by decide +kernel
theorem dX1_findOut_182 : decode cX1_findOut 182 = .ok (.bipush (-4), 2) := by decide +kernel
theorem dX1_findOut_184 : decode cX1_findOut 184 = .ok (.ireturn, 1) := by decide +kernel
set_option maxRecDepth 20000 in
theorem ggX1_choice_X7_bit : GoodIn wsX1_choice wsX7_bit := goodIn_r _ [5] (by decide +kernel) (by decide +kernel)
set_option maxRecDepth 20000 in
theorem gX1_choice_X7_bit : GoodIn wsX1_choice (va_wsS RX1 77 yX7_bit wsX7_bit) := goodIn_app (goodIn_of _ (by decide +kernel)) ggX1_choice_X7_bit
theorem dX1_choice_0 : decode cX1_choice 0 = .ok (.iload_n 2, 1) := by decide +kernel
theorem dX1_choice_1 : decode cX1_choice 1 = .ok (.bipush 8, 2) := by decide +kernel
theorem dX1_choice_3 : decode cX1_choice 3 = .ok (.idiv, 1) := by decide +kernel
theorem dX1_choice_4 : decode cX1_choice 4 = .ok (.istore_n 3, 1) := by decide +kernel
theorem dX1_choice_5 : decode cX1_choice 5 = .ok (.iload_n 2, 1) := by decide +kernel
theorem dX1_choice_6 : decode cX1_choice 6 = .ok (.bipush 8, 2) := by decide +kernel
theorem dX1_choice_8 : decode cX1_choice 8 = .ok (.irem, 1) := by decide +kernel
theorem dX1_choice_9 : decode cX1_choice 9 = .ok (.istore 4, 2) := by decide +kernel
theorem dX1_choice_11 : decode cX1_choice 11 = .ok (.iload_n 3, 1) := by decide +kernel
theorem dX1_choice_12 : decode cX1_choice 12 = .ok (.iload_n 1, 1) := by decide +kernel
theorem dX1_choice_13 : decode cX1_choice 13 = .ok (.if_icmp .eq 24, 3) := by decide +kernel
theorem dX1_choice_16 : decode cX1_choice 16 = .ok (.iload 4, 2) := by decide +kernel
theorem dX1_choice_18 : decode cX1_choice 18 = .ok (.aload_n 0, 1) := by decide +kernel
theorem dX1_choice_19 : decode cX1_choice 19 = .ok (.getfield 9, 3) := by decide +kernel
theorem dX1_choice_22 : decode cX1_choice 22 = .ok (.getfield 74, 3) := by decide +kernel
theorem dX1_choice_25 : decode cX1_choice 25 = .ok (.if_icmp .ge 12, 3) := by decide +kernel
theorem dX1_choice_28 : decode cX1_choice 28 = .ok (.iload_n 3, 1) := by decide +kernel
theorem dX1_choice_29 : decode cX1_choice 29 = .ok (.iload 4, 2) := by decide +kernel
theorem dX1_choice_31 : decode cX1_choice 31 = .ok (.invokestatic 77, 3) := by decide +kernel
theorem dX1_choice_34 : decode cX1_choice 34 = .ok (.goto 4, 3) := by decide +kernel
theorem dX1_choice_37 : decode cX1_choice 37 = .ok (.lconst 0, 1) := by decide +kernel
theorem dX1_choice_38 : decode cX1_choice 38 = .ok (.lreturn, 1) := by decide +kernel
theorem dX1_shown_0 : decode cX1_shown 0 = .ok (.bipush 10, 2) := by decide +kernel
theorem dX1_shown_2 : decode cX1_shown 2 = .ok (.iload_n 0, 1) := by decide +kernel
theorem dX1_shown_3 : decode cX1_shown 3 = .ok (.bipush 8, 2) := by decide +kernel
theorem dX1_shown_5 : decode cX1_shown 5 = .ok (.idiv, 1) := by decide +kernel
theorem dX1_shown_6 : decode cX1_shown 6 = .ok (.imul, 1) := by decide +kernel
theorem dX1_shown_7 : decode cX1_shown 7 = .ok (.iload_n 0, 1) := by decide +kernel
theorem dX1_shown_8 : decode cX1_shown 8 = .ok (.bipush 8, 2) := by decide +kernel
theorem dX1_shown_10 : decode cX1_shown 10 = .ok (.irem, 1) := by decide +kernel
theorem dX1_shown_11 : decode cX1_shown 11 = .ok (.iadd, 1) := by decide +kernel
theorem dX1_shown_12 : decode cX1_shown 12 = .ok (.ireturn, 1) := by decide +kernel
set_option maxRecDepth 20000 in
theorem ggX1_isAway_X0_enter : GoodIn wsX1_isAway wsX0_enter := goodIn_r _ [7, 8, 9, 10, 11, 12, 13, 14, 15, 16, 17, 18, 19, 20, 21, 22, 23, 24, 25, 26, 27, 28, 29, 30, 31, 32, 82, 83, 84, 85, 86, 87, 88, 89, 90, 91, 92, 93, 94, 95, 96, 97, 98, 99, 100, 101] (by decide +kernel) (by decide +kernel)
set_option maxRecDepth 20000 in
theorem gX1_isAway_X0_enter : GoodIn wsX1_isAway (wsV RX1 29 RX0 yX0_enter wsX0_enter) := goodIn_app (goodIn_of _ (by decide +kernel)) ggX1_isAway_X0_enter
set_option maxRecDepth 20000 in
theorem ggX1_isAway_X0_passDays : GoodIn wsX1_isAway wsX0_passDays := goodIn_r _ [36, 37, 38, 39, 6, 40, 9, 8, 12, 13, 11, 41, 42, 20, 43, 44, 45, 46, 47, 48, 49, 50, 14, 15, 16, 51, 52, 53, 54, 55, 56, 57, 58, 59, 60, 61, 31, 32, 62, 63, 64, 65, 66, 67, 68, 10, 69, 70, 71, 72, 73, 74, 75, 76, 82, 83, 84, 85, 86, 87, 88, 89, 90, 91, 92, 93, 94, 95, 96] (by decide +kernel) (by decide +kernel)
set_option maxRecDepth 20000 in
theorem gX1_isAway_X0_passDays : GoodIn wsX1_isAway (wsV RX1 40 RX0 yX0_passDays wsX0_passDays) := goodIn_app (goodIn_of _ (by decide +kernel)) ggX1_isAway_X0_passDays
set_option maxRecDepth 20000 in
theorem ggX1_isAway_X8_at : GoodIn wsX1_isAway wsX8_at := goodIn_r _ [16] (by decide +kernel) (by decide +kernel)
set_option maxRecDepth 20000 in
theorem gX1_isAway_X8_at_n90 : GoodIn wsX1_isAway (wsX8_at) := ggX1_isAway_X8_at
theorem dX1_isAway_0 : decode cX1_isAway 0 = .ok (.aload_n 0, 1) := by decide +kernel
theorem dX1_isAway_1 : decode cX1_isAway 1 = .ok (.getfield 19, 3) := by decide +kernel
theorem dX1_isAway_4 : decode cX1_isAway 4 = .ok (.aload_n 0, 1) := by decide +kernel
theorem dX1_isAway_5 : decode cX1_isAway 5 = .ok (.getfield 15, 3) := by decide +kernel
theorem dX1_isAway_8 : decode cX1_isAway 8 = .ok (.iload_n 1, 1) := by decide +kernel
theorem dX1_isAway_9 : decode cX1_isAway 9 = .ok (.invokevirtual 29, 3) := by decide +kernel
theorem dX1_isAway_12 : decode cX1_isAway 12 = .ok (.aload_n 0, 1) := by decide +kernel
theorem dX1_isAway_13 : decode cX1_isAway 13 = .ok (.getfield 19, 3) := by decide +kernel
theorem dX1_isAway_16 : decode cX1_isAway 16 = .ok (.dup, 1) := by decide +kernel
theorem dX1_isAway_17 : decode cX1_isAway 17 = .ok (.getfield 82, 3) := by decide +kernel
theorem dX1_isAway_20 : decode cX1_isAway 20 = .ok (.lload 4, 2) := by decide +kernel
theorem dX1_isAway_22 : decode cX1_isAway 22 = .ok (.lxor, 1) := by decide +kernel
theorem dX1_isAway_23 : decode cX1_isAway 23 = .ok (.putfield 82, 3) := by decide +kernel
theorem dX1_isAway_26 : decode cX1_isAway 26 = .ok (.aload_n 0, 1) := by decide +kernel
theorem dX1_isAway_27 : decode cX1_isAway 27 = .ok (.getfield 19, 3) := by decide +kernel
theorem dX1_isAway_30 : decode cX1_isAway 30 = .ok (.iload_n 3, 1) := by decide +kernel
theorem dX1_isAway_31 : decode cX1_isAway 31 = .ok (.invokevirtual 40, 3) := by decide +kernel
theorem dX1_isAway_34 : decode cX1_isAway 34 = .ok (.pop, 1) := by decide +kernel
theorem dX1_isAway_35 : decode cX1_isAway 35 = .ok (.aload_n 0, 1) := by decide +kernel
theorem dX1_isAway_36 : decode cX1_isAway 36 = .ok (.getfield 19, 3) := by decide +kernel
theorem dX1_isAway_39 : decode cX1_isAway 39 = .ok (.getfield 86, 3) := by decide +kernel
theorem dX1_isAway_42 : decode cX1_isAway 42 = .ok (.iload_n 2, 1) := by decide +kernel
theorem dX1_isAway_43 : decode cX1_isAway 43 = .ok (.invokestatic 90, 3) := by decide +kernel
theorem dX1_isAway_46 : decode cX1_isAway 46 = .ok (.ifCond .ne 7, 3) := by decide +kernel
theorem dX1_isAway_49 : decode cX1_isAway 49 = .ok (.iconst 1, 1) := by decide +kernel
theorem dX1_isAway_50 : decode cX1_isAway 50 = .ok (.goto 4, 3) := by decide +kernel
theorem dX1_isAway_53 : decode cX1_isAway 53 = .ok (.iconst 0, 1) := by decide +kernel
theorem dX1_isAway_54 : decode cX1_isAway 54 = .ok (.ireturn, 1) := by decide +kernel
set_option maxRecDepth 20000 in
theorem ggX1_findWorst_X0_enter : GoodIn wsX1_findWorst wsX0_enter := goodIn_r _ [9, 10, 11, 12, 13, 14, 15, 16, 17, 18, 19, 20, 21, 22, 23, 24, 25, 26, 27, 28, 29, 30, 31, 32, 33, 34, 97, 98, 99, 100, 101, 102, 88, 89, 90, 91, 92, 93, 94, 95, 96, 103, 104, 105, 106, 107] (by decide +kernel) (by decide +kernel)
set_option maxRecDepth 20000 in
theorem gX1_findWorst_X0_enter : GoodIn wsX1_findWorst (wsV RX1 29 RX0 yX0_enter wsX0_enter) := goodIn_app (goodIn_of _ (by decide +kernel)) ggX1_findWorst_X0_enter
set_option maxRecDepth 20000 in
theorem ggX1_findWorst_X7_bit : GoodIn wsX1_findWorst wsX7_bit := goodIn_r _ [37] (by decide +kernel) (by decide +kernel)
set_option maxRecDepth 20000 in
theorem gX1_findWorst_X7_bit : GoodIn wsX1_findWorst (va_wsS RX1 77 yX7_bit wsX7_bit) := goodIn_app (goodIn_of _ (by decide +kernel)) ggX1_findWorst_X7_bit
set_option maxRecDepth 20000 in
theorem ggX1_findWorst_X0_passDays : GoodIn wsX1_findWorst wsX0_passDays := goodIn_r _ [41, 42, 43, 44, 8, 45, 11, 10, 14, 15, 13, 46, 47, 22, 48, 49, 50, 51, 52, 53, 54, 55, 16, 17, 18, 56, 57, 58, 59, 60, 61, 62, 63, 64, 65, 66, 33, 34, 67, 68, 69, 70, 71, 72, 73, 12, 74, 75, 76, 77, 78, 79, 80, 81, 97, 98, 99, 100, 101, 102, 88, 89, 90, 91, 92, 93, 94, 95, 96] (by decide +kernel) (by decide +kernel)
set_option maxRecDepth 20000 in
theorem gX1_findWorst_X0_passDays : GoodIn wsX1_findWorst (wsV RX1 40 RX0 yX0_passDays wsX0_passDays) := goodIn_app (goodIn_of _ (by decide +kernel)) ggX1_findWorst_X0_passDays
set_option maxRecDepth 20000 in
theorem ggX1_findWorst_X0_together : GoodIn wsX1_findWorst wsX0_together := goodIn_r _ [77, 15, 16, 17, 18, 97, 98, 99, 100, 101, 102] (by decide +kernel) (by decide +kernel)
set_option maxRecDepth 20000 in
theorem gX1_findWorst_X0_together : GoodIn wsX1_findWorst (wsV RX1 97 RX0 yX0_together wsX0_together) := goodIn_app (goodIn_of _ (by decide +kernel)) ggX1_findWorst_X0_together
theorem dX1_findWorst_0 : decode cX1_findWorst 0 = .ok (.iconst 0, 1) := by decide +kernel
theorem dX1_findWorst_1 : decode cX1_findWorst 1 = .ok (.istore 4, 2) := by decide +kernel
theorem dX1_findWorst_3 : decode cX1_findWorst 3 = .ok (.iconst (-1), 1) := by decide +kernel
theorem dX1_findWorst_4 : decode cX1_findWorst 4 = .ok (.istore 5, 2) := by decide +kernel
theorem dX1_findWorst_6 : decode cX1_findWorst 6 = .ok (.iconst 0, 1) := by decide +kernel
theorem dX1_findWorst_7 : decode cX1_findWorst 7 = .ok (.istore 6, 2) := by decide +kernel
theorem dX1_findWorst_9 : decode cX1_findWorst 9 = .ok (.iload 6, 2) := by decide +kernel
theorem dX1_findWorst_11 : decode cX1_findWorst 11 = .ok (.aload_n 0, 1) := by decide +kernel
theorem dX1_findWorst_12 : decode cX1_findWorst 12 = .ok (.getfield 9, 3) := by decide +kernel
theorem dX1_findWorst_15 : decode cX1_findWorst 15 = .ok (.getfield 74, 3) := by decide +kernel
theorem dX1_findWorst_18 : decode cX1_findWorst 18 = .ok (.if_icmp .gt 123, 3) := by decide +kernel
theorem dX1_findWorst_21 : decode cX1_findWorst 21 = .ok (.aload_n 0, 1) := by decide +kernel
theorem dX1_findWorst_22 : decode cX1_findWorst 22 = .ok (.getfield 19, 3) := by decide +kernel
theorem dX1_findWorst_25 : decode cX1_findWorst 25 = .ok (.aload_n 0, 1) := by decide +kernel
theorem dX1_findWorst_26 : decode cX1_findWorst 26 = .ok (.getfield 15, 3) := by decide +kernel
theorem dX1_findWorst_29 : decode cX1_findWorst 29 = .ok (.iload_n 2, 1) := by decide +kernel
theorem dX1_findWorst_30 : decode cX1_findWorst 30 = .ok (.invokevirtual 29, 3) := by decide +kernel
theorem dX1_findWorst_33 : decode cX1_findWorst 33 = .ok (.iload 6, 2) := by decide +kernel
theorem dX1_findWorst_35 : decode cX1_findWorst 35 = .ok (.aload_n 0, 1) := by decide +kernel
theorem dX1_findWorst_36 : decode cX1_findWorst 36 = .ok (.getfield 9, 3) := by decide +kernel
theorem dX1_findWorst_39 : decode cX1_findWorst 39 = .ok (.getfield 74, 3) := by decide +kernel
theorem dX1_findWorst_42 : decode cX1_findWorst 42 = .ok (.if_icmp .ge 21, 3) := by decide +kernel
theorem dX1_findWorst_45 : decode cX1_findWorst 45 = .ok (.aload_n 0, 1) := by decide +kernel
theorem dX1_findWorst_46 : decode cX1_findWorst 46 = .ok (.getfield 19, 3) := by decide +kernel
theorem dX1_findWorst_49 : decode cX1_findWorst 49 = .ok (.dup, 1) := by decide +kernel
theorem dX1_findWorst_50 : decode cX1_findWorst 50 = .ok (.getfield 82, 3) := by decide +kernel
theorem dX1_findWorst_53 : decode cX1_findWorst 53 = .ok (.iload_n 1, 1) := by decide +kernel
theorem dX1_findWorst_54 : decode cX1_findWorst 54 = .ok (.iload 6, 2) := by decide +kernel
theorem dX1_findWorst_56 : decode cX1_findWorst 56 = .ok (.invokestatic 77, 3) := by decide +kernel
theorem dX1_findWorst_59 : decode cX1_findWorst 59 = .ok (.lor, 1) := by decide +kernel
theorem dX1_findWorst_60 : decode cX1_findWorst 60 = .ok (.putfield 82, 3) := by decide +kernel
theorem dX1_findWorst_63 : decode cX1_findWorst 63 = .ok (.aload_n 0, 1) := by decide +kernel
theorem dX1_findWorst_64 : decode cX1_findWorst 64 = .ok (.getfield 19, 3) := by decide +kernel
theorem dX1_findWorst_67 : decode cX1_findWorst 67 = .ok (.iload_n 3, 1) := by decide +kernel
theorem dX1_findWorst_68 : decode cX1_findWorst 68 = .ok (.invokevirtual 40, 3) := by decide +kernel
theorem dX1_findWorst_71 : decode cX1_findWorst 71 = .ok (.pop, 1) := by decide +kernel
theorem dX1_findWorst_72 : decode cX1_findWorst 72 = .ok (.aload_n 0, 1) := by decide +kernel
theorem dX1_findWorst_73 : decode cX1_findWorst 73 = .ok (.getfield 19, 3) := by decide +kernel
theorem dX1_findWorst_76 : decode cX1_findWorst 76 = .ok (.aload_n 0, 1) := by decide +kernel
theorem dX1_findWorst_77 : decode cX1_findWorst 77 = .ok (.getfield 9, 3) := by decide +kernel
theorem dX1_findWorst_80 : decode cX1_findWorst 80 = .ok (.getfield 94, 3) := by decide +kernel
theorem dX1_findWorst_83 : decode cX1_findWorst 83 = .ok (.invokevirtual 97, 3) := by decide +kernel
theorem dX1_findWorst_86 : decode cX1_findWorst 86 = .ok (.istore 7, 2) := by decide +kernel
theorem dX1_findWorst_88 : decode cX1_findWorst 88 = .ok (.iload 7, 2) := by decide +kernel
theorem dX1_findWorst_90 : decode cX1_findWorst 90 = .ok (.iload 5, 2) := by decide +kernel
theorem dX1_findWorst_92 : decode cX1_findWorst 92 = .ok (.if_icmp .le 33, 3) := by decide +kernel
theorem dX1_findWorst_95 : decode cX1_findWorst 95 = .ok (.iload 7, 2) := by decide +kernel
theorem dX1_findWorst_97 : decode cX1_findWorst 97 = .ok (.istore 5, 2) := by decide +kernel
theorem dX1_findWorst_99 : decode cX1_findWorst 99 = .ok (.iconst 0, 1) := by decide +kernel
theorem dX1_findWorst_100 : decode cX1_findWorst 100 = .ok (.istore 4, 2) := by decide +kernel
theorem dX1_findWorst_102 : decode cX1_findWorst 102 = .ok (.aload_n 0, 1) := by decide +kernel
theorem dX1_findWorst_103 : decode cX1_findWorst 103 = .ok (.iload 6, 2) := by decide +kernel
theorem dX1_findWorst_105 : decode cX1_findWorst 105 = .ok (.aload_n 0, 1) := by decide +kernel
theorem dX1_findWorst_106 : decode cX1_findWorst 106 = .ok (.getfield 9, 3) := by decide +kernel
theorem dX1_findWorst_109 : decode cX1_findWorst 109 = .ok (.getfield 74, 3) := by decide +kernel
theorem dX1_findWorst_112 : decode cX1_findWorst 112 = .ok (.if_icmp .ge 8, 3) := by decide +kernel
theorem dX1_findWorst_115 : decode cX1_findWorst 115 = .ok (.iload 6, 2) := by decide +kernel
theorem dX1_findWorst_117 : decode cX1_findWorst 117 = .ok (.goto 5, 3) := by decide +kernel
theorem dX1_findWorst_120 : decode cX1_findWorst 120 = .ok (.bipush 9, 2) := by decide +kernel
theorem dX1_findWorst_122 : decode cX1_findWorst 122 = .ok (.putfield 60, 3) := by decide +kernel
theorem dX1_findWorst_125 : decode cX1_findWorst 125 = .ok (.iload 7, 2) := by decide +kernel
theorem dX1_findWorst_127 : decode cX1_findWorst 127 = .ok (.iload 5, 2) := by decide +kernel
theorem dX1_findWorst_129 : decode cX1_findWorst 129 = .ok (.if_icmp .ne 6, 3) := by decide +kernel
theorem dX1_findWorst_132 : decode cX1_findWorst 132 = .ok (.iinc 4 1, 3) := by decide +kernel
theorem dX1_findWorst_135 : decode cX1_findWorst 135 = .ok (.iinc 6 1, 3) := by decide +kernel
theorem dX1_findWorst_138 : decode cX1_findWorst 138 = .ok (.goto (-129), 3) := by decide +kernel
theorem dX1_findWorst_141 : decode cX1_findWorst 141 = .ok (.iload 4, 2) := by decide +kernel
theorem dX1_findWorst_143 : decode cX1_findWorst 143 = .ok (.ireturn, 1) := by decide +kernel
set_option maxRecDepth 20000 in
theorem ggX1_holds_X8_at : GoodIn wsX1_holds wsX8_at := goodIn_r _ [5] (by decide +kernel) (by decide +kernel)
set_option maxRecDepth 20000 in
theorem gX1_holds_X8_at_n90 : GoodIn wsX1_holds (wsX8_at) := ggX1_holds_X8_at
set_option maxRecDepth 20000 in
theorem ggX1_holds_X0_enter : GoodIn wsX1_holds wsX0_enter := goodIn_r _ [10, 11, 12, 13, 14, 15, 16, 3, 4, 5, 17, 18, 19, 20, 21, 22, 23, 24, 25, 26, 27, 28, 29, 30, 31, 32, 87, 88, 89, 90, 91, 92, 93, 94, 95, 96, 97, 98, 99, 100, 101, 102, 103, 104, 105, 106] (by decide +kernel) (by decide +kernel)
set_option maxRecDepth 20000 in
theorem gX1_holds_X0_enter : GoodIn wsX1_holds (wsV RX1 29 RX0 yX0_enter wsX0_enter) := goodIn_app (goodIn_of _ (by decide +kernel)) ggX1_holds_X0_enter
set_option maxRecDepth 20000 in
theorem ggX1_holds_X0_passDays : GoodIn wsX1_holds wsX0_passDays := goodIn_r _ [36, 37, 38, 39, 9, 40, 12, 11, 15, 16, 14, 41, 42, 20, 43, 44, 45, 46, 47, 48, 49, 50, 3, 4, 5, 51, 52, 53, 54, 55, 56, 57, 58, 59, 60, 61, 31, 32, 62, 63, 64, 65, 66, 67, 68, 13, 69, 70, 71, 72, 73, 74, 75, 76, 87, 88, 89, 90, 91, 92, 93, 94, 95, 96, 97, 98, 99, 100, 101] (by decide +kernel) (by decide +kernel)
set_option maxRecDepth 20000 in
theorem gX1_holds_X0_passDays : GoodIn wsX1_holds (wsV RX1 40 RX0 yX0_passDays wsX0_passDays) := goodIn_app (goodIn_of _ (by decide +kernel)) ggX1_holds_X0_passDays
theorem dX1_holds_0 : decode cX1_holds 0 = .ok (.iconst 0, 1) := by decide +kernel
theorem dX1_holds_1 : decode cX1_holds 1 = .ok (.istore 5, 2) := by decide +kernel
theorem dX1_holds_3 : decode cX1_holds 3 = .ok (.iload 5, 2) := by decide +kernel
theorem dX1_holds_5 : decode cX1_holds 5 = .ok (.aload_n 1, 1) := by decide +kernel
theorem dX1_holds_6 : decode cX1_holds 6 = .ok (.getfield 101, 3) := by decide +kernel
theorem dX1_holds_9 : decode cX1_holds 9 = .ok (.if_icmp .ge 102, 3) := by decide +kernel
theorem dX1_holds_12 : decode cX1_holds 12 = .ok (.aload_n 1, 1) := by decide +kernel
theorem dX1_holds_13 : decode cX1_holds 13 = .ok (.getfield 106, 3) := by decide +kernel
theorem dX1_holds_16 : decode cX1_holds 16 = .ok (.iload 5, 2) := by decide +kernel
theorem dX1_holds_18 : decode cX1_holds 18 = .ok (.invokestatic 90, 3) := by decide +kernel
theorem dX1_holds_21 : decode cX1_holds 21 = .ok (.istore 6, 2) := by decide +kernel
theorem dX1_holds_23 : decode cX1_holds 23 = .ok (.aload_n 0, 1) := by decide +kernel
theorem dX1_holds_24 : decode cX1_holds 24 = .ok (.getfield 19, 3) := by decide +kernel
theorem dX1_holds_27 : decode cX1_holds 27 = .ok (.aload_n 0, 1) := by decide +kernel
theorem dX1_holds_28 : decode cX1_holds 28 = .ok (.getfield 15, 3) := by decide +kernel
theorem dX1_holds_31 : decode cX1_holds 31 = .ok (.iload 6, 2) := by decide +kernel
theorem dX1_holds_33 : decode cX1_holds 33 = .ok (.invokevirtual 29, 3) := by decide +kernel
theorem dX1_holds_36 : decode cX1_holds 36 = .ok (.iload 6, 2) := by decide +kernel
theorem dX1_holds_38 : decode cX1_holds 38 = .ok (.iload_n 2, 1) := by decide +kernel
theorem dX1_holds_39 : decode cX1_holds 39 = .ok (.if_icmp .ne 16, 3) := by decide +kernel
theorem dX1_holds_42 : decode cX1_holds 42 = .ok (.aload_n 0, 1) := by decide +kernel
theorem dX1_holds_43 : decode cX1_holds 43 = .ok (.getfield 19, 3) := by decide +kernel
theorem dX1_holds_46 : decode cX1_holds 46 = .ok (.dup, 1) := by decide +kernel
theorem dX1_holds_47 : decode cX1_holds 47 = .ok (.getfield 82, 3) := by decide +kernel
theorem dX1_holds_50 : decode cX1_holds 50 = .ok (.lload_n 3, 1) := by decide +kernel
theorem dX1_holds_51 : decode cX1_holds 51 = .ok (.lor, 1) := by decide +kernel
theorem dX1_holds_52 : decode cX1_holds 52 = .ok (.putfield 82, 3) := by decide +kernel
theorem dX1_holds_55 : decode cX1_holds 55 = .ok (.aload_n 0, 1) := by decide +kernel
theorem dX1_holds_56 : decode cX1_holds 56 = .ok (.getfield 19, 3) := by decide +kernel
theorem dX1_holds_59 : decode cX1_holds 59 = .ok (.aload_n 1, 1) := by decide +kernel
theorem dX1_holds_60 : decode cX1_holds 60 = .ok (.getfield 108, 3) := by decide +kernel
theorem dX1_holds_63 : decode cX1_holds 63 = .ok (.iload 5, 2) := by decide +kernel
theorem dX1_holds_65 : decode cX1_holds 65 = .ok (.invokestatic 90, 3) := by decide +kernel
theorem dX1_holds_68 : decode cX1_holds 68 = .ok (.invokevirtual 40, 3) := by decide +kernel
theorem dX1_holds_71 : decode cX1_holds 71 = .ok (.pop, 1) := by decide +kernel
theorem dX1_holds_72 : decode cX1_holds 72 = .ok (.aload_n 0, 1) := by decide +kernel
theorem dX1_holds_73 : decode cX1_holds 73 = .ok (.getfield 19, 3) := by decide +kernel
theorem dX1_holds_76 : decode cX1_holds 76 = .ok (.getfield 86, 3) := by decide +kernel
theorem dX1_holds_79 : decode cX1_holds 79 = .ok (.aload_n 1, 1) := by decide +kernel
theorem dX1_holds_80 : decode cX1_holds 80 = .ok (.getfield 110, 3) := by decide +kernel
theorem dX1_holds_83 : decode cX1_holds 83 = .ok (.iload 5, 2) := by decide +kernel
theorem dX1_holds_85 : decode cX1_holds 85 = .ok (.invokestatic 90, 3) := by decide +kernel
theorem dX1_holds_88 : decode cX1_holds 88 = .ok (.invokestatic 90, 3) := by decide +kernel
theorem dX1_holds_91 : decode cX1_holds 91 = .ok (.aload_n 1, 1) := by decide +kernel
theorem dX1_holds_92 : decode cX1_holds 92 = .ok (.getfield 112, 3) := by decide +kernel
theorem dX1_holds_95 : decode cX1_holds 95 = .ok (.iload 5, 2) := by decide +kernel
theorem dX1_holds_97 : decode cX1_holds 97 = .ok (.invokestatic 90, 3) := by decide +kernel
theorem dX1_holds_100 : decode cX1_holds 100 = .ok (.if_icmp .eq 5, 3) := by decide +kernel
theorem dX1_holds_103 : decode cX1_holds 103 = .ok (.iconst 0, 1) := by decide +kernel
theorem dX1_holds_104 : decode cX1_holds 104 = .ok (.ireturn, 1) := by decide +kernel
theorem dX1_holds_105 : decode cX1_holds 105 = .ok (.iinc 5 1, 3) := by decide +kernel
theorem dX1_holds_108 : decode cX1_holds 108 = .ok (.goto (-105), 3) := by decide +kernel
theorem dX1_holds_111 : decode cX1_holds 111 = .ok (.iconst 1, 1) := by decide +kernel
theorem dX1_holds_112 : decode cX1_holds 112 = .ok (.ireturn, 1) := by decide +kernel
set_option maxRecDepth 20000 in
theorem ggX1_chanceAbove_X7_about : GoodIn wsX1_chanceAbove wsX7_about := goodIn_r _ [11, 12, 13, 14, 15, 99] (by decide +kernel) (by decide +kernel)
set_option maxRecDepth 20000 in
theorem gX1_chanceAbove_X7_about : GoodIn wsX1_chanceAbove (wsV RX1 116 RX7 yX7_about wsX7_about) := goodIn_app (goodIn_of _ (by decide +kernel)) ggX1_chanceAbove_X7_about
set_option maxRecDepth 20000 in
theorem ggX1_chanceAbove_J13_bitCount_95d88 : GoodIn wsX1_chanceAbove wsJ13_bitCount_95d88 := goodIn_r _ [19, 20, 21, 22] (by decide +kernel) (by decide +kernel)
set_option maxRecDepth 20000 in
theorem gX1_chanceAbove_J13_bitCount_95d88 : GoodIn wsX1_chanceAbove (va_wsS RX1 120 yJ13_bitCount_95d88 wsJ13_bitCount_95d88) := goodIn_app (goodIn_of _ (by decide +kernel)) ggX1_chanceAbove_J13_bitCount_95d88
set_option maxRecDepth 20000 in
theorem ggX1_chanceAbove_X0_enter : GoodIn wsX1_chanceAbove wsX0_enter := goodIn_r _ [27, 28, 29, 30, 31, 32, 33, 34, 14, 35, 36, 8, 9, 10, 11, 12, 13, 15, 37, 38, 39, 40, 41, 42, 43, 44, 93, 94, 95, 96, 97, 98, 100, 101, 102, 103, 104, 105, 106, 107, 108, 89, 90, 91, 92, 99] (by decide +kernel) (by decide +kernel)
set_option maxRecDepth 20000 in
theorem gX1_chanceAbove_X0_enter : GoodIn wsX1_chanceAbove (wsV RX1 29 RX0 yX0_enter wsX0_enter) := goodIn_app (goodIn_of _ (by decide +kernel)) ggX1_chanceAbove_X0_enter
set_option maxRecDepth 20000 in
theorem ggX1_chanceAbove_X0_passDay : GoodIn wsX1_chanceAbove wsX0_passDay := goodIn_r _ [48, 29, 28, 32, 33, 31, 49, 50, 10, 51, 52, 53, 54, 55, 56, 57, 58, 34, 14, 35, 59, 60, 61, 26, 62, 63, 3, 4, 5, 64, 65, 66, 43, 44, 67, 68, 69, 70, 71, 72, 73, 30, 74, 75, 76, 77, 78, 79, 80, 81, 93, 94, 95, 96, 97, 98, 100, 101, 102, 103, 104, 105, 106, 107, 108] (by decide +kernel) (by decide +kernel)
set_option maxRecDepth 20000 in
theorem gX1_chanceAbove_X0_passDay : GoodIn wsX1_chanceAbove (wsV RX1 53 RX0 yX0_passDay wsX0_passDay) := goodIn_app (goodIn_of _ (by decide +kernel)) ggX1_chanceAbove_X0_passDay
set_option maxRecDepth 20000 in
theorem ggX1_chanceAbove_X8_at : GoodIn wsX1_chanceAbove wsX8_at := goodIn_r _ [35] (by decide +kernel) (by decide +kernel)
set_option maxRecDepth 20000 in
theorem gX1_chanceAbove_X8_at_n90 : GoodIn wsX1_chanceAbove (wsX8_at) := ggX1_chanceAbove_X8_at
set_option maxRecDepth 20000 in
theorem ggX1_chanceAbove_X8_power : GoodIn wsX1_chanceAbove wsX8_power := goodIn_r _ [83] (by decide +kernel) (by decide +kernel)
set_option maxRecDepth 20000 in
theorem gX1_chanceAbove_X8_power_n132 : GoodIn wsX1_chanceAbove (wsX8_power) := ggX1_chanceAbove_X8_power
theorem dX1_chanceAbove_0 : decode cX1_chanceAbove 0 = .ok (.aload_n 0, 1) := by decide +kernel
theorem dX1_chanceAbove_1 : decode cX1_chanceAbove 1 = .ok (.getfield 15, 3) := by decide +kernel
theorem dX1_chanceAbove_4 : decode cX1_chanceAbove 4 = .ok (.getfield 113, 3) := by decide +kernel
theorem dX1_chanceAbove_7 : decode cX1_chanceAbove 7 = .ok (.iload_n 1, 1) := by decide +kernel
theorem dX1_chanceAbove_8 : decode cX1_chanceAbove 8 = .ok (.invokevirtual 116, 3) := by decide +kernel
theorem dX1_chanceAbove_11 : decode cX1_chanceAbove 11 = .ok (.lstore 4, 2) := by decide +kernel
theorem dX1_chanceAbove_13 : decode cX1_chanceAbove 13 = .ok (.bipush 12, 2) := by decide +kernel
theorem dX1_chanceAbove_15 : decode cX1_chanceAbove 15 = .ok (.lload 4, 2) := by decide +kernel
theorem dX1_chanceAbove_17 : decode cX1_chanceAbove 17 = .ok (.invokestatic 120, 3) := by decide +kernel
theorem dX1_chanceAbove_20 : decode cX1_chanceAbove 20 = .ok (.invokestatic 126, 3) := by decide +kernel
theorem dX1_chanceAbove_23 : decode cX1_chanceAbove 23 = .ok (.istore 6, 2) := by decide +kernel
theorem dX1_chanceAbove_25 : decode cX1_chanceAbove 25 = .ok (.lconst 0, 1) := by decide +kernel
theorem dX1_chanceAbove_26 : decode cX1_chanceAbove 26 = .ok (.lstore 7, 2) := by decide +kernel
theorem dX1_chanceAbove_28 : decode cX1_chanceAbove 28 = .ok (.lload 4, 2) := by decide +kernel
theorem dX1_chanceAbove_30 : decode cX1_chanceAbove 30 = .ok (.lstore 9, 2) := by decide +kernel
theorem dX1_chanceAbove_32 : decode cX1_chanceAbove 32 = .ok (.iconst 0, 1) := by decide +kernel
theorem dX1_chanceAbove_33 : decode cX1_chanceAbove 33 = .ok (.istore 11, 2) := by decide +kernel
theorem dX1_chanceAbove_35 : decode cX1_chanceAbove 35 = .ok (.iload 11, 2) := by decide +kernel
theorem dX1_chanceAbove_37 : decode cX1_chanceAbove 37 = .ok (.iconst 1, 1) := by decide +kernel
theorem dX1_chanceAbove_38 : decode cX1_chanceAbove 38 = .ok (.iload 6, 2) := by decide +kernel
theorem dX1_chanceAbove_40 : decode cX1_chanceAbove 40 = .ok (.ishl, 1) := by decide +kernel
theorem dX1_chanceAbove_41 : decode cX1_chanceAbove 41 = .ok (.if_icmp .ge 94, 3) := by decide +kernel
theorem dX1_chanceAbove_44 : decode cX1_chanceAbove 44 = .ok (.aload_n 0, 1) := by decide +kernel
theorem dX1_chanceAbove_45 : decode cX1_chanceAbove 45 = .ok (.getfield 19, 3) := by decide +kernel
theorem dX1_chanceAbove_48 : decode cX1_chanceAbove 48 = .ok (.aload_n 0, 1) := by decide +kernel
theorem dX1_chanceAbove_49 : decode cX1_chanceAbove 49 = .ok (.getfield 15, 3) := by decide +kernel
theorem dX1_chanceAbove_52 : decode cX1_chanceAbove 52 = .ok (.iload_n 1, 1) := by decide +kernel
theorem dX1_chanceAbove_53 : decode cX1_chanceAbove 53 = .ok (.invokevirtual 29, 3) := by decide +kernel
theorem dX1_chanceAbove_56 : decode cX1_chanceAbove 56 = .ok (.aload_n 0, 1) := by decide +kernel
theorem dX1_chanceAbove_57 : decode cX1_chanceAbove 57 = .ok (.getfield 19, 3) := by decide +kernel
theorem dX1_chanceAbove_60 : decode cX1_chanceAbove 60 = .ok (.lload 9, 2) := by decide +kernel
theorem dX1_chanceAbove_62 : decode cX1_chanceAbove 62 = .ok (.putfield 82, 3) := by decide +kernel
theorem dX1_chanceAbove_65 : decode cX1_chanceAbove 65 = .ok (.aload_n 0, 1) := by decide +kernel
theorem dX1_chanceAbove_66 : decode cX1_chanceAbove 66 = .ok (.getfield 19, 3) := by decide +kernel
theorem dX1_chanceAbove_69 : decode cX1_chanceAbove 69 = .ok (.invokevirtual 53, 3) := by decide +kernel
theorem dX1_chanceAbove_72 : decode cX1_chanceAbove 72 = .ok (.pop, 1) := by decide +kernel
theorem dX1_chanceAbove_73 : decode cX1_chanceAbove 73 = .ok (.aload_n 0, 1) := by decide +kernel
theorem dX1_chanceAbove_74 : decode cX1_chanceAbove 74 = .ok (.getfield 19, 3) := by decide +kernel
theorem dX1_chanceAbove_77 : decode cX1_chanceAbove 77 = .ok (.getfield 86, 3) := by decide +kernel
theorem dX1_chanceAbove_80 : decode cX1_chanceAbove 80 = .ok (.iload_n 2, 1) := by decide +kernel
theorem dX1_chanceAbove_81 : decode cX1_chanceAbove 81 = .ok (.invokestatic 90, 3) := by decide +kernel
theorem dX1_chanceAbove_84 : decode cX1_chanceAbove 84 = .ok (.ifCond .le 36, 3) := by decide +kernel
theorem dX1_chanceAbove_87 : decode cX1_chanceAbove 87 = .ok (.lload 9, 2) := by decide +kernel
theorem dX1_chanceAbove_89 : decode cX1_chanceAbove 89 = .ok (.invokestatic 120, 3) := by decide +kernel
theorem dX1_chanceAbove_92 : decode cX1_chanceAbove 92 = .ok (.istore 12, 2) := by decide +kernel
theorem dX1_chanceAbove_94 : decode cX1_chanceAbove 94 = .ok (.lload 7, 2) := by decide +kernel
theorem dX1_chanceAbove_96 : decode cX1_chanceAbove 96 = .ok (.iload_n 3, 1) := by decide +kernel
theorem dX1_chanceAbove_97 : decode cX1_chanceAbove 97 = .ok (.i2l, 1) := by decide +kernel
theorem dX1_chanceAbove_98 : decode cX1_chanceAbove 98 = .ok (.iload 12, 2) := by decide +kernel
theorem dX1_chanceAbove_100 : decode cX1_chanceAbove 100 = .ok (.invokestatic 132, 3) := by decide +kernel
theorem dX1_chanceAbove_103 : decode cX1_chanceAbove 103 = .ok (.bipush 10, 2) := by decide +kernel
theorem dX1_chanceAbove_105 : decode cX1_chanceAbove 105 = .ok (.iload_n 3, 1) := by decide +kernel
theorem dX1_chanceAbove_106 : decode cX1_chanceAbove 106 = .ok (.isub, 1) := by decide +kernel
theorem dX1_chanceAbove_107 : decode cX1_chanceAbove 107 = .ok (.i2l, 1) := by decide +kernel
theorem dX1_chanceAbove_108 : decode cX1_chanceAbove 108 = .ok (.iload 6, 2) := by decide +kernel
theorem dX1_chanceAbove_110 : decode cX1_chanceAbove 110 = .ok (.iload 12, 2) := by decide +kernel
theorem dX1_chanceAbove_112 : decode cX1_chanceAbove 112 = .ok (.isub, 1) := by decide +kernel
theorem dX1_chanceAbove_113 : decode cX1_chanceAbove 113 = .ok (.invokestatic 132, 3) := by decide +kernel
theorem dX1_chanceAbove_116 : decode cX1_chanceAbove 116 = .ok (.lmul, 1) := by decide +kernel
theorem dX1_chanceAbove_117 : decode cX1_chanceAbove 117 = .ok (.ladd, 1) := by decide +kernel
theorem dX1_chanceAbove_118 : decode cX1_chanceAbove 118 = .ok (.lstore 7, 2) := by decide +kernel
theorem dX1_chanceAbove_120 : decode cX1_chanceAbove 120 = .ok (.lload 9, 2) := by decide +kernel
theorem dX1_chanceAbove_122 : decode cX1_chanceAbove 122 = .ok (.lconst 1, 1) := by decide +kernel
theorem dX1_chanceAbove_123 : decode cX1_chanceAbove 123 = .ok (.lsub, 1) := by decide +kernel
theorem dX1_chanceAbove_124 : decode cX1_chanceAbove 124 = .ok (.lload 4, 2) := by decide +kernel
theorem dX1_chanceAbove_126 : decode cX1_chanceAbove 126 = .ok (.land, 1) := by decide +kernel
theorem dX1_chanceAbove_127 : decode cX1_chanceAbove 127 = .ok (.lstore 9, 2) := by decide +kernel
theorem dX1_chanceAbove_129 : decode cX1_chanceAbove 129 = .ok (.iinc 11 1, 3) := by decide +kernel
theorem dX1_chanceAbove_132 : decode cX1_chanceAbove 132 = .ok (.goto (-97), 3) := by decide +kernel
theorem dX1_chanceAbove_135 : decode cX1_chanceAbove 135 = .ok (.lload 7, 2) := by decide +kernel
theorem dX1_chanceAbove_137 : decode cX1_chanceAbove 137 = .ok (.lreturn, 1) := by decide +kernel
set_option maxRecDepth 20000 in
theorem ggX1_flipDrawn_X7_canFlip : GoodIn wsX1_flipDrawn wsX7_canFlip := goodIn_r _ [6, 7, 8, 9, 5, 10, 11, 12, 13, 14, 15, 16, 17, 18, 19, 20, 21, 22, 23, 24, 25, 26, 27, 28, 53] (by decide +kernel) (by decide +kernel)
set_option maxRecDepth 20000 in
theorem gX1_flipDrawn_X7_canFlip : GoodIn wsX1_flipDrawn (wsV RX1 136 RX7 yX7_canFlip wsX7_canFlip) := goodIn_app (goodIn_of _ (by decide +kernel)) ggX1_flipDrawn_X7_canFlip
set_option maxRecDepth 20000 in
theorem ggX1_flipDrawn_X7_flip : GoodIn wsX1_flipDrawn wsX7_flip := goodIn_r _ [32, 11, 12, 13, 14, 15, 16, 5, 17, 33, 34, 53] (by decide +kernel) (by decide +kernel)
set_option maxRecDepth 20000 in
theorem gX1_flipDrawn_X7_flip : GoodIn wsX1_flipDrawn (wsV RX1 140 RX7 yX7_flip wsX7_flip) := goodIn_app (goodIn_of _ (by decide +kernel)) ggX1_flipDrawn_X7_flip
theorem dX1_flipDrawn_0 : decode cX1_flipDrawn 0 = .ok (.aload_n 0, 1) := by decide +kernel
theorem dX1_flipDrawn_1 : decode cX1_flipDrawn 1 = .ok (.getfield 9, 3) := by decide +kernel
theorem dX1_flipDrawn_4 : decode cX1_flipDrawn 4 = .ok (.getfield 23, 3) := by decide +kernel
theorem dX1_flipDrawn_7 : decode cX1_flipDrawn 7 = .ok (.iconst 1, 1) := by decide +kernel
theorem dX1_flipDrawn_8 : decode cX1_flipDrawn 8 = .ok (.if_icmp .lt 14, 3) := by decide +kernel
theorem dX1_flipDrawn_11 : decode cX1_flipDrawn 11 = .ok (.aload_n 0, 1) := by decide +kernel
theorem dX1_flipDrawn_12 : decode cX1_flipDrawn 12 = .ok (.getfield 9, 3) := by decide +kernel
theorem dX1_flipDrawn_15 : decode cX1_flipDrawn 15 = .ok (.getfield 74, 3) := by decide +kernel
theorem dX1_flipDrawn_18 : decode cX1_flipDrawn 18 = .ok (.iconst 1, 1) := by decide +kernel
theorem dX1_flipDrawn_19 : decode cX1_flipDrawn 19 = .ok (.if_icmp .ge 4, 3) := by decide +kernel
theorem dX1_flipDrawn_22 : decode cX1_flipDrawn 22 = .ok (.return_, 1) := by decide +kernel
theorem dX1_flipDrawn_23 : decode cX1_flipDrawn 23 = .ok (.iload_n 2, 1) := by decide +kernel
theorem dX1_flipDrawn_24 : decode cX1_flipDrawn 24 = .ok (.aload_n 0, 1) := by decide +kernel
theorem dX1_flipDrawn_25 : decode cX1_flipDrawn 25 = .ok (.getfield 9, 3) := by decide +kernel
theorem dX1_flipDrawn_28 : decode cX1_flipDrawn 28 = .ok (.getfield 23, 3) := by decide +kernel
theorem dX1_flipDrawn_31 : decode cX1_flipDrawn 31 = .ok (.irem, 1) := by decide +kernel
theorem dX1_flipDrawn_32 : decode cX1_flipDrawn 32 = .ok (.istore_n 3, 1) := by decide +kernel
theorem dX1_flipDrawn_33 : decode cX1_flipDrawn 33 = .ok (.iload_n 2, 1) := by decide +kernel
theorem dX1_flipDrawn_34 : decode cX1_flipDrawn 34 = .ok (.bipush 64, 2) := by decide +kernel
theorem dX1_flipDrawn_36 : decode cX1_flipDrawn 36 = .ok (.idiv, 1) := by decide +kernel
theorem dX1_flipDrawn_37 : decode cX1_flipDrawn 37 = .ok (.aload_n 0, 1) := by decide +kernel
theorem dX1_flipDrawn_38 : decode cX1_flipDrawn 38 = .ok (.getfield 9, 3) := by decide +kernel
theorem dX1_flipDrawn_41 : decode cX1_flipDrawn 41 = .ok (.getfield 23, 3) := by decide +kernel
theorem dX1_flipDrawn_44 : decode cX1_flipDrawn 44 = .ok (.irem, 1) := by decide +kernel
theorem dX1_flipDrawn_45 : decode cX1_flipDrawn 45 = .ok (.istore 4, 2) := by decide +kernel
theorem dX1_flipDrawn_47 : decode cX1_flipDrawn 47 = .ok (.iload_n 2, 1) := by decide +kernel
theorem dX1_flipDrawn_48 : decode cX1_flipDrawn 48 = .ok (.bipush 8, 2) := by decide +kernel
theorem dX1_flipDrawn_50 : decode cX1_flipDrawn 50 = .ok (.idiv, 1) := by decide +kernel
theorem dX1_flipDrawn_51 : decode cX1_flipDrawn 51 = .ok (.aload_n 0, 1) := by decide +kernel
theorem dX1_flipDrawn_52 : decode cX1_flipDrawn 52 = .ok (.getfield 9, 3) := by decide +kernel
theorem dX1_flipDrawn_55 : decode cX1_flipDrawn 55 = .ok (.getfield 74, 3) := by decide +kernel
theorem dX1_flipDrawn_58 : decode cX1_flipDrawn 58 = .ok (.irem, 1) := by decide +kernel
theorem dX1_flipDrawn_59 : decode cX1_flipDrawn 59 = .ok (.istore 5, 2) := by decide +kernel
theorem dX1_flipDrawn_61 : decode cX1_flipDrawn 61 = .ok (.iload_n 3, 1) := by decide +kernel
theorem dX1_flipDrawn_62 : decode cX1_flipDrawn 62 = .ok (.iload 4, 2) := by decide +kernel
theorem dX1_flipDrawn_64 : decode cX1_flipDrawn 64 = .ok (.if_icmp .eq 30, 3) := by decide +kernel
theorem dX1_flipDrawn_67 : decode cX1_flipDrawn 67 = .ok (.aload_n 1, 1) := by decide +kernel
theorem dX1_flipDrawn_68 : decode cX1_flipDrawn 68 = .ok (.getfield 113, 3) := by decide +kernel
theorem dX1_flipDrawn_71 : decode cX1_flipDrawn 71 = .ok (.iload_n 3, 1) := by decide +kernel
theorem dX1_flipDrawn_72 : decode cX1_flipDrawn 72 = .ok (.iload 4, 2) := by decide +kernel
theorem dX1_flipDrawn_74 : decode cX1_flipDrawn 74 = .ok (.iload 5, 2) := by decide +kernel
theorem dX1_flipDrawn_76 : decode cX1_flipDrawn 76 = .ok (.invokevirtual 136, 3) := by decide +kernel
theorem dX1_flipDrawn_79 : decode cX1_flipDrawn 79 = .ok (.ifCond .eq 15, 3) := by decide +kernel
theorem dX1_flipDrawn_82 : decode cX1_flipDrawn 82 = .ok (.aload_n 1, 1) := by decide +kernel
theorem dX1_flipDrawn_83 : decode cX1_flipDrawn 83 = .ok (.getfield 113, 3) := by decide +kernel
theorem dX1_flipDrawn_86 : decode cX1_flipDrawn 86 = .ok (.iload_n 3, 1) := by decide +kernel
theorem dX1_flipDrawn_87 : decode cX1_flipDrawn 87 = .ok (.iload 4, 2) := by decide +kernel
theorem dX1_flipDrawn_89 : decode cX1_flipDrawn 89 = .ok (.iload 5, 2) := by decide +kernel
theorem dX1_flipDrawn_91 : decode cX1_flipDrawn 91 = .ok (.invokevirtual 140, 3) := by decide +kernel
theorem dX1_flipDrawn_94 : decode cX1_flipDrawn 94 = .ok (.return_, 1) := by decide +kernel
set_option maxRecDepth 20000 in
theorem ggX2_init_X5_init : GoodIn wsX2_init wsX5_init := goodIn_r _ [13, 14, 2, 3, 15, 16, 17, 18, 19, 20, 21, 22, 23, 24, 25, 33, 29, 30, 31, 32] (by decide +kernel) (by decide +kernel)
set_option maxRecDepth 20000 in
theorem gX2_init_X5_init_n21 : GoodIn wsX2_init (wsX5_init) := ggX2_init_X5_init
theorem dX2_init_0 : decode cX2_init 0 = .ok (.aload_n 0, 1) := by decide +kernel
theorem dX2_init_1 : decode cX2_init 1 = .ok (.invokespecial 1, 3) := by decide +kernel
theorem dX2_init_4 : decode cX2_init 4 = .ok (.aload_n 0, 1) := by decide +kernel
theorem dX2_init_5 : decode cX2_init 5 = .ok (.iconst 1, 1) := by decide +kernel
theorem dX2_init_6 : decode cX2_init 6 = .ok (.iload_n 1, 1) := by decide +kernel
theorem dX2_init_7 : decode cX2_init 7 = .ok (.invokestatic 7, 3) := by decide +kernel
theorem dX2_init_10 : decode cX2_init 10 = .ok (.anewarray 13, 3) := by decide +kernel
theorem dX2_init_13 : decode cX2_init 13 = .ok (.putfield 15, 3) := by decide +kernel
theorem dX2_init_16 : decode cX2_init 16 = .ok (.iconst 0, 1) := by decide +kernel
theorem dX2_init_17 : decode cX2_init 17 = .ok (.istore_n 2, 1) := by decide +kernel
theorem dX2_init_18 : decode cX2_init 18 = .ok (.iload_n 2, 1) := by decide +kernel
theorem dX2_init_19 : decode cX2_init 19 = .ok (.aload_n 0, 1) := by decide +kernel
theorem dX2_init_20 : decode cX2_init 20 = .ok (.getfield 15, 3) := by decide +kernel
theorem dX2_init_23 : decode cX2_init 23 = .ok (.arraylength, 1) := by decide +kernel
theorem dX2_init_24 : decode cX2_init 24 = .ok (.if_icmp .ge 22, 3) := by decide +kernel
theorem dX2_init_27 : decode cX2_init 27 = .ok (.aload_n 0, 1) := by decide +kernel
theorem dX2_init_28 : decode cX2_init 28 = .ok (.getfield 15, 3) := by decide +kernel
theorem dX2_init_31 : decode cX2_init 31 = .ok (.iload_n 2, 1) := by decide +kernel
theorem dX2_init_32 : decode cX2_init 32 = .ok (.new 13, 3) := by decide +kernel
theorem dX2_init_35 : decode cX2_init 35 = .ok (.dup, 1) := by decide +kernel
theorem dX2_init_36 : decode cX2_init 36 = .ok (.invokespecial 21, 3) := by decide +kernel
theorem dX2_init_39 : decode cX2_init 39 = .ok (.aastore, 1) := by decide +kernel
theorem dX2_init_40 : decode cX2_init 40 = .ok (.iinc 2 1, 3) := by decide +kernel
theorem dX2_init_43 : decode cX2_init 43 = .ok (.goto (-25), 3) := by decide +kernel
theorem dX2_init_46 : decode cX2_init 46 = .ok (.return_, 1) := by decide +kernel
theorem dX2_clear_0 : decode cX2_clear 0 = .ok (.aload_n 0, 1) := by decide +kernel
theorem dX2_clear_1 : decode cX2_clear 1 = .ok (.iconst 0, 1) := by decide +kernel
theorem dX2_clear_2 : decode cX2_clear 2 = .ok (.putfield 22, 3) := by decide +kernel
theorem dX2_clear_5 : decode cX2_clear 5 = .ok (.return_, 1) := by decide +kernel
set_option maxRecDepth 20000 in
theorem ggX2_push_X2_placeAt : GoodIn wsX2_push wsX2_placeAt := goodIn_r _ [12, 2, 41, 42, 43] (by decide +kernel) (by decide +kernel)
set_option maxRecDepth 20000 in
theorem gX2_push_X2_placeAt : GoodIn wsX2_push (wsV RX2 29 RX2 yX2_placeAt wsX2_placeAt) := goodIn_app (goodIn_of _ (by decide +kernel)) ggX2_push_X2_placeAt
set_option maxRecDepth 20000 in
theorem ggX2_push_X5_become : GoodIn wsX2_push wsX5_become := goodIn_r _ [17, 18, 19, 20, 21, 22, 23, 24, 25, 26, 27, 28, 29, 30, 31, 32, 33, 34, 35, 36, 37, 38, 39, 40, 44, 45, 46, 47, 48] (by decide +kernel) (by decide +kernel)
set_option maxRecDepth 20000 in
theorem gX2_push_X5_become : GoodIn wsX2_push (wsV RX2 33 RX5 yX5_become wsX5_become) := goodIn_app (goodIn_of _ (by decide +kernel)) ggX2_push_X5_become
theorem dX2_push_0 : decode cX2_push 0 = .ok (.aload_n 0, 1) := by decide +kernel
theorem dX2_push_1 : decode cX2_push 1 = .ok (.aload_n 0, 1) := by decide +kernel
theorem dX2_push_2 : decode cX2_push 2 = .ok (.getfield 26, 3) := by decide +kernel
theorem dX2_push_5 : decode cX2_push 5 = .ok (.invokevirtual 29, 3) := by decide +kernel
theorem dX2_push_8 : decode cX2_push 8 = .ok (.astore_n 2, 1) := by decide +kernel
theorem dX2_push_9 : decode cX2_push 9 = .ok (.aload_n 2, 1) := by decide +kernel
theorem dX2_push_10 : decode cX2_push 10 = .ok (.ifnonnull 4, 3) := by decide +kernel
theorem dX2_push_13 : decode cX2_push 13 = .ok (.return_, 1) := by decide +kernel
theorem dX2_push_14 : decode cX2_push 14 = .ok (.aload_n 2, 1) := by decide +kernel
theorem dX2_push_15 : decode cX2_push 15 = .ok (.aload_n 1, 1) := by decide +kernel
theorem dX2_push_16 : decode cX2_push 16 = .ok (.invokevirtual 33, 3) := by decide +kernel
theorem dX2_push_19 : decode cX2_push 19 = .ok (.aload_n 0, 1) := by decide +kernel
theorem dX2_push_20 : decode cX2_push 20 = .ok (.aload_n 0, 1) := by decide +kernel
theorem dX2_push_21 : decode cX2_push 21 = .ok (.getfield 26, 3) := by decide +kernel
theorem dX2_push_24 : decode cX2_push 24 = .ok (.aload_n 0, 1) := by decide +kernel
theorem dX2_push_25 : decode cX2_push 25 = .ok (.getfield 15, 3) := by decide +kernel
theorem dX2_push_28 : decode cX2_push 28 = .ok (.arraylength, 1) := by decide +kernel
theorem dX2_push_29 : decode cX2_push 29 = .ok (.iconst 1, 1) := by decide +kernel
theorem dX2_push_30 : decode cX2_push 30 = .ok (.isub, 1) := by decide +kernel
theorem dX2_push_31 : decode cX2_push 31 = .ok (.if_icmp .ge 12, 3) := by decide +kernel
theorem dX2_push_34 : decode cX2_push 34 = .ok (.aload_n 0, 1) := by decide +kernel
theorem dX2_push_35 : decode cX2_push 35 = .ok (.getfield 26, 3) := by decide +kernel
theorem dX2_push_38 : decode cX2_push 38 = .ok (.iconst 1, 1) := by decide +kernel
theorem dX2_push_39 : decode cX2_push 39 = .ok (.iadd, 1) := by decide +kernel
theorem dX2_push_40 : decode cX2_push 40 = .ok (.goto 4, 3) := by decide +kernel
theorem dX2_push_43 : decode cX2_push 43 = .ok (.iconst 0, 1) := by decide +kernel
theorem dX2_push_44 : decode cX2_push 44 = .ok (.putfield 26, 3) := by decide +kernel
theorem dX2_push_47 : decode cX2_push 47 = .ok (.aload_n 0, 1) := by decide +kernel
theorem dX2_push_48 : decode cX2_push 48 = .ok (.aload_n 0, 1) := by decide +kernel
theorem dX2_push_49 : decode cX2_push 49 = .ok (.getfield 15, 3) := by decide +kernel
theorem dX2_push_52 : decode cX2_push 52 = .ok (.arraylength, 1) := by decide +kernel
theorem dX2_push_53 : decode cX2_push 53 = .ok (.aload_n 0, 1) := by decide +kernel
theorem dX2_push_54 : decode cX2_push 54 = .ok (.getfield 22, 3) := by decide +kernel
theorem dX2_push_57 : decode cX2_push 57 = .ok (.iconst 1, 1) := by decide +kernel
theorem dX2_push_58 : decode cX2_push 58 = .ok (.iadd, 1) := by decide +kernel
theorem dX2_push_59 : decode cX2_push 59 = .ok (.invokestatic 37, 3) := by decide +kernel
theorem dX2_push_62 : decode cX2_push 62 = .ok (.putfield 22, 3) := by decide +kernel
theorem dX2_push_65 : decode cX2_push 65 = .ok (.return_, 1) := by decide +kernel
set_option maxRecDepth 20000 in
theorem ggX2_pop_X2_placeAt : GoodIn wsX2_pop wsX2_placeAt := goodIn_r _ [8, 2, 37, 38, 39] (by decide +kernel) (by decide +kernel)
set_option maxRecDepth 20000 in
theorem gX2_pop_X2_placeAt : GoodIn wsX2_pop (wsV RX2 29 RX2 yX2_placeAt wsX2_placeAt) := goodIn_app (goodIn_of _ (by decide +kernel)) ggX2_pop_X2_placeAt
set_option maxRecDepth 20000 in
theorem ggX2_pop_X5_become : GoodIn wsX2_pop wsX5_become := goodIn_r _ [13, 14, 15, 16, 17, 18, 19, 20, 21, 22, 23, 24, 25, 26, 27, 28, 29, 30, 31, 32, 33, 34, 35, 36, 40, 41, 42, 43, 44] (by decide +kernel) (by decide +kernel)
set_option maxRecDepth 20000 in
theorem gX2_pop_X5_become : GoodIn wsX2_pop (wsV RX2 33 RX5 yX5_become wsX5_become) := goodIn_app (goodIn_of _ (by decide +kernel)) ggX2_pop_X5_become
theorem dX2_pop_0 : decode cX2_pop 0 = .ok (.aload_n 0, 1) := by decide +kernel
theorem dX2_pop_1 : decode cX2_pop 1 = .ok (.getfield 26, 3) := by decide +kernel
theorem dX2_pop_4 : decode cX2_pop 4 = .ok (.ifCond .le 12, 3) := by decide +kernel
theorem dX2_pop_7 : decode cX2_pop 7 = .ok (.aload_n 0, 1) := by decide +kernel
theorem dX2_pop_8 : decode cX2_pop 8 = .ok (.getfield 26, 3) := by decide +kernel
theorem dX2_pop_11 : decode cX2_pop 11 = .ok (.iconst 1, 1) := by decide +kernel
theorem dX2_pop_12 : decode cX2_pop 12 = .ok (.isub, 1) := by decide +kernel
theorem dX2_pop_13 : decode cX2_pop 13 = .ok (.goto 10, 3) := by decide +kernel
theorem dX2_pop_16 : decode cX2_pop 16 = .ok (.aload_n 0, 1) := by decide +kernel
theorem dX2_pop_17 : decode cX2_pop 17 = .ok (.getfield 15, 3) := by decide +kernel
theorem dX2_pop_20 : decode cX2_pop 20 = .ok (.arraylength, 1) := by decide +kernel
theorem dX2_pop_21 : decode cX2_pop 21 = .ok (.iconst 1, 1) := by decide +kernel
theorem dX2_pop_22 : decode cX2_pop 22 = .ok (.isub, 1) := by decide +kernel
theorem dX2_pop_23 : decode cX2_pop 23 = .ok (.istore_n 2, 1) := by decide +kernel
theorem dX2_pop_24 : decode cX2_pop 24 = .ok (.aload_n 0, 1) := by decide +kernel
theorem dX2_pop_25 : decode cX2_pop 25 = .ok (.iload_n 2, 1) := by decide +kernel
theorem dX2_pop_26 : decode cX2_pop 26 = .ok (.invokevirtual 29, 3) := by decide +kernel
theorem dX2_pop_29 : decode cX2_pop 29 = .ok (.astore_n 3, 1) := by decide +kernel
theorem dX2_pop_30 : decode cX2_pop 30 = .ok (.aload_n 0, 1) := by decide +kernel
theorem dX2_pop_31 : decode cX2_pop 31 = .ok (.getfield 22, 3) := by decide +kernel
theorem dX2_pop_34 : decode cX2_pop 34 = .ok (.iconst 1, 1) := by decide +kernel
theorem dX2_pop_35 : decode cX2_pop 35 = .ok (.if_icmp .lt 7, 3) := by decide +kernel
theorem dX2_pop_38 : decode cX2_pop 38 = .ok (.aload_n 3, 1) := by decide +kernel
theorem dX2_pop_39 : decode cX2_pop 39 = .ok (.ifnonnull 4, 3) := by decide +kernel
theorem dX2_pop_42 : decode cX2_pop 42 = .ok (.return_, 1) := by decide +kernel
theorem dX2_pop_43 : decode cX2_pop 43 = .ok (.aload_n 1, 1) := by decide +kernel
theorem dX2_pop_44 : decode cX2_pop 44 = .ok (.aload_n 3, 1) := by decide +kernel
theorem dX2_pop_45 : decode cX2_pop 45 = .ok (.invokevirtual 33, 3) := by decide +kernel
theorem dX2_pop_48 : decode cX2_pop 48 = .ok (.aload_n 0, 1) := by decide +kernel
theorem dX2_pop_49 : decode cX2_pop 49 = .ok (.iload_n 2, 1) := by decide +kernel
theorem dX2_pop_50 : decode cX2_pop 50 = .ok (.putfield 26, 3) := by decide +kernel
theorem dX2_pop_53 : decode cX2_pop 53 = .ok (.aload_n 0, 1) := by decide +kernel
theorem dX2_pop_54 : decode cX2_pop 54 = .ok (.dup, 1) := by decide +kernel
theorem dX2_pop_55 : decode cX2_pop 55 = .ok (.getfield 22, 3) := by decide +kernel
theorem dX2_pop_58 : decode cX2_pop 58 = .ok (.iconst 1, 1) := by decide +kernel
theorem dX2_pop_59 : decode cX2_pop 59 = .ok (.isub, 1) := by decide +kernel
theorem dX2_pop_60 : decode cX2_pop 60 = .ok (.putfield 22, 3) := by decide +kernel
theorem dX2_pop_63 : decode cX2_pop 63 = .ok (.return_, 1) := by decide +kernel
theorem dX2_placeAt_0 : decode cX2_placeAt 0 = .ok (.iload_n 1, 1) := by decide +kernel
theorem dX2_placeAt_1 : decode cX2_placeAt 1 = .ok (.ifCond .lt 21, 3) := by decide +kernel
theorem dX2_placeAt_4 : decode cX2_placeAt 4 = .ok (.iload_n 1, 1) := by decide +kernel
theorem dX2_placeAt_5 : decode cX2_placeAt 5 = .ok (.aload_n 0, 1) := by decide +kernel
theorem dX2_placeAt_6 : decode cX2_placeAt 6 = .ok (.getfield 15, 3) := by decide +kernel
theorem dX2_placeAt_9 : decode cX2_placeAt 9 = .ok (.arraylength, 1) := by decide +kernel
theorem dX2_placeAt_10 : decode cX2_placeAt 10 = .ok (.if_icmp .ge 12, 3) := by decide +kernel
theorem dX2_placeAt_13 : decode cX2_placeAt 13 = .ok (.aload_n 0, 1) := by decide +kernel
theorem dX2_placeAt_14 : decode cX2_placeAt 14 = .ok (.getfield 15, 3) := by decide +kernel
theorem dX2_placeAt_17 : decode cX2_placeAt 17 = .ok (.iload_n 1, 1) := by decide +kernel
theorem dX2_placeAt_18 : decode cX2_placeAt 18 = .ok (.aaload, 1) := by decide +kernel
theorem dX2_placeAt_19 : decode cX2_placeAt 19 = .ok (.goto 4, 3) := by decide +kernel
theorem dX2_placeAt_22 : decode cX2_placeAt 22 = .ok (.aconst_null, 1) := by decide +kernel
theorem dX2_placeAt_23 : decode cX2_placeAt 23 = .ok (.areturn, 1) := by decide +kernel
set_option maxRecDepth 20000 in
theorem ggX3_init_X7_init : GoodIn wsX3_init wsX7_init := goodIn_r _ [15, 16, 2, 3, 17, 18, 28] (by decide +kernel) (by decide +kernel)
set_option maxRecDepth 20000 in
theorem gX3_init_X7_init_n29 : GoodIn wsX3_init (wsX7_init) := ggX3_init_X7_init
theorem dX3_init_0 : decode cX3_init 0 = .ok (.aload_n 0, 1) := by decide +kernel
theorem dX3_init_1 : decode cX3_init 1 = .ok (.invokespecial 3, 3) := by decide +kernel
theorem dX3_init_4 : decode cX3_init 4 = .ok (.aload_n 0, 1) := by decide +kernel
theorem dX3_init_5 : decode cX3_init 5 = .ok (.bipush 6, 2) := by decide +kernel
theorem dX3_init_7 : decode cX3_init 7 = .ok (.newarray .int, 2) := by decide +kernel
theorem dX3_init_9 : decode cX3_init 9 = .ok (.putfield 9, 3) := by decide +kernel
theorem dX3_init_12 : decode cX3_init 12 = .ok (.aload_n 0, 1) := by decide +kernel
theorem dX3_init_13 : decode cX3_init 13 = .ok (.bipush 6, 2) := by decide +kernel
theorem dX3_init_15 : decode cX3_init 15 = .ok (.newarray .int, 2) := by decide +kernel
theorem dX3_init_17 : decode cX3_init 17 = .ok (.putfield 15, 3) := by decide +kernel
theorem dX3_init_20 : decode cX3_init 20 = .ok (.aload_n 0, 1) := by decide +kernel
theorem dX3_init_21 : decode cX3_init 21 = .ok (.bipush 6, 2) := by decide +kernel
theorem dX3_init_23 : decode cX3_init 23 = .ok (.newarray .int, 2) := by decide +kernel
theorem dX3_init_25 : decode cX3_init 25 = .ok (.putfield 18, 3) := by decide +kernel
theorem dX3_init_28 : decode cX3_init 28 = .ok (.aload_n 0, 1) := by decide +kernel
theorem dX3_init_29 : decode cX3_init 29 = .ok (.bipush 8, 2) := by decide +kernel
theorem dX3_init_31 : decode cX3_init 31 = .ok (.newarray .int, 2) := by decide +kernel
theorem dX3_init_33 : decode cX3_init 33 = .ok (.putfield 21, 3) := by decide +kernel
theorem dX3_init_36 : decode cX3_init 36 = .ok (.aload_n 0, 1) := by decide +kernel
theorem dX3_init_37 : decode cX3_init 37 = .ok (.bipush 8, 2) := by decide +kernel
theorem dX3_init_39 : decode cX3_init 39 = .ok (.newarray .int, 2) := by decide +kernel
theorem dX3_init_41 : decode cX3_init 41 = .ok (.putfield 24, 3) := by decide +kernel
theorem dX3_init_44 : decode cX3_init 44 = .ok (.aload_n 0, 1) := by decide +kernel
theorem dX3_init_45 : decode cX3_init 45 = .ok (.new 27, 3) := by decide +kernel
theorem dX3_init_48 : decode cX3_init 48 = .ok (.dup, 1) := by decide +kernel
theorem dX3_init_49 : decode cX3_init 49 = .ok (.invokespecial 29, 3) := by decide +kernel
theorem dX3_init_52 : decode cX3_init 52 = .ok (.putfield 30, 3) := by decide +kernel
theorem dX3_init_55 : decode cX3_init 55 = .ok (.return_, 1) := by decide +kernel
set_option maxRecDepth 20000 in
theorem ggX3_clear_X7_clear : GoodIn wsX3_clear wsX7_clear := goodIn_r _ [9, 10, 11, 12, 13, 23] (by decide +kernel) (by decide +kernel)
set_option maxRecDepth 20000 in
theorem gX3_clear_X7_clear : GoodIn wsX3_clear (wsV RX3 44 RX7 yX7_clear wsX7_clear) := goodIn_app (goodIn_of _ (by decide +kernel)) ggX3_clear_X7_clear
theorem dX3_clear_0 : decode cX3_clear 0 = .ok (.aload_n 0, 1) := by decide +kernel
theorem dX3_clear_1 : decode cX3_clear 1 = .ok (.iconst 0, 1) := by decide +kernel
theorem dX3_clear_2 : decode cX3_clear 2 = .ok (.putfield 34, 3) := by decide +kernel
theorem dX3_clear_5 : decode cX3_clear 5 = .ok (.aload_n 0, 1) := by decide +kernel
theorem dX3_clear_6 : decode cX3_clear 6 = .ok (.iconst 0, 1) := by decide +kernel
theorem dX3_clear_7 : decode cX3_clear 7 = .ok (.putfield 38, 3) := by decide +kernel
theorem dX3_clear_10 : decode cX3_clear 10 = .ok (.aload_n 0, 1) := by decide +kernel
theorem dX3_clear_11 : decode cX3_clear 11 = .ok (.bipush 8, 2) := by decide +kernel
theorem dX3_clear_13 : decode cX3_clear 13 = .ok (.putfield 41, 3) := by decide +kernel
theorem dX3_clear_16 : decode cX3_clear 16 = .ok (.aload_n 0, 1) := by decide +kernel
theorem dX3_clear_17 : decode cX3_clear 17 = .ok (.getfield 30, 3) := by decide +kernel
theorem dX3_clear_20 : decode cX3_clear 20 = .ok (.invokevirtual 44, 3) := by decide +kernel
theorem dX3_clear_23 : decode cX3_clear 23 = .ok (.return_, 1) := by decide +kernel
set_option maxRecDepth 20000 in
theorem ggX3_tell_X3_tellPerson : GoodIn wsX3_tell wsX3_tellPerson := goodIn_r _ [5, 6, 7, 8, 9, 10, 11, 12, 13, 14, 64, 65, 66, 67, 68, 69, 70, 71, 72] (by decide +kernel) (by decide +kernel)
set_option maxRecDepth 20000 in
theorem gX3_tell_X3_tellPerson : GoodIn wsX3_tell (wsV RX3 47 RX3 yX3_tellPerson wsX3_tellPerson) := goodIn_app (goodIn_of _ (by decide +kernel)) ggX3_tell_X3_tellPerson
set_option maxRecDepth 20000 in
theorem ggX3_tell_X3_tellName : GoodIn wsX3_tell wsX3_tellName := goodIn_r _ [18, 19, 20, 21, 10, 11, 12, 13, 14, 64, 65, 66, 67, 68, 69, 70, 71, 72] (by decide +kernel) (by decide +kernel)
set_option maxRecDepth 20000 in
theorem gX3_tell_X3_tellName : GoodIn wsX3_tell (wsV RX3 51 RX3 yX3_tellName wsX3_tellName) := goodIn_app (goodIn_of _ (by decide +kernel)) ggX3_tell_X3_tellName
set_option maxRecDepth 20000 in
theorem ggX3_tell_X3_tellWord : GoodIn wsX3_tell wsX3_tellWord := goodIn_r _ [25, 6, 19, 26, 10, 11, 12, 27, 28, 29, 30, 31, 32, 33, 34, 35, 36, 37, 38, 39, 40, 41, 42, 43, 44, 45, 46, 47, 48, 49, 50, 51, 52, 53, 54, 55, 56, 57, 58, 64, 65, 66, 67, 68, 69, 70, 71, 72, 73] (by decide +kernel) (by decide +kernel)
set_option maxRecDepth 20000 in
theorem gX3_tell_X3_tellWord : GoodIn wsX3_tell (wsV RX3 55 RX3 yX3_tellWord wsX3_tellWord) := goodIn_app (goodIn_of _ (by decide +kernel)) ggX3_tell_X3_tellWord
set_option maxRecDepth 20000 in
theorem ggX3_tell_X3_tellQuarrel : GoodIn wsX3_tell wsX3_tellQuarrel := goodIn_r _ [62, 63, 10, 11, 12, 64, 65, 66, 67, 68, 69, 70, 71, 72] (by decide +kernel) (by decide +kernel)
set_option maxRecDepth 20000 in
theorem gX3_tell_X3_tellQuarrel : GoodIn wsX3_tell (wsV RX3 58 RX3 yX3_tellQuarrel wsX3_tellQuarrel) := goodIn_app (goodIn_of _ (by decide +kernel)) ggX3_tell_X3_tellQuarrel
theorem dX3_tell_0 : decode cX3_tell 0 = .ok (.iload_n 1, 1) := by decide +kernel
theorem dX3_tell_1 : decode cX3_tell 1 = .ok (.lookupswitch 74 #[(99, 59), (110, 52), (112, 43), (113, 68)], 43) := by decide +kernel
theorem dX3_tell_44 : decode cX3_tell 44 = .ok (.aload_n 0, 1) := by decide +kernel
theorem dX3_tell_45 : decode cX3_tell 45 = .ok (.iload_n 2, 1) := by decide +kernel
theorem dX3_tell_46 : decode cX3_tell 46 = .ok (.iload_n 3, 1) := by decide +kernel
theorem dX3_tell_47 : decode cX3_tell 47 = .ok (.iload 4, 2) := by decide +kernel
theorem dX3_tell_49 : decode cX3_tell 49 = .ok (.invokevirtual 47, 3) := by decide +kernel
theorem dX3_tell_52 : decode cX3_tell 52 = .ok (.ireturn, 1) := by decide +kernel
theorem dX3_tell_53 : decode cX3_tell 53 = .ok (.aload_n 0, 1) := by decide +kernel
theorem dX3_tell_54 : decode cX3_tell 54 = .ok (.iload_n 2, 1) := by decide +kernel
theorem dX3_tell_55 : decode cX3_tell 55 = .ok (.iload_n 3, 1) := by decide +kernel
theorem dX3_tell_56 : decode cX3_tell 56 = .ok (.invokevirtual 51, 3) := by decide +kernel
theorem dX3_tell_59 : decode cX3_tell 59 = .ok (.ireturn, 1) := by decide +kernel
theorem dX3_tell_60 : decode cX3_tell 60 = .ok (.aload_n 0, 1) := by decide +kernel
theorem dX3_tell_61 : decode cX3_tell 61 = .ok (.iload_n 2, 1) := by decide +kernel
theorem dX3_tell_62 : decode cX3_tell 62 = .ok (.iload_n 3, 1) := by decide +kernel
theorem dX3_tell_63 : decode cX3_tell 63 = .ok (.iload 4, 2) := by decide +kernel
theorem dX3_tell_65 : decode cX3_tell 65 = .ok (.invokevirtual 55, 3) := by decide +kernel
theorem dX3_tell_68 : decode cX3_tell 68 = .ok (.ireturn, 1) := by decide +kernel
theorem dX3_tell_69 : decode cX3_tell 69 = .ok (.aload_n 0, 1) := by decide +kernel
theorem dX3_tell_70 : decode cX3_tell 70 = .ok (.iload_n 2, 1) := by decide +kernel
theorem dX3_tell_71 : decode cX3_tell 71 = .ok (.invokevirtual 58, 3) := by decide +kernel
theorem dX3_tell_74 : decode cX3_tell 74 = .ok (.ireturn, 1) := by decide +kernel
theorem dX3_tell_75 : decode cX3_tell 75 = .ok (.iconst 0, 1) := by decide +kernel
theorem dX3_tell_76 : decode cX3_tell 76 = .ok (.ireturn, 1) := by decide +kernel
set_option maxRecDepth 20000 in
theorem ggX3_tellPerson_X8_within : GoodIn wsX3_tellPerson wsX8_within := goodIn_r _ [7] (by decide +kernel) (by decide +kernel)
set_option maxRecDepth 20000 in
theorem gX3_tellPerson_X8_within_n62 : GoodIn wsX3_tellPerson (wsX8_within) := ggX3_tellPerson_X8_within
set_option maxRecDepth 20000 in
theorem ggX3_tellPerson_X8_put : GoodIn wsX3_tellPerson wsX8_put := goodIn_r _ [9] (by decide +kernel) (by decide +kernel)
set_option maxRecDepth 20000 in
theorem gX3_tellPerson_X8_put_n65 : GoodIn wsX3_tellPerson (wsX8_put) := ggX3_tellPerson_X8_put
theorem dX3_tellPerson_0 : decode cX3_tellPerson 0 = .ok (.aload_n 0, 1) := by decide +kernel
theorem dX3_tellPerson_1 : decode cX3_tellPerson 1 = .ok (.getfield 34, 3) := by decide +kernel
theorem dX3_tellPerson_4 : decode cX3_tellPerson 4 = .ok (.bipush 6, 2) := by decide +kernel
theorem dX3_tellPerson_6 : decode cX3_tellPerson 6 = .ok (.if_icmp .ge 31, 3) := by decide +kernel
theorem dX3_tellPerson_9 : decode cX3_tellPerson 9 = .ok (.iload_n 1, 1) := by decide +kernel
theorem dX3_tellPerson_10 : decode cX3_tellPerson 10 = .ok (.iconst 0, 1) := by decide +kernel
theorem dX3_tellPerson_11 : decode cX3_tellPerson 11 = .ok (.iconst 4, 1) := by decide +kernel
theorem dX3_tellPerson_12 : decode cX3_tellPerson 12 = .ok (.invokestatic 62, 3) := by decide +kernel
theorem dX3_tellPerson_15 : decode cX3_tellPerson 15 = .ok (.ifCond .eq 22, 3) := by decide +kernel
theorem dX3_tellPerson_18 : decode cX3_tellPerson 18 = .ok (.iload_n 2, 1) := by decide +kernel
theorem dX3_tellPerson_19 : decode cX3_tellPerson 19 = .ok (.iconst 0, 1) := by decide +kernel
theorem dX3_tellPerson_20 : decode cX3_tellPerson 20 = .ok (.iconst 5, 1) := by decide +kernel
theorem dX3_tellPerson_21 : decode cX3_tellPerson 21 = .ok (.invokestatic 62, 3) := by decide +kernel
theorem dX3_tellPerson_24 : decode cX3_tellPerson 24 = .ok (.ifCond .eq 13, 3) := by decide +kernel
theorem dX3_tellPerson_27 : decode cX3_tellPerson 27 = .ok (.iload_n 3, 1) := by decide +kernel
theorem dX3_tellPerson_28 : decode cX3_tellPerson 28 = .ok (.iconst 0, 1) := by decide +kernel
theorem dX3_tellPerson_29 : decode cX3_tellPerson 29 = .ok (.bipush 30, 2) := by decide +kernel
theorem dX3_tellPerson_31 : decode cX3_tellPerson 31 = .ok (.invokestatic 62, 3) := by decide +kernel
theorem dX3_tellPerson_34 : decode cX3_tellPerson 34 = .ok (.ifCond .ne 5, 3) := by decide +kernel
theorem dX3_tellPerson_37 : decode cX3_tellPerson 37 = .ok (.iconst 0, 1) := by decide +kernel
theorem dX3_tellPerson_38 : decode cX3_tellPerson 38 = .ok (.ireturn, 1) := by decide +kernel
theorem dX3_tellPerson_39 : decode cX3_tellPerson 39 = .ok (.aload_n 0, 1) := by decide +kernel
theorem dX3_tellPerson_40 : decode cX3_tellPerson 40 = .ok (.getfield 9, 3) := by decide +kernel
theorem dX3_tellPerson_43 : decode cX3_tellPerson 43 = .ok (.aload_n 0, 1) := by decide +kernel
theorem dX3_tellPerson_44 : decode cX3_tellPerson 44 = .ok (.getfield 34, 3) := by decide +kernel
theorem dX3_tellPerson_47 : decode cX3_tellPerson 47 = .ok (.iload_n 1, 1) := by decide +kernel
theorem dX3_tellPerson_48 : decode cX3_tellPerson 48 = .ok (.invokestatic 65, 3) := by decide +kernel
theorem dX3_tellPerson_51 : decode cX3_tellPerson 51 = .ok (.aload_n 0, 1) := by decide +kernel
theorem dX3_tellPerson_52 : decode cX3_tellPerson 52 = .ok (.getfield 15, 3) := by decide +kernel
theorem dX3_tellPerson_55 : decode cX3_tellPerson 55 = .ok (.aload_n 0, 1) := by decide +kernel
theorem dX3_tellPerson_56 : decode cX3_tellPerson 56 = .ok (.getfield 34, 3) := by decide +kernel
theorem dX3_tellPerson_59 : decode cX3_tellPerson 59 = .ok (.iload_n 1, 1) := by decide +kernel
theorem dX3_tellPerson_60 : decode cX3_tellPerson 60 = .ok (.iconst 1, 1) := by decide +kernel
theorem dX3_tellPerson_61 : decode cX3_tellPerson 61 = .ok (.if_icmp .ne 9, 3) := by decide +kernel
theorem dX3_tellPerson_64 : decode cX3_tellPerson 64 = .ok (.iconst 2, 1) := by decide +kernel
theorem dX3_tellPerson_65 : decode cX3_tellPerson 65 = .ok (.iload_n 2, 1) := by decide +kernel
theorem dX3_tellPerson_66 : decode cX3_tellPerson 66 = .ok (.imul, 1) := by decide +kernel
theorem dX3_tellPerson_67 : decode cX3_tellPerson 67 = .ok (.goto 4, 3) := by decide +kernel
theorem dX3_tellPerson_70 : decode cX3_tellPerson 70 = .ok (.iload_n 2, 1) := by decide +kernel
theorem dX3_tellPerson_71 : decode cX3_tellPerson 71 = .ok (.invokestatic 65, 3) := by decide +kernel
theorem dX3_tellPerson_74 : decode cX3_tellPerson 74 = .ok (.aload_n 0, 1) := by decide +kernel
theorem dX3_tellPerson_75 : decode cX3_tellPerson 75 = .ok (.getfield 18, 3) := by decide +kernel
theorem dX3_tellPerson_78 : decode cX3_tellPerson 78 = .ok (.aload_n 0, 1) := by decide +kernel
theorem dX3_tellPerson_79 : decode cX3_tellPerson 79 = .ok (.getfield 34, 3) := by decide +kernel
theorem dX3_tellPerson_82 : decode cX3_tellPerson 82 = .ok (.iload_n 3, 1) := by decide +kernel
theorem dX3_tellPerson_83 : decode cX3_tellPerson 83 = .ok (.invokestatic 65, 3) := by decide +kernel
theorem dX3_tellPerson_86 : decode cX3_tellPerson 86 = .ok (.aload_n 0, 1) := by decide +kernel
theorem dX3_tellPerson_87 : decode cX3_tellPerson 87 = .ok (.dup, 1) := by decide +kernel
theorem dX3_tellPerson_88 : decode cX3_tellPerson 88 = .ok (.getfield 34, 3) := by decide +kernel
theorem dX3_tellPerson_91 : decode cX3_tellPerson 91 = .ok (.iconst 1, 1) := by decide +kernel
theorem dX3_tellPerson_92 : decode cX3_tellPerson 92 = .ok (.iadd, 1) := by decide +kernel
theorem dX3_tellPerson_93 : decode cX3_tellPerson 93 = .ok (.putfield 34, 3) := by decide +kernel
theorem dX3_tellPerson_96 : decode cX3_tellPerson 96 = .ok (.iconst 1, 1) := by decide +kernel
theorem dX3_tellPerson_97 : decode cX3_tellPerson 97 = .ok (.ireturn, 1) := by decide +kernel
set_option maxRecDepth 20000 in
theorem ggX3_tellName_X8_within : GoodIn wsX3_tellName wsX8_within := goodIn_r _ [6] (by decide +kernel) (by decide +kernel)
set_option maxRecDepth 20000 in
theorem gX3_tellName_X8_within_n62 : GoodIn wsX3_tellName (wsX8_within) := ggX3_tellName_X8_within
set_option maxRecDepth 20000 in
theorem ggX3_tellName_X8_put : GoodIn wsX3_tellName wsX8_put := goodIn_r _ [8] (by decide +kernel) (by decide +kernel)
set_option maxRecDepth 20000 in
theorem gX3_tellName_X8_put_n65 : GoodIn wsX3_tellName (wsX8_put) := ggX3_tellName_X8_put
theorem dX3_tellName_0 : decode cX3_tellName 0 = .ok (.aload_n 0, 1) := by decide +kernel
theorem dX3_tellName_1 : decode cX3_tellName 1 = .ok (.getfield 38, 3) := by decide +kernel
theorem dX3_tellName_4 : decode cX3_tellName 4 = .ok (.bipush 8, 2) := by decide +kernel
theorem dX3_tellName_6 : decode cX3_tellName 6 = .ok (.if_icmp .ge 23, 3) := by decide +kernel
theorem dX3_tellName_9 : decode cX3_tellName 9 = .ok (.iload_n 1, 1) := by decide +kernel
theorem dX3_tellName_10 : decode cX3_tellName 10 = .ok (.iconst 0, 1) := by decide +kernel
theorem dX3_tellName_11 : decode cX3_tellName 11 = .ok (.bipush 20, 2) := by decide +kernel
theorem dX3_tellName_13 : decode cX3_tellName 13 = .ok (.invokestatic 62, 3) := by decide +kernel
theorem dX3_tellName_16 : decode cX3_tellName 16 = .ok (.ifCond .eq 13, 3) := by decide +kernel
theorem dX3_tellName_19 : decode cX3_tellName 19 = .ok (.iload_n 2, 1) := by decide +kernel
theorem dX3_tellName_20 : decode cX3_tellName 20 = .ok (.iconst 0, 1) := by decide +kernel
theorem dX3_tellName_21 : decode cX3_tellName 21 = .ok (.bipush 9, 2) := by decide +kernel
theorem dX3_tellName_23 : decode cX3_tellName 23 = .ok (.invokestatic 62, 3) := by decide +kernel
theorem dX3_tellName_26 : decode cX3_tellName 26 = .ok (.ifCond .ne 5, 3) := by decide +kernel
theorem dX3_tellName_29 : decode cX3_tellName 29 = .ok (.iconst 0, 1) := by decide +kernel
theorem dX3_tellName_30 : decode cX3_tellName 30 = .ok (.ireturn, 1) := by decide +kernel
theorem dX3_tellName_31 : decode cX3_tellName 31 = .ok (.aload_n 0, 1) := by decide +kernel
theorem dX3_tellName_32 : decode cX3_tellName 32 = .ok (.getfield 21, 3) := by decide +kernel
theorem dX3_tellName_35 : decode cX3_tellName 35 = .ok (.aload_n 0, 1) := by decide +kernel
theorem dX3_tellName_36 : decode cX3_tellName 36 = .ok (.getfield 38, 3) := by decide +kernel
theorem dX3_tellName_39 : decode cX3_tellName 39 = .ok (.iload_n 1, 1) := by decide +kernel
theorem dX3_tellName_40 : decode cX3_tellName 40 = .ok (.invokestatic 65, 3) := by decide +kernel
theorem dX3_tellName_43 : decode cX3_tellName 43 = .ok (.aload_n 0, 1) := by decide +kernel
theorem dX3_tellName_44 : decode cX3_tellName 44 = .ok (.getfield 24, 3) := by decide +kernel
theorem dX3_tellName_47 : decode cX3_tellName 47 = .ok (.aload_n 0, 1) := by decide +kernel
theorem dX3_tellName_48 : decode cX3_tellName 48 = .ok (.getfield 38, 3) := by decide +kernel
theorem dX3_tellName_51 : decode cX3_tellName 51 = .ok (.iload_n 2, 1) := by decide +kernel
theorem dX3_tellName_52 : decode cX3_tellName 52 = .ok (.invokestatic 65, 3) := by decide +kernel
theorem dX3_tellName_55 : decode cX3_tellName 55 = .ok (.aload_n 0, 1) := by decide +kernel
theorem dX3_tellName_56 : decode cX3_tellName 56 = .ok (.dup, 1) := by decide +kernel
theorem dX3_tellName_57 : decode cX3_tellName 57 = .ok (.getfield 38, 3) := by decide +kernel
theorem dX3_tellName_60 : decode cX3_tellName 60 = .ok (.iconst 1, 1) := by decide +kernel
theorem dX3_tellName_61 : decode cX3_tellName 61 = .ok (.iadd, 1) := by decide +kernel
theorem dX3_tellName_62 : decode cX3_tellName 62 = .ok (.putfield 38, 3) := by decide +kernel
theorem dX3_tellName_65 : decode cX3_tellName 65 = .ok (.iconst 1, 1) := by decide +kernel
theorem dX3_tellName_66 : decode cX3_tellName 66 = .ok (.ireturn, 1) := by decide +kernel
set_option maxRecDepth 20000 in
theorem ggX3_tellWord_X8_within : GoodIn wsX3_tellWord wsX8_within := goodIn_r _ [6] (by decide +kernel) (by decide +kernel)
set_option maxRecDepth 20000 in
theorem gX3_tellWord_X8_within_n62 : GoodIn wsX3_tellWord (wsX8_within) := ggX3_tellWord_X8_within
set_option maxRecDepth 20000 in
theorem ggX3_tellWord_X7_canFlip : GoodIn wsX3_tellWord wsX7_canFlip := goodIn_r _ [11, 12, 13, 14, 10, 15, 16, 17, 5, 18, 19, 20, 21, 22, 23, 24, 25, 26, 27, 28, 29, 30, 31, 32, 48] (by decide +kernel) (by decide +kernel)
set_option maxRecDepth 20000 in
theorem gX3_tellWord_X7_canFlip : GoodIn wsX3_tellWord (wsV RX3 69 RX7 yX7_canFlip wsX7_canFlip) := goodIn_app (goodIn_of _ (by decide +kernel)) ggX3_tellWord_X7_canFlip
set_option maxRecDepth 20000 in
theorem ggX3_tellWord_X7_flip : GoodIn wsX3_tellWord wsX7_flip := goodIn_r _ [36, 16, 17, 5, 18, 19, 20, 10, 21, 37, 38, 48] (by decide +kernel) (by decide +kernel)
set_option maxRecDepth 20000 in
theorem gX3_tellWord_X7_flip : GoodIn wsX3_tellWord (wsV RX3 72 RX7 yX7_flip wsX7_flip) := goodIn_app (goodIn_of _ (by decide +kernel)) ggX3_tellWord_X7_flip
theorem dX3_tellWord_0 : decode cX3_tellWord 0 = .ok (.iload_n 1, 1) := by decide +kernel
theorem dX3_tellWord_1 : decode cX3_tellWord 1 = .ok (.iconst 0, 1) := by decide +kernel
theorem dX3_tellWord_2 : decode cX3_tellWord 2 = .ok (.aload_n 0, 1) := by decide +kernel
theorem dX3_tellWord_3 : decode cX3_tellWord 3 = .ok (.getfield 34, 3) := by decide +kernel
theorem dX3_tellWord_6 : decode cX3_tellWord 6 = .ok (.iconst 1, 1) := by decide +kernel
theorem dX3_tellWord_7 : decode cX3_tellWord 7 = .ok (.isub, 1) := by decide +kernel
theorem dX3_tellWord_8 : decode cX3_tellWord 8 = .ok (.invokestatic 62, 3) := by decide +kernel
theorem dX3_tellWord_11 : decode cX3_tellWord 11 = .ok (.ifCond .eq 49, 3) := by decide +kernel
theorem dX3_tellWord_14 : decode cX3_tellWord 14 = .ok (.iload_n 2, 1) := by decide +kernel
theorem dX3_tellWord_15 : decode cX3_tellWord 15 = .ok (.iconst 0, 1) := by decide +kernel
theorem dX3_tellWord_16 : decode cX3_tellWord 16 = .ok (.aload_n 0, 1) := by decide +kernel
theorem dX3_tellWord_17 : decode cX3_tellWord 17 = .ok (.getfield 34, 3) := by decide +kernel
theorem dX3_tellWord_20 : decode cX3_tellWord 20 = .ok (.iconst 1, 1) := by decide +kernel
theorem dX3_tellWord_21 : decode cX3_tellWord 21 = .ok (.isub, 1) := by decide +kernel
theorem dX3_tellWord_22 : decode cX3_tellWord 22 = .ok (.invokestatic 62, 3) := by decide +kernel
theorem dX3_tellWord_25 : decode cX3_tellWord 25 = .ok (.ifCond .eq 35, 3) := by decide +kernel
theorem dX3_tellWord_28 : decode cX3_tellWord 28 = .ok (.iload_n 1, 1) := by decide +kernel
theorem dX3_tellWord_29 : decode cX3_tellWord 29 = .ok (.iload_n 2, 1) := by decide +kernel
theorem dX3_tellWord_30 : decode cX3_tellWord 30 = .ok (.if_icmp .eq 30, 3) := by decide +kernel
theorem dX3_tellWord_33 : decode cX3_tellWord 33 = .ok (.iload_n 3, 1) := by decide +kernel
theorem dX3_tellWord_34 : decode cX3_tellWord 34 = .ok (.iconst 0, 1) := by decide +kernel
theorem dX3_tellWord_35 : decode cX3_tellWord 35 = .ok (.aload_n 0, 1) := by decide +kernel
theorem dX3_tellWord_36 : decode cX3_tellWord 36 = .ok (.getfield 38, 3) := by decide +kernel
theorem dX3_tellWord_39 : decode cX3_tellWord 39 = .ok (.iconst 1, 1) := by decide +kernel
theorem dX3_tellWord_40 : decode cX3_tellWord 40 = .ok (.isub, 1) := by decide +kernel
theorem dX3_tellWord_41 : decode cX3_tellWord 41 = .ok (.invokestatic 62, 3) := by decide +kernel
theorem dX3_tellWord_44 : decode cX3_tellWord 44 = .ok (.ifCond .eq 16, 3) := by decide +kernel
theorem dX3_tellWord_47 : decode cX3_tellWord 47 = .ok (.aload_n 0, 1) := by decide +kernel
theorem dX3_tellWord_48 : decode cX3_tellWord 48 = .ok (.getfield 30, 3) := by decide +kernel
theorem dX3_tellWord_51 : decode cX3_tellWord 51 = .ok (.iload_n 1, 1) := by decide +kernel
theorem dX3_tellWord_52 : decode cX3_tellWord 52 = .ok (.iload_n 2, 1) := by decide +kernel
theorem dX3_tellWord_53 : decode cX3_tellWord 53 = .ok (.iload_n 3, 1) := by decide +kernel
theorem dX3_tellWord_54 : decode cX3_tellWord 54 = .ok (.invokevirtual 69, 3) := by decide +kernel
theorem dX3_tellWord_57 : decode cX3_tellWord 57 = .ok (.ifCond .ne 5, 3) := by decide +kernel
theorem dX3_tellWord_60 : decode cX3_tellWord 60 = .ok (.iconst 0, 1) := by decide +kernel
theorem dX3_tellWord_61 : decode cX3_tellWord 61 = .ok (.ireturn, 1) := by decide +kernel
theorem dX3_tellWord_62 : decode cX3_tellWord 62 = .ok (.aload_n 0, 1) := by decide +kernel
theorem dX3_tellWord_63 : decode cX3_tellWord 63 = .ok (.getfield 30, 3) := by decide +kernel
theorem dX3_tellWord_66 : decode cX3_tellWord 66 = .ok (.iload_n 1, 1) := by decide +kernel
theorem dX3_tellWord_67 : decode cX3_tellWord 67 = .ok (.iload_n 2, 1) := by decide +kernel
theorem dX3_tellWord_68 : decode cX3_tellWord 68 = .ok (.iload_n 3, 1) := by decide +kernel
theorem dX3_tellWord_69 : decode cX3_tellWord 69 = .ok (.invokevirtual 72, 3) := by decide +kernel
theorem dX3_tellWord_72 : decode cX3_tellWord 72 = .ok (.iconst 1, 1) := by decide +kernel
theorem dX3_tellWord_73 : decode cX3_tellWord 73 = .ok (.ireturn, 1) := by decide +kernel
set_option maxRecDepth 20000 in
theorem ggX3_tellQuarrel_X8_within : GoodIn wsX3_tellQuarrel wsX8_within := goodIn_r _ [4] (by decide +kernel) (by decide +kernel)
set_option maxRecDepth 20000 in
theorem gX3_tellQuarrel_X8_within_n62 : GoodIn wsX3_tellQuarrel (wsX8_within) := ggX3_tellQuarrel_X8_within
theorem dX3_tellQuarrel_0 : decode cX3_tellQuarrel 0 = .ok (.iload_n 1, 1) := by decide +kernel
theorem dX3_tellQuarrel_1 : decode cX3_tellQuarrel 1 = .ok (.iconst 1, 1) := by decide +kernel
theorem dX3_tellQuarrel_2 : decode cX3_tellQuarrel 2 = .ok (.bipush 20, 2) := by decide +kernel
theorem dX3_tellQuarrel_4 : decode cX3_tellQuarrel 4 = .ok (.invokestatic 62, 3) := by decide +kernel
theorem dX3_tellQuarrel_7 : decode cX3_tellQuarrel 7 = .ok (.ifCond .ne 5, 3) := by decide +kernel
theorem dX3_tellQuarrel_10 : decode cX3_tellQuarrel 10 = .ok (.iconst 0, 1) := by decide +kernel
theorem dX3_tellQuarrel_11 : decode cX3_tellQuarrel 11 = .ok (.ireturn, 1) := by decide +kernel
theorem dX3_tellQuarrel_12 : decode cX3_tellQuarrel 12 = .ok (.aload_n 0, 1) := by decide +kernel
theorem dX3_tellQuarrel_13 : decode cX3_tellQuarrel 13 = .ok (.iload_n 1, 1) := by decide +kernel
theorem dX3_tellQuarrel_14 : decode cX3_tellQuarrel 14 = .ok (.putfield 41, 3) := by decide +kernel
theorem dX3_tellQuarrel_17 : decode cX3_tellQuarrel 17 = .ok (.iconst 1, 1) := by decide +kernel
theorem dX3_tellQuarrel_18 : decode cX3_tellQuarrel 18 = .ok (.ireturn, 1) := by decide +kernel
theorem dX4_init_0 : decode cX4_init 0 = .ok (.aload_n 0, 1) := by decide +kernel
theorem dX4_init_1 : decode cX4_init 1 = .ok (.invokespecial 3, 3) := by decide +kernel
theorem dX4_init_4 : decode cX4_init 4 = .ok (.aload_n 0, 1) := by decide +kernel
theorem dX4_init_5 : decode cX4_init 5 = .ok (.bipush 6, 2) := by decide +kernel
theorem dX4_init_7 : decode cX4_init 7 = .ok (.newarray .int, 2) := by decide +kernel
theorem dX4_init_9 : decode cX4_init 9 = .ok (.putfield 9, 3) := by decide +kernel
theorem dX4_init_12 : decode cX4_init 12 = .ok (.aload_n 0, 1) := by decide +kernel
theorem dX4_init_13 : decode cX4_init 13 = .ok (.bipush 6, 2) := by decide +kernel
theorem dX4_init_15 : decode cX4_init 15 = .ok (.newarray .int, 2) := by decide +kernel
theorem dX4_init_17 : decode cX4_init 17 = .ok (.putfield 15, 3) := by decide +kernel
theorem dX4_init_20 : decode cX4_init 20 = .ok (.aload_n 0, 1) := by decide +kernel
theorem dX4_init_21 : decode cX4_init 21 = .ok (.bipush 6, 2) := by decide +kernel
theorem dX4_init_23 : decode cX4_init 23 = .ok (.newarray .int, 2) := by decide +kernel
theorem dX4_init_25 : decode cX4_init 25 = .ok (.putfield 18, 3) := by decide +kernel
theorem dX4_init_28 : decode cX4_init 28 = .ok (.aload_n 0, 1) := by decide +kernel
theorem dX4_init_29 : decode cX4_init 29 = .ok (.bipush 6, 2) := by decide +kernel
theorem dX4_init_31 : decode cX4_init 31 = .ok (.newarray .int, 2) := by decide +kernel
theorem dX4_init_33 : decode cX4_init 33 = .ok (.putfield 21, 3) := by decide +kernel
theorem dX4_init_36 : decode cX4_init 36 = .ok (.return_, 1) := by decide +kernel
theorem dX4_clear_0 : decode cX4_clear 0 = .ok (.aload_n 0, 1) := by decide +kernel
theorem dX4_clear_1 : decode cX4_clear 1 = .ok (.iconst 0, 1) := by decide +kernel
theorem dX4_clear_2 : decode cX4_clear 2 = .ok (.putfield 24, 3) := by decide +kernel
theorem dX4_clear_5 : decode cX4_clear 5 = .ok (.return_, 1) := by decide +kernel
set_option maxRecDepth 20000 in
theorem ggX4_add_X8_put : GoodIn wsX4_add wsX8_put := goodIn_r _ [8] (by decide +kernel) (by decide +kernel)
set_option maxRecDepth 20000 in
theorem gX4_add_X8_put_n28 : GoodIn wsX4_add (wsX8_put) := ggX4_add_X8_put
theorem dX4_add_0 : decode cX4_add 0 = .ok (.aload_n 0, 1) := by decide +kernel
theorem dX4_add_1 : decode cX4_add 1 = .ok (.getfield 24, 3) := by decide +kernel
theorem dX4_add_4 : decode cX4_add 4 = .ok (.bipush 6, 2) := by decide +kernel
theorem dX4_add_6 : decode cX4_add 6 = .ok (.if_icmp .ge 62, 3) := by decide +kernel
theorem dX4_add_9 : decode cX4_add 9 = .ok (.aload_n 0, 1) := by decide +kernel
theorem dX4_add_10 : decode cX4_add 10 = .ok (.getfield 9, 3) := by decide +kernel
theorem dX4_add_13 : decode cX4_add 13 = .ok (.aload_n 0, 1) := by decide +kernel
theorem dX4_add_14 : decode cX4_add 14 = .ok (.getfield 24, 3) := by decide +kernel
theorem dX4_add_17 : decode cX4_add 17 = .ok (.iload_n 1, 1) := by decide +kernel
theorem dX4_add_18 : decode cX4_add 18 = .ok (.invokestatic 28, 3) := by decide +kernel
theorem dX4_add_21 : decode cX4_add 21 = .ok (.aload_n 0, 1) := by decide +kernel
theorem dX4_add_22 : decode cX4_add 22 = .ok (.getfield 15, 3) := by decide +kernel
theorem dX4_add_25 : decode cX4_add 25 = .ok (.aload_n 0, 1) := by decide +kernel
theorem dX4_add_26 : decode cX4_add 26 = .ok (.getfield 24, 3) := by decide +kernel
theorem dX4_add_29 : decode cX4_add 29 = .ok (.iload_n 2, 1) := by decide +kernel
theorem dX4_add_30 : decode cX4_add 30 = .ok (.invokestatic 28, 3) := by decide +kernel
theorem dX4_add_33 : decode cX4_add 33 = .ok (.aload_n 0, 1) := by decide +kernel
theorem dX4_add_34 : decode cX4_add 34 = .ok (.getfield 18, 3) := by decide +kernel
theorem dX4_add_37 : decode cX4_add 37 = .ok (.aload_n 0, 1) := by decide +kernel
theorem dX4_add_38 : decode cX4_add 38 = .ok (.getfield 24, 3) := by decide +kernel
theorem dX4_add_41 : decode cX4_add 41 = .ok (.iload_n 3, 1) := by decide +kernel
theorem dX4_add_42 : decode cX4_add 42 = .ok (.invokestatic 28, 3) := by decide +kernel
theorem dX4_add_45 : decode cX4_add 45 = .ok (.aload_n 0, 1) := by decide +kernel
theorem dX4_add_46 : decode cX4_add 46 = .ok (.getfield 21, 3) := by decide +kernel
theorem dX4_add_49 : decode cX4_add 49 = .ok (.aload_n 0, 1) := by decide +kernel
theorem dX4_add_50 : decode cX4_add 50 = .ok (.getfield 24, 3) := by decide +kernel
theorem dX4_add_53 : decode cX4_add 53 = .ok (.iload 4, 2) := by decide +kernel
theorem dX4_add_55 : decode cX4_add 55 = .ok (.invokestatic 28, 3) := by decide +kernel
theorem dX4_add_58 : decode cX4_add 58 = .ok (.aload_n 0, 1) := by decide +kernel
theorem dX4_add_59 : decode cX4_add 59 = .ok (.dup, 1) := by decide +kernel
theorem dX4_add_60 : decode cX4_add 60 = .ok (.getfield 24, 3) := by decide +kernel
theorem dX4_add_63 : decode cX4_add 63 = .ok (.iconst 1, 1) := by decide +kernel
theorem dX4_add_64 : decode cX4_add 64 = .ok (.iadd, 1) := by decide +kernel
theorem dX4_add_65 : decode cX4_add 65 = .ok (.putfield 24, 3) := by decide +kernel
theorem dX4_add_68 : decode cX4_add 68 = .ok (.return_, 1) := by decide +kernel
set_option maxRecDepth 20000 in
theorem ggX5_init_X7_init : GoodIn wsX5_init wsX7_init := goodIn_r _ [11, 12, 2, 3, 13, 14, 15] (by decide +kernel) (by decide +kernel)
set_option maxRecDepth 20000 in
theorem gX5_init_X7_init_n11 : GoodIn wsX5_init (wsX7_init) := ggX5_init_X7_init
theorem dX5_init_0 : decode cX5_init 0 = .ok (.aload_n 0, 1) := by decide +kernel
theorem dX5_init_1 : decode cX5_init 1 = .ok (.invokespecial 3, 3) := by decide +kernel
theorem dX5_init_4 : decode cX5_init 4 = .ok (.aload_n 0, 1) := by decide +kernel
theorem dX5_init_5 : decode cX5_init 5 = .ok (.new 9, 3) := by decide +kernel
theorem dX5_init_8 : decode cX5_init 8 = .ok (.dup, 1) := by decide +kernel
theorem dX5_init_9 : decode cX5_init 9 = .ok (.invokespecial 11, 3) := by decide +kernel
theorem dX5_init_12 : decode cX5_init 12 = .ok (.putfield 12, 3) := by decide +kernel
theorem dX5_init_15 : decode cX5_init 15 = .ok (.aload_n 0, 1) := by decide +kernel
theorem dX5_init_16 : decode cX5_init 16 = .ok (.bipush 48, 2) := by decide +kernel
theorem dX5_init_18 : decode cX5_init 18 = .ok (.newarray .int, 2) := by decide +kernel
theorem dX5_init_20 : decode cX5_init 20 = .ok (.putfield 18, 3) := by decide +kernel
theorem dX5_init_23 : decode cX5_init 23 = .ok (.return_, 1) := by decide +kernel
set_option maxRecDepth 20000 in
theorem ggX5_begin_X7_become : GoodIn wsX5_begin wsX7_become := goodIn_r _ [9, 10, 11, 12, 13, 8, 14, 15, 16, 17, 18, 19, 35] (by decide +kernel) (by decide +kernel)
set_option maxRecDepth 20000 in
theorem gX5_begin_X7_become : GoodIn wsX5_begin (wsV RX5 25 RX7 yX7_become wsX7_become) := goodIn_app (goodIn_of _ (by decide +kernel)) ggX5_begin_X7_become
set_option maxRecDepth 20000 in
theorem ggX5_begin_X8_put : GoodIn wsX5_begin wsX8_put := goodIn_r _ [21] (by decide +kernel) (by decide +kernel)
set_option maxRecDepth 20000 in
theorem gX5_begin_X8_put_n29 : GoodIn wsX5_begin (wsX8_put) := ggX5_begin_X8_put
theorem dX5_begin_0 : decode cX5_begin 0 = .ok (.aload_n 0, 1) := by decide +kernel
theorem dX5_begin_1 : decode cX5_begin 1 = .ok (.getfield 12, 3) := by decide +kernel
theorem dX5_begin_4 : decode cX5_begin 4 = .ok (.aload_n 1, 1) := by decide +kernel
theorem dX5_begin_5 : decode cX5_begin 5 = .ok (.getfield 22, 3) := by decide +kernel
theorem dX5_begin_8 : decode cX5_begin 8 = .ok (.invokevirtual 25, 3) := by decide +kernel
theorem dX5_begin_11 : decode cX5_begin 11 = .ok (.iconst 0, 1) := by decide +kernel
theorem dX5_begin_12 : decode cX5_begin 12 = .ok (.istore_n 2, 1) := by decide +kernel
theorem dX5_begin_13 : decode cX5_begin 13 = .ok (.iload_n 2, 1) := by decide +kernel
theorem dX5_begin_14 : decode cX5_begin 14 = .ok (.bipush 48, 2) := by decide +kernel
theorem dX5_begin_16 : decode cX5_begin 16 = .ok (.if_icmp .ge 18, 3) := by decide +kernel
theorem dX5_begin_19 : decode cX5_begin 19 = .ok (.aload_n 0, 1) := by decide +kernel
theorem dX5_begin_20 : decode cX5_begin 20 = .ok (.getfield 18, 3) := by decide +kernel
theorem dX5_begin_23 : decode cX5_begin 23 = .ok (.iload_n 2, 1) := by decide +kernel
theorem dX5_begin_24 : decode cX5_begin 24 = .ok (.iconst 0, 1) := by decide +kernel
theorem dX5_begin_25 : decode cX5_begin 25 = .ok (.invokestatic 29, 3) := by decide +kernel
theorem dX5_begin_28 : decode cX5_begin 28 = .ok (.iinc 2 1, 3) := by decide +kernel
theorem dX5_begin_31 : decode cX5_begin 31 = .ok (.goto (-18), 3) := by decide +kernel
theorem dX5_begin_34 : decode cX5_begin 34 = .ok (.aload_n 0, 1) := by decide +kernel
theorem dX5_begin_35 : decode cX5_begin 35 = .ok (.iconst 0, 1) := by decide +kernel
theorem dX5_begin_36 : decode cX5_begin 36 = .ok (.putfield 33, 3) := by decide +kernel
theorem dX5_begin_39 : decode cX5_begin 39 = .ok (.aload_n 0, 1) := by decide +kernel
theorem dX5_begin_40 : decode cX5_begin 40 = .ok (.iconst 0, 1) := by decide +kernel
theorem dX5_begin_41 : decode cX5_begin 41 = .ok (.putfield 37, 3) := by decide +kernel
theorem dX5_begin_44 : decode cX5_begin 44 = .ok (.return_, 1) := by decide +kernel
set_option maxRecDepth 20000 in
theorem ggX5_become_X7_become : GoodIn wsX5_become wsX7_become := goodIn_r _ [9, 10, 11, 12, 13, 8, 14, 15, 16, 17, 18, 19, 28] (by decide +kernel) (by decide +kernel)
set_option maxRecDepth 20000 in
theorem gX5_become_X7_become : GoodIn wsX5_become (wsV RX5 25 RX7 yX7_become wsX7_become) := goodIn_app (goodIn_of _ (by decide +kernel)) ggX5_become_X7_become
set_option maxRecDepth 20000 in
theorem ggX5_become_X8_at : GoodIn wsX5_become wsX8_at := goodIn_r _ [21] (by decide +kernel) (by decide +kernel)
set_option maxRecDepth 20000 in
theorem gX5_become_X8_at_n40 : GoodIn wsX5_become (wsX8_at) := ggX5_become_X8_at
set_option maxRecDepth 20000 in
theorem ggX5_become_X8_put : GoodIn wsX5_become wsX8_put := goodIn_r _ [23] (by decide +kernel) (by decide +kernel)
set_option maxRecDepth 20000 in
theorem gX5_become_X8_put_n29 : GoodIn wsX5_become (wsX8_put) := ggX5_become_X8_put
theorem dX5_become_0 : decode cX5_become 0 = .ok (.aload_n 0, 1) := by decide +kernel
theorem dX5_become_1 : decode cX5_become 1 = .ok (.getfield 12, 3) := by decide +kernel
theorem dX5_become_4 : decode cX5_become 4 = .ok (.aload_n 1, 1) := by decide +kernel
theorem dX5_become_5 : decode cX5_become 5 = .ok (.getfield 12, 3) := by decide +kernel
theorem dX5_become_8 : decode cX5_become 8 = .ok (.invokevirtual 25, 3) := by decide +kernel
theorem dX5_become_11 : decode cX5_become 11 = .ok (.iconst 0, 1) := by decide +kernel
theorem dX5_become_12 : decode cX5_become 12 = .ok (.istore_n 2, 1) := by decide +kernel
theorem dX5_become_13 : decode cX5_become 13 = .ok (.iload_n 2, 1) := by decide +kernel
theorem dX5_become_14 : decode cX5_become 14 = .ok (.bipush 48, 2) := by decide +kernel
theorem dX5_become_16 : decode cX5_become 16 = .ok (.if_icmp .ge 25, 3) := by decide +kernel
theorem dX5_become_19 : decode cX5_become 19 = .ok (.aload_n 0, 1) := by decide +kernel
theorem dX5_become_20 : decode cX5_become 20 = .ok (.getfield 18, 3) := by decide +kernel
theorem dX5_become_23 : decode cX5_become 23 = .ok (.iload_n 2, 1) := by decide +kernel
theorem dX5_become_24 : decode cX5_become 24 = .ok (.aload_n 1, 1) := by decide +kernel
theorem dX5_become_25 : decode cX5_become 25 = .ok (.getfield 18, 3) := by decide +kernel
theorem dX5_become_28 : decode cX5_become 28 = .ok (.iload_n 2, 1) := by decide +kernel
theorem dX5_become_29 : decode cX5_become 29 = .ok (.invokestatic 40, 3) := by decide +kernel
theorem dX5_become_32 : decode cX5_become 32 = .ok (.invokestatic 29, 3) := by decide +kernel
theorem dX5_become_35 : decode cX5_become 35 = .ok (.iinc 2 1, 3) := by decide +kernel
theorem dX5_become_38 : decode cX5_become 38 = .ok (.goto (-25), 3) := by decide +kernel
theorem dX5_become_41 : decode cX5_become 41 = .ok (.aload_n 0, 1) := by decide +kernel
theorem dX5_become_42 : decode cX5_become 42 = .ok (.aload_n 1, 1) := by decide +kernel
theorem dX5_become_43 : decode cX5_become 43 = .ok (.getfield 33, 3) := by decide +kernel
theorem dX5_become_46 : decode cX5_become 46 = .ok (.putfield 33, 3) := by decide +kernel
theorem dX5_become_49 : decode cX5_become 49 = .ok (.aload_n 0, 1) := by decide +kernel
theorem dX5_become_50 : decode cX5_become 50 = .ok (.aload_n 1, 1) := by decide +kernel
theorem dX5_become_51 : decode cX5_become 51 = .ok (.getfield 37, 3) := by decide +kernel
theorem dX5_become_54 : decode cX5_become 54 = .ok (.putfield 37, 3) := by decide +kernel
theorem dX5_become_57 : decode cX5_become 57 = .ok (.return_, 1) := by decide +kernel
set_option maxRecDepth 20000 in
theorem ggX5_stoutAt_X8_at : GoodIn wsX5_stoutAt wsX8_at := goodIn_r _ [4] (by decide +kernel) (by decide +kernel)
set_option maxRecDepth 20000 in
theorem gX5_stoutAt_X8_at_n40 : GoodIn wsX5_stoutAt (wsX8_at) := ggX5_stoutAt_X8_at
theorem dX5_stoutAt_0 : decode cX5_stoutAt 0 = .ok (.aload_n 0, 1) := by decide +kernel
theorem dX5_stoutAt_1 : decode cX5_stoutAt 1 = .ok (.getfield 18, 3) := by decide +kernel
theorem dX5_stoutAt_4 : decode cX5_stoutAt 4 = .ok (.bipush 8, 2) := by decide +kernel
theorem dX5_stoutAt_6 : decode cX5_stoutAt 6 = .ok (.iload_n 1, 1) := by decide +kernel
theorem dX5_stoutAt_7 : decode cX5_stoutAt 7 = .ok (.imul, 1) := by decide +kernel
theorem dX5_stoutAt_8 : decode cX5_stoutAt 8 = .ok (.iload_n 2, 1) := by decide +kernel
theorem dX5_stoutAt_9 : decode cX5_stoutAt 9 = .ok (.iadd, 1) := by decide +kernel
theorem dX5_stoutAt_10 : decode cX5_stoutAt 10 = .ok (.invokestatic 40, 3) := by decide +kernel
theorem dX5_stoutAt_13 : decode cX5_stoutAt 13 = .ok (.ireturn, 1) := by decide +kernel
set_option maxRecDepth 20000 in
theorem ggX5_setStout_X8_put : GoodIn wsX5_setStout wsX8_put := goodIn_r _ [4] (by decide +kernel) (by decide +kernel)
set_option maxRecDepth 20000 in
theorem gX5_setStout_X8_put_n29 : GoodIn wsX5_setStout (wsX8_put) := ggX5_setStout_X8_put
theorem dX5_setStout_0 : decode cX5_setStout 0 = .ok (.aload_n 0, 1) := by decide +kernel
theorem dX5_setStout_1 : decode cX5_setStout 1 = .ok (.getfield 18, 3) := by decide +kernel
theorem dX5_setStout_4 : decode cX5_setStout 4 = .ok (.bipush 8, 2) := by decide +kernel
theorem dX5_setStout_6 : decode cX5_setStout 6 = .ok (.iload_n 1, 1) := by decide +kernel
theorem dX5_setStout_7 : decode cX5_setStout 7 = .ok (.imul, 1) := by decide +kernel
theorem dX5_setStout_8 : decode cX5_setStout 8 = .ok (.iload_n 2, 1) := by decide +kernel
theorem dX5_setStout_9 : decode cX5_setStout 9 = .ok (.iadd, 1) := by decide +kernel
theorem dX5_setStout_10 : decode cX5_setStout 10 = .ok (.iload_n 3, 1) := by decide +kernel
theorem dX5_setStout_11 : decode cX5_setStout 11 = .ok (.invokestatic 29, 3) := by decide +kernel
theorem dX5_setStout_14 : decode cX5_setStout 14 = .ok (.return_, 1) := by decide +kernel
set_option maxRecDepth 20000 in
theorem ggX5_lodgings_X8_at : GoodIn wsX5_lodgings wsX8_at := goodIn_r _ [4] (by decide +kernel) (by decide +kernel)
set_option maxRecDepth 20000 in
theorem gX5_lodgings_X8_at_n40 : GoodIn wsX5_lodgings (wsX8_at) := ggX5_lodgings_X8_at
theorem dX5_lodgings_0 : decode cX5_lodgings 0 = .ok (.iconst 0, 1) := by decide +kernel
theorem dX5_lodgings_1 : decode cX5_lodgings 1 = .ok (.istore_n 1, 1) := by decide +kernel
theorem dX5_lodgings_2 : decode cX5_lodgings 2 = .ok (.iconst 0, 1) := by decide +kernel
theorem dX5_lodgings_3 : decode cX5_lodgings 3 = .ok (.istore_n 2, 1) := by decide +kernel
theorem dX5_lodgings_4 : decode cX5_lodgings 4 = .ok (.iload_n 2, 1) := by decide +kernel
theorem dX5_lodgings_5 : decode cX5_lodgings 5 = .ok (.bipush 48, 2) := by decide +kernel
theorem dX5_lodgings_7 : decode cX5_lodgings 7 = .ok (.if_icmp .ge 23, 3) := by decide +kernel
theorem dX5_lodgings_10 : decode cX5_lodgings 10 = .ok (.aload_n 0, 1) := by decide +kernel
theorem dX5_lodgings_11 : decode cX5_lodgings 11 = .ok (.getfield 18, 3) := by decide +kernel
theorem dX5_lodgings_14 : decode cX5_lodgings 14 = .ok (.iload_n 2, 1) := by decide +kernel
theorem dX5_lodgings_15 : decode cX5_lodgings 15 = .ok (.invokestatic 40, 3) := by decide +kernel
theorem dX5_lodgings_18 : decode cX5_lodgings 18 = .ok (.ifCond .le 6, 3) := by decide +kernel
theorem dX5_lodgings_21 : decode cX5_lodgings 21 = .ok (.iinc 1 1, 3) := by decide +kernel
theorem dX5_lodgings_24 : decode cX5_lodgings 24 = .ok (.iinc 2 1, 3) := by decide +kernel
theorem dX5_lodgings_27 : decode cX5_lodgings 27 = .ok (.goto (-23), 3) := by decide +kernel
theorem dX5_lodgings_30 : decode cX5_lodgings 30 = .ok (.iload_n 1, 1) := by decide +kernel
theorem dX5_lodgings_31 : decode cX5_lodgings 31 = .ok (.ireturn, 1) := by decide +kernel
set_option maxRecDepth 20000 in
theorem ggX5_thinAll_X5_stoutAt : GoodIn wsX5_thinAll wsX5_stoutAt := goodIn_r _ [9, 10, 11, 12, 13, 20, 21, 22, 23] (by decide +kernel) (by decide +kernel)
set_option maxRecDepth 20000 in
theorem gX5_thinAll_X5_stoutAt : GoodIn wsX5_thinAll (wsV RX5 44 RX5 yX5_stoutAt wsX5_stoutAt) := goodIn_app (goodIn_of _ (by decide +kernel)) ggX5_thinAll_X5_stoutAt
set_option maxRecDepth 20000 in
theorem ggX5_thinAll_X5_setStout : GoodIn wsX5_thinAll wsX5_setStout := goodIn_r _ [17, 10, 18, 12, 19, 20, 21, 22, 23] (by decide +kernel) (by decide +kernel)
set_option maxRecDepth 20000 in
theorem gX5_thinAll_X5_setStout : GoodIn wsX5_thinAll (wsV RX5 53 RX5 yX5_setStout wsX5_setStout) := goodIn_app (goodIn_of _ (by decide +kernel)) ggX5_thinAll_X5_setStout
theorem dX5_thinAll_0 : decode cX5_thinAll 0 = .ok (.iconst 0, 1) := by decide +kernel
theorem dX5_thinAll_1 : decode cX5_thinAll 1 = .ok (.istore_n 2, 1) := by decide +kernel
theorem dX5_thinAll_2 : decode cX5_thinAll 2 = .ok (.iload_n 2, 1) := by decide +kernel
theorem dX5_thinAll_3 : decode cX5_thinAll 3 = .ok (.bipush 8, 2) := by decide +kernel
theorem dX5_thinAll_5 : decode cX5_thinAll 5 = .ok (.if_icmp .ge 27, 3) := by decide +kernel
theorem dX5_thinAll_8 : decode cX5_thinAll 8 = .ok (.aload_n 0, 1) := by decide +kernel
theorem dX5_thinAll_9 : decode cX5_thinAll 9 = .ok (.iload_n 1, 1) := by decide +kernel
theorem dX5_thinAll_10 : decode cX5_thinAll 10 = .ok (.iload_n 2, 1) := by decide +kernel
theorem dX5_thinAll_11 : decode cX5_thinAll 11 = .ok (.iconst 0, 1) := by decide +kernel
theorem dX5_thinAll_12 : decode cX5_thinAll 12 = .ok (.aload_n 0, 1) := by decide +kernel
theorem dX5_thinAll_13 : decode cX5_thinAll 13 = .ok (.iload_n 1, 1) := by decide +kernel
theorem dX5_thinAll_14 : decode cX5_thinAll 14 = .ok (.iload_n 2, 1) := by decide +kernel
theorem dX5_thinAll_15 : decode cX5_thinAll 15 = .ok (.invokevirtual 44, 3) := by decide +kernel
theorem dX5_thinAll_18 : decode cX5_thinAll 18 = .ok (.iconst 1, 1) := by decide +kernel
theorem dX5_thinAll_19 : decode cX5_thinAll 19 = .ok (.isub, 1) := by decide +kernel
theorem dX5_thinAll_20 : decode cX5_thinAll 20 = .ok (.invokestatic 48, 3) := by decide +kernel
theorem dX5_thinAll_23 : decode cX5_thinAll 23 = .ok (.invokevirtual 53, 3) := by decide +kernel
theorem dX5_thinAll_26 : decode cX5_thinAll 26 = .ok (.iinc 2 1, 3) := by decide +kernel
theorem dX5_thinAll_29 : decode cX5_thinAll 29 = .ok (.goto (-27), 3) := by decide +kernel
theorem dX5_thinAll_32 : decode cX5_thinAll 32 = .ok (.return_, 1) := by decide +kernel
theorem dX6_init_0 : decode cX6_init 0 = .ok (.aload_n 0, 1) := by decide +kernel
theorem dX6_init_1 : decode cX6_init 1 = .ok (.invokespecial 3, 3) := by decide +kernel
theorem dX6_init_4 : decode cX6_init 4 = .ok (.aload_n 0, 1) := by decide +kernel
theorem dX6_init_5 : decode cX6_init 5 = .ok (.sipush 200, 3) := by decide +kernel
theorem dX6_init_8 : decode cX6_init 8 = .ok (.newarray .int, 2) := by decide +kernel
theorem dX6_init_10 : decode cX6_init 10 = .ok (.putfield 9, 3) := by decide +kernel
theorem dX6_init_13 : decode cX6_init 13 = .ok (.aload_n 0, 1) := by decide +kernel
theorem dX6_init_14 : decode cX6_init 14 = .ok (.iconst 3, 1) := by decide +kernel
theorem dX6_init_15 : decode cX6_init 15 = .ok (.newarray .int, 2) := by decide +kernel
theorem dX6_init_17 : decode cX6_init 17 = .ok (.putfield 15, 3) := by decide +kernel
theorem dX6_init_20 : decode cX6_init 20 = .ok (.return_, 1) := by decide +kernel
theorem dX6_clear_0 : decode cX6_clear 0 = .ok (.aload_n 0, 1) := by decide +kernel
theorem dX6_clear_1 : decode cX6_clear 1 = .ok (.iconst 0, 1) := by decide +kernel
theorem dX6_clear_2 : decode cX6_clear 2 = .ok (.putfield 18, 3) := by decide +kernel
theorem dX6_clear_5 : decode cX6_clear 5 = .ok (.return_, 1) := by decide +kernel
set_option maxRecDepth 20000 in
theorem ggX6_add_X8_put : GoodIn wsX6_add wsX8_put := goodIn_r _ [5] (by decide +kernel) (by decide +kernel)
set_option maxRecDepth 20000 in
theorem gX6_add_X8_put_n22 : GoodIn wsX6_add (wsX8_put) := ggX6_add_X8_put
theorem dX6_add_0 : decode cX6_add 0 = .ok (.aload_n 0, 1) := by decide +kernel
theorem dX6_add_1 : decode cX6_add 1 = .ok (.getfield 18, 3) := by decide +kernel
theorem dX6_add_4 : decode cX6_add 4 = .ok (.sipush 200, 3) := by decide +kernel
theorem dX6_add_7 : decode cX6_add 7 = .ok (.if_icmp .ge 25, 3) := by decide +kernel
theorem dX6_add_10 : decode cX6_add 10 = .ok (.aload_n 0, 1) := by decide +kernel
theorem dX6_add_11 : decode cX6_add 11 = .ok (.getfield 9, 3) := by decide +kernel
theorem dX6_add_14 : decode cX6_add 14 = .ok (.aload_n 0, 1) := by decide +kernel
theorem dX6_add_15 : decode cX6_add 15 = .ok (.getfield 18, 3) := by decide +kernel
theorem dX6_add_18 : decode cX6_add 18 = .ok (.iload_n 1, 1) := by decide +kernel
theorem dX6_add_19 : decode cX6_add 19 = .ok (.invokestatic 22, 3) := by decide +kernel
theorem dX6_add_22 : decode cX6_add 22 = .ok (.aload_n 0, 1) := by decide +kernel
theorem dX6_add_23 : decode cX6_add 23 = .ok (.dup, 1) := by decide +kernel
theorem dX6_add_24 : decode cX6_add 24 = .ok (.getfield 18, 3) := by decide +kernel
theorem dX6_add_27 : decode cX6_add 27 = .ok (.iconst 1, 1) := by decide +kernel
theorem dX6_add_28 : decode cX6_add 28 = .ok (.iadd, 1) := by decide +kernel
theorem dX6_add_29 : decode cX6_add 29 = .ok (.putfield 18, 3) := by decide +kernel
theorem dX6_add_32 : decode cX6_add 32 = .ok (.return_, 1) := by decide +kernel
set_option maxRecDepth 20000 in
theorem ggX6_readInto_X3_clear : GoodIn wsX6_readInto wsX3_clear := goodIn_r _ [7, 8, 9, 10, 11, 12, 13, 14, 15, 16, 17, 18, 19, 20, 100, 101, 102, 103, 104, 105, 106, 107, 108, 109] (by decide +kernel) (by decide +kernel)
set_option maxRecDepth 20000 in
theorem gX6_readInto_X3_clear : GoodIn wsX6_readInto (wsV RX6 26 RX3 yX3_clear wsX3_clear) := goodIn_app (goodIn_of _ (by decide +kernel)) ggX6_readInto_X3_clear
set_option maxRecDepth 20000 in
theorem ggX6_readInto_X6_letterAt : GoodIn wsX6_readInto wsX6_letterAt := goodIn_r _ [25, 1, 26, 27, 19, 28, 97, 98, 99] (by decide +kernel) (by decide +kernel)
set_option maxRecDepth 20000 in
theorem gX6_readInto_X6_letterAt : GoodIn wsX6_readInto (wsV RX6 31 RX6 yX6_letterAt wsX6_letterAt) := goodIn_app (goodIn_of _ (by decide +kernel)) ggX6_readInto_X6_letterAt
set_option maxRecDepth 20000 in
theorem ggX6_readInto_X6_numbersOf : GoodIn wsX6_readInto wsX6_numbersOf := goodIn_r _ [31] (by decide +kernel) (by decide +kernel)
set_option maxRecDepth 20000 in
theorem gX6_readInto_X6_numbersOf : GoodIn wsX6_readInto (va_wsS RX6 35 yX6_numbersOf wsX6_numbersOf) := goodIn_app (goodIn_of _ (by decide +kernel)) ggX6_readInto_X6_numbersOf
set_option maxRecDepth 20000 in
theorem ggX6_readInto_X6_readNumbers : GoodIn wsX6_readInto wsX6_readNumbers := goodIn_r _ [35, 2, 36, 37, 38, 24, 39, 21, 22, 23, 25, 1, 26, 27, 19, 28, 40, 41, 42, 43, 97, 98, 99] (by decide +kernel) (by decide +kernel)
set_option maxRecDepth 20000 in
theorem gX6_readInto_X6_readNumbers : GoodIn wsX6_readInto (wsV RX6 38 RX6 yX6_readNumbers wsX6_readNumbers) := goodIn_app (goodIn_of _ (by decide +kernel)) ggX6_readInto_X6_readNumbers
set_option maxRecDepth 20000 in
theorem ggX6_readInto_X8_at : GoodIn wsX6_readInto wsX8_at := goodIn_r _ [28] (by decide +kernel) (by decide +kernel)
set_option maxRecDepth 20000 in
theorem gX6_readInto_X8_at_n42 : GoodIn wsX6_readInto (wsX8_at) := ggX6_readInto_X8_at
set_option maxRecDepth 20000 in
theorem ggX6_readInto_X3_tell : GoodIn wsX6_readInto wsX3_tell := goodIn_r _ [47, 48, 49, 50, 6, 51, 8, 52, 53, 54, 40, 19, 41, 42, 43, 55, 56, 57, 58, 9, 59, 60, 61, 62, 63, 64, 11, 65, 66, 67, 15, 68, 69, 70, 71, 72, 17, 73, 74, 75, 76, 77, 78, 79, 80, 81, 82, 83, 84, 85, 86, 87, 88, 89, 90, 91, 92, 18, 20, 93, 94, 95, 96, 10, 100, 101, 102, 103, 104, 105, 106, 107, 108, 109] (by decide +kernel) (by decide +kernel)
set_option maxRecDepth 20000 in
theorem gX6_readInto_X3_tell : GoodIn wsX6_readInto (wsV RX6 46 RX3 yX3_tell wsX3_tell) := goodIn_app (goodIn_of _ (by decide +kernel)) ggX6_readInto_X3_tell
theorem dX6_readInto_0 : decode cX6_readInto 0 = .ok (.aload_n 1, 1) := by decide +kernel
theorem dX6_readInto_1 : decode cX6_readInto 1 = .ok (.invokevirtual 26, 3) := by decide +kernel
theorem dX6_readInto_4 : decode cX6_readInto 4 = .ok (.iconst 0, 1) := by decide +kernel
theorem dX6_readInto_5 : decode cX6_readInto 5 = .ok (.istore_n 2, 1) := by decide +kernel
theorem dX6_readInto_6 : decode cX6_readInto 6 = .ok (.iconst 0, 1) := by decide +kernel
theorem dX6_readInto_7 : decode cX6_readInto 7 = .ok (.istore_n 3, 1) := by decide +kernel
theorem dX6_readInto_8 : decode cX6_readInto 8 = .ok (.iload_n 3, 1) := by decide +kernel
theorem dX6_readInto_9 : decode cX6_readInto 9 = .ok (.sipush 200, 3) := by decide +kernel
theorem dX6_readInto_12 : decode cX6_readInto 12 = .ok (.if_icmp .ge 81, 3) := by decide +kernel
theorem dX6_readInto_15 : decode cX6_readInto 15 = .ok (.iload_n 2, 1) := by decide +kernel
theorem dX6_readInto_16 : decode cX6_readInto 16 = .ok (.aload_n 0, 1) := by decide +kernel
theorem dX6_readInto_17 : decode cX6_readInto 17 = .ok (.getfield 18, 3) := by decide +kernel
theorem dX6_readInto_20 : decode cX6_readInto 20 = .ok (.if_icmp .ge 73, 3) := by decide +kernel
theorem dX6_readInto_23 : decode cX6_readInto 23 = .ok (.aload_n 0, 1) := by decide +kernel
theorem dX6_readInto_24 : decode cX6_readInto 24 = .ok (.iload_n 2, 1) := by decide +kernel
theorem dX6_readInto_25 : decode cX6_readInto 25 = .ok (.invokevirtual 31, 3) := by decide +kernel
theorem dX6_readInto_28 : decode cX6_readInto 28 = .ok (.istore 4, 2) := by decide +kernel
theorem dX6_readInto_30 : decode cX6_readInto 30 = .ok (.aload_n 0, 1) := by decide +kernel
theorem dX6_readInto_31 : decode cX6_readInto 31 = .ok (.iload_n 2, 1) := by decide +kernel
theorem dX6_readInto_32 : decode cX6_readInto 32 = .ok (.iconst 1, 1) := by decide +kernel
theorem dX6_readInto_33 : decode cX6_readInto 33 = .ok (.iadd, 1) := by decide +kernel
theorem dX6_readInto_34 : decode cX6_readInto 34 = .ok (.iload 4, 2) := by decide +kernel
theorem dX6_readInto_36 : decode cX6_readInto 36 = .ok (.invokestatic 35, 3) := by decide +kernel
theorem dX6_readInto_39 : decode cX6_readInto 39 = .ok (.invokevirtual 38, 3) := by decide +kernel
theorem dX6_readInto_42 : decode cX6_readInto 42 = .ok (.istore 5, 2) := by decide +kernel
theorem dX6_readInto_44 : decode cX6_readInto 44 = .ok (.iload 5, 2) := by decide +kernel
theorem dX6_readInto_46 : decode cX6_readInto 46 = .ok (.ifCond .lt 36, 3) := by decide +kernel
theorem dX6_readInto_49 : decode cX6_readInto 49 = .ok (.aload_n 1, 1) := by decide +kernel
theorem dX6_readInto_50 : decode cX6_readInto 50 = .ok (.iload 4, 2) := by decide +kernel
theorem dX6_readInto_52 : decode cX6_readInto 52 = .ok (.aload_n 0, 1) := by decide +kernel
theorem dX6_readInto_53 : decode cX6_readInto 53 = .ok (.getfield 15, 3) := by decide +kernel
theorem dX6_readInto_56 : decode cX6_readInto 56 = .ok (.iconst 0, 1) := by decide +kernel
theorem dX6_readInto_57 : decode cX6_readInto 57 = .ok (.invokestatic 42, 3) := by decide +kernel
theorem dX6_readInto_60 : decode cX6_readInto 60 = .ok (.aload_n 0, 1) := by decide +kernel
theorem dX6_readInto_61 : decode cX6_readInto 61 = .ok (.getfield 15, 3) := by decide +kernel
theorem dX6_readInto_64 : decode cX6_readInto 64 = .ok (.iconst 1, 1) := by decide +kernel
theorem dX6_readInto_65 : decode cX6_readInto 65 = .ok (.invokestatic 42, 3) := by decide +kernel
theorem dX6_readInto_68 : decode cX6_readInto 68 = .ok (.aload_n 0, 1) := by decide +kernel
theorem dX6_readInto_69 : decode cX6_readInto 69 = .ok (.getfield 15, 3) := by decide +kernel
theorem dX6_readInto_72 : decode cX6_readInto 72 = .ok (.iconst 2, 1) := by decide +kernel
theorem dX6_readInto_73 : decode cX6_readInto 73 = .ok (.invokestatic 42, 3) := by decide +kernel
theorem dX6_readInto_76 : decode cX6_readInto 76 = .ok (.invokevirtual 46, 3) := by decide +kernel
theorem dX6_readInto_79 : decode cX6_readInto 79 = .ok (.ifCond .ne 5, 3) := by decide +kernel
theorem dX6_readInto_82 : decode cX6_readInto 82 = .ok (.iload_n 2, 1) := by decide +kernel
theorem dX6_readInto_83 : decode cX6_readInto 83 = .ok (.ireturn, 1) := by decide +kernel
theorem dX6_readInto_84 : decode cX6_readInto 84 = .ok (.iload 5, 2) := by decide +kernel
theorem dX6_readInto_86 : decode cX6_readInto 86 = .ok (.istore_n 2, 1) := by decide +kernel
theorem dX6_readInto_87 : decode cX6_readInto 87 = .ok (.iinc 3 1, 3) := by decide +kernel
theorem dX6_readInto_90 : decode cX6_readInto 90 = .ok (.goto (-82), 3) := by decide +kernel
theorem dX6_readInto_93 : decode cX6_readInto 93 = .ok (.bipush (-4), 2) := by decide +kernel
theorem dX6_readInto_95 : decode cX6_readInto 95 = .ok (.ireturn, 1) := by decide +kernel
theorem dX6_numbersOf_0 : decode cX6_numbersOf 0 = .ok (.iload_n 0, 1) := by decide +kernel
theorem dX6_numbersOf_1 : decode cX6_numbersOf 1 = .ok (.lookupswitch 51 #[(99, 47), (110, 45), (112, 43), (113, 49)], 43) := by decide +kernel
theorem dX6_numbersOf_44 : decode cX6_numbersOf 44 = .ok (.iconst 3, 1) := by decide +kernel
theorem dX6_numbersOf_45 : decode cX6_numbersOf 45 = .ok (.ireturn, 1) := by decide +kernel
theorem dX6_numbersOf_46 : decode cX6_numbersOf 46 = .ok (.iconst 2, 1) := by decide +kernel
theorem dX6_numbersOf_47 : decode cX6_numbersOf 47 = .ok (.ireturn, 1) := by decide +kernel
theorem dX6_numbersOf_48 : decode cX6_numbersOf 48 = .ok (.iconst 3, 1) := by decide +kernel
theorem dX6_numbersOf_49 : decode cX6_numbersOf 49 = .ok (.ireturn, 1) := by decide +kernel
theorem dX6_numbersOf_50 : decode cX6_numbersOf 50 = .ok (.iconst 1, 1) := by decide +kernel
theorem dX6_numbersOf_51 : decode cX6_numbersOf 51 = .ok (.ireturn, 1) := by decide +kernel
theorem dX6_numbersOf_52 : decode cX6_numbersOf 52 = .ok (.iconst 0, 1) := by decide +kernel
theorem dX6_numbersOf_53 : decode cX6_numbersOf 53 = .ok (.ireturn, 1) := by decide +kernel
set_option maxRecDepth 20000 in
theorem ggX6_readNumbers_X6_figureAt : GoodIn wsX6_readNumbers wsX6_figureAt := goodIn_r _ [6, 7, 8, 9, 5, 10, 11, 12, 13, 14, 15, 16, 17, 20, 21, 22] (by decide +kernel) (by decide +kernel)
set_option maxRecDepth 20000 in
theorem gX6_readNumbers_X6_figureAt : GoodIn wsX6_readNumbers (wsV RX6 50 RX6 yX6_figureAt wsX6_figureAt) := goodIn_app (goodIn_of _ (by decide +kernel)) ggX6_readNumbers_X6_figureAt
set_option maxRecDepth 20000 in
theorem ggX6_readNumbers_X8_put : GoodIn wsX6_readNumbers wsX8_put := goodIn_r _ [19] (by decide +kernel) (by decide +kernel)
set_option maxRecDepth 20000 in
theorem gX6_readNumbers_X8_put_n22 : GoodIn wsX6_readNumbers (wsX8_put) := ggX6_readNumbers_X8_put
set_option maxRecDepth 20000 in
theorem ggX6_readNumbers_X6_letterAt : GoodIn wsX6_readNumbers wsX6_letterAt := goodIn_r _ [10, 11, 12, 13, 14, 15, 20, 21, 22] (by decide +kernel) (by decide +kernel)
set_option maxRecDepth 20000 in
theorem gX6_readNumbers_X6_letterAt : GoodIn wsX6_readNumbers (wsV RX6 31 RX6 yX6_letterAt wsX6_letterAt) := goodIn_app (goodIn_of _ (by decide +kernel)) ggX6_readNumbers_X6_letterAt
theorem dX6_readNumbers_0 : decode cX6_readNumbers 0 = .ok (.iload_n 1, 1) := by decide +kernel
theorem dX6_readNumbers_1 : decode cX6_readNumbers 1 = .ok (.istore_n 3, 1) := by decide +kernel
theorem dX6_readNumbers_2 : decode cX6_readNumbers 2 = .ok (.iconst 0, 1) := by decide +kernel
theorem dX6_readNumbers_3 : decode cX6_readNumbers 3 = .ok (.istore 4, 2) := by decide +kernel
theorem dX6_readNumbers_5 : decode cX6_readNumbers 5 = .ok (.iload 4, 2) := by decide +kernel
theorem dX6_readNumbers_7 : decode cX6_readNumbers 7 = .ok (.iload_n 2, 1) := by decide +kernel
theorem dX6_readNumbers_8 : decode cX6_readNumbers 8 = .ok (.if_icmp .ge 90, 3) := by decide +kernel
theorem dX6_readNumbers_11 : decode cX6_readNumbers 11 = .ok (.aload_n 0, 1) := by decide +kernel
theorem dX6_readNumbers_12 : decode cX6_readNumbers 12 = .ok (.iload_n 3, 1) := by decide +kernel
theorem dX6_readNumbers_13 : decode cX6_readNumbers 13 = .ok (.invokevirtual 50, 3) := by decide +kernel
theorem dX6_readNumbers_16 : decode cX6_readNumbers 16 = .ok (.istore 5, 2) := by decide +kernel
theorem dX6_readNumbers_18 : decode cX6_readNumbers 18 = .ok (.iload 5, 2) := by decide +kernel
theorem dX6_readNumbers_20 : decode cX6_readNumbers 20 = .ok (.ifCond .ge 5, 3) := by decide +kernel
theorem dX6_readNumbers_23 : decode cX6_readNumbers 23 = .ok (.iconst (-1), 1) := by decide +kernel
theorem dX6_readNumbers_24 : decode cX6_readNumbers 24 = .ok (.ireturn, 1) := by decide +kernel
theorem dX6_readNumbers_25 : decode cX6_readNumbers 25 = .ok (.iinc 3 1, 3) := by decide +kernel
theorem dX6_readNumbers_28 : decode cX6_readNumbers 28 = .ok (.aload_n 0, 1) := by decide +kernel
theorem dX6_readNumbers_29 : decode cX6_readNumbers 29 = .ok (.iload_n 3, 1) := by decide +kernel
theorem dX6_readNumbers_30 : decode cX6_readNumbers 30 = .ok (.invokevirtual 50, 3) := by decide +kernel
theorem dX6_readNumbers_33 : decode cX6_readNumbers 33 = .ok (.istore 6, 2) := by decide +kernel
theorem dX6_readNumbers_35 : decode cX6_readNumbers 35 = .ok (.iload 6, 2) := by decide +kernel
theorem dX6_readNumbers_37 : decode cX6_readNumbers 37 = .ok (.ifCond .lt 16, 3) := by decide +kernel
theorem dX6_readNumbers_40 : decode cX6_readNumbers 40 = .ok (.bipush 10, 2) := by decide +kernel
theorem dX6_readNumbers_42 : decode cX6_readNumbers 42 = .ok (.iload 5, 2) := by decide +kernel
theorem dX6_readNumbers_44 : decode cX6_readNumbers 44 = .ok (.imul, 1) := by decide +kernel
theorem dX6_readNumbers_45 : decode cX6_readNumbers 45 = .ok (.iload 6, 2) := by decide +kernel
theorem dX6_readNumbers_47 : decode cX6_readNumbers 47 = .ok (.iadd, 1) := by decide +kernel
theorem dX6_readNumbers_48 : decode cX6_readNumbers 48 = .ok (.istore 5, 2) := by decide +kernel
theorem dX6_readNumbers_50 : decode cX6_readNumbers 50 = .ok (.iinc 3 1, 3) := by decide +kernel
theorem dX6_readNumbers_53 : decode cX6_readNumbers 53 = .ok (.aload_n 0, 1) := by decide +kernel
theorem dX6_readNumbers_54 : decode cX6_readNumbers 54 = .ok (.getfield 15, 3) := by decide +kernel
theorem dX6_readNumbers_57 : decode cX6_readNumbers 57 = .ok (.iload 4, 2) := by decide +kernel
theorem dX6_readNumbers_59 : decode cX6_readNumbers 59 = .ok (.iload 5, 2) := by decide +kernel
theorem dX6_readNumbers_61 : decode cX6_readNumbers 61 = .ok (.invokestatic 22, 3) := by decide +kernel
theorem dX6_readNumbers_64 : decode cX6_readNumbers 64 = .ok (.aload_n 0, 1) := by decide +kernel
theorem dX6_readNumbers_65 : decode cX6_readNumbers 65 = .ok (.iload_n 3, 1) := by decide +kernel
theorem dX6_readNumbers_66 : decode cX6_readNumbers 66 = .ok (.invokevirtual 31, 3) := by decide +kernel
theorem dX6_readNumbers_69 : decode cX6_readNumbers 69 = .ok (.iload 4, 2) := by decide +kernel
theorem dX6_readNumbers_71 : decode cX6_readNumbers 71 = .ok (.iload_n 2, 1) := by decide +kernel
theorem dX6_readNumbers_72 : decode cX6_readNumbers 72 = .ok (.iconst 1, 1) := by decide +kernel
theorem dX6_readNumbers_73 : decode cX6_readNumbers 73 = .ok (.isub, 1) := by decide +kernel
theorem dX6_readNumbers_74 : decode cX6_readNumbers 74 = .ok (.if_icmp .ne 8, 3) := by decide +kernel
theorem dX6_readNumbers_77 : decode cX6_readNumbers 77 = .ok (.bipush 59, 2) := by decide +kernel
theorem dX6_readNumbers_79 : decode cX6_readNumbers 79 = .ok (.goto 5, 3) := by decide +kernel
theorem dX6_readNumbers_82 : decode cX6_readNumbers 82 = .ok (.bipush 44, 2) := by decide +kernel
theorem dX6_readNumbers_84 : decode cX6_readNumbers 84 = .ok (.if_icmp .eq 5, 3) := by decide +kernel
theorem dX6_readNumbers_87 : decode cX6_readNumbers 87 = .ok (.iconst (-1), 1) := by decide +kernel
theorem dX6_readNumbers_88 : decode cX6_readNumbers 88 = .ok (.ireturn, 1) := by decide +kernel
theorem dX6_readNumbers_89 : decode cX6_readNumbers 89 = .ok (.iinc 3 1, 3) := by decide +kernel
theorem dX6_readNumbers_92 : decode cX6_readNumbers 92 = .ok (.iinc 4 1, 3) := by decide +kernel
theorem dX6_readNumbers_95 : decode cX6_readNumbers 95 = .ok (.goto (-90), 3) := by decide +kernel
theorem dX6_readNumbers_98 : decode cX6_readNumbers 98 = .ok (.iload_n 2, 1) := by decide +kernel
theorem dX6_readNumbers_99 : decode cX6_readNumbers 99 = .ok (.ifCond .le 7, 3) := by decide +kernel
theorem dX6_readNumbers_102 : decode cX6_readNumbers 102 = .ok (.iload_n 3, 1) := by decide +kernel
theorem dX6_readNumbers_103 : decode cX6_readNumbers 103 = .ok (.goto 4, 3) := by decide +kernel
theorem dX6_readNumbers_106 : decode cX6_readNumbers 106 = .ok (.iconst (-1), 1) := by decide +kernel
theorem dX6_readNumbers_107 : decode cX6_readNumbers 107 = .ok (.ireturn, 1) := by decide +kernel
set_option maxRecDepth 20000 in
theorem ggX6_figureAt_X6_letterAt : GoodIn wsX6_figureAt wsX6_letterAt := goodIn_r _ [5, 6, 7, 8, 9, 10, 13, 14, 15] (by decide +kernel) (by decide +kernel)
set_option maxRecDepth 20000 in
theorem gX6_figureAt_X6_letterAt : GoodIn wsX6_figureAt (wsV RX6 31 RX6 yX6_letterAt wsX6_letterAt) := goodIn_app (goodIn_of _ (by decide +kernel)) ggX6_figureAt_X6_letterAt
set_option maxRecDepth 20000 in
theorem ggX6_figureAt_X8_within : GoodIn wsX6_figureAt wsX8_within := goodIn_r _ [12] (by decide +kernel) (by decide +kernel)
set_option maxRecDepth 20000 in
theorem gX6_figureAt_X8_within_n53 : GoodIn wsX6_figureAt (wsX8_within) := ggX6_figureAt_X8_within
theorem dX6_figureAt_0 : decode cX6_figureAt 0 = .ok (.aload_n 0, 1) := by decide +kernel
theorem dX6_figureAt_1 : decode cX6_figureAt 1 = .ok (.iload_n 1, 1) := by decide +kernel
theorem dX6_figureAt_2 : decode cX6_figureAt 2 = .ok (.invokevirtual 31, 3) := by decide +kernel
theorem dX6_figureAt_5 : decode cX6_figureAt 5 = .ok (.istore_n 2, 1) := by decide +kernel
theorem dX6_figureAt_6 : decode cX6_figureAt 6 = .ok (.iload_n 2, 1) := by decide +kernel
theorem dX6_figureAt_7 : decode cX6_figureAt 7 = .ok (.bipush 48, 2) := by decide +kernel
theorem dX6_figureAt_9 : decode cX6_figureAt 9 = .ok (.bipush 57, 2) := by decide +kernel
theorem dX6_figureAt_11 : decode cX6_figureAt 11 = .ok (.invokestatic 53, 3) := by decide +kernel
theorem dX6_figureAt_14 : decode cX6_figureAt 14 = .ok (.ifCond .eq 10, 3) := by decide +kernel
theorem dX6_figureAt_17 : decode cX6_figureAt 17 = .ok (.iload_n 2, 1) := by decide +kernel
theorem dX6_figureAt_18 : decode cX6_figureAt 18 = .ok (.bipush 48, 2) := by decide +kernel
theorem dX6_figureAt_20 : decode cX6_figureAt 20 = .ok (.isub, 1) := by decide +kernel
theorem dX6_figureAt_21 : decode cX6_figureAt 21 = .ok (.goto 4, 3) := by decide +kernel
theorem dX6_figureAt_24 : decode cX6_figureAt 24 = .ok (.iconst (-1), 1) := by decide +kernel
theorem dX6_figureAt_25 : decode cX6_figureAt 25 = .ok (.ireturn, 1) := by decide +kernel
set_option maxRecDepth 20000 in
theorem ggX6_letterAt_X8_at : GoodIn wsX6_letterAt wsX8_at := goodIn_r _ [5] (by decide +kernel) (by decide +kernel)
set_option maxRecDepth 20000 in
theorem gX6_letterAt_X8_at_n42 : GoodIn wsX6_letterAt (wsX8_at) := ggX6_letterAt_X8_at
theorem dX6_letterAt_0 : decode cX6_letterAt 0 = .ok (.iload_n 1, 1) := by decide +kernel
theorem dX6_letterAt_1 : decode cX6_letterAt 1 = .ok (.aload_n 0, 1) := by decide +kernel
theorem dX6_letterAt_2 : decode cX6_letterAt 2 = .ok (.getfield 18, 3) := by decide +kernel
theorem dX6_letterAt_5 : decode cX6_letterAt 5 = .ok (.if_icmp .ge 14, 3) := by decide +kernel
theorem dX6_letterAt_8 : decode cX6_letterAt 8 = .ok (.aload_n 0, 1) := by decide +kernel
theorem dX6_letterAt_9 : decode cX6_letterAt 9 = .ok (.getfield 9, 3) := by decide +kernel
theorem dX6_letterAt_12 : decode cX6_letterAt 12 = .ok (.iload_n 1, 1) := by decide +kernel
theorem dX6_letterAt_13 : decode cX6_letterAt 13 = .ok (.invokestatic 42, 3) := by decide +kernel
theorem dX6_letterAt_16 : decode cX6_letterAt 16 = .ok (.goto 4, 3) := by decide +kernel
theorem dX6_letterAt_19 : decode cX6_letterAt 19 = .ok (.iconst 0, 1) := by decide +kernel
theorem dX6_letterAt_20 : decode cX6_letterAt 20 = .ok (.ireturn, 1) := by decide +kernel
theorem dX7_init_0 : decode cX7_init 0 = .ok (.aload_n 0, 1) := by decide +kernel
theorem dX7_init_1 : decode cX7_init 1 = .ok (.invokespecial 3, 3) := by decide +kernel
theorem dX7_init_4 : decode cX7_init 4 = .ok (.aload_n 0, 1) := by decide +kernel
theorem dX7_init_5 : decode cX7_init 5 = .ok (.bipush 6, 2) := by decide +kernel
theorem dX7_init_7 : decode cX7_init 7 = .ok (.newarray .long, 2) := by decide +kernel
theorem dX7_init_9 : decode cX7_init 9 = .ok (.putfield 9, 3) := by decide +kernel
theorem dX7_init_12 : decode cX7_init 12 = .ok (.return_, 1) := by decide +kernel
theorem dX7_bit_0 : decode cX7_bit 0 = .ok (.lconst 1, 1) := by decide +kernel
theorem dX7_bit_1 : decode cX7_bit 1 = .ok (.bipush 6, 2) := by decide +kernel
theorem dX7_bit_3 : decode cX7_bit 3 = .ok (.iload_n 1, 1) := by decide +kernel
theorem dX7_bit_4 : decode cX7_bit 4 = .ok (.imul, 1) := by decide +kernel
theorem dX7_bit_5 : decode cX7_bit 5 = .ok (.iload_n 0, 1) := by decide +kernel
theorem dX7_bit_6 : decode cX7_bit 6 = .ok (.iadd, 1) := by decide +kernel
theorem dX7_bit_7 : decode cX7_bit 7 = .ok (.lshl, 1) := by decide +kernel
theorem dX7_bit_8 : decode cX7_bit 8 = .ok (.lreturn, 1) := by decide +kernel
theorem dX7_callers_0 : decode cX7_callers 0 = .ok (.lload_n 0, 1) := by decide +kernel
theorem dX7_callers_1 : decode cX7_callers 1 = .ok (.bipush 6, 2) := by decide +kernel
theorem dX7_callers_3 : decode cX7_callers 3 = .ok (.iload_n 2, 1) := by decide +kernel
theorem dX7_callers_4 : decode cX7_callers 4 = .ok (.imul, 1) := by decide +kernel
theorem dX7_callers_5 : decode cX7_callers 5 = .ok (.lushr, 1) := by decide +kernel
theorem dX7_callers_6 : decode cX7_callers 6 = .ok (.l2i, 1) := by decide +kernel
theorem dX7_callers_7 : decode cX7_callers 7 = .ok (.bipush 63, 2) := by decide +kernel
theorem dX7_callers_9 : decode cX7_callers 9 = .ok (.iand, 1) := by decide +kernel
theorem dX7_callers_10 : decode cX7_callers 10 = .ok (.ireturn, 1) := by decide +kernel
set_option maxRecDepth 20000 in
theorem ggX7_about_X8_at_ : GoodIn wsX7_about wsX8_at_ := goodIn_r _ [4] (by decide +kernel) (by decide +kernel)
set_option maxRecDepth 20000 in
theorem gX7_about_X8_at__n15 : GoodIn wsX7_about (wsX8_at_) := ggX7_about_X8_at_
theorem dX7_about_0 : decode cX7_about 0 = .ok (.aload_n 0, 1) := by decide +kernel
theorem dX7_about_1 : decode cX7_about 1 = .ok (.getfield 9, 3) := by decide +kernel
theorem dX7_about_4 : decode cX7_about 4 = .ok (.iload_n 1, 1) := by decide +kernel
theorem dX7_about_5 : decode cX7_about 5 = .ok (.invokestatic 15, 3) := by decide +kernel
theorem dX7_about_8 : decode cX7_about 8 = .ok (.lreturn, 1) := by decide +kernel
set_option maxRecDepth 20000 in
theorem ggX7_has_X8_at_ : GoodIn wsX7_has wsX8_at_ := goodIn_r _ [4] (by decide +kernel) (by decide +kernel)
set_option maxRecDepth 20000 in
theorem gX7_has_X8_at__n15 : GoodIn wsX7_has (wsX8_at_) := ggX7_has_X8_at_
set_option maxRecDepth 20000 in
theorem ggX7_has_X7_bit : GoodIn wsX7_has wsX7_bit := goodIn_r _ [8] (by decide +kernel) (by decide +kernel)
set_option maxRecDepth 20000 in
theorem gX7_has_X7_bit : GoodIn wsX7_has (va_wsS RX7 19 yX7_bit wsX7_bit) := goodIn_app (goodIn_of _ (by decide +kernel)) ggX7_has_X7_bit
theorem dX7_has_0 : decode cX7_has 0 = .ok (.aload_n 0, 1) := by decide +kernel
theorem dX7_has_1 : decode cX7_has 1 = .ok (.getfield 9, 3) := by decide +kernel
theorem dX7_has_4 : decode cX7_has 4 = .ok (.iload_n 2, 1) := by decide +kernel
theorem dX7_has_5 : decode cX7_has 5 = .ok (.invokestatic 15, 3) := by decide +kernel
theorem dX7_has_8 : decode cX7_has 8 = .ok (.iload_n 1, 1) := by decide +kernel
theorem dX7_has_9 : decode cX7_has 9 = .ok (.iload_n 3, 1) := by decide +kernel
theorem dX7_has_10 : decode cX7_has 10 = .ok (.invokestatic 19, 3) := by decide +kernel
theorem dX7_has_13 : decode cX7_has 13 = .ok (.land, 1) := by decide +kernel
theorem dX7_has_14 : decode cX7_has 14 = .ok (.lconst 0, 1) := by decide +kernel
theorem dX7_has_15 : decode cX7_has 15 = .ok (.lcmp, 1) := by decide +kernel
theorem dX7_has_16 : decode cX7_has 16 = .ok (.ifCond .eq 7, 3) := by decide +kernel
theorem dX7_has_19 : decode cX7_has 19 = .ok (.iconst 1, 1) := by decide +kernel
theorem dX7_has_20 : decode cX7_has 20 = .ok (.goto 4, 3) := by decide +kernel
theorem dX7_has_23 : decode cX7_has 23 = .ok (.iconst 0, 1) := by decide +kernel
theorem dX7_has_24 : decode cX7_has 24 = .ok (.ireturn, 1) := by decide +kernel
set_option maxRecDepth 20000 in
theorem ggX7_total_X8_at_ : GoodIn wsX7_total wsX8_at_ := goodIn_r _ [4] (by decide +kernel) (by decide +kernel)
set_option maxRecDepth 20000 in
theorem gX7_total_X8_at__n15 : GoodIn wsX7_total (wsX8_at_) := ggX7_total_X8_at_
set_option maxRecDepth 20000 in
theorem ggX7_total_J13_bitCount_95d88 : GoodIn wsX7_total wsJ13_bitCount_95d88 := goodIn_r _ [8, 9, 10, 11] (by decide +kernel) (by decide +kernel)
set_option maxRecDepth 20000 in
theorem gX7_total_J13_bitCount_95d88 : GoodIn wsX7_total (va_wsS RX7 23 yJ13_bitCount_95d88 wsJ13_bitCount_95d88) := goodIn_app (goodIn_of _ (by decide +kernel)) ggX7_total_J13_bitCount_95d88
theorem dX7_total_0 : decode cX7_total 0 = .ok (.iconst 0, 1) := by decide +kernel
theorem dX7_total_1 : decode cX7_total 1 = .ok (.istore_n 1, 1) := by decide +kernel
theorem dX7_total_2 : decode cX7_total 2 = .ok (.iconst 0, 1) := by decide +kernel
theorem dX7_total_3 : decode cX7_total 3 = .ok (.istore_n 2, 1) := by decide +kernel
theorem dX7_total_4 : decode cX7_total 4 = .ok (.iload_n 2, 1) := by decide +kernel
theorem dX7_total_5 : decode cX7_total 5 = .ok (.bipush 6, 2) := by decide +kernel
theorem dX7_total_7 : decode cX7_total 7 = .ok (.if_icmp .ge 23, 3) := by decide +kernel
theorem dX7_total_10 : decode cX7_total 10 = .ok (.iload_n 1, 1) := by decide +kernel
theorem dX7_total_11 : decode cX7_total 11 = .ok (.aload_n 0, 1) := by decide +kernel
theorem dX7_total_12 : decode cX7_total 12 = .ok (.getfield 9, 3) := by decide +kernel
theorem dX7_total_15 : decode cX7_total 15 = .ok (.iload_n 2, 1) := by decide +kernel
theorem dX7_total_16 : decode cX7_total 16 = .ok (.invokestatic 15, 3) := by decide +kernel
theorem dX7_total_19 : decode cX7_total 19 = .ok (.invokestatic 23, 3) := by decide +kernel
theorem dX7_total_22 : decode cX7_total 22 = .ok (.iadd, 1) := by decide +kernel
theorem dX7_total_23 : decode cX7_total 23 = .ok (.istore_n 1, 1) := by decide +kernel
theorem dX7_total_24 : decode cX7_total 24 = .ok (.iinc 2 1, 3) := by decide +kernel
theorem dX7_total_27 : decode cX7_total 27 = .ok (.goto (-23), 3) := by decide +kernel
theorem dX7_total_30 : decode cX7_total 30 = .ok (.iload_n 1, 1) := by decide +kernel
theorem dX7_total_31 : decode cX7_total 31 = .ok (.ireturn, 1) := by decide +kernel
set_option maxRecDepth 20000 in
theorem ggX7_canFlip_X7_has : GoodIn wsX7_canFlip wsX7_has := goodIn_r _ [5, 6, 7, 8, 9, 10, 11, 4, 12, 24] (by decide +kernel) (by decide +kernel)
set_option maxRecDepth 20000 in
theorem gX7_canFlip_X7_has : GoodIn wsX7_canFlip (wsV RX7 29 RX7 yX7_has wsX7_has) := goodIn_app (goodIn_of _ (by decide +kernel)) ggX7_canFlip_X7_has
set_option maxRecDepth 20000 in
theorem ggX7_canFlip_X7_total : GoodIn wsX7_canFlip wsX7_total := goodIn_r _ [16, 6, 7, 8, 9, 17, 18, 19, 20, 21, 22, 23, 24] (by decide +kernel) (by decide +kernel)
set_option maxRecDepth 20000 in
theorem gX7_canFlip_X7_total : GoodIn wsX7_canFlip (wsV RX7 33 RX7 yX7_total wsX7_total) := goodIn_app (goodIn_of _ (by decide +kernel)) ggX7_canFlip_X7_total
theorem dX7_canFlip_0 : decode cX7_canFlip 0 = .ok (.aload_n 0, 1) := by decide +kernel
theorem dX7_canFlip_1 : decode cX7_canFlip 1 = .ok (.iload_n 1, 1) := by decide +kernel
theorem dX7_canFlip_2 : decode cX7_canFlip 2 = .ok (.iload_n 2, 1) := by decide +kernel
theorem dX7_canFlip_3 : decode cX7_canFlip 3 = .ok (.iload_n 3, 1) := by decide +kernel
theorem dX7_canFlip_4 : decode cX7_canFlip 4 = .ok (.invokevirtual 29, 3) := by decide +kernel
theorem dX7_canFlip_7 : decode cX7_canFlip 7 = .ok (.ifCond .ne 12, 3) := by decide +kernel
theorem dX7_canFlip_10 : decode cX7_canFlip 10 = .ok (.aload_n 0, 1) := by decide +kernel
theorem dX7_canFlip_11 : decode cX7_canFlip 11 = .ok (.invokevirtual 33, 3) := by decide +kernel
theorem dX7_canFlip_14 : decode cX7_canFlip 14 = .ok (.bipush 12, 2) := by decide +kernel
theorem dX7_canFlip_16 : decode cX7_canFlip 16 = .ok (.if_icmp .ge 7, 3) := by decide +kernel
theorem dX7_canFlip_19 : decode cX7_canFlip 19 = .ok (.iconst 1, 1) := by decide +kernel
theorem dX7_canFlip_20 : decode cX7_canFlip 20 = .ok (.goto 4, 3) := by decide +kernel
theorem dX7_canFlip_23 : decode cX7_canFlip 23 = .ok (.iconst 0, 1) := by decide +kernel
theorem dX7_canFlip_24 : decode cX7_canFlip 24 = .ok (.ireturn, 1) := by decide +kernel
set_option maxRecDepth 20000 in
theorem ggX7_flip_X8_at_ : GoodIn wsX7_flip wsX8_at_ := goodIn_r _ [4] (by decide +kernel) (by decide +kernel)
set_option maxRecDepth 20000 in
theorem gX7_flip_X8_at__n15 : GoodIn wsX7_flip (wsX8_at_) := ggX7_flip_X8_at_
set_option maxRecDepth 20000 in
theorem ggX7_flip_X7_bit : GoodIn wsX7_flip wsX7_bit := goodIn_r _ [8] (by decide +kernel) (by decide +kernel)
set_option maxRecDepth 20000 in
theorem gX7_flip_X7_bit : GoodIn wsX7_flip (va_wsS RX7 19 yX7_bit wsX7_bit) := goodIn_app (goodIn_of _ (by decide +kernel)) ggX7_flip_X7_bit
set_option maxRecDepth 20000 in
theorem ggX7_flip_X8_put_ : GoodIn wsX7_flip wsX8_put_ := goodIn_r _ [10] (by decide +kernel) (by decide +kernel)
set_option maxRecDepth 20000 in
theorem gX7_flip_X8_put__n37 : GoodIn wsX7_flip (wsX8_put_) := ggX7_flip_X8_put_
theorem dX7_flip_0 : decode cX7_flip 0 = .ok (.aload_n 0, 1) := by decide +kernel
theorem dX7_flip_1 : decode cX7_flip 1 = .ok (.getfield 9, 3) := by decide +kernel
theorem dX7_flip_4 : decode cX7_flip 4 = .ok (.iload_n 2, 1) := by decide +kernel
theorem dX7_flip_5 : decode cX7_flip 5 = .ok (.aload_n 0, 1) := by decide +kernel
theorem dX7_flip_6 : decode cX7_flip 6 = .ok (.getfield 9, 3) := by decide +kernel
theorem dX7_flip_9 : decode cX7_flip 9 = .ok (.iload_n 2, 1) := by decide +kernel
theorem dX7_flip_10 : decode cX7_flip 10 = .ok (.invokestatic 15, 3) := by decide +kernel
theorem dX7_flip_13 : decode cX7_flip 13 = .ok (.iload_n 1, 1) := by decide +kernel
theorem dX7_flip_14 : decode cX7_flip 14 = .ok (.iload_n 3, 1) := by decide +kernel
theorem dX7_flip_15 : decode cX7_flip 15 = .ok (.invokestatic 19, 3) := by decide +kernel
theorem dX7_flip_18 : decode cX7_flip 18 = .ok (.lxor, 1) := by decide +kernel
theorem dX7_flip_19 : decode cX7_flip 19 = .ok (.invokestatic 37, 3) := by decide +kernel
theorem dX7_flip_22 : decode cX7_flip 22 = .ok (.return_, 1) := by decide +kernel
set_option maxRecDepth 20000 in
theorem ggX7_clear_X8_put_ : GoodIn wsX7_clear wsX8_put_ := goodIn_r _ [4] (by decide +kernel) (by decide +kernel)
set_option maxRecDepth 20000 in
theorem gX7_clear_X8_put__n37 : GoodIn wsX7_clear (wsX8_put_) := ggX7_clear_X8_put_
theorem dX7_clear_0 : decode cX7_clear 0 = .ok (.iconst 0, 1) := by decide +kernel
theorem dX7_clear_1 : decode cX7_clear 1 = .ok (.istore_n 1, 1) := by decide +kernel
theorem dX7_clear_2 : decode cX7_clear 2 = .ok (.iload_n 1, 1) := by decide +kernel
theorem dX7_clear_3 : decode cX7_clear 3 = .ok (.bipush 6, 2) := by decide +kernel
theorem dX7_clear_5 : decode cX7_clear 5 = .ok (.if_icmp .ge 18, 3) := by decide +kernel
theorem dX7_clear_8 : decode cX7_clear 8 = .ok (.aload_n 0, 1) := by decide +kernel
theorem dX7_clear_9 : decode cX7_clear 9 = .ok (.getfield 9, 3) := by decide +kernel
theorem dX7_clear_12 : decode cX7_clear 12 = .ok (.iload_n 1, 1) := by decide +kernel
theorem dX7_clear_13 : decode cX7_clear 13 = .ok (.lconst 0, 1) := by decide +kernel
theorem dX7_clear_14 : decode cX7_clear 14 = .ok (.invokestatic 37, 3) := by decide +kernel
theorem dX7_clear_17 : decode cX7_clear 17 = .ok (.iinc 1 1, 3) := by decide +kernel
theorem dX7_clear_20 : decode cX7_clear 20 = .ok (.goto (-18), 3) := by decide +kernel
theorem dX7_clear_23 : decode cX7_clear 23 = .ok (.return_, 1) := by decide +kernel
set_option maxRecDepth 20000 in
theorem ggX7_become_X7_about : GoodIn wsX7_become wsX7_about := goodIn_r _ [6, 1, 7, 8, 9, 12] (by decide +kernel) (by decide +kernel)
set_option maxRecDepth 20000 in
theorem gX7_become_X7_about : GoodIn wsX7_become (wsV RX7 41 RX7 yX7_about wsX7_about) := goodIn_app (goodIn_of _ (by decide +kernel)) ggX7_become_X7_about
set_option maxRecDepth 20000 in
theorem ggX7_become_X8_put_ : GoodIn wsX7_become wsX8_put_ := goodIn_r _ [11] (by decide +kernel) (by decide +kernel)
set_option maxRecDepth 20000 in
theorem gX7_become_X8_put__n37 : GoodIn wsX7_become (wsX8_put_) := ggX7_become_X8_put_
theorem dX7_become_0 : decode cX7_become 0 = .ok (.iconst 0, 1) := by decide +kernel
theorem dX7_become_1 : decode cX7_become 1 = .ok (.istore_n 2, 1) := by decide +kernel
theorem dX7_become_2 : decode cX7_become 2 = .ok (.iload_n 2, 1) := by decide +kernel
theorem dX7_become_3 : decode cX7_become 3 = .ok (.bipush 6, 2) := by decide +kernel
theorem dX7_become_5 : decode cX7_become 5 = .ok (.if_icmp .ge 22, 3) := by decide +kernel
theorem dX7_become_8 : decode cX7_become 8 = .ok (.aload_n 0, 1) := by decide +kernel
theorem dX7_become_9 : decode cX7_become 9 = .ok (.getfield 9, 3) := by decide +kernel
theorem dX7_become_12 : decode cX7_become 12 = .ok (.iload_n 2, 1) := by decide +kernel
theorem dX7_become_13 : decode cX7_become 13 = .ok (.aload_n 1, 1) := by decide +kernel
theorem dX7_become_14 : decode cX7_become 14 = .ok (.iload_n 2, 1) := by decide +kernel
theorem dX7_become_15 : decode cX7_become 15 = .ok (.invokevirtual 41, 3) := by decide +kernel
theorem dX7_become_18 : decode cX7_become 18 = .ok (.invokestatic 37, 3) := by decide +kernel
theorem dX7_become_21 : decode cX7_become 21 = .ok (.iinc 2 1, 3) := by decide +kernel
theorem dX7_become_24 : decode cX7_become 24 = .ok (.goto (-22), 3) := by decide +kernel
theorem dX7_become_27 : decode cX7_become 27 = .ok (.return_, 1) := by decide +kernel
set_option maxRecDepth 20000 in
theorem ggX8_init_X6_init : GoodIn wsX8_init wsX6_init := goodIn_r _ [36, 37, 2, 3, 38, 39, 40, 253, 254, 255] (by decide +kernel) (by decide +kernel)
set_option maxRecDepth 20000 in
theorem gX8_init_X6_init_n9 : GoodIn wsX8_init (wsX6_init) := ggX8_init_X6_init
set_option maxRecDepth 20000 in
theorem ggX8_init_X3_init : GoodIn wsX8_init wsX3_init := goodIn_r _ [42, 43, 2, 3, 38, 44, 45, 46, 47, 48, 49, 50, 51, 52, 53, 54, 55, 56, 57, 266, 267, 268, 269, 270, 271, 272, 273, 274, 298] (by decide +kernel) (by decide +kernel)
set_option maxRecDepth 20000 in
theorem gX8_init_X3_init_n18 : GoodIn wsX8_init (wsX3_init) := ggX8_init_X3_init
set_option maxRecDepth 20000 in
theorem ggX8_init_X5_init : GoodIn wsX8_init wsX5_init := goodIn_r _ [59, 60, 2, 3, 61, 50, 51, 62, 38, 63, 53, 54, 55, 56, 57, 298, 275, 276, 277, 278] (by decide +kernel) (by decide +kernel)
set_option maxRecDepth 20000 in
theorem gX8_init_X5_init_n28 : GoodIn wsX8_init (wsX5_init) := ggX8_init_X5_init
set_option maxRecDepth 20000 in
theorem ggX8_init_X2_init : GoodIn wsX8_init wsX2_init := goodIn_r _ [66, 67, 2, 3, 68, 69, 70, 71, 72, 73, 14, 15, 58, 59, 60, 61, 50, 51, 62, 38, 63, 53, 54, 55, 56, 57, 279, 280, 281, 275, 276, 277, 278, 298] (by decide +kernel) (by decide +kernel)
set_option maxRecDepth 20000 in
theorem gX8_init_X2_init : GoodIn wsX8_init (wsX2_init) := ggX8_init_X2_init
set_option maxRecDepth 20000 in
theorem ggX8_init_X4_init : GoodIn wsX8_init wsX4_init := goodIn_r _ [75, 76, 2, 3, 38, 77, 78, 79, 80, 282, 283, 284, 285, 286] (by decide +kernel) (by decide +kernel)
set_option maxRecDepth 20000 in
theorem gX8_init_X4_init_n50 : GoodIn wsX8_init (wsX4_init) := ggX8_init_X4_init
set_option maxRecDepth 20000 in
theorem ggX8_init_X0_init : GoodIn wsX8_init wsX0_init := goodIn_r _ [83, 84, 2, 3, 38, 85, 86, 287, 288, 289, 290, 291, 292] (by decide +kernel) (by decide +kernel)
set_option maxRecDepth 20000 in
theorem gX8_init_X0_init : GoodIn wsX8_init (wsX0_init) := ggX8_init_X0_init
set_option maxRecDepth 20000 in
theorem ggX8_init_X1_init : GoodIn wsX8_init wsX1_init := goodIn_r _ [89, 90, 2, 3, 91, 92, 93, 293, 294, 295, 296, 297] (by decide +kernel) (by decide +kernel)
set_option maxRecDepth 20000 in
theorem gX8_init_X1_init : GoodIn wsX8_init (wsX1_init) := ggX8_init_X1_init
set_option maxRecDepth 20000 in
theorem ggX8_init_J0_length_8abf5 : GoodIn wsX8_init wsJ0_length_8abf5 := goodIn_r _ [98, 99, 100, 101, 102, 97, 103, 104, 105] (by decide +kernel) (by decide +kernel)
set_option maxRecDepth 20000 in
theorem gX8_init_J0_length_8abf5 : GoodIn wsX8_init (wsV RX8 75 RJ0 yJ0_length_8abf5 wsJ0_length_8abf5) := goodIn_app (goodIn_of _ (by decide +kernel)) ggX8_init_J0_length_8abf5
set_option maxRecDepth 20000 in
theorem ggX8_init_J0_charAt_5068e : GoodIn wsX8_init wsJ0_charAt_5068e := goodIn_r _ [109, 99, 110, 111, 112, 97, 113, 104, 105, 114, 115, 116, 117, 118, 119, 120, 121, 122, 123, 124, 125, 126, 127, 128, 129, 130, 131, 132, 133, 134, 135, 136, 137, 138, 139, 140, 141, 142] (by decide +kernel) (by decide +kernel)
set_option maxRecDepth 20000 in
theorem gX8_init_J0_charAt_5068e : GoodIn wsX8_init (wsV RX8 81 RJ0 yJ0_charAt_5068e wsJ0_charAt_5068e) := goodIn_app (goodIn_of _ (by decide +kernel)) ggX8_init_J0_charAt_5068e
set_option maxRecDepth 20000 in
theorem ggX8_init_X6_add : GoodIn wsX8_init wsX6_add := goodIn_r _ [146, 147, 39, 148, 149, 150, 253, 254, 255] (by decide +kernel) (by decide +kernel)
set_option maxRecDepth 20000 in
theorem gX8_init_X6_add : GoodIn wsX8_init (wsV RX8 85 RX6 yX6_add wsX6_add) := goodIn_app (goodIn_of _ (by decide +kernel)) ggX8_init_X6_add
set_option maxRecDepth 20000 in
theorem ggX8_init_X6_readInto : GoodIn wsX8_init wsX6_readInto := goodIn_r _ [154, 147, 40, 155, 156, 157, 10, 158, 159, 160, 161, 52, 162, 163, 164, 51, 165, 57, 166, 149, 167, 168, 169, 170, 6, 171, 39, 172, 173, 174, 175, 176, 177, 178, 179, 180, 181, 182, 183, 184, 185, 186, 148, 150, 187, 188, 189, 190, 191, 192, 193, 194, 44, 45, 46, 195, 196, 197, 198, 47, 48, 199, 200, 201, 202, 203, 204, 205, 206, 207, 208, 209, 210, 211, 212, 213, 214, 215, 216, 217, 218, 219, 220, 221, 222, 223, 224, 225, 226, 227, 228, 229, 230, 231, 232, 233, 234, 253, 254, 255, 266, 267, 268, 269, 270, 271, 272, 273, 274, 298] (by decide +kernel) (by decide +kernel)
set_option maxRecDepth 20000 in
theorem gX8_init_X6_readInto : GoodIn wsX8_init (wsV RX8 88 RX6 yX6_readInto wsX6_readInto) := goodIn_app (goodIn_of _ (by decide +kernel)) ggX8_init_X6_readInto
set_option maxRecDepth 20000 in
theorem ggX8_init_X5_begin : GoodIn wsX8_init wsX5_begin := goodIn_r _ [238, 62, 63, 239, 240, 241, 242, 243, 51, 244, 57, 245, 246, 247, 248, 211, 149, 212, 166, 167, 148, 150, 275, 276, 277, 278, 266, 267, 268, 269, 270, 271, 272, 273, 274, 298] (by decide +kernel) (by decide +kernel)
