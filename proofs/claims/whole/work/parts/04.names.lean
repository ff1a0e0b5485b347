set_option maxRecDepth 20000 in
theorem gX9_lay_X9_lays : GoodIn wsX9_lay (wsV RX9 60 RX9 yX9_lays wsX9_lays) := goodIn_app (goodIn_of _ (by decide +kernel)) ggX9_lay_X9_lays
theorem dX9_lay_0 : decode cX9_lay 0 = .ok (.aload_n 0, 1) := by decide +kernel
theorem dX9_lay_1 : decode cX9_lay 1 = .ok (.invokevirtual 95, 3) := by decide +kernel
theorem dX9_lay_4 : decode cX9_lay 4 = .ok (.bipush (-4), 2) := by decide +kernel
theorem dX9_lay_6 : decode cX9_lay 6 = .ok (.if_icmp .ne 21, 3) := by decide +kernel
theorem dX9_lay_9 : decode cX9_lay 9 = .ok (.aload_n 0, 1) := by decide +kernel
theorem dX9_lay_10 : decode cX9_lay 10 = .ok (.getfield 16, 3) := by decide +kernel
theorem dX9_lay_13 : decode cX9_lay 13 = .ok (.iconst 0, 1) := by decide +kernel
theorem dX9_lay_14 : decode cX9_lay 14 = .ok (.iaload, 1) := by decide +kernel
theorem dX9_lay_15 : decode cX9_lay 15 = .ok (.ifCond .eq 12, 3) := by decide +kernel
theorem dX9_lay_18 : decode cX9_lay 18 = .ok (.aload_n 0, 1) := by decide +kernel
theorem dX9_lay_19 : decode cX9_lay 19 = .ok (.getfield 16, 3) := by decide +kernel
theorem dX9_lay_22 : decode cX9_lay 22 = .ok (.iconst 1, 1) := by decide +kernel
theorem dX9_lay_23 : decode cX9_lay 23 = .ok (.iaload, 1) := by decide +kernel
theorem dX9_lay_24 : decode cX9_lay 24 = .ok (.ifCond .ne 6, 3) := by decide +kernel
theorem dX9_lay_27 : decode cX9_lay 27 = .ok (.bipush (-2), 2) := by decide +kernel
theorem dX9_lay_29 : decode cX9_lay 29 = .ok (.ireturn, 1) := by decide +kernel
theorem dX9_lay_30 : decode cX9_lay 30 = .ok (.aload_n 0, 1) := by decide +kernel
theorem dX9_lay_31 : decode cX9_lay 31 = .ok (.invokevirtual 60, 3) := by decide +kernel
theorem dX9_lay_34 : decode cX9_lay 34 = .ok (.aload_n 0, 1) := by decide +kernel
theorem dX9_lay_35 : decode cX9_lay 35 = .ok (.getfield 13, 3) := by decide +kernel
theorem dX9_lay_38 : decode cX9_lay 38 = .ok (.iconst 0, 1) := by decide +kernel
theorem dX9_lay_39 : decode cX9_lay 39 = .ok (.iaload, 1) := by decide +kernel
theorem dX9_lay_40 : decode cX9_lay 40 = .ok (.ireturn, 1) := by decide +kernel
theorem dX9_lodgers_0 : decode cX9_lodgers 0 = .ok (.iconst 0, 1) := by decide +kernel
theorem dX9_lodgers_1 : decode cX9_lodgers 1 = .ok (.istore_n 2, 1) := by decide +kernel
theorem dX9_lodgers_2 : decode cX9_lodgers 2 = .ok (.iconst 0, 1) := by decide +kernel
theorem dX9_lodgers_3 : decode cX9_lodgers 3 = .ok (.istore_n 3, 1) := by decide +kernel
theorem dX9_lodgers_4 : decode cX9_lodgers 4 = .ok (.iload_n 3, 1) := by decide +kernel
theorem dX9_lodgers_5 : decode cX9_lodgers 5 = .ok (.bipush 8, 2) := by decide +kernel
theorem dX9_lodgers_7 : decode cX9_lodgers 7 = .ok (.if_icmp .ge 33, 3) := by decide +kernel
theorem dX9_lodgers_10 : decode cX9_lodgers 10 = .ok (.iload_n 2, 1) := by decide +kernel
theorem dX9_lodgers_11 : decode cX9_lodgers 11 = .ok (.aload_n 0, 1) := by decide +kernel
theorem dX9_lodgers_12 : decode cX9_lodgers 12 = .ok (.getfield 22, 3) := by decide +kernel
theorem dX9_lodgers_15 : decode cX9_lodgers 15 = .ok (.bipush 8, 2) := by decide +kernel
theorem dX9_lodgers_17 : decode cX9_lodgers 17 = .ok (.iload_n 1, 1) := by decide +kernel
theorem dX9_lodgers_18 : decode cX9_lodgers 18 = .ok (.imul, 1) := by decide +kernel
theorem dX9_lodgers_19 : decode cX9_lodgers 19 = .ok (.iload_n 3, 1) := by decide +kernel
theorem dX9_lodgers_20 : decode cX9_lodgers 20 = .ok (.iadd, 1) := by decide +kernel
theorem dX9_lodgers_21 : decode cX9_lodgers 21 = .ok (.iaload, 1) := by decide +kernel
theorem dX9_lodgers_22 : decode cX9_lodgers 22 = .ok (.ifCond .le 9, 3) := by decide +kernel
theorem dX9_lodgers_25 : decode cX9_lodgers 25 = .ok (.iconst 1, 1) := by decide +kernel
theorem dX9_lodgers_26 : decode cX9_lodgers 26 = .ok (.iload_n 3, 1) := by decide +kernel
theorem dX9_lodgers_27 : decode cX9_lodgers 27 = .ok (.ishl, 1) := by decide +kernel
theorem dX9_lodgers_28 : decode cX9_lodgers 28 = .ok (.goto 4, 3) := by decide +kernel
theorem dX9_lodgers_31 : decode cX9_lodgers 31 = .ok (.iconst 0, 1) := by decide +kernel
theorem dX9_lodgers_32 : decode cX9_lodgers 32 = .ok (.ior, 1) := by decide +kernel
theorem dX9_lodgers_33 : decode cX9_lodgers 33 = .ok (.istore_n 2, 1) := by decide +kernel
theorem dX9_lodgers_34 : decode cX9_lodgers 34 = .ok (.iinc 3 1, 3) := by decide +kernel
theorem dX9_lodgers_37 : decode cX9_lodgers 37 = .ok (.goto (-33), 3) := by decide +kernel
theorem dX9_lodgers_40 : decode cX9_lodgers 40 = .ok (.iload_n 2, 1) := by decide +kernel
theorem dX9_lodgers_41 : decode cX9_lodgers 41 = .ok (.ireturn, 1) := by decide +kernel
theorem dX9_sumOf_0 : decode cX9_sumOf 0 = .ok (.iconst 0, 1) := by decide +kernel
theorem dX9_sumOf_1 : decode cX9_sumOf 1 = .ok (.istore_n 3, 1) := by decide +kernel
theorem dX9_sumOf_2 : decode cX9_sumOf 2 = .ok (.iconst 0, 1) := by decide +kernel
theorem dX9_sumOf_3 : decode cX9_sumOf 3 = .ok (.istore 4, 2) := by decide +kernel
theorem dX9_sumOf_5 : decode cX9_sumOf 5 = .ok (.iload 4, 2) := by decide +kernel
theorem dX9_sumOf_7 : decode cX9_sumOf 7 = .ok (.bipush 8, 2) := by decide +kernel
theorem dX9_sumOf_9 : decode cX9_sumOf 9 = .ok (.if_icmp .ge 40, 3) := by decide +kernel
theorem dX9_sumOf_12 : decode cX9_sumOf 12 = .ok (.iload_n 3, 1) := by decide +kernel
theorem dX9_sumOf_13 : decode cX9_sumOf 13 = .ok (.aload_n 0, 1) := by decide +kernel
theorem dX9_sumOf_14 : decode cX9_sumOf 14 = .ok (.getfield 22, 3) := by decide +kernel
theorem dX9_sumOf_17 : decode cX9_sumOf 17 = .ok (.bipush 8, 2) := by decide +kernel
theorem dX9_sumOf_19 : decode cX9_sumOf 19 = .ok (.iload_n 1, 1) := by decide +kernel
theorem dX9_sumOf_20 : decode cX9_sumOf 20 = .ok (.imul, 1) := by decide +kernel
theorem dX9_sumOf_21 : decode cX9_sumOf 21 = .ok (.iload 4, 2) := by decide +kernel
theorem dX9_sumOf_23 : decode cX9_sumOf 23 = .ok (.iadd, 1) := by decide +kernel
theorem dX9_sumOf_24 : decode cX9_sumOf 24 = .ok (.iaload, 1) := by decide +kernel
theorem dX9_sumOf_25 : decode cX9_sumOf 25 = .ok (.ifCond .le 15, 3) := by decide +kernel
theorem dX9_sumOf_28 : decode cX9_sumOf 28 = .ok (.aload_n 0, 1) := by decide +kernel
theorem dX9_sumOf_29 : decode cX9_sumOf 29 = .ok (.getfield 13, 3) := by decide +kernel
theorem dX9_sumOf_32 : decode cX9_sumOf 32 = .ok (.iload_n 2, 1) := by decide +kernel
theorem dX9_sumOf_33 : decode cX9_sumOf 33 = .ok (.iload 4, 2) := by decide +kernel
theorem dX9_sumOf_35 : decode cX9_sumOf 35 = .ok (.iadd, 1) := by decide +kernel
theorem dX9_sumOf_36 : decode cX9_sumOf 36 = .ok (.iaload, 1) := by decide +kernel
theorem dX9_sumOf_37 : decode cX9_sumOf 37 = .ok (.goto 4, 3) := by decide +kernel
theorem dX9_sumOf_40 : decode cX9_sumOf 40 = .ok (.iconst 0, 1) := by decide +kernel
theorem dX9_sumOf_41 : decode cX9_sumOf 41 = .ok (.iadd, 1) := by decide +kernel
theorem dX9_sumOf_42 : decode cX9_sumOf 42 = .ok (.istore_n 3, 1) := by decide +kernel
theorem dX9_sumOf_43 : decode cX9_sumOf 43 = .ok (.iinc 4 1, 3) := by decide +kernel
theorem dX9_sumOf_46 : decode cX9_sumOf 46 = .ok (.goto (-41), 3) := by decide +kernel
theorem dX9_sumOf_49 : decode cX9_sumOf 49 = .ok (.iload_n 3, 1) := by decide +kernel
theorem dX9_sumOf_50 : decode cX9_sumOf 50 = .ok (.ireturn, 1) := by decide +kernel
set_option maxRecDepth 20000 in
theorem ggX9_isHungry_X9_sumOf : GoodIn wsX9_isHungry wsX9_sumOf := goodIn_r _ [6, 7, 1, 8, 9, 10, 11, 12, 13, 14, 15, 16, 17, 18, 19, 20, 21, 22, 23, 24, 25, 26] (by decide +kernel) (by decide +kernel)
set_option maxRecDepth 20000 in
theorem gX9_isHungry_X9_sumOf : GoodIn wsX9_isHungry (wsV RX9 108 RX9 yX9_sumOf wsX9_sumOf) := goodIn_app (goodIn_of _ (by decide +kernel)) ggX9_isHungry_X9_sumOf
theorem dX9_isHungry_0 : decode cX9_isHungry 0 = .ok (.aload_n 0, 1) := by decide +kernel
theorem dX9_isHungry_1 : decode cX9_isHungry 1 = .ok (.iload_n 1, 1) := by decide +kernel
theorem dX9_isHungry_2 : decode cX9_isHungry 2 = .ok (.bipush 29, 2) := by decide +kernel
theorem dX9_isHungry_4 : decode cX9_isHungry 4 = .ok (.invokevirtual 108, 3) := by decide +kernel
theorem dX9_isHungry_7 : decode cX9_isHungry 7 = .ok (.aload_n 0, 1) := by decide +kernel
theorem dX9_isHungry_8 : decode cX9_isHungry 8 = .ok (.getfield 13, 3) := by decide +kernel
theorem dX9_isHungry_11 : decode cX9_isHungry 11 = .ok (.bipush 15, 2) := by decide +kernel
theorem dX9_isHungry_13 : decode cX9_isHungry 13 = .ok (.iload_n 1, 1) := by decide +kernel
theorem dX9_isHungry_14 : decode cX9_isHungry 14 = .ok (.iadd, 1) := by decide +kernel
theorem dX9_isHungry_15 : decode cX9_isHungry 15 = .ok (.iaload, 1) := by decide +kernel
theorem dX9_isHungry_16 : decode cX9_isHungry 16 = .ok (.if_icmp .le 7, 3) := by decide +kernel
theorem dX9_isHungry_19 : decode cX9_isHungry 19 = .ok (.iconst 1, 1) := by decide +kernel
theorem dX9_isHungry_20 : decode cX9_isHungry 20 = .ok (.goto 4, 3) := by decide +kernel
theorem dX9_isHungry_23 : decode cX9_isHungry 23 = .ok (.iconst 0, 1) := by decide +kernel
theorem dX9_isHungry_24 : decode cX9_isHungry 24 = .ok (.ireturn, 1) := by decide +kernel
set_option maxRecDepth 20000 in
theorem ggX9_person_X9_isPerson : GoodIn wsX9_person wsX9_isPerson := goodIn_r _ [6, 1, 7, 8, 5, 9, 23, 24, 25, 26, 27, 28, 29, 30, 31, 32, 33, 34, 35, 36, 37, 38, 39, 40, 41] (by decide +kernel) (by decide +kernel)
set_option maxRecDepth 20000 in
theorem gX9_person_X9_isPerson : GoodIn wsX9_person (wsV RX9 67 RX9 yX9_isPerson wsX9_isPerson) := goodIn_app (goodIn_of _ (by decide +kernel)) ggX9_person_X9_isPerson
set_option maxRecDepth 20000 in
theorem ggX9_person_X9_lodgers : GoodIn wsX9_person wsX9_lodgers := goodIn_r _ [13, 14, 23, 24, 25, 26, 27, 28, 29, 30, 31, 32, 33, 34, 35, 36, 37, 38, 39, 40, 41] (by decide +kernel) (by decide +kernel)
set_option maxRecDepth 20000 in
theorem gX9_person_X9_lodgers : GoodIn wsX9_person (wsV RX9 112 RX9 yX9_lodgers wsX9_lodgers) := goodIn_app (goodIn_of _ (by decide +kernel)) ggX9_person_X9_lodgers
set_option maxRecDepth 20000 in
theorem ggX9_person_X9_isHungry : GoodIn wsX9_person wsX9_isHungry := goodIn_r _ [18, 1, 19, 20, 21, 5, 22, 14, 23, 24, 25, 26, 27, 28, 29, 30, 31, 32, 33, 34, 35, 36, 37, 38, 39, 40, 41] (by decide +kernel) (by decide +kernel)
set_option maxRecDepth 20000 in
theorem gX9_person_X9_isHungry : GoodIn wsX9_person (wsV RX9 115 RX9 yX9_isHungry wsX9_isHungry) := goodIn_app (goodIn_of _ (by decide +kernel)) ggX9_person_X9_isHungry
theorem dX9_person_0 : decode cX9_person 0 = .ok (.aload_n 0, 1) := by decide +kernel
theorem dX9_person_1 : decode cX9_person 1 = .ok (.iload_n 1, 1) := by decide +kernel
theorem dX9_person_2 : decode cX9_person 2 = .ok (.invokevirtual 67, 3) := by decide +kernel
theorem dX9_person_5 : decode cX9_person 5 = .ok (.ifCond .ne 5, 3) := by decide +kernel
theorem dX9_person_8 : decode cX9_person 8 = .ok (.iconst (-1), 1) := by decide +kernel
theorem dX9_person_9 : decode cX9_person 9 = .ok (.ireturn, 1) := by decide +kernel
theorem dX9_person_10 : decode cX9_person 10 = .ok (.iload_n 2, 1) := by decide +kernel
theorem dX9_person_11 : decode cX9_person 11 = .ok (.tableswitch 82 0 4 #[33, 42, 52, 62, 68], 33) := by decide +kernel
theorem dX9_person_44 : decode cX9_person 44 = .ok (.aload_n 0, 1) := by decide +kernel
theorem dX9_person_45 : decode cX9_person 45 = .ok (.getfield 13, 3) := by decide +kernel
theorem dX9_person_48 : decode cX9_person 48 = .ok (.iconst 3, 1) := by decide +kernel
theorem dX9_person_49 : decode cX9_person 49 = .ok (.iload_n 1, 1) := by decide +kernel
theorem dX9_person_50 : decode cX9_person 50 = .ok (.iadd, 1) := by decide +kernel
theorem dX9_person_51 : decode cX9_person 51 = .ok (.iaload, 1) := by decide +kernel
theorem dX9_person_52 : decode cX9_person 52 = .ok (.ireturn, 1) := by decide +kernel
theorem dX9_person_53 : decode cX9_person 53 = .ok (.aload_n 0, 1) := by decide +kernel
theorem dX9_person_54 : decode cX9_person 54 = .ok (.getfield 13, 3) := by decide +kernel
theorem dX9_person_57 : decode cX9_person 57 = .ok (.bipush 9, 2) := by decide +kernel
theorem dX9_person_59 : decode cX9_person 59 = .ok (.iload_n 1, 1) := by decide +kernel
theorem dX9_person_60 : decode cX9_person 60 = .ok (.iadd, 1) := by decide +kernel
theorem dX9_person_61 : decode cX9_person 61 = .ok (.iaload, 1) := by decide +kernel
theorem dX9_person_62 : decode cX9_person 62 = .ok (.ireturn, 1) := by decide +kernel
theorem dX9_person_63 : decode cX9_person 63 = .ok (.aload_n 0, 1) := by decide +kernel
theorem dX9_person_64 : decode cX9_person 64 = .ok (.getfield 13, 3) := by decide +kernel
theorem dX9_person_67 : decode cX9_person 67 = .ok (.bipush 15, 2) := by decide +kernel
theorem dX9_person_69 : decode cX9_person 69 = .ok (.iload_n 1, 1) := by decide +kernel
theorem dX9_person_70 : decode cX9_person 70 = .ok (.iadd, 1) := by decide +kernel
theorem dX9_person_71 : decode cX9_person 71 = .ok (.iaload, 1) := by decide +kernel
theorem dX9_person_72 : decode cX9_person 72 = .ok (.ireturn, 1) := by decide +kernel
theorem dX9_person_73 : decode cX9_person 73 = .ok (.aload_n 0, 1) := by decide +kernel
theorem dX9_person_74 : decode cX9_person 74 = .ok (.iload_n 1, 1) := by decide +kernel
theorem dX9_person_75 : decode cX9_person 75 = .ok (.invokevirtual 112, 3) := by decide +kernel
theorem dX9_person_78 : decode cX9_person 78 = .ok (.ireturn, 1) := by decide +kernel
theorem dX9_person_79 : decode cX9_person 79 = .ok (.aload_n 0, 1) := by decide +kernel
theorem dX9_person_80 : decode cX9_person 80 = .ok (.iload_n 1, 1) := by decide +kernel
theorem dX9_person_81 : decode cX9_person 81 = .ok (.invokevirtual 115, 3) := by decide +kernel
theorem dX9_person_84 : decode cX9_person 84 = .ok (.ifCond .eq 7, 3) := by decide +kernel
theorem dX9_person_87 : decode cX9_person 87 = .ok (.iconst 1, 1) := by decide +kernel
theorem dX9_person_88 : decode cX9_person 88 = .ok (.goto 4, 3) := by decide +kernel
theorem dX9_person_91 : decode cX9_person 91 = .ok (.iconst 0, 1) := by decide +kernel
theorem dX9_person_92 : decode cX9_person 92 = .ok (.ireturn, 1) := by decide +kernel
theorem dX9_person_93 : decode cX9_person 93 = .ok (.iconst (-1), 1) := by decide +kernel
theorem dX9_person_94 : decode cX9_person 94 = .ok (.ireturn, 1) := by decide +kernel
set_option maxRecDepth 20000 in
theorem ggX9_name_X9_isName : GoodIn wsX9_name wsX9_isName := goodIn_r _ [6, 1, 7, 8, 5, 9, 10, 11, 12, 13, 14, 15, 16, 17, 18, 19, 20, 21, 22, 23, 24, 25, 26, 27, 28] (by decide +kernel) (by decide +kernel)
set_option maxRecDepth 20000 in
theorem gX9_name_X9_isName : GoodIn wsX9_name (wsV RX9 118 RX9 yX9_isName wsX9_isName) := goodIn_app (goodIn_of _ (by decide +kernel)) ggX9_name_X9_isName
set_option maxRecDepth 20000 in
theorem ggX9_name_X9_in : GoodIn wsX9_name wsX9_in := goodIn_r _ [9] (by decide +kernel) (by decide +kernel)
set_option maxRecDepth 20000 in
theorem gX9_name_X9_in : GoodIn wsX9_name (va_wsS RX9 63 yX9_in wsX9_in) := goodIn_app (goodIn_of _ (by decide +kernel)) ggX9_name_X9_in
theorem dX9_name_0 : decode cX9_name 0 = .ok (.aload_n 0, 1) := by decide +kernel
theorem dX9_name_1 : decode cX9_name 1 = .ok (.iload_n 1, 1) := by decide +kernel
theorem dX9_name_2 : decode cX9_name 2 = .ok (.invokevirtual 118, 3) := by decide +kernel
theorem dX9_name_5 : decode cX9_name 5 = .ok (.ifCond .eq 12, 3) := by decide +kernel
theorem dX9_name_8 : decode cX9_name 8 = .ok (.iload_n 2, 1) := by decide +kernel
theorem dX9_name_9 : decode cX9_name 9 = .ok (.iconst 0, 1) := by decide +kernel
theorem dX9_name_10 : decode cX9_name 10 = .ok (.iconst 1, 1) := by decide +kernel
theorem dX9_name_11 : decode cX9_name 11 = .ok (.invokestatic 63, 3) := by decide +kernel
theorem dX9_name_14 : decode cX9_name 14 = .ok (.ifCond .ne 7, 3) := by decide +kernel
theorem dX9_name_17 : decode cX9_name 17 = .ok (.iconst (-1), 1) := by decide +kernel
theorem dX9_name_18 : decode cX9_name 18 = .ok (.goto 21, 3) := by decide +kernel
theorem dX9_name_21 : decode cX9_name 21 = .ok (.aload_n 0, 1) := by decide +kernel
theorem dX9_name_22 : decode cX9_name 22 = .ok (.getfield 13, 3) := by decide +kernel
theorem dX9_name_25 : decode cX9_name 25 = .ok (.iload_n 2, 1) := by decide +kernel
theorem dX9_name_26 : decode cX9_name 26 = .ok (.ifCond .ne 8, 3) := by decide +kernel
theorem dX9_name_29 : decode cX9_name 29 = .ok (.bipush 21, 2) := by decide +kernel
theorem dX9_name_31 : decode cX9_name 31 = .ok (.goto 5, 3) := by decide +kernel
theorem dX9_name_34 : decode cX9_name 34 = .ok (.bipush 29, 2) := by decide +kernel
theorem dX9_name_36 : decode cX9_name 36 = .ok (.iload_n 1, 1) := by decide +kernel
theorem dX9_name_37 : decode cX9_name 37 = .ok (.iadd, 1) := by decide +kernel
theorem dX9_name_38 : decode cX9_name 38 = .ok (.iaload, 1) := by decide +kernel
theorem dX9_name_39 : decode cX9_name 39 = .ok (.ireturn, 1) := by decide +kernel
set_option maxRecDepth 20000 in
theorem ggX9_stout_X9_isPerson : GoodIn wsX9_stout wsX9_isPerson := goodIn_r _ [6, 7, 8, 9, 5, 10, 15, 16, 17, 18, 19, 20, 21, 22, 23, 24, 25, 26, 27, 28, 29, 30, 31, 32, 33] (by decide +kernel) (by decide +kernel)
set_option maxRecDepth 20000 in
theorem gX9_stout_X9_isPerson : GoodIn wsX9_stout (wsV RX9 67 RX9 yX9_isPerson wsX9_isPerson) := goodIn_app (goodIn_of _ (by decide +kernel)) ggX9_stout_X9_isPerson
set_option maxRecDepth 20000 in
theorem ggX9_stout_X9_isName : GoodIn wsX9_stout wsX9_isName := goodIn_r _ [14, 7, 8, 9, 5, 10, 15, 16, 17, 18, 19, 20, 21, 22, 23, 24, 25, 26, 27, 28, 29, 30, 31, 32, 33] (by decide +kernel) (by decide +kernel)
set_option maxRecDepth 20000 in
theorem gX9_stout_X9_isName : GoodIn wsX9_stout (wsV RX9 118 RX9 yX9_isName wsX9_isName) := goodIn_app (goodIn_of _ (by decide +kernel)) ggX9_stout_X9_isName
theorem dX9_stout_0 : decode cX9_stout 0 = .ok (.aload_n 0, 1) := by decide +kernel
theorem dX9_stout_1 : decode cX9_stout 1 = .ok (.iload_n 1, 1) := by decide +kernel
theorem dX9_stout_2 : decode cX9_stout 2 = .ok (.invokevirtual 67, 3) := by decide +kernel
theorem dX9_stout_5 : decode cX9_stout 5 = .ok (.ifCond .eq 25, 3) := by decide +kernel
theorem dX9_stout_8 : decode cX9_stout 8 = .ok (.aload_n 0, 1) := by decide +kernel
theorem dX9_stout_9 : decode cX9_stout 9 = .ok (.iload_n 2, 1) := by decide +kernel
theorem dX9_stout_10 : decode cX9_stout 10 = .ok (.invokevirtual 118, 3) := by decide +kernel
theorem dX9_stout_13 : decode cX9_stout 13 = .ok (.ifCond .eq 17, 3) := by decide +kernel
theorem dX9_stout_16 : decode cX9_stout 16 = .ok (.aload_n 0, 1) := by decide +kernel
theorem dX9_stout_17 : decode cX9_stout 17 = .ok (.getfield 22, 3) := by decide +kernel
theorem dX9_stout_20 : decode cX9_stout 20 = .ok (.bipush 8, 2) := by decide +kernel
theorem dX9_stout_22 : decode cX9_stout 22 = .ok (.iload_n 1, 1) := by decide +kernel
theorem dX9_stout_23 : decode cX9_stout 23 = .ok (.imul, 1) := by decide +kernel
theorem dX9_stout_24 : decode cX9_stout 24 = .ok (.iload_n 2, 1) := by decide +kernel
theorem dX9_stout_25 : decode cX9_stout 25 = .ok (.iadd, 1) := by decide +kernel
theorem dX9_stout_26 : decode cX9_stout 26 = .ok (.iaload, 1) := by decide +kernel
theorem dX9_stout_27 : decode cX9_stout 27 = .ok (.goto 4, 3) := by decide +kernel
theorem dX9_stout_30 : decode cX9_stout 30 = .ok (.iconst (-1), 1) := by decide +kernel
theorem dX9_stout_31 : decode cX9_stout 31 = .ok (.ireturn, 1) := by decide +kernel
set_option maxRecDepth 20000 in
theorem ggX9_calls_X9_areTwo : GoodIn wsX9_calls wsX9_areTwo := goodIn_r _ [6, 7, 8, 9, 5, 10, 11, 12, 13, 14, 19, 20, 21, 22, 23, 24, 25, 26, 27, 28, 29, 30, 31, 32, 33, 34, 35, 36, 37] (by decide +kernel) (by decide +kernel)
set_option maxRecDepth 20000 in
theorem gX9_calls_X9_areTwo : GoodIn wsX9_calls (wsV RX9 121 RX9 yX9_areTwo wsX9_areTwo) := goodIn_app (goodIn_of _ (by decide +kernel)) ggX9_calls_X9_areTwo
set_option maxRecDepth 20000 in
theorem ggX9_calls_X9_isName : GoodIn wsX9_calls wsX9_isName := goodIn_r _ [18, 11, 12, 13, 5, 14, 19, 20, 21, 22, 23, 24, 25, 26, 27, 28, 29, 30, 31, 32, 33, 34, 35, 36, 37] (by decide +kernel) (by decide +kernel)
set_option maxRecDepth 20000 in
theorem gX9_calls_X9_isName : GoodIn wsX9_calls (wsV RX9 118 RX9 yX9_isName wsX9_isName) := goodIn_app (goodIn_of _ (by decide +kernel)) ggX9_calls_X9_isName
theorem dX9_calls_0 : decode cX9_calls 0 = .ok (.aload_n 0, 1) := by decide +kernel
theorem dX9_calls_1 : decode cX9_calls 1 = .ok (.iload_n 1, 1) := by decide +kernel
theorem dX9_calls_2 : decode cX9_calls 2 = .ok (.iload_n 2, 1) := by decide +kernel
theorem dX9_calls_3 : decode cX9_calls 3 = .ok (.invokevirtual 121, 3) := by decide +kernel
theorem dX9_calls_6 : decode cX9_calls 6 = .ok (.ifCond .eq 32, 3) := by decide +kernel
theorem dX9_calls_9 : decode cX9_calls 9 = .ok (.aload_n 0, 1) := by decide +kernel
theorem dX9_calls_10 : decode cX9_calls 10 = .ok (.iload_n 3, 1) := by decide +kernel
theorem dX9_calls_11 : decode cX9_calls 11 = .ok (.invokevirtual 118, 3) := by decide +kernel
theorem dX9_calls_14 : decode cX9_calls 14 = .ok (.ifCond .eq 24, 3) := by decide +kernel
theorem dX9_calls_17 : decode cX9_calls 17 = .ok (.aload_n 0, 1) := by decide +kernel
theorem dX9_calls_18 : decode cX9_calls 18 = .ok (.getfield 22, 3) := by decide +kernel
theorem dX9_calls_21 : decode cX9_calls 21 = .ok (.bipush 48, 2) := by decide +kernel
theorem dX9_calls_23 : decode cX9_calls 23 = .ok (.bipush 6, 2) := by decide +kernel
theorem dX9_calls_25 : decode cX9_calls 25 = .ok (.iload_n 1, 1) := by decide +kernel
theorem dX9_calls_26 : decode cX9_calls 26 = .ok (.imul, 1) := by decide +kernel
theorem dX9_calls_27 : decode cX9_calls 27 = .ok (.iadd, 1) := by decide +kernel
theorem dX9_calls_28 : decode cX9_calls 28 = .ok (.iload_n 2, 1) := by decide +kernel
theorem dX9_calls_29 : decode cX9_calls 29 = .ok (.iadd, 1) := by decide +kernel
theorem dX9_calls_30 : decode cX9_calls 30 = .ok (.iaload, 1) := by decide +kernel
theorem dX9_calls_31 : decode cX9_calls 31 = .ok (.iload_n 3, 1) := by decide +kernel
theorem dX9_calls_32 : decode cX9_calls 32 = .ok (.ishr, 1) := by decide +kernel
theorem dX9_calls_33 : decode cX9_calls 33 = .ok (.iconst 1, 1) := by decide +kernel
theorem dX9_calls_34 : decode cX9_calls 34 = .ok (.iand, 1) := by decide +kernel
theorem dX9_calls_35 : decode cX9_calls 35 = .ok (.goto 4, 3) := by decide +kernel
theorem dX9_calls_38 : decode cX9_calls 38 = .ok (.iconst (-1), 1) := by decide +kernel
theorem dX9_calls_39 : decode cX9_calls 39 = .ok (.ireturn, 1) := by decide +kernel
set_option maxRecDepth 20000 in
theorem ggX9_quarrels_X9_in : GoodIn wsX9_quarrels wsX9_in := goodIn_r _ [5] (by decide +kernel) (by decide +kernel)
set_option maxRecDepth 20000 in
theorem gX9_quarrels_X9_in : GoodIn wsX9_quarrels (va_wsS RX9 63 yX9_in wsX9_in) := goodIn_app (goodIn_of _ (by decide +kernel)) ggX9_quarrels_X9_in
theorem dX9_quarrels_0 : decode cX9_quarrels 0 = .ok (.aload_n 0, 1) := by decide +kernel
theorem dX9_quarrels_1 : decode cX9_quarrels 1 = .ok (.getfield 13, 3) := by decide +kernel
theorem dX9_quarrels_4 : decode cX9_quarrels 4 = .ok (.bipush 21, 2) := by decide +kernel
theorem dX9_quarrels_6 : decode cX9_quarrels 6 = .ok (.iload_n 1, 1) := by decide +kernel
theorem dX9_quarrels_7 : decode cX9_quarrels 7 = .ok (.iadd, 1) := by decide +kernel
theorem dX9_quarrels_8 : decode cX9_quarrels 8 = .ok (.iaload, 1) := by decide +kernel
theorem dX9_quarrels_9 : decode cX9_quarrels 9 = .ok (.aload_n 0, 1) := by decide +kernel
theorem dX9_quarrels_10 : decode cX9_quarrels 10 = .ok (.getfield 13, 3) := by decide +kernel
theorem dX9_quarrels_13 : decode cX9_quarrels 13 = .ok (.bipush 21, 2) := by decide +kernel
theorem dX9_quarrels_15 : decode cX9_quarrels 15 = .ok (.iload_n 2, 1) := by decide +kernel
theorem dX9_quarrels_16 : decode cX9_quarrels 16 = .ok (.iadd, 1) := by decide +kernel
theorem dX9_quarrels_17 : decode cX9_quarrels 17 = .ok (.iaload, 1) := by decide +kernel
theorem dX9_quarrels_18 : decode cX9_quarrels 18 = .ok (.isub, 1) := by decide +kernel
theorem dX9_quarrels_19 : decode cX9_quarrels 19 = .ok (.istore_n 3, 1) := by decide +kernel
theorem dX9_quarrels_20 : decode cX9_quarrels 20 = .ok (.iload_n 1, 1) := by decide +kernel
theorem dX9_quarrels_21 : decode cX9_quarrels 21 = .ok (.iload_n 2, 1) := by decide +kernel
theorem dX9_quarrels_22 : decode cX9_quarrels 22 = .ok (.if_icmp .eq 30, 3) := by decide +kernel
theorem dX9_quarrels_25 : decode cX9_quarrels 25 = .ok (.iload_n 3, 1) := by decide +kernel
theorem dX9_quarrels_26 : decode cX9_quarrels 26 = .ok (.iconst 1, 1) := by decide +kernel
theorem dX9_quarrels_27 : decode cX9_quarrels 27 = .ok (.aload_n 0, 1) := by decide +kernel
theorem dX9_quarrels_28 : decode cX9_quarrels 28 = .ok (.getfield 13, 3) := by decide +kernel
theorem dX9_quarrels_31 : decode cX9_quarrels 31 = .ok (.iconst 2, 1) := by decide +kernel
theorem dX9_quarrels_32 : decode cX9_quarrels 32 = .ok (.iaload, 1) := by decide +kernel
theorem dX9_quarrels_33 : decode cX9_quarrels 33 = .ok (.isub, 1) := by decide +kernel
theorem dX9_quarrels_34 : decode cX9_quarrels 34 = .ok (.aload_n 0, 1) := by decide +kernel
theorem dX9_quarrels_35 : decode cX9_quarrels 35 = .ok (.getfield 13, 3) := by decide +kernel
theorem dX9_quarrels_38 : decode cX9_quarrels 38 = .ok (.iconst 2, 1) := by decide +kernel
theorem dX9_quarrels_39 : decode cX9_quarrels 39 = .ok (.iaload, 1) := by decide +kernel
theorem dX9_quarrels_40 : decode cX9_quarrels 40 = .ok (.iconst 1, 1) := by decide +kernel
theorem dX9_quarrels_41 : decode cX9_quarrels 41 = .ok (.isub, 1) := by decide +kernel
theorem dX9_quarrels_42 : decode cX9_quarrels 42 = .ok (.invokestatic 63, 3) := by decide +kernel
theorem dX9_quarrels_45 : decode cX9_quarrels 45 = .ok (.ifCond .ne 7, 3) := by decide +kernel
theorem dX9_quarrels_48 : decode cX9_quarrels 48 = .ok (.iconst 1, 1) := by decide +kernel
theorem dX9_quarrels_49 : decode cX9_quarrels 49 = .ok (.goto 4, 3) := by decide +kernel
theorem dX9_quarrels_52 : decode cX9_quarrels 52 = .ok (.iconst 0, 1) := by decide +kernel
theorem dX9_quarrels_53 : decode cX9_quarrels 53 = .ok (.ireturn, 1) := by decide +kernel
theorem dX9_thins_0 : decode cX9_thins 0 = .ok (.bipush 8, 2) := by decide +kernel
theorem dX9_thins_2 : decode cX9_thins 2 = .ok (.iload_n 1, 1) := by decide +kernel
theorem dX9_thins_3 : decode cX9_thins 3 = .ok (.imul, 1) := by decide +kernel
theorem dX9_thins_4 : decode cX9_thins 4 = .ok (.iload_n 2, 1) := by decide +kernel
theorem dX9_thins_5 : decode cX9_thins 5 = .ok (.iadd, 1) := by decide +kernel
theorem dX9_thins_6 : decode cX9_thins 6 = .ok (.istore 4, 2) := by decide +kernel
theorem dX9_thins_8 : decode cX9_thins 8 = .ok (.aload_n 0, 1) := by decide +kernel
theorem dX9_thins_9 : decode cX9_thins 9 = .ok (.getfield 22, 3) := by decide +kernel
theorem dX9_thins_12 : decode cX9_thins 12 = .ok (.iload 4, 2) := by decide +kernel
theorem dX9_thins_14 : decode cX9_thins 14 = .ok (.aload_n 0, 1) := by decide +kernel
theorem dX9_thins_15 : decode cX9_thins 15 = .ok (.getfield 22, 3) := by decide +kernel
theorem dX9_thins_18 : decode cX9_thins 18 = .ok (.iload 4, 2) := by decide +kernel
theorem dX9_thins_20 : decode cX9_thins 20 = .ok (.iaload, 1) := by decide +kernel
theorem dX9_thins_21 : decode cX9_thins 21 = .ok (.iload_n 3, 1) := by decide +kernel
theorem dX9_thins_22 : decode cX9_thins 22 = .ok (.if_icmp .le 15, 3) := by decide +kernel
theorem dX9_thins_25 : decode cX9_thins 25 = .ok (.aload_n 0, 1) := by decide +kernel
theorem dX9_thins_26 : decode cX9_thins 26 = .ok (.getfield 22, 3) := by decide +kernel
theorem dX9_thins_29 : decode cX9_thins 29 = .ok (.iload 4, 2) := by decide +kernel
theorem dX9_thins_31 : decode cX9_thins 31 = .ok (.iaload, 1) := by decide +kernel
theorem dX9_thins_32 : decode cX9_thins 32 = .ok (.iload_n 3, 1) := by decide +kernel
theorem dX9_thins_33 : decode cX9_thins 33 = .ok (.isub, 1) := by decide +kernel
theorem dX9_thins_34 : decode cX9_thins 34 = .ok (.goto 4, 3) := by decide +kernel
theorem dX9_thins_37 : decode cX9_thins 37 = .ok (.iconst 0, 1) := by decide +kernel
theorem dX9_thins_38 : decode cX9_thins 38 = .ok (.iastore, 1) := by decide +kernel
theorem dX9_thins_39 : decode cX9_thins 39 = .ok (.return_, 1) := by decide +kernel
theorem dX9_kindest_0 : decode cX9_kindest 0 = .ok (.iconst (-1), 1) := by decide +kernel
theorem dX9_kindest_1 : decode cX9_kindest 1 = .ok (.istore_n 2, 1) := by decide +kernel
theorem dX9_kindest_2 : decode cX9_kindest 2 = .ok (.iconst 0, 1) := by decide +kernel
theorem dX9_kindest_3 : decode cX9_kindest 3 = .ok (.istore_n 3, 1) := by decide +kernel
theorem dX9_kindest_4 : decode cX9_kindest 4 = .ok (.iload_n 3, 1) := by decide +kernel
theorem dX9_kindest_5 : decode cX9_kindest 5 = .ok (.aload_n 0, 1) := by decide +kernel
theorem dX9_kindest_6 : decode cX9_kindest 6 = .ok (.getfield 13, 3) := by decide +kernel
theorem dX9_kindest_9 : decode cX9_kindest 9 = .ok (.iconst 1, 1) := by decide +kernel
theorem dX9_kindest_10 : decode cX9_kindest 10 = .ok (.iaload, 1) := by decide +kernel
theorem dX9_kindest_11 : decode cX9_kindest 11 = .ok (.if_icmp .ge 54, 3) := by decide +kernel
theorem dX9_kindest_14 : decode cX9_kindest 14 = .ok (.aload_n 0, 1) := by decide +kernel
theorem dX9_kindest_15 : decode cX9_kindest 15 = .ok (.getfield 22, 3) := by decide +kernel
theorem dX9_kindest_18 : decode cX9_kindest 18 = .ok (.bipush 8, 2) := by decide +kernel
theorem dX9_kindest_20 : decode cX9_kindest 20 = .ok (.iload_n 1, 1) := by decide +kernel
theorem dX9_kindest_21 : decode cX9_kindest 21 = .ok (.imul, 1) := by decide +kernel
theorem dX9_kindest_22 : decode cX9_kindest 22 = .ok (.iload_n 3, 1) := by decide +kernel
theorem dX9_kindest_23 : decode cX9_kindest 23 = .ok (.iadd, 1) := by decide +kernel
theorem dX9_kindest_24 : decode cX9_kindest 24 = .ok (.iaload, 1) := by decide +kernel
theorem dX9_kindest_25 : decode cX9_kindest 25 = .ok (.ifCond .le 32, 3) := by decide +kernel
theorem dX9_kindest_28 : decode cX9_kindest 28 = .ok (.iload_n 2, 1) := by decide +kernel
theorem dX9_kindest_29 : decode cX9_kindest 29 = .ok (.ifCond .lt 24, 3) := by decide +kernel
theorem dX9_kindest_32 : decode cX9_kindest 32 = .ok (.aload_n 0, 1) := by decide +kernel
theorem dX9_kindest_33 : decode cX9_kindest 33 = .ok (.getfield 13, 3) := by decide +kernel
theorem dX9_kindest_36 : decode cX9_kindest 36 = .ok (.bipush 21, 2) := by decide +kernel
theorem dX9_kindest_38 : decode cX9_kindest 38 = .ok (.iload_n 3, 1) := by decide +kernel
theorem dX9_kindest_39 : decode cX9_kindest 39 = .ok (.iadd, 1) := by decide +kernel
theorem dX9_kindest_40 : decode cX9_kindest 40 = .ok (.iaload, 1) := by decide +kernel
theorem dX9_kindest_41 : decode cX9_kindest 41 = .ok (.aload_n 0, 1) := by decide +kernel
theorem dX9_kindest_42 : decode cX9_kindest 42 = .ok (.getfield 13, 3) := by decide +kernel
theorem dX9_kindest_45 : decode cX9_kindest 45 = .ok (.bipush 21, 2) := by decide +kernel
theorem dX9_kindest_47 : decode cX9_kindest 47 = .ok (.iload_n 2, 1) := by decide +kernel
theorem dX9_kindest_48 : decode cX9_kindest 48 = .ok (.iadd, 1) := by decide +kernel
theorem dX9_kindest_49 : decode cX9_kindest 49 = .ok (.iaload, 1) := by decide +kernel
theorem dX9_kindest_50 : decode cX9_kindest 50 = .ok (.if_icmp .gt 7, 3) := by decide +kernel
theorem dX9_kindest_53 : decode cX9_kindest 53 = .ok (.iload_n 3, 1) := by decide +kernel
theorem dX9_kindest_54 : decode cX9_kindest 54 = .ok (.goto 4, 3) := by decide +kernel
theorem dX9_kindest_57 : decode cX9_kindest 57 = .ok (.iload_n 2, 1) := by decide +kernel
theorem dX9_kindest_58 : decode cX9_kindest 58 = .ok (.istore_n 2, 1) := by decide +kernel
theorem dX9_kindest_59 : decode cX9_kindest 59 = .ok (.iinc 3 1, 3) := by decide +kernel
theorem dX9_kindest_62 : decode cX9_kindest 62 = .ok (.goto (-58), 3) := by decide +kernel
theorem dX9_kindest_65 : decode cX9_kindest 65 = .ok (.iload_n 2, 1) := by decide +kernel
theorem dX9_kindest_66 : decode cX9_kindest 66 = .ok (.ireturn, 1) := by decide +kernel
theorem dX9_saidBy_0 : decode cX9_saidBy 0 = .ok (.iconst 0, 1) := by decide +kernel
theorem dX9_saidBy_1 : decode cX9_saidBy 1 = .ok (.istore_n 3, 1) := by decide +kernel
theorem dX9_saidBy_2 : decode cX9_saidBy 2 = .ok (.iconst 0, 1) := by decide +kernel
theorem dX9_saidBy_3 : decode cX9_saidBy 3 = .ok (.istore 4, 2) := by decide +kernel
theorem dX9_saidBy_5 : decode cX9_saidBy 5 = .ok (.iload 4, 2) := by decide +kernel
theorem dX9_saidBy_7 : decode cX9_saidBy 7 = .ok (.aload_n 0, 1) := by decide +kernel
theorem dX9_saidBy_8 : decode cX9_saidBy 8 = .ok (.getfield 13, 3) := by decide +kernel
theorem dX9_saidBy_11 : decode cX9_saidBy 11 = .ok (.iconst 0, 1) := by decide +kernel
theorem dX9_saidBy_12 : decode cX9_saidBy 12 = .ok (.iaload, 1) := by decide +kernel
theorem dX9_saidBy_13 : decode cX9_saidBy 13 = .ok (.if_icmp .ge 31, 3) := by decide +kernel
theorem dX9_saidBy_16 : decode cX9_saidBy 16 = .ok (.iload_n 3, 1) := by decide +kernel
theorem dX9_saidBy_17 : decode cX9_saidBy 17 = .ok (.aload_n 0, 1) := by decide +kernel
theorem dX9_saidBy_18 : decode cX9_saidBy 18 = .ok (.getfield 22, 3) := by decide +kernel
theorem dX9_saidBy_21 : decode cX9_saidBy 21 = .ok (.bipush 48, 2) := by decide +kernel
theorem dX9_saidBy_23 : decode cX9_saidBy 23 = .ok (.bipush 6, 2) := by decide +kernel
theorem dX9_saidBy_25 : decode cX9_saidBy 25 = .ok (.iload 4, 2) := by decide +kernel
theorem dX9_saidBy_27 : decode cX9_saidBy 27 = .ok (.imul, 1) := by decide +kernel
theorem dX9_saidBy_28 : decode cX9_saidBy 28 = .ok (.iadd, 1) := by decide +kernel
theorem dX9_saidBy_29 : decode cX9_saidBy 29 = .ok (.iload_n 1, 1) := by decide +kernel
theorem dX9_saidBy_30 : decode cX9_saidBy 30 = .ok (.iadd, 1) := by decide +kernel
theorem dX9_saidBy_31 : decode cX9_saidBy 31 = .ok (.iaload, 1) := by decide +kernel
theorem dX9_saidBy_32 : decode cX9_saidBy 32 = .ok (.iload_n 2, 1) := by decide +kernel
theorem dX9_saidBy_33 : decode cX9_saidBy 33 = .ok (.ishr, 1) := by decide +kernel
theorem dX9_saidBy_34 : decode cX9_saidBy 34 = .ok (.iconst 1, 1) := by decide +kernel
theorem dX9_saidBy_35 : decode cX9_saidBy 35 = .ok (.iand, 1) := by decide +kernel
theorem dX9_saidBy_36 : decode cX9_saidBy 36 = .ok (.iadd, 1) := by decide +kernel
theorem dX9_saidBy_37 : decode cX9_saidBy 37 = .ok (.istore_n 3, 1) := by decide +kernel
theorem dX9_saidBy_38 : decode cX9_saidBy 38 = .ok (.iinc 4 1, 3) := by decide +kernel
theorem dX9_saidBy_41 : decode cX9_saidBy 41 = .ok (.goto (-36), 3) := by decide +kernel
theorem dX9_saidBy_44 : decode cX9_saidBy 44 = .ok (.iload_n 3, 1) := by decide +kernel
theorem dX9_saidBy_45 : decode cX9_saidBy 45 = .ok (.ireturn, 1) := by decide +kernel
set_option maxRecDepth 20000 in
theorem ggX9_comes_X9_quarrels : GoodIn wsX9_comes wsX9_quarrels := goodIn_r _ [8, 1, 9, 10, 7, 11, 23, 24, 25, 26, 27, 28, 29, 30, 31, 32, 33, 34, 35, 36, 37, 38, 39, 40, 41] (by decide +kernel) (by decide +kernel)
set_option maxRecDepth 20000 in
theorem gX9_comes_X9_quarrels : GoodIn wsX9_comes (wsV RX9 125 RX9 yX9_quarrels wsX9_quarrels) := goodIn_app (goodIn_of _ (by decide +kernel)) ggX9_comes_X9_quarrels
set_option maxRecDepth 20000 in
theorem ggX9_comes_X9_kindest : GoodIn wsX9_comes wsX9_kindest := goodIn_r _ [15, 1, 2, 23, 24, 25, 26, 27, 28, 29, 30, 31, 32, 33, 34, 35, 36, 37, 38, 39, 40, 41] (by decide +kernel) (by decide +kernel)
set_option maxRecDepth 20000 in
theorem gX9_comes_X9_kindest : GoodIn wsX9_comes (wsV RX9 128 RX9 yX9_kindest wsX9_kindest) := goodIn_app (goodIn_of _ (by decide +kernel)) ggX9_comes_X9_kindest
set_option maxRecDepth 20000 in
theorem ggX9_comes_X9_lodgers : GoodIn wsX9_comes wsX9_lodgers := goodIn_r _ [19, 2, 23, 24, 25, 26, 27, 28, 29, 30, 31, 32, 33, 34, 35, 36, 37, 38, 39, 40, 41] (by decide +kernel) (by decide +kernel)
set_option maxRecDepth 20000 in
theorem gX9_comes_X9_lodgers : GoodIn wsX9_comes (wsV RX9 112 RX9 yX9_lodgers wsX9_lodgers) := goodIn_app (goodIn_of _ (by decide +kernel)) ggX9_comes_X9_lodgers
set_option maxRecDepth 20000 in
theorem ggX9_comes_X9_ones : GoodIn wsX9_comes wsX9_ones := goodIn_r _ [22] (by decide +kernel) (by decide +kernel)
set_option maxRecDepth 20000 in
theorem gX9_comes_X9_ones : GoodIn wsX9_comes (va_wsS RX9 131 yX9_ones wsX9_ones) := goodIn_app (goodIn_of _ (by decide +kernel)) ggX9_comes_X9_ones
theorem dX9_comes_0 : decode cX9_comes 0 = .ok (.iconst 1, 1) := by decide +kernel
theorem dX9_comes_1 : decode cX9_comes 1 = .ok (.istore 4, 2) := by decide +kernel
theorem dX9_comes_3 : decode cX9_comes 3 = .ok (.iconst 0, 1) := by decide +kernel
theorem dX9_comes_4 : decode cX9_comes 4 = .ok (.istore 5, 2) := by decide +kernel
theorem dX9_comes_6 : decode cX9_comes 6 = .ok (.iload 5, 2) := by decide +kernel
theorem dX9_comes_8 : decode cX9_comes 8 = .ok (.aload_n 0, 1) := by decide +kernel
theorem dX9_comes_9 : decode cX9_comes 9 = .ok (.getfield 13, 3) := by decide +kernel
theorem dX9_comes_12 : decode cX9_comes 12 = .ok (.iconst 1, 1) := by decide +kernel
theorem dX9_comes_13 : decode cX9_comes 13 = .ok (.iaload, 1) := by decide +kernel
theorem dX9_comes_14 : decode cX9_comes 14 = .ok (.if_icmp .ge 58, 3) := by decide +kernel
theorem dX9_comes_17 : decode cX9_comes 17 = .ok (.iload 4, 2) := by decide +kernel
theorem dX9_comes_19 : decode cX9_comes 19 = .ok (.ifCond .eq 44, 3) := by decide +kernel
theorem dX9_comes_22 : decode cX9_comes 22 = .ok (.aload_n 0, 1) := by decide +kernel
theorem dX9_comes_23 : decode cX9_comes 23 = .ok (.getfield 13, 3) := by decide +kernel
theorem dX9_comes_26 : decode cX9_comes 26 = .ok (.iconst 3, 1) := by decide +kernel
theorem dX9_comes_27 : decode cX9_comes 27 = .ok (.iload_n 1, 1) := by decide +kernel
theorem dX9_comes_28 : decode cX9_comes 28 = .ok (.iadd, 1) := by decide +kernel
theorem dX9_comes_29 : decode cX9_comes 29 = .ok (.iaload, 1) := by decide +kernel
theorem dX9_comes_30 : decode cX9_comes 30 = .ok (.iconst 2, 1) := by decide +kernel
theorem dX9_comes_31 : decode cX9_comes 31 = .ok (.if_icmp .ne 28, 3) := by decide +kernel
theorem dX9_comes_34 : decode cX9_comes 34 = .ok (.aload_n 0, 1) := by decide +kernel
theorem dX9_comes_35 : decode cX9_comes 35 = .ok (.getfield 22, 3) := by decide +kernel
theorem dX9_comes_38 : decode cX9_comes 38 = .ok (.bipush 8, 2) := by decide +kernel
theorem dX9_comes_40 : decode cX9_comes 40 = .ok (.iload_n 1, 1) := by decide +kernel
theorem dX9_comes_41 : decode cX9_comes 41 = .ok (.imul, 1) := by decide +kernel
theorem dX9_comes_42 : decode cX9_comes 42 = .ok (.iload 5, 2) := by decide +kernel
theorem dX9_comes_44 : decode cX9_comes 44 = .ok (.iadd, 1) := by decide +kernel
theorem dX9_comes_45 : decode cX9_comes 45 = .ok (.iaload, 1) := by decide +kernel
theorem dX9_comes_46 : decode cX9_comes 46 = .ok (.ifCond .eq 13, 3) := by decide +kernel
theorem dX9_comes_49 : decode cX9_comes 49 = .ok (.aload_n 0, 1) := by decide +kernel
theorem dX9_comes_50 : decode cX9_comes 50 = .ok (.iload_n 2, 1) := by decide +kernel
theorem dX9_comes_51 : decode cX9_comes 51 = .ok (.iload 5, 2) := by decide +kernel
theorem dX9_comes_53 : decode cX9_comes 53 = .ok (.invokevirtual 125, 3) := by decide +kernel
theorem dX9_comes_56 : decode cX9_comes 56 = .ok (.ifCond .ne 7, 3) := by decide +kernel
theorem dX9_comes_59 : decode cX9_comes 59 = .ok (.iconst 1, 1) := by decide +kernel
theorem dX9_comes_60 : decode cX9_comes 60 = .ok (.goto 4, 3) := by decide +kernel
theorem dX9_comes_63 : decode cX9_comes 63 = .ok (.iconst 0, 1) := by decide +kernel
theorem dX9_comes_64 : decode cX9_comes 64 = .ok (.istore 4, 2) := by decide +kernel
theorem dX9_comes_66 : decode cX9_comes 66 = .ok (.iinc 5 1, 3) := by decide +kernel
theorem dX9_comes_69 : decode cX9_comes 69 = .ok (.goto (-63), 3) := by decide +kernel
theorem dX9_comes_72 : decode cX9_comes 72 = .ok (.aload_n 0, 1) := by decide +kernel
theorem dX9_comes_73 : decode cX9_comes 73 = .ok (.iload_n 1, 1) := by decide +kernel
theorem dX9_comes_74 : decode cX9_comes 74 = .ok (.invokevirtual 128, 3) := by decide +kernel
theorem dX9_comes_77 : decode cX9_comes 77 = .ok (.istore 5, 2) := by decide +kernel
theorem dX9_comes_79 : decode cX9_comes 79 = .ok (.iload 4, 2) := by decide +kernel
theorem dX9_comes_81 : decode cX9_comes 81 = .ok (.ifCond .eq 38, 3) := by decide +kernel
theorem dX9_comes_84 : decode cX9_comes 84 = .ok (.aload_n 0, 1) := by decide +kernel
theorem dX9_comes_85 : decode cX9_comes 85 = .ok (.iload_n 1, 1) := by decide +kernel
theorem dX9_comes_86 : decode cX9_comes 86 = .ok (.invokevirtual 112, 3) := by decide +kernel
theorem dX9_comes_89 : decode cX9_comes 89 = .ok (.invokestatic 131, 3) := by decide +kernel
theorem dX9_comes_92 : decode cX9_comes 92 = .ok (.aload_n 0, 1) := by decide +kernel
theorem dX9_comes_93 : decode cX9_comes 93 = .ok (.getfield 13, 3) := by decide +kernel
theorem dX9_comes_96 : decode cX9_comes 96 = .ok (.bipush 9, 2) := by decide +kernel
theorem dX9_comes_98 : decode cX9_comes 98 = .ok (.iload_n 1, 1) := by decide +kernel
theorem dX9_comes_99 : decode cX9_comes 99 = .ok (.iadd, 1) := by decide +kernel
theorem dX9_comes_100 : decode cX9_comes 100 = .ok (.iaload, 1) := by decide +kernel
theorem dX9_comes_101 : decode cX9_comes 101 = .ok (.if_icmp .ge 18, 3) := by decide +kernel
theorem dX9_comes_104 : decode cX9_comes 104 = .ok (.aload_n 0, 1) := by decide +kernel
theorem dX9_comes_105 : decode cX9_comes 105 = .ok (.getfield 22, 3) := by decide +kernel
theorem dX9_comes_108 : decode cX9_comes 108 = .ok (.bipush 8, 2) := by decide +kernel
theorem dX9_comes_110 : decode cX9_comes 110 = .ok (.iload_n 1, 1) := by decide +kernel
theorem dX9_comes_111 : decode cX9_comes 111 = .ok (.imul, 1) := by decide +kernel
theorem dX9_comes_112 : decode cX9_comes 112 = .ok (.iload_n 2, 1) := by decide +kernel
theorem dX9_comes_113 : decode cX9_comes 113 = .ok (.iadd, 1) := by decide +kernel
theorem dX9_comes_114 : decode cX9_comes 114 = .ok (.iload_n 3, 1) := by decide +kernel
theorem dX9_comes_115 : decode cX9_comes 115 = .ok (.iastore, 1) := by decide +kernel
theorem dX9_comes_116 : decode cX9_comes 116 = .ok (.goto 100, 3) := by decide +kernel
theorem dX9_comes_119 : decode cX9_comes 119 = .ok (.iload 4, 2) := by decide +kernel
theorem dX9_comes_121 : decode cX9_comes 121 = .ok (.ifCond .eq 58, 3) := by decide +kernel
theorem dX9_comes_124 : decode cX9_comes 124 = .ok (.iload 5, 2) := by decide +kernel
theorem dX9_comes_126 : decode cX9_comes 126 = .ok (.ifCond .lt 53, 3) := by decide +kernel
theorem dX9_comes_129 : decode cX9_comes 129 = .ok (.aload_n 0, 1) := by decide +kernel
theorem dX9_comes_130 : decode cX9_comes 130 = .ok (.getfield 13, 3) := by decide +kernel
theorem dX9_comes_133 : decode cX9_comes 133 = .ok (.bipush 21, 2) := by decide +kernel
theorem dX9_comes_135 : decode cX9_comes 135 = .ok (.iload 5, 2) := by decide +kernel
theorem dX9_comes_137 : decode cX9_comes 137 = .ok (.iadd, 1) := by decide +kernel
theorem dX9_comes_138 : decode cX9_comes 138 = .ok (.iaload, 1) := by decide +kernel
theorem dX9_comes_139 : decode cX9_comes 139 = .ok (.aload_n 0, 1) := by decide +kernel
theorem dX9_comes_140 : decode cX9_comes 140 = .ok (.getfield 13, 3) := by decide +kernel
theorem dX9_comes_143 : decode cX9_comes 143 = .ok (.bipush 21, 2) := by decide +kernel
theorem dX9_comes_145 : decode cX9_comes 145 = .ok (.iload_n 2, 1) := by decide +kernel
theorem dX9_comes_146 : decode cX9_comes 146 = .ok (.iadd, 1) := by decide +kernel
theorem dX9_comes_147 : decode cX9_comes 147 = .ok (.iaload, 1) := by decide +kernel
theorem dX9_comes_148 : decode cX9_comes 148 = .ok (.if_icmp .ge 31, 3) := by decide +kernel
theorem dX9_comes_151 : decode cX9_comes 151 = .ok (.aload_n 0, 1) := by decide +kernel
theorem dX9_comes_152 : decode cX9_comes 152 = .ok (.getfield 22, 3) := by decide +kernel
theorem dX9_comes_155 : decode cX9_comes 155 = .ok (.bipush 8, 2) := by decide +kernel
theorem dX9_comes_157 : decode cX9_comes 157 = .ok (.iload_n 1, 1) := by decide +kernel
theorem dX9_comes_158 : decode cX9_comes 158 = .ok (.imul, 1) := by decide +kernel
theorem dX9_comes_159 : decode cX9_comes 159 = .ok (.iload 5, 2) := by decide +kernel
theorem dX9_comes_161 : decode cX9_comes 161 = .ok (.iadd, 1) := by decide +kernel
theorem dX9_comes_162 : decode cX9_comes 162 = .ok (.iconst 0, 1) := by decide +kernel
theorem dX9_comes_163 : decode cX9_comes 163 = .ok (.iastore, 1) := by decide +kernel
theorem dX9_comes_164 : decode cX9_comes 164 = .ok (.aload_n 0, 1) := by decide +kernel
theorem dX9_comes_165 : decode cX9_comes 165 = .ok (.getfield 22, 3) := by decide +kernel
theorem dX9_comes_168 : decode cX9_comes 168 = .ok (.bipush 8, 2) := by decide +kernel
theorem dX9_comes_170 : decode cX9_comes 170 = .ok (.iload_n 1, 1) := by decide +kernel
theorem dX9_comes_171 : decode cX9_comes 171 = .ok (.imul, 1) := by decide +kernel
theorem dX9_comes_172 : decode cX9_comes 172 = .ok (.iload_n 2, 1) := by decide +kernel
theorem dX9_comes_173 : decode cX9_comes 173 = .ok (.iadd, 1) := by decide +kernel
theorem dX9_comes_174 : decode cX9_comes 174 = .ok (.iload_n 3, 1) := by decide +kernel
theorem dX9_comes_175 : decode cX9_comes 175 = .ok (.iastore, 1) := by decide +kernel
theorem dX9_comes_176 : decode cX9_comes 176 = .ok (.goto 40, 3) := by decide +kernel
theorem dX9_comes_179 : decode cX9_comes 179 = .ok (.aload_n 0, 1) := by decide +kernel
theorem dX9_comes_180 : decode cX9_comes 180 = .ok (.getfield 22, 3) := by decide +kernel
theorem dX9_comes_183 : decode cX9_comes 183 = .ok (.bipush 85, 2) := by decide +kernel
theorem dX9_comes_185 : decode cX9_comes 185 = .ok (.dup2, 1) := by decide +kernel
theorem dX9_comes_186 : decode cX9_comes 186 = .ok (.iaload, 1) := by decide +kernel
theorem dX9_comes_187 : decode cX9_comes 187 = .ok (.iconst 1, 1) := by decide +kernel
theorem dX9_comes_188 : decode cX9_comes 188 = .ok (.iadd, 1) := by decide +kernel
theorem dX9_comes_189 : decode cX9_comes 189 = .ok (.iastore, 1) := by decide +kernel
theorem dX9_comes_190 : decode cX9_comes 190 = .ok (.aload_n 0, 1) := by decide +kernel
theorem dX9_comes_191 : decode cX9_comes 191 = .ok (.aload_n 0, 1) := by decide +kernel
theorem dX9_comes_192 : decode cX9_comes 192 = .ok (.getfield 134, 3) := by decide +kernel
theorem dX9_comes_195 : decode cX9_comes 195 = .ok (.bipush (-4), 2) := by decide +kernel
theorem dX9_comes_197 : decode cX9_comes 197 = .ok (.if_icmp .ne 12, 3) := by decide +kernel
theorem dX9_comes_200 : decode cX9_comes 200 = .ok (.bipush 10, 2) := by decide +kernel
theorem dX9_comes_202 : decode cX9_comes 202 = .ok (.iload_n 1, 1) := by decide +kernel
theorem dX9_comes_203 : decode cX9_comes 203 = .ok (.imul, 1) := by decide +kernel
theorem dX9_comes_204 : decode cX9_comes 204 = .ok (.iload_n 2, 1) := by decide +kernel
theorem dX9_comes_205 : decode cX9_comes 205 = .ok (.iadd, 1) := by decide +kernel
theorem dX9_comes_206 : decode cX9_comes 206 = .ok (.goto 7, 3) := by decide +kernel
theorem dX9_comes_209 : decode cX9_comes 209 = .ok (.aload_n 0, 1) := by decide +kernel
theorem dX9_comes_210 : decode cX9_comes 210 = .ok (.getfield 134, 3) := by decide +kernel
theorem dX9_comes_213 : decode cX9_comes 213 = .ok (.putfield 134, 3) := by decide +kernel
theorem dX9_comes_216 : decode cX9_comes 216 = .ok (.return_, 1) := by decide +kernel
set_option maxRecDepth 20000 in
theorem ggX9_eats_X9_isHungry : GoodIn wsX9_eats wsX9_isHungry := goodIn_r _ [7, 1, 8, 9, 10, 6, 11, 2, 16, 17, 18, 19, 20, 21, 22, 23, 24, 25, 26, 27, 28, 29, 30, 31, 32, 33, 34] (by decide +kernel) (by decide +kernel)
set_option maxRecDepth 20000 in
theorem gX9_eats_X9_isHungry : GoodIn wsX9_eats (wsV RX9 115 RX9 yX9_isHungry wsX9_isHungry) := goodIn_app (goodIn_of _ (by decide +kernel)) ggX9_eats_X9_isHungry
set_option maxRecDepth 20000 in
theorem ggX9_eats_X9_thins : GoodIn wsX9_eats wsX9_thins := goodIn_r _ [15, 2, 16, 17, 18, 19, 20, 21, 22, 23, 24, 25, 26, 27, 28, 29, 30, 31, 32, 33, 34] (by decide +kernel) (by decide +kernel)
set_option maxRecDepth 20000 in
theorem gX9_eats_X9_thins : GoodIn wsX9_eats (wsV RX9 137 RX9 yX9_thins wsX9_thins) := goodIn_app (goodIn_of _ (by decide +kernel)) ggX9_eats_X9_thins
theorem dX9_eats_0 : decode cX9_eats 0 = .ok (.aload_n 0, 1) := by decide +kernel
theorem dX9_eats_1 : decode cX9_eats 1 = .ok (.iload_n 1, 1) := by decide +kernel
theorem dX9_eats_2 : decode cX9_eats 2 = .ok (.invokevirtual 115, 3) := by decide +kernel
theorem dX9_eats_5 : decode cX9_eats 5 = .ok (.ifCond .eq 61, 3) := by decide +kernel
theorem dX9_eats_8 : decode cX9_eats 8 = .ok (.iconst 0, 1) := by decide +kernel
theorem dX9_eats_9 : decode cX9_eats 9 = .ok (.istore_n 2, 1) := by decide +kernel
theorem dX9_eats_10 : decode cX9_eats 10 = .ok (.iconst 1, 1) := by decide +kernel
theorem dX9_eats_11 : decode cX9_eats 11 = .ok (.istore_n 3, 1) := by decide +kernel
theorem dX9_eats_12 : decode cX9_eats 12 = .ok (.iload_n 3, 1) := by decide +kernel
theorem dX9_eats_13 : decode cX9_eats 13 = .ok (.aload_n 0, 1) := by decide +kernel
theorem dX9_eats_14 : decode cX9_eats 14 = .ok (.getfield 13, 3) := by decide +kernel
theorem dX9_eats_17 : decode cX9_eats 17 = .ok (.iconst 1, 1) := by decide +kernel
theorem dX9_eats_18 : decode cX9_eats 18 = .ok (.iaload, 1) := by decide +kernel
theorem dX9_eats_19 : decode cX9_eats 19 = .ok (.if_icmp .ge 40, 3) := by decide +kernel
theorem dX9_eats_22 : decode cX9_eats 22 = .ok (.aload_n 0, 1) := by decide +kernel
theorem dX9_eats_23 : decode cX9_eats 23 = .ok (.getfield 22, 3) := by decide +kernel
theorem dX9_eats_26 : decode cX9_eats 26 = .ok (.bipush 8, 2) := by decide +kernel
theorem dX9_eats_28 : decode cX9_eats 28 = .ok (.iload_n 1, 1) := by decide +kernel
theorem dX9_eats_29 : decode cX9_eats 29 = .ok (.imul, 1) := by decide +kernel
theorem dX9_eats_30 : decode cX9_eats 30 = .ok (.iload_n 3, 1) := by decide +kernel
theorem dX9_eats_31 : decode cX9_eats 31 = .ok (.iadd, 1) := by decide +kernel
theorem dX9_eats_32 : decode cX9_eats 32 = .ok (.iaload, 1) := by decide +kernel
theorem dX9_eats_33 : decode cX9_eats 33 = .ok (.aload_n 0, 1) := by decide +kernel
theorem dX9_eats_34 : decode cX9_eats 34 = .ok (.getfield 22, 3) := by decide +kernel
theorem dX9_eats_37 : decode cX9_eats 37 = .ok (.bipush 8, 2) := by decide +kernel
theorem dX9_eats_39 : decode cX9_eats 39 = .ok (.iload_n 1, 1) := by decide +kernel
theorem dX9_eats_40 : decode cX9_eats 40 = .ok (.imul, 1) := by decide +kernel
theorem dX9_eats_41 : decode cX9_eats 41 = .ok (.iload_n 2, 1) := by decide +kernel
theorem dX9_eats_42 : decode cX9_eats 42 = .ok (.iadd, 1) := by decide +kernel
theorem dX9_eats_43 : decode cX9_eats 43 = .ok (.iaload, 1) := by decide +kernel
theorem dX9_eats_44 : decode cX9_eats 44 = .ok (.if_icmp .le 7, 3) := by decide +kernel
theorem dX9_eats_47 : decode cX9_eats 47 = .ok (.iload_n 3, 1) := by decide +kernel
theorem dX9_eats_48 : decode cX9_eats 48 = .ok (.goto 4, 3) := by decide +kernel
theorem dX9_eats_51 : decode cX9_eats 51 = .ok (.iload_n 2, 1) := by decide +kernel
theorem dX9_eats_52 : decode cX9_eats 52 = .ok (.istore_n 2, 1) := by decide +kernel
theorem dX9_eats_53 : decode cX9_eats 53 = .ok (.iinc 3 1, 3) := by decide +kernel
theorem dX9_eats_56 : decode cX9_eats 56 = .ok (.goto (-44), 3) := by decide +kernel
theorem dX9_eats_59 : decode cX9_eats 59 = .ok (.aload_n 0, 1) := by decide +kernel
theorem dX9_eats_60 : decode cX9_eats 60 = .ok (.iload_n 1, 1) := by decide +kernel
theorem dX9_eats_61 : decode cX9_eats 61 = .ok (.iload_n 2, 1) := by decide +kernel
theorem dX9_eats_62 : decode cX9_eats 62 = .ok (.iconst 1, 1) := by decide +kernel
theorem dX9_eats_63 : decode cX9_eats 63 = .ok (.invokevirtual 137, 3) := by decide +kernel
theorem dX9_eats_66 : decode cX9_eats 66 = .ok (.return_, 1) := by decide +kernel
set_option maxRecDepth 20000 in
theorem ggX9_goesBy_X9_saidBy : GoodIn wsX9_goesBy wsX9_saidBy := goodIn_r _ [7, 1, 2, 47, 48, 49, 50, 51, 52, 53, 54, 55, 56, 57, 58, 59, 60, 61, 62, 63, 64, 65] (by decide +kernel) (by decide +kernel)
set_option maxRecDepth 20000 in
theorem gX9_goesBy_X9_saidBy : GoodIn wsX9_goesBy (wsV RX9 140 RX9 yX9_saidBy wsX9_saidBy) := goodIn_app (goodIn_of _ (by decide +kernel)) ggX9_goesBy_X9_saidBy
set_option maxRecDepth 20000 in
theorem ggX9_goesBy_X9_thins : GoodIn wsX9_goesBy wsX9_thins := goodIn_r _ [11, 2, 47, 48, 49, 50, 51, 52, 53, 54, 55, 56, 57, 58, 59, 60, 61, 62, 63, 64, 65] (by decide +kernel) (by decide +kernel)
set_option maxRecDepth 20000 in
theorem gX9_goesBy_X9_thins : GoodIn wsX9_goesBy (wsV RX9 137 RX9 yX9_thins wsX9_thins) := goodIn_app (goodIn_of _ (by decide +kernel)) ggX9_goesBy_X9_thins
set_option maxRecDepth 20000 in
theorem ggX9_goesBy_X9_comes : GoodIn wsX9_goesBy wsX9_comes := goodIn_r _ [15, 1, 2, 16, 17, 18, 19, 6, 20, 21, 22, 23, 24, 25, 26, 27, 28, 29, 30, 31, 32, 33, 34, 47, 48, 49, 50, 51, 52, 53, 54, 55, 56, 57, 58, 59, 60, 61, 62, 63, 64, 65] (by decide +kernel) (by decide +kernel)
set_option maxRecDepth 20000 in
theorem gX9_goesBy_X9_comes : GoodIn wsX9_goesBy (wsV RX9 143 RX9 yX9_comes wsX9_comes) := goodIn_app (goodIn_of _ (by decide +kernel)) ggX9_goesBy_X9_comes
set_option maxRecDepth 20000 in
theorem ggX9_goesBy_X9_eats : GoodIn wsX9_goesBy wsX9_eats := goodIn_r _ [38, 1, 2, 39, 40, 41, 6, 42, 43, 44, 45, 46, 8, 9, 10, 11, 47, 48, 49, 50, 51, 52, 53, 54, 55, 56, 57, 58, 59, 60, 61, 62, 63, 64, 65] (by decide +kernel) (by decide +kernel)
set_option maxRecDepth 20000 in
theorem gX9_goesBy_X9_eats : GoodIn wsX9_goesBy (wsV RX9 146 RX9 yX9_eats wsX9_eats) := goodIn_app (goodIn_of _ (by decide +kernel)) ggX9_goesBy_X9_eats
theorem dX9_goesBy_0 : decode cX9_goesBy 0 = .ok (.iconst 0, 1) := by decide +kernel
theorem dX9_goesBy_1 : decode cX9_goesBy 1 = .ok (.istore_n 2, 1) := by decide +kernel
theorem dX9_goesBy_2 : decode cX9_goesBy 2 = .ok (.iload_n 2, 1) := by decide +kernel
theorem dX9_goesBy_3 : decode cX9_goesBy 3 = .ok (.aload_n 0, 1) := by decide +kernel
theorem dX9_goesBy_4 : decode cX9_goesBy 4 = .ok (.getfield 13, 3) := by decide +kernel
theorem dX9_goesBy_7 : decode cX9_goesBy 7 = .ok (.iconst 1, 1) := by decide +kernel
theorem dX9_goesBy_8 : decode cX9_goesBy 8 = .ok (.iaload, 1) := by decide +kernel
theorem dX9_goesBy_9 : decode cX9_goesBy 9 = .ok (.if_icmp .ge 135, 3) := by decide +kernel
theorem dX9_goesBy_12 : decode cX9_goesBy 12 = .ok (.aload_n 0, 1) := by decide +kernel
theorem dX9_goesBy_13 : decode cX9_goesBy 13 = .ok (.getfield 13, 3) := by decide +kernel
theorem dX9_goesBy_16 : decode cX9_goesBy 16 = .ok (.iconst 3, 1) := by decide +kernel
theorem dX9_goesBy_17 : decode cX9_goesBy 17 = .ok (.iload_n 1, 1) := by decide +kernel
theorem dX9_goesBy_18 : decode cX9_goesBy 18 = .ok (.iadd, 1) := by decide +kernel
theorem dX9_goesBy_19 : decode cX9_goesBy 19 = .ok (.iaload, 1) := by decide +kernel
theorem dX9_goesBy_20 : decode cX9_goesBy 20 = .ok (.iconst 4, 1) := by decide +kernel
theorem dX9_goesBy_21 : decode cX9_goesBy 21 = .ok (.if_icmp .eq 123, 3) := by decide +kernel
theorem dX9_goesBy_24 : decode cX9_goesBy 24 = .ok (.aload_n 0, 1) := by decide +kernel
theorem dX9_goesBy_25 : decode cX9_goesBy 25 = .ok (.iload_n 1, 1) := by decide +kernel
theorem dX9_goesBy_26 : decode cX9_goesBy 26 = .ok (.iload_n 2, 1) := by decide +kernel
theorem dX9_goesBy_27 : decode cX9_goesBy 27 = .ok (.invokevirtual 140, 3) := by decide +kernel
theorem dX9_goesBy_30 : decode cX9_goesBy 30 = .ok (.istore_n 3, 1) := by decide +kernel
theorem dX9_goesBy_31 : decode cX9_goesBy 31 = .ok (.bipush 8, 2) := by decide +kernel
theorem dX9_goesBy_33 : decode cX9_goesBy 33 = .ok (.iload_n 1, 1) := by decide +kernel
theorem dX9_goesBy_34 : decode cX9_goesBy 34 = .ok (.imul, 1) := by decide +kernel
theorem dX9_goesBy_35 : decode cX9_goesBy 35 = .ok (.iload_n 2, 1) := by decide +kernel
theorem dX9_goesBy_36 : decode cX9_goesBy 36 = .ok (.iadd, 1) := by decide +kernel
theorem dX9_goesBy_37 : decode cX9_goesBy 37 = .ok (.istore 4, 2) := by decide +kernel
theorem dX9_goesBy_39 : decode cX9_goesBy 39 = .ok (.aload_n 0, 1) := by decide +kernel
theorem dX9_goesBy_40 : decode cX9_goesBy 40 = .ok (.getfield 22, 3) := by decide +kernel
theorem dX9_goesBy_43 : decode cX9_goesBy 43 = .ok (.iload 4, 2) := by decide +kernel
theorem dX9_goesBy_45 : decode cX9_goesBy 45 = .ok (.iaload, 1) := by decide +kernel
theorem dX9_goesBy_46 : decode cX9_goesBy 46 = .ok (.ifCond .le 45, 3) := by decide +kernel
theorem dX9_goesBy_49 : decode cX9_goesBy 49 = .ok (.iload_n 3, 1) := by decide +kernel
theorem dX9_goesBy_50 : decode cX9_goesBy 50 = .ok (.ifCond .le 41, 3) := by decide +kernel
theorem dX9_goesBy_53 : decode cX9_goesBy 53 = .ok (.aload_n 0, 1) := by decide +kernel
theorem dX9_goesBy_54 : decode cX9_goesBy 54 = .ok (.getfield 22, 3) := by decide +kernel
theorem dX9_goesBy_57 : decode cX9_goesBy 57 = .ok (.iload 4, 2) := by decide +kernel
theorem dX9_goesBy_59 : decode cX9_goesBy 59 = .ok (.aload_n 0, 1) := by decide +kernel
theorem dX9_goesBy_60 : decode cX9_goesBy 60 = .ok (.getfield 22, 3) := by decide +kernel
theorem dX9_goesBy_63 : decode cX9_goesBy 63 = .ok (.iload 4, 2) := by decide +kernel
theorem dX9_goesBy_65 : decode cX9_goesBy 65 = .ok (.iaload, 1) := by decide +kernel
theorem dX9_goesBy_66 : decode cX9_goesBy 66 = .ok (.iload_n 3, 1) := by decide +kernel
theorem dX9_goesBy_67 : decode cX9_goesBy 67 = .ok (.iadd, 1) := by decide +kernel
theorem dX9_goesBy_68 : decode cX9_goesBy 68 = .ok (.bipush 9, 2) := by decide +kernel
theorem dX9_goesBy_70 : decode cX9_goesBy 70 = .ok (.if_icmp .le 8, 3) := by decide +kernel
theorem dX9_goesBy_73 : decode cX9_goesBy 73 = .ok (.bipush 9, 2) := by decide +kernel
theorem dX9_goesBy_75 : decode cX9_goesBy 75 = .ok (.goto 12, 3) := by decide +kernel
theorem dX9_goesBy_78 : decode cX9_goesBy 78 = .ok (.aload_n 0, 1) := by decide +kernel
theorem dX9_goesBy_79 : decode cX9_goesBy 79 = .ok (.getfield 22, 3) := by decide +kernel
theorem dX9_goesBy_82 : decode cX9_goesBy 82 = .ok (.iload 4, 2) := by decide +kernel
theorem dX9_goesBy_84 : decode cX9_goesBy 84 = .ok (.iaload, 1) := by decide +kernel
theorem dX9_goesBy_85 : decode cX9_goesBy 85 = .ok (.iload_n 3, 1) := by decide +kernel
theorem dX9_goesBy_86 : decode cX9_goesBy 86 = .ok (.iadd, 1) := by decide +kernel
theorem dX9_goesBy_87 : decode cX9_goesBy 87 = .ok (.iastore, 1) := by decide +kernel
theorem dX9_goesBy_88 : decode cX9_goesBy 88 = .ok (.goto 50, 3) := by decide +kernel
theorem dX9_goesBy_91 : decode cX9_goesBy 91 = .ok (.aload_n 0, 1) := by decide +kernel
theorem dX9_goesBy_92 : decode cX9_goesBy 92 = .ok (.getfield 22, 3) := by decide +kernel
theorem dX9_goesBy_95 : decode cX9_goesBy 95 = .ok (.iload 4, 2) := by decide +kernel
theorem dX9_goesBy_97 : decode cX9_goesBy 97 = .ok (.iaload, 1) := by decide +kernel
theorem dX9_goesBy_98 : decode cX9_goesBy 98 = .ok (.ifCond .le 29, 3) := by decide +kernel
theorem dX9_goesBy_101 : decode cX9_goesBy 101 = .ok (.aload_n 0, 1) := by decide +kernel
theorem dX9_goesBy_102 : decode cX9_goesBy 102 = .ok (.iload_n 1, 1) := by decide +kernel
theorem dX9_goesBy_103 : decode cX9_goesBy 103 = .ok (.iload_n 2, 1) := by decide +kernel
theorem dX9_goesBy_104 : decode cX9_goesBy 104 = .ok (.aload_n 0, 1) := by decide +kernel
theorem dX9_goesBy_105 : decode cX9_goesBy 105 = .ok (.getfield 13, 3) := by decide +kernel
theorem dX9_goesBy_108 : decode cX9_goesBy 108 = .ok (.iconst 3, 1) := by decide +kernel
theorem dX9_goesBy_109 : decode cX9_goesBy 109 = .ok (.iload_n 1, 1) := by decide +kernel
theorem dX9_goesBy_110 : decode cX9_goesBy 110 = .ok (.iadd, 1) := by decide +kernel
theorem dX9_goesBy_111 : decode cX9_goesBy 111 = .ok (.iaload, 1) := by decide +kernel
theorem dX9_goesBy_112 : decode cX9_goesBy 112 = .ok (.iconst 3, 1) := by decide +kernel
theorem dX9_goesBy_113 : decode cX9_goesBy 113 = .ok (.if_icmp .ne 7, 3) := by decide +kernel
theorem dX9_goesBy_116 : decode cX9_goesBy 116 = .ok (.iconst 2, 1) := by decide +kernel
theorem dX9_goesBy_117 : decode cX9_goesBy 117 = .ok (.goto 4, 3) := by decide +kernel
theorem dX9_goesBy_120 : decode cX9_goesBy 120 = .ok (.iconst 1, 1) := by decide +kernel
theorem dX9_goesBy_121 : decode cX9_goesBy 121 = .ok (.invokevirtual 137, 3) := by decide +kernel
theorem dX9_goesBy_124 : decode cX9_goesBy 124 = .ok (.goto 14, 3) := by decide +kernel
theorem dX9_goesBy_127 : decode cX9_goesBy 127 = .ok (.iload_n 3, 1) := by decide +kernel
theorem dX9_goesBy_128 : decode cX9_goesBy 128 = .ok (.ifCond .le 10, 3) := by decide +kernel
theorem dX9_goesBy_131 : decode cX9_goesBy 131 = .ok (.aload_n 0, 1) := by decide +kernel
theorem dX9_goesBy_132 : decode cX9_goesBy 132 = .ok (.iload_n 1, 1) := by decide +kernel
theorem dX9_goesBy_133 : decode cX9_goesBy 133 = .ok (.iload_n 2, 1) := by decide +kernel
theorem dX9_goesBy_134 : decode cX9_goesBy 134 = .ok (.iload_n 3, 1) := by decide +kernel
theorem dX9_goesBy_135 : decode cX9_goesBy 135 = .ok (.invokevirtual 143, 3) := by decide +kernel
theorem dX9_goesBy_138 : decode cX9_goesBy 138 = .ok (.iinc 2 1, 3) := by decide +kernel
theorem dX9_goesBy_141 : decode cX9_goesBy 141 = .ok (.goto (-139), 3) := by decide +kernel
theorem dX9_goesBy_144 : decode cX9_goesBy 144 = .ok (.aload_n 0, 1) := by decide +kernel
theorem dX9_goesBy_145 : decode cX9_goesBy 145 = .ok (.iload_n 1, 1) := by decide +kernel
theorem dX9_goesBy_146 : decode cX9_goesBy 146 = .ok (.invokevirtual 146, 3) := by decide +kernel
theorem dX9_goesBy_149 : decode cX9_goesBy 149 = .ok (.return_, 1) := by decide +kernel
set_option maxRecDepth 20000 in
theorem ggX9_passes_X9_goesBy : GoodIn wsX9_passes wsX9_goesBy := goodIn_r _ [8, 2, 3, 9, 10, 11, 7, 12, 13, 14, 15, 16, 17, 18, 19, 20, 1, 21, 22, 23, 24, 25, 26, 27, 28, 29, 30, 31, 32, 33, 34, 35, 36, 37, 38, 39, 40, 41, 42, 43, 44, 45, 46, 47, 48, 49, 50, 51, 52, 53, 54, 55, 56, 57, 58, 59, 60, 61, 62, 63, 64, 65, 66, 67, 68, 69] (by decide +kernel) (by decide +kernel)
set_option maxRecDepth 20000 in
theorem gX9_passes_X9_goesBy : GoodIn wsX9_passes (wsV RX9 150 RX9 yX9_goesBy wsX9_goesBy) := goodIn_app (goodIn_of _ (by decide +kernel)) ggX9_passes_X9_goesBy
theorem dX9_passes_0 : decode cX9_passes 0 = .ok (.aload_n 0, 1) := by decide +kernel
theorem dX9_passes_1 : decode cX9_passes 1 = .ok (.bipush (-4), 2) := by decide +kernel
theorem dX9_passes_3 : decode cX9_passes 3 = .ok (.putfield 134, 3) := by decide +kernel
theorem dX9_passes_6 : decode cX9_passes 6 = .ok (.iconst 0, 1) := by decide +kernel
theorem dX9_passes_7 : decode cX9_passes 7 = .ok (.istore_n 1, 1) := by decide +kernel
theorem dX9_passes_8 : decode cX9_passes 8 = .ok (.iload_n 1, 1) := by decide +kernel
theorem dX9_passes_9 : decode cX9_passes 9 = .ok (.aload_n 0, 1) := by decide +kernel
theorem dX9_passes_10 : decode cX9_passes 10 = .ok (.getfield 13, 3) := by decide +kernel
theorem dX9_passes_13 : decode cX9_passes 13 = .ok (.iconst 0, 1) := by decide +kernel
theorem dX9_passes_14 : decode cX9_passes 14 = .ok (.iaload, 1) := by decide +kernel
theorem dX9_passes_15 : decode cX9_passes 15 = .ok (.if_icmp .ge 14, 3) := by decide +kernel
theorem dX9_passes_18 : decode cX9_passes 18 = .ok (.aload_n 0, 1) := by decide +kernel
theorem dX9_passes_19 : decode cX9_passes 19 = .ok (.iload_n 1, 1) := by decide +kernel
theorem dX9_passes_20 : decode cX9_passes 20 = .ok (.invokevirtual 150, 3) := by decide +kernel
theorem dX9_passes_23 : decode cX9_passes 23 = .ok (.iinc 1 1, 3) := by decide +kernel
theorem dX9_passes_26 : decode cX9_passes 26 = .ok (.goto (-18), 3) := by decide +kernel
theorem dX9_passes_29 : decode cX9_passes 29 = .ok (.aload_n 0, 1) := by decide +kernel
theorem dX9_passes_30 : decode cX9_passes 30 = .ok (.getfield 22, 3) := by decide +kernel
theorem dX9_passes_33 : decode cX9_passes 33 = .ok (.bipush 84, 2) := by decide +kernel
theorem dX9_passes_35 : decode cX9_passes 35 = .ok (.dup2, 1) := by decide +kernel
theorem dX9_passes_36 : decode cX9_passes 36 = .ok (.iaload, 1) := by decide +kernel
theorem dX9_passes_37 : decode cX9_passes 37 = .ok (.iconst 1, 1) := by decide +kernel
theorem dX9_passes_38 : decode cX9_passes 38 = .ok (.iadd, 1) := by decide +kernel
theorem dX9_passes_39 : decode cX9_passes 39 = .ok (.iastore, 1) := by decide +kernel
theorem dX9_passes_40 : decode cX9_passes 40 = .ok (.return_, 1) := by decide +kernel
theorem dX9_keeps_0 : decode cX9_keeps 0 = .ok (.aload_n 0, 1) := by decide +kernel
theorem dX9_keeps_1 : decode cX9_keeps 1 = .ok (.getfield 99, 3) := by decide +kernel
theorem dX9_keeps_4 : decode cX9_keeps 4 = .ok (.bipush 8, 2) := by decide +kernel
theorem dX9_keeps_6 : decode cX9_keeps 6 = .ok (.if_icmp .ne 43, 3) := by decide +kernel
theorem dX9_keeps_9 : decode cX9_keeps 9 = .ok (.iconst 0, 1) := by decide +kernel
theorem dX9_keeps_10 : decode cX9_keeps 10 = .ok (.istore_n 1, 1) := by decide +kernel
theorem dX9_keeps_11 : decode cX9_keeps 11 = .ok (.iload_n 1, 1) := by decide +kernel
theorem dX9_keeps_12 : decode cX9_keeps 12 = .ok (.sipush 602, 3) := by decide +kernel
theorem dX9_keeps_15 : decode cX9_keeps 15 = .ok (.if_icmp .ge 24, 3) := by decide +kernel
theorem dX9_keeps_18 : decode cX9_keeps 18 = .ok (.aload_n 0, 1) := by decide +kernel
theorem dX9_keeps_19 : decode cX9_keeps 19 = .ok (.getfield 25, 3) := by decide +kernel
theorem dX9_keeps_22 : decode cX9_keeps 22 = .ok (.iload_n 1, 1) := by decide +kernel
theorem dX9_keeps_23 : decode cX9_keeps 23 = .ok (.aload_n 0, 1) := by decide +kernel
theorem dX9_keeps_24 : decode cX9_keeps 24 = .ok (.getfield 25, 3) := by decide +kernel
theorem dX9_keeps_27 : decode cX9_keeps 27 = .ok (.iload_n 1, 1) := by decide +kernel
theorem dX9_keeps_28 : decode cX9_keeps 28 = .ok (.bipush 86, 2) := by decide +kernel
theorem dX9_keeps_30 : decode cX9_keeps 30 = .ok (.iadd, 1) := by decide +kernel
theorem dX9_keeps_31 : decode cX9_keeps 31 = .ok (.iaload, 1) := by decide +kernel
theorem dX9_keeps_32 : decode cX9_keeps 32 = .ok (.iastore, 1) := by decide +kernel
theorem dX9_keeps_33 : decode cX9_keeps 33 = .ok (.iinc 1 1, 3) := by decide +kernel
theorem dX9_keeps_36 : decode cX9_keeps 36 = .ok (.goto (-25), 3) := by decide +kernel
theorem dX9_keeps_39 : decode cX9_keeps 39 = .ok (.aload_n 0, 1) := by decide +kernel
theorem dX9_keeps_40 : decode cX9_keeps 40 = .ok (.dup, 1) := by decide +kernel
theorem dX9_keeps_41 : decode cX9_keeps 41 = .ok (.getfield 99, 3) := by decide +kernel
theorem dX9_keeps_44 : decode cX9_keeps 44 = .ok (.iconst 1, 1) := by decide +kernel
theorem dX9_keeps_45 : decode cX9_keeps 45 = .ok (.isub, 1) := by decide +kernel
theorem dX9_keeps_46 : decode cX9_keeps 46 = .ok (.putfield 99, 3) := by decide +kernel
theorem dX9_keeps_49 : decode cX9_keeps 49 = .ok (.iconst 0, 1) := by decide +kernel
theorem dX9_keeps_50 : decode cX9_keeps 50 = .ok (.istore_n 1, 1) := by decide +kernel
theorem dX9_keeps_51 : decode cX9_keeps 51 = .ok (.iload_n 1, 1) := by decide +kernel
theorem dX9_keeps_52 : decode cX9_keeps 52 = .ok (.bipush 86, 2) := by decide +kernel
theorem dX9_keeps_54 : decode cX9_keeps 54 = .ok (.if_icmp .ge 29, 3) := by decide +kernel
theorem dX9_keeps_57 : decode cX9_keeps 57 = .ok (.aload_n 0, 1) := by decide +kernel
theorem dX9_keeps_58 : decode cX9_keeps 58 = .ok (.getfield 25, 3) := by decide +kernel
theorem dX9_keeps_61 : decode cX9_keeps 61 = .ok (.bipush 86, 2) := by decide +kernel
theorem dX9_keeps_63 : decode cX9_keeps 63 = .ok (.aload_n 0, 1) := by decide +kernel
theorem dX9_keeps_64 : decode cX9_keeps 64 = .ok (.getfield 99, 3) := by decide +kernel
theorem dX9_keeps_67 : decode cX9_keeps 67 = .ok (.imul, 1) := by decide +kernel
theorem dX9_keeps_68 : decode cX9_keeps 68 = .ok (.iload_n 1, 1) := by decide +kernel
theorem dX9_keeps_69 : decode cX9_keeps 69 = .ok (.iadd, 1) := by decide +kernel
theorem dX9_keeps_70 : decode cX9_keeps 70 = .ok (.aload_n 0, 1) := by decide +kernel
theorem dX9_keeps_71 : decode cX9_keeps 71 = .ok (.getfield 22, 3) := by decide +kernel
theorem dX9_keeps_74 : decode cX9_keeps 74 = .ok (.iload_n 1, 1) := by decide +kernel
theorem dX9_keeps_75 : decode cX9_keeps 75 = .ok (.iaload, 1) := by decide +kernel
theorem dX9_keeps_76 : decode cX9_keeps 76 = .ok (.iastore, 1) := by decide +kernel
theorem dX9_keeps_77 : decode cX9_keeps 77 = .ok (.iinc 1 1, 3) := by decide +kernel
theorem dX9_keeps_80 : decode cX9_keeps 80 = .ok (.goto (-29), 3) := by decide +kernel
theorem dX9_keeps_83 : decode cX9_keeps 83 = .ok (.aload_n 0, 1) := by decide +kernel
theorem dX9_keeps_84 : decode cX9_keeps 84 = .ok (.dup, 1) := by decide +kernel
theorem dX9_keeps_85 : decode cX9_keeps 85 = .ok (.getfield 99, 3) := by decide +kernel
theorem dX9_keeps_88 : decode cX9_keeps 88 = .ok (.iconst 1, 1) := by decide +kernel
theorem dX9_keeps_89 : decode cX9_keeps 89 = .ok (.iadd, 1) := by decide +kernel
theorem dX9_keeps_90 : decode cX9_keeps 90 = .ok (.putfield 99, 3) := by decide +kernel
theorem dX9_keeps_93 : decode cX9_keeps 93 = .ok (.return_, 1) := by decide +kernel
set_option maxRecDepth 20000 in
theorem ggX9_pass_X9_in : GoodIn wsX9_pass wsX9_in := goodIn_r _ [5] (by decide +kernel) (by decide +kernel)
set_option maxRecDepth 20000 in
theorem gX9_pass_X9_in : GoodIn wsX9_pass (va_wsS RX9 63 yX9_in wsX9_in) := goodIn_app (goodIn_of _ (by decide +kernel)) ggX9_pass_X9_in
set_option maxRecDepth 20000 in
theorem ggX9_pass_X9_keeps : GoodIn wsX9_pass wsX9_keeps := goodIn_r _ [9, 10, 11, 1, 61, 62, 63, 64, 65, 66, 67, 68, 69, 70, 71, 72, 73, 74, 75, 76, 77, 78, 79] (by decide +kernel) (by decide +kernel)
set_option maxRecDepth 20000 in
theorem gX9_pass_X9_keeps : GoodIn wsX9_pass (wsV RX9 153 RX9 yX9_keeps wsX9_keeps) := goodIn_app (goodIn_of _ (by decide +kernel)) ggX9_pass_X9_keeps
set_option maxRecDepth 20000 in
theorem ggX9_pass_X9_passes : GoodIn wsX9_pass wsX9_passes := goodIn_r _ [15, 16, 17, 1, 18, 19, 20, 4, 21, 22, 23, 24, 25, 26, 27, 28, 29, 30, 31, 32, 33, 34, 35, 36, 37, 2, 3, 5, 38, 39, 40, 41, 42, 43, 44, 45, 46, 47, 48, 49, 50, 51, 52, 53, 54, 55, 56, 57, 58, 59, 60, 61, 62, 63, 64, 65, 66, 67, 68, 69, 70, 71, 72, 73, 74, 75, 76, 77, 78, 79] (by decide +kernel) (by decide +kernel)
set_option maxRecDepth 20000 in
theorem gX9_pass_X9_passes : GoodIn wsX9_pass (wsV RX9 156 RX9 yX9_passes wsX9_passes) := goodIn_app (goodIn_of _ (by decide +kernel)) ggX9_pass_X9_passes
theorem dX9_pass_0 : decode cX9_pass 0 = .ok (.iload_n 1, 1) := by decide +kernel
theorem dX9_pass_1 : decode cX9_pass 1 = .ok (.iconst 1, 1) := by decide +kernel
theorem dX9_pass_2 : decode cX9_pass 2 = .ok (.bipush 20, 2) := by decide +kernel
theorem dX9_pass_4 : decode cX9_pass 4 = .ok (.invokestatic 63, 3) := by decide +kernel
theorem dX9_pass_7 : decode cX9_pass 7 = .ok (.ifCond .ne 5, 3) := by decide +kernel
theorem dX9_pass_10 : decode cX9_pass 10 = .ok (.iconst (-1), 1) := by decide +kernel
theorem dX9_pass_11 : decode cX9_pass 11 = .ok (.ireturn, 1) := by decide +kernel
theorem dX9_pass_12 : decode cX9_pass 12 = .ok (.aload_n 0, 1) := by decide +kernel
theorem dX9_pass_13 : decode cX9_pass 13 = .ok (.invokevirtual 153, 3) := by decide +kernel
theorem dX9_pass_16 : decode cX9_pass 16 = .ok (.iconst 0, 1) := by decide +kernel
theorem dX9_pass_17 : decode cX9_pass 17 = .ok (.istore_n 2, 1) := by decide +kernel
theorem dX9_pass_18 : decode cX9_pass 18 = .ok (.iload_n 2, 1) := by decide +kernel
theorem dX9_pass_19 : decode cX9_pass 19 = .ok (.iload_n 1, 1) := by decide +kernel
theorem dX9_pass_20 : decode cX9_pass 20 = .ok (.if_icmp .ge 13, 3) := by decide +kernel
theorem dX9_pass_23 : decode cX9_pass 23 = .ok (.aload_n 0, 1) := by decide +kernel
theorem dX9_pass_24 : decode cX9_pass 24 = .ok (.invokevirtual 156, 3) := by decide +kernel
theorem dX9_pass_27 : decode cX9_pass 27 = .ok (.iinc 2 1, 3) := by decide +kernel
theorem dX9_pass_30 : decode cX9_pass 30 = .ok (.goto (-12), 3) := by decide +kernel
theorem dX9_pass_33 : decode cX9_pass 33 = .ok (.aload_n 0, 1) := by decide +kernel
theorem dX9_pass_34 : decode cX9_pass 34 = .ok (.getfield 22, 3) := by decide +kernel
theorem dX9_pass_37 : decode cX9_pass 37 = .ok (.bipush 84, 2) := by decide +kernel
theorem dX9_pass_39 : decode cX9_pass 39 = .ok (.iaload, 1) := by decide +kernel
theorem dX9_pass_40 : decode cX9_pass 40 = .ok (.ireturn, 1) := by decide +kernel
set_option maxRecDepth 20000 in
theorem ggX9_allWords_X9_ones : GoodIn wsX9_allWords wsX9_ones := goodIn_r _ [5] (by decide +kernel) (by decide +kernel)
set_option maxRecDepth 20000 in
theorem gX9_allWords_X9_ones : GoodIn wsX9_allWords (va_wsS RX9 131 yX9_ones wsX9_ones) := goodIn_app (goodIn_of _ (by decide +kernel)) ggX9_allWords_X9_ones
theorem dX9_allWords_0 : decode cX9_allWords 0 = .ok (.iconst 0, 1) := by decide +kernel
theorem dX9_allWords_1 : decode cX9_allWords 1 = .ok (.istore_n 1, 1) := by decide +kernel
theorem dX9_allWords_2 : decode cX9_allWords 2 = .ok (.iconst 0, 1) := by decide +kernel
theorem dX9_allWords_3 : decode cX9_allWords 3 = .ok (.istore_n 2, 1) := by decide +kernel
theorem dX9_allWords_4 : decode cX9_allWords 4 = .ok (.iload_n 2, 1) := by decide +kernel
theorem dX9_allWords_5 : decode cX9_allWords 5 = .ok (.bipush 36, 2) := by decide +kernel
theorem dX9_allWords_7 : decode cX9_allWords 7 = .ok (.if_icmp .ge 24, 3) := by decide +kernel
theorem dX9_allWords_10 : decode cX9_allWords 10 = .ok (.iload_n 1, 1) := by decide +kernel
theorem dX9_allWords_11 : decode cX9_allWords 11 = .ok (.aload_n 0, 1) := by decide +kernel
theorem dX9_allWords_12 : decode cX9_allWords 12 = .ok (.getfield 22, 3) := by decide +kernel
theorem dX9_allWords_15 : decode cX9_allWords 15 = .ok (.bipush 48, 2) := by decide +kernel
theorem dX9_allWords_17 : decode cX9_allWords 17 = .ok (.iload_n 2, 1) := by decide +kernel
theorem dX9_allWords_18 : decode cX9_allWords 18 = .ok (.iadd, 1) := by decide +kernel
theorem dX9_allWords_19 : decode cX9_allWords 19 = .ok (.iaload, 1) := by decide +kernel
theorem dX9_allWords_20 : decode cX9_allWords 20 = .ok (.invokestatic 131, 3) := by decide +kernel
theorem dX9_allWords_23 : decode cX9_allWords 23 = .ok (.iadd, 1) := by decide +kernel
theorem dX9_allWords_24 : decode cX9_allWords 24 = .ok (.istore_n 1, 1) := by decide +kernel
theorem dX9_allWords_25 : decode cX9_allWords 25 = .ok (.iinc 2 1, 3) := by decide +kernel
theorem dX9_allWords_28 : decode cX9_allWords 28 = .ok (.goto (-24), 3) := by decide +kernel
theorem dX9_allWords_31 : decode cX9_allWords 31 = .ok (.iload_n 1, 1) := by decide +kernel
theorem dX9_allWords_32 : decode cX9_allWords 32 = .ok (.ireturn, 1) := by decide +kernel
set_option maxRecDepth 20000 in
theorem ggX9_say_X9_areTwo : GoodIn wsX9_say wsX9_areTwo := goodIn_r _ [6, 7, 8, 9, 5, 10, 11, 12, 13, 14, 32, 33, 34, 35, 36, 37, 38, 39, 40, 41, 42, 43, 44, 45, 46, 47, 48, 49, 50] (by decide +kernel) (by decide +kernel)
set_option maxRecDepth 20000 in
theorem gX9_say_X9_areTwo : GoodIn wsX9_say (wsV RX9 121 RX9 yX9_areTwo wsX9_areTwo) := goodIn_app (goodIn_of _ (by decide +kernel)) ggX9_say_X9_areTwo
set_option maxRecDepth 20000 in
theorem ggX9_say_X9_isName : GoodIn wsX9_say wsX9_isName := goodIn_r _ [18, 11, 12, 13, 5, 14, 32, 33, 34, 35, 36, 37, 38, 39, 40, 41, 42, 43, 44, 45, 46, 47, 48, 49, 50] (by decide +kernel) (by decide +kernel)
set_option maxRecDepth 20000 in
theorem gX9_say_X9_isName : GoodIn wsX9_say (wsV RX9 118 RX9 yX9_isName wsX9_isName) := goodIn_app (goodIn_of _ (by decide +kernel)) ggX9_say_X9_isName
set_option maxRecDepth 20000 in
theorem ggX9_say_X9_allWords : GoodIn wsX9_say wsX9_allWords := goodIn_r _ [22, 1, 23, 24, 5, 25, 32, 33, 34, 35, 36, 37, 38, 39, 40, 41, 42, 43, 44, 45, 46, 47, 48, 49, 50] (by decide +kernel) (by decide +kernel)
set_option maxRecDepth 20000 in
theorem gX9_say_X9_allWords : GoodIn wsX9_say (wsV RX9 159 RX9 yX9_allWords wsX9_allWords) := goodIn_app (goodIn_of _ (by decide +kernel)) ggX9_say_X9_allWords
set_option maxRecDepth 20000 in
theorem ggX9_say_X9_keeps : GoodIn wsX9_say wsX9_keeps := goodIn_r _ [29, 30, 31, 1, 32, 33, 34, 35, 36, 37, 38, 39, 40, 41, 42, 43, 44, 45, 46, 47, 48, 49, 50] (by decide +kernel) (by decide +kernel)
set_option maxRecDepth 20000 in
theorem gX9_say_X9_keeps : GoodIn wsX9_say (wsV RX9 153 RX9 yX9_keeps wsX9_keeps) := goodIn_app (goodIn_of _ (by decide +kernel)) ggX9_say_X9_keeps
theorem dX9_say_0 : decode cX9_say 0 = .ok (.aload_n 0, 1) := by decide +kernel
theorem dX9_say_1 : decode cX9_say 1 = .ok (.iload_n 1, 1) := by decide +kernel
theorem dX9_say_2 : decode cX9_say 2 = .ok (.iload_n 2, 1) := by decide +kernel
theorem dX9_say_3 : decode cX9_say 3 = .ok (.invokevirtual 121, 3) := by decide +kernel
theorem dX9_say_6 : decode cX9_say 6 = .ok (.ifCond .eq 11, 3) := by decide +kernel
theorem dX9_say_9 : decode cX9_say 9 = .ok (.aload_n 0, 1) := by decide +kernel
theorem dX9_say_10 : decode cX9_say 10 = .ok (.iload_n 3, 1) := by decide +kernel
theorem dX9_say_11 : decode cX9_say 11 = .ok (.invokevirtual 118, 3) := by decide +kernel
theorem dX9_say_14 : decode cX9_say 14 = .ok (.ifCond .ne 5, 3) := by decide +kernel
theorem dX9_say_17 : decode cX9_say 17 = .ok (.iconst (-1), 1) := by decide +kernel
theorem dX9_say_18 : decode cX9_say 18 = .ok (.ireturn, 1) := by decide +kernel
theorem dX9_say_19 : decode cX9_say 19 = .ok (.bipush 48, 2) := by decide +kernel
theorem dX9_say_21 : decode cX9_say 21 = .ok (.bipush 6, 2) := by decide +kernel
theorem dX9_say_23 : decode cX9_say 23 = .ok (.iload_n 1, 1) := by decide +kernel
theorem dX9_say_24 : decode cX9_say 24 = .ok (.imul, 1) := by decide +kernel
theorem dX9_say_25 : decode cX9_say 25 = .ok (.iadd, 1) := by decide +kernel
theorem dX9_say_26 : decode cX9_say 26 = .ok (.iload_n 2, 1) := by decide +kernel
theorem dX9_say_27 : decode cX9_say 27 = .ok (.iadd, 1) := by decide +kernel
theorem dX9_say_28 : decode cX9_say 28 = .ok (.istore 4, 2) := by decide +kernel
theorem dX9_say_30 : decode cX9_say 30 = .ok (.aload_n 0, 1) := by decide +kernel
theorem dX9_say_31 : decode cX9_say 31 = .ok (.getfield 22, 3) := by decide +kernel
theorem dX9_say_34 : decode cX9_say 34 = .ok (.iload 4, 2) := by decide +kernel
theorem dX9_say_36 : decode cX9_say 36 = .ok (.iaload, 1) := by decide +kernel
theorem dX9_say_37 : decode cX9_say 37 = .ok (.iload_n 3, 1) := by decide +kernel
theorem dX9_say_38 : decode cX9_say 38 = .ok (.ishr, 1) := by decide +kernel
theorem dX9_say_39 : decode cX9_say 39 = .ok (.iconst 1, 1) := by decide +kernel
theorem dX9_say_40 : decode cX9_say 40 = .ok (.iand, 1) := by decide +kernel
theorem dX9_say_41 : decode cX9_say 41 = .ok (.ifCond .ne 15, 3) := by decide +kernel
theorem dX9_say_44 : decode cX9_say 44 = .ok (.aload_n 0, 1) := by decide +kernel
theorem dX9_say_45 : decode cX9_say 45 = .ok (.invokevirtual 159, 3) := by decide +kernel
theorem dX9_say_48 : decode cX9_say 48 = .ok (.bipush 12, 2) := by decide +kernel
theorem dX9_say_50 : decode cX9_say 50 = .ok (.if_icmp .ne 6, 3) := by decide +kernel
theorem dX9_say_53 : decode cX9_say 53 = .ok (.bipush (-3), 2) := by decide +kernel
theorem dX9_say_55 : decode cX9_say 55 = .ok (.ireturn, 1) := by decide +kernel
theorem dX9_say_56 : decode cX9_say 56 = .ok (.aload_n 0, 1) := by decide +kernel
theorem dX9_say_57 : decode cX9_say 57 = .ok (.invokevirtual 153, 3) := by decide +kernel
theorem dX9_say_60 : decode cX9_say 60 = .ok (.aload_n 0, 1) := by decide +kernel
theorem dX9_say_61 : decode cX9_say 61 = .ok (.getfield 22, 3) := by decide +kernel
theorem dX9_say_64 : decode cX9_say 64 = .ok (.iload 4, 2) := by decide +kernel
theorem dX9_say_66 : decode cX9_say 66 = .ok (.dup2, 1) := by decide +kernel
theorem dX9_say_67 : decode cX9_say 67 = .ok (.iaload, 1) := by decide +kernel
theorem dX9_say_68 : decode cX9_say 68 = .ok (.iconst 1, 1) := by decide +kernel
theorem dX9_say_69 : decode cX9_say 69 = .ok (.iload_n 3, 1) := by decide +kernel
theorem dX9_say_70 : decode cX9_say 70 = .ok (.ishl, 1) := by decide +kernel
theorem dX9_say_71 : decode cX9_say 71 = .ok (.ixor, 1) := by decide +kernel
theorem dX9_say_72 : decode cX9_say 72 = .ok (.iastore, 1) := by decide +kernel
theorem dX9_say_73 : decode cX9_say 73 = .ok (.aload_n 0, 1) := by decide +kernel
theorem dX9_say_74 : decode cX9_say 74 = .ok (.getfield 22, 3) := by decide +kernel
theorem dX9_say_77 : decode cX9_say 77 = .ok (.iload 4, 2) := by decide +kernel
theorem dX9_say_79 : decode cX9_say 79 = .ok (.iaload, 1) := by decide +kernel
theorem dX9_say_80 : decode cX9_say 80 = .ok (.iload_n 3, 1) := by decide +kernel
theorem dX9_say_81 : decode cX9_say 81 = .ok (.ishr, 1) := by decide +kernel
theorem dX9_say_82 : decode cX9_say 82 = .ok (.iconst 1, 1) := by decide +kernel
theorem dX9_say_83 : decode cX9_say 83 = .ok (.iand, 1) := by decide +kernel
theorem dX9_say_84 : decode cX9_say 84 = .ok (.ireturn, 1) := by decide +kernel
set_option maxRecDepth 20000 in
theorem ggX9_mend_X9_isPerson : GoodIn wsX9_mend wsX9_isPerson := goodIn_r _ [5, 6, 7, 8, 4, 9, 28, 29, 30, 31, 32, 33, 34, 35, 36, 37, 38, 39, 40, 41, 42, 43, 44, 45, 46] (by decide +kernel) (by decide +kernel)
set_option maxRecDepth 20000 in
theorem gX9_mend_X9_isPerson : GoodIn wsX9_mend (wsV RX9 67 RX9 yX9_isPerson wsX9_isPerson) := goodIn_app (goodIn_of _ (by decide +kernel)) ggX9_mend_X9_isPerson
set_option maxRecDepth 20000 in
theorem ggX9_mend_X9_keeps : GoodIn wsX9_mend wsX9_keeps := goodIn_r _ [13, 14, 15, 16, 28, 29, 30, 31, 32, 33, 34, 35, 36, 37, 38, 39, 40, 41, 42, 43, 44, 45, 46] (by decide +kernel) (by decide +kernel)
set_option maxRecDepth 20000 in
theorem gX9_mend_X9_keeps : GoodIn wsX9_mend (wsV RX9 153 RX9 yX9_keeps wsX9_keeps) := goodIn_app (goodIn_of _ (by decide +kernel)) ggX9_mend_X9_keeps
set_option maxRecDepth 20000 in
theorem ggX9_mend_X9_lodgers : GoodIn wsX9_mend wsX9_lodgers := goodIn_r _ [20, 16, 28, 29, 30, 31, 32, 33, 34, 35, 36, 37, 38, 39, 40, 41, 42, 43, 44, 45, 46] (by decide +kernel) (by decide +kernel)
set_option maxRecDepth 20000 in
theorem gX9_mend_X9_lodgers : GoodIn wsX9_mend (wsV RX9 112 RX9 yX9_lodgers wsX9_lodgers) := goodIn_app (goodIn_of _ (by decide +kernel)) ggX9_mend_X9_lodgers
set_option maxRecDepth 20000 in
theorem ggX9_mend_X9_ones : GoodIn wsX9_mend wsX9_ones := goodIn_r _ [23] (by decide +kernel) (by decide +kernel)
set_option maxRecDepth 20000 in
theorem gX9_mend_X9_ones : GoodIn wsX9_mend (va_wsS RX9 131 yX9_ones wsX9_ones) := goodIn_app (goodIn_of _ (by decide +kernel)) ggX9_mend_X9_ones
set_option maxRecDepth 20000 in
theorem ggX9_mend_X9_thins : GoodIn wsX9_mend wsX9_thins := goodIn_r _ [27, 16, 28, 29, 30, 31, 32, 33, 34, 35, 36, 37, 38, 39, 40, 41, 42, 43, 44, 45, 46] (by decide +kernel) (by decide +kernel)
set_option maxRecDepth 20000 in
theorem gX9_mend_X9_thins : GoodIn wsX9_mend (wsV RX9 137 RX9 yX9_thins wsX9_thins) := goodIn_app (goodIn_of _ (by decide +kernel)) ggX9_mend_X9_thins
theorem dX9_mend_0 : decode cX9_mend 0 = .ok (.aload_n 0, 1) := by decide +kernel
theorem dX9_mend_1 : decode cX9_mend 1 = .ok (.iload_n 1, 1) := by decide +kernel
theorem dX9_mend_2 : decode cX9_mend 2 = .ok (.invokevirtual 67, 3) := by decide +kernel
theorem dX9_mend_5 : decode cX9_mend 5 = .ok (.ifCond .ne 5, 3) := by decide +kernel
theorem dX9_mend_8 : decode cX9_mend 8 = .ok (.iconst (-1), 1) := by decide +kernel
theorem dX9_mend_9 : decode cX9_mend 9 = .ok (.ireturn, 1) := by decide +kernel
theorem dX9_mend_10 : decode cX9_mend 10 = .ok (.aload_n 0, 1) := by decide +kernel
theorem dX9_mend_11 : decode cX9_mend 11 = .ok (.invokevirtual 153, 3) := by decide +kernel
theorem dX9_mend_14 : decode cX9_mend 14 = .ok (.aload_n 0, 1) := by decide +kernel
theorem dX9_mend_15 : decode cX9_mend 15 = .ok (.iload_n 1, 1) := by decide +kernel
theorem dX9_mend_16 : decode cX9_mend 16 = .ok (.invokevirtual 112, 3) := by decide +kernel
theorem dX9_mend_19 : decode cX9_mend 19 = .ok (.invokestatic 131, 3) := by decide +kernel
theorem dX9_mend_22 : decode cX9_mend 22 = .ok (.istore_n 2, 1) := by decide +kernel
theorem dX9_mend_23 : decode cX9_mend 23 = .ok (.iconst 0, 1) := by decide +kernel
theorem dX9_mend_24 : decode cX9_mend 24 = .ok (.istore_n 3, 1) := by decide +kernel
theorem dX9_mend_25 : decode cX9_mend 25 = .ok (.iload_n 3, 1) := by decide +kernel
theorem dX9_mend_26 : decode cX9_mend 26 = .ok (.bipush 8, 2) := by decide +kernel
theorem dX9_mend_28 : decode cX9_mend 28 = .ok (.if_icmp .ge 16, 3) := by decide +kernel
theorem dX9_mend_31 : decode cX9_mend 31 = .ok (.aload_n 0, 1) := by decide +kernel
theorem dX9_mend_32 : decode cX9_mend 32 = .ok (.iload_n 1, 1) := by decide +kernel
theorem dX9_mend_33 : decode cX9_mend 33 = .ok (.iload_n 3, 1) := by decide +kernel
theorem dX9_mend_34 : decode cX9_mend 34 = .ok (.iconst 1, 1) := by decide +kernel
theorem dX9_mend_35 : decode cX9_mend 35 = .ok (.invokevirtual 137, 3) := by decide +kernel
theorem dX9_mend_38 : decode cX9_mend 38 = .ok (.iinc 3 1, 3) := by decide +kernel
theorem dX9_mend_41 : decode cX9_mend 41 = .ok (.goto (-16), 3) := by decide +kernel
theorem dX9_mend_44 : decode cX9_mend 44 = .ok (.iload_n 2, 1) := by decide +kernel
theorem dX9_mend_45 : decode cX9_mend 45 = .ok (.aload_n 0, 1) := by decide +kernel
theorem dX9_mend_46 : decode cX9_mend 46 = .ok (.iload_n 1, 1) := by decide +kernel
theorem dX9_mend_47 : decode cX9_mend 47 = .ok (.invokevirtual 112, 3) := by decide +kernel
theorem dX9_mend_50 : decode cX9_mend 50 = .ok (.invokestatic 131, 3) := by decide +kernel
theorem dX9_mend_53 : decode cX9_mend 53 = .ok (.isub, 1) := by decide +kernel
theorem dX9_mend_54 : decode cX9_mend 54 = .ok (.ireturn, 1) := by decide +kernel
theorem dX9_undo_0 : decode cX9_undo 0 = .ok (.aload_n 0, 1) := by decide +kernel
theorem dX9_undo_1 : decode cX9_undo 1 = .ok (.getfield 99, 3) := by decide +kernel
theorem dX9_undo_4 : decode cX9_undo 4 = .ok (.ifCond .ne 6, 3) := by decide +kernel
theorem dX9_undo_7 : decode cX9_undo 7 = .ok (.bipush (-2), 2) := by decide +kernel
theorem dX9_undo_9 : decode cX9_undo 9 = .ok (.ireturn, 1) := by decide +kernel
theorem dX9_undo_10 : decode cX9_undo 10 = .ok (.aload_n 0, 1) := by decide +kernel
theorem dX9_undo_11 : decode cX9_undo 11 = .ok (.dup, 1) := by decide +kernel
theorem dX9_undo_12 : decode cX9_undo 12 = .ok (.getfield 99, 3) := by decide +kernel
theorem dX9_undo_15 : decode cX9_undo 15 = .ok (.iconst 1, 1) := by decide +kernel
theorem dX9_undo_16 : decode cX9_undo 16 = .ok (.isub, 1) := by decide +kernel
theorem dX9_undo_17 : decode cX9_undo 17 = .ok (.putfield 99, 3) := by decide +kernel
theorem dX9_undo_20 : decode cX9_undo 20 = .ok (.iconst 0, 1) := by decide +kernel
theorem dX9_undo_21 : decode cX9_undo 21 = .ok (.istore_n 1, 1) := by decide +kernel
theorem dX9_undo_22 : decode cX9_undo 22 = .ok (.iload_n 1, 1) := by decide +kernel
theorem dX9_undo_23 : decode cX9_undo 23 = .ok (.bipush 86, 2) := by decide +kernel
theorem dX9_undo_25 : decode cX9_undo 25 = .ok (.if_icmp .ge 29, 3) := by decide +kernel
theorem dX9_undo_28 : decode cX9_undo 28 = .ok (.aload_n 0, 1) := by decide +kernel
theorem dX9_undo_29 : decode cX9_undo 29 = .ok (.getfield 22, 3) := by decide +kernel
theorem dX9_undo_32 : decode cX9_undo 32 = .ok (.iload_n 1, 1) := by decide +kernel
theorem dX9_undo_33 : decode cX9_undo 33 = .ok (.aload_n 0, 1) := by decide +kernel
theorem dX9_undo_34 : decode cX9_undo 34 = .ok (.getfield 25, 3) := by decide +kernel
theorem dX9_undo_37 : decode cX9_undo 37 = .ok (.bipush 86, 2) := by decide +kernel
theorem dX9_undo_39 : decode cX9_undo 39 = .ok (.aload_n 0, 1) := by decide +kernel
theorem dX9_undo_40 : decode cX9_undo 40 = .ok (.getfield 99, 3) := by decide +kernel
theorem dX9_undo_43 : decode cX9_undo 43 = .ok (.imul, 1) := by decide +kernel
theorem dX9_undo_44 : decode cX9_undo 44 = .ok (.iload_n 1, 1) := by decide +kernel
theorem dX9_undo_45 : decode cX9_undo 45 = .ok (.iadd, 1) := by decide +kernel
theorem dX9_undo_46 : decode cX9_undo 46 = .ok (.iaload, 1) := by decide +kernel
theorem dX9_undo_47 : decode cX9_undo 47 = .ok (.iastore, 1) := by decide +kernel
theorem dX9_undo_48 : decode cX9_undo 48 = .ok (.iinc 1 1, 3) := by decide +kernel
theorem dX9_undo_51 : decode cX9_undo 51 = .ok (.goto (-29), 3) := by decide +kernel
theorem dX9_undo_54 : decode cX9_undo 54 = .ok (.aload_n 0, 1) := by decide +kernel
theorem dX9_undo_55 : decode cX9_undo 55 = .ok (.getfield 99, 3) := by decide +kernel
theorem dX9_undo_58 : decode cX9_undo 58 = .ok (.ireturn, 1) := by decide +kernel
theorem dX9_holds_0 : decode cX9_holds 0 = .ok (.iconst 0, 1) := by decide +kernel
theorem dX9_holds_1 : decode cX9_holds 1 = .ok (.istore_n 1, 1) := by decide +kernel
theorem dX9_holds_2 : decode cX9_holds 2 = .ok (.iload_n 1, 1) := by decide +kernel
theorem dX9_holds_3 : decode cX9_holds 3 = .ok (.bipush 86, 2) := by decide +kernel
theorem dX9_holds_5 : decode cX9_holds 5 = .ok (.if_icmp .ge 21, 3) := by decide +kernel
theorem dX9_holds_8 : decode cX9_holds 8 = .ok (.aload_n 0, 1) := by decide +kernel
theorem dX9_holds_9 : decode cX9_holds 9 = .ok (.getfield 37, 3) := by decide +kernel
theorem dX9_holds_12 : decode cX9_holds 12 = .ok (.iload_n 1, 1) := by decide +kernel
theorem dX9_holds_13 : decode cX9_holds 13 = .ok (.aload_n 0, 1) := by decide +kernel
theorem dX9_holds_14 : decode cX9_holds 14 = .ok (.getfield 22, 3) := by decide +kernel
theorem dX9_holds_17 : decode cX9_holds 17 = .ok (.iload_n 1, 1) := by decide +kernel
theorem dX9_holds_18 : decode cX9_holds 18 = .ok (.iaload, 1) := by decide +kernel
theorem dX9_holds_19 : decode cX9_holds 19 = .ok (.iastore, 1) := by decide +kernel
theorem dX9_holds_20 : decode cX9_holds 20 = .ok (.iinc 1 1, 3) := by decide +kernel
theorem dX9_holds_23 : decode cX9_holds 23 = .ok (.goto (-21), 3) := by decide +kernel
theorem dX9_holds_26 : decode cX9_holds 26 = .ok (.return_, 1) := by decide +kernel
theorem dX9_lets_0 : decode cX9_lets 0 = .ok (.iconst 0, 1) := by decide +kernel
theorem dX9_lets_1 : decode cX9_lets 1 = .ok (.istore_n 1, 1) := by decide +kernel
theorem dX9_lets_2 : decode cX9_lets 2 = .ok (.iload_n 1, 1) := by decide +kernel
theorem dX9_lets_3 : decode cX9_lets 3 = .ok (.bipush 86, 2) := by decide +kernel
theorem dX9_lets_5 : decode cX9_lets 5 = .ok (.if_icmp .ge 21, 3) := by decide +kernel
theorem dX9_lets_8 : decode cX9_lets 8 = .ok (.aload_n 0, 1) := by decide +kernel
theorem dX9_lets_9 : decode cX9_lets 9 = .ok (.getfield 22, 3) := by decide +kernel
theorem dX9_lets_12 : decode cX9_lets 12 = .ok (.iload_n 1, 1) := by decide +kernel
theorem dX9_lets_13 : decode cX9_lets 13 = .ok (.aload_n 0, 1) := by decide +kernel
theorem dX9_lets_14 : decode cX9_lets 14 = .ok (.getfield 37, 3) := by decide +kernel
theorem dX9_lets_17 : decode cX9_lets 17 = .ok (.iload_n 1, 1) := by decide +kernel
theorem dX9_lets_18 : decode cX9_lets 18 = .ok (.iaload, 1) := by decide +kernel
theorem dX9_lets_19 : decode cX9_lets 19 = .ok (.iastore, 1) := by decide +kernel
theorem dX9_lets_20 : decode cX9_lets 20 = .ok (.iinc 1 1, 3) := by decide +kernel
theorem dX9_lets_23 : decode cX9_lets 23 = .ok (.goto (-21), 3) := by decide +kernel
theorem dX9_lets_26 : decode cX9_lets 26 = .ok (.return_, 1) := by decide +kernel
set_option maxRecDepth 20000 in
theorem ggX9_behind_X9_in : GoodIn wsX9_behind wsX9_in := goodIn_r _ [5] (by decide +kernel) (by decide +kernel)
set_option maxRecDepth 20000 in
theorem gX9_behind_X9_in : GoodIn wsX9_behind (va_wsS RX9 63 yX9_in wsX9_in) := goodIn_app (goodIn_of _ (by decide +kernel)) ggX9_behind_X9_in
set_option maxRecDepth 20000 in
theorem ggX9_behind_X9_isPerson : GoodIn wsX9_behind wsX9_isPerson := goodIn_r _ [9, 10, 2, 3, 4, 5, 72, 73, 74, 75, 76, 77, 78, 79, 80, 81, 82, 83, 84, 85, 86, 87, 88, 89, 90] (by decide +kernel) (by decide +kernel)
set_option maxRecDepth 20000 in
theorem gX9_behind_X9_isPerson : GoodIn wsX9_behind (wsV RX9 67 RX9 yX9_isPerson wsX9_isPerson) := goodIn_app (goodIn_of _ (by decide +kernel)) ggX9_behind_X9_isPerson
set_option maxRecDepth 20000 in
theorem ggX9_behind_X9_isName : GoodIn wsX9_behind wsX9_isName := goodIn_r _ [14, 10, 2, 3, 4, 5, 72, 73, 74, 75, 76, 77, 78, 79, 80, 81, 82, 83, 84, 85, 86, 87, 88, 89, 90] (by decide +kernel) (by decide +kernel)
set_option maxRecDepth 20000 in
theorem gX9_behind_X9_isName : GoodIn wsX9_behind (wsV RX9 118 RX9 yX9_isName wsX9_isName) := goodIn_app (goodIn_of _ (by decide +kernel)) ggX9_behind_X9_isName
set_option maxRecDepth 20000 in
theorem ggX9_behind_X9_holds : GoodIn wsX9_behind wsX9_holds := goodIn_r _ [18, 19, 1, 72, 73, 74, 75, 76, 77, 78, 79, 80, 81, 82, 83, 84, 85, 86, 87, 88, 89, 90] (by decide +kernel) (by decide +kernel)
set_option maxRecDepth 20000 in
theorem gX9_behind_X9_holds : GoodIn wsX9_behind (wsV RX9 162 RX9 yX9_holds wsX9_holds) := goodIn_app (goodIn_of _ (by decide +kernel)) ggX9_behind_X9_holds
set_option maxRecDepth 20000 in
theorem ggX9_behind_X9_passes : GoodIn wsX9_behind wsX9_passes := goodIn_r _ [23, 24, 10, 1, 25, 26, 27, 4, 28, 29, 30, 31, 32, 33, 34, 35, 36, 37, 38, 39, 40, 41, 42, 43, 44, 2, 3, 5, 45, 46, 47, 48, 49, 50, 51, 52, 53, 54, 55, 56, 57, 58, 59, 60, 61, 62, 63, 64, 65, 66, 67, 72, 73, 74, 75, 76, 77, 78, 79, 80, 81, 82, 83, 84, 85, 86, 87, 88, 89, 90] (by decide +kernel) (by decide +kernel)
set_option maxRecDepth 20000 in
theorem gX9_behind_X9_passes : GoodIn wsX9_behind (wsV RX9 156 RX9 yX9_passes wsX9_passes) := goodIn_app (goodIn_of _ (by decide +kernel)) ggX9_behind_X9_passes
set_option maxRecDepth 20000 in
theorem ggX9_behind_X9_lets : GoodIn wsX9_behind wsX9_lets := goodIn_r _ [71, 1, 19, 72, 73, 74, 75, 76, 77, 78, 79, 80, 81, 82, 83, 84, 85, 86, 87, 88, 89, 90] (by decide +kernel) (by decide +kernel)
set_option maxRecDepth 20000 in
theorem gX9_behind_X9_lets : GoodIn wsX9_behind (wsV RX9 165 RX9 yX9_lets wsX9_lets) := goodIn_app (goodIn_of _ (by decide +kernel)) ggX9_behind_X9_lets
theorem dX9_behind_0 : decode cX9_behind 0 = .ok (.iload_n 1, 1) := by decide +kernel
theorem dX9_behind_1 : decode cX9_behind 1 = .ok (.iconst 0, 1) := by decide +kernel
theorem dX9_behind_2 : decode cX9_behind 2 = .ok (.bipush 40, 2) := by decide +kernel
theorem dX9_behind_4 : decode cX9_behind 4 = .ok (.invokestatic 63, 3) := by decide +kernel
theorem dX9_behind_7 : decode cX9_behind 7 = .ok (.ifCond .eq 19, 3) := by decide +kernel
theorem dX9_behind_10 : decode cX9_behind 10 = .ok (.aload_n 0, 1) := by decide +kernel
theorem dX9_behind_11 : decode cX9_behind 11 = .ok (.iload_n 2, 1) := by decide +kernel
theorem dX9_behind_12 : decode cX9_behind 12 = .ok (.invokevirtual 67, 3) := by decide +kernel
theorem dX9_behind_15 : decode cX9_behind 15 = .ok (.ifCond .eq 11, 3) := by decide +kernel
theorem dX9_behind_18 : decode cX9_behind 18 = .ok (.aload_n 0, 1) := by decide +kernel
theorem dX9_behind_19 : decode cX9_behind 19 = .ok (.iload_n 3, 1) := by decide +kernel
theorem dX9_behind_20 : decode cX9_behind 20 = .ok (.invokevirtual 118, 3) := by decide +kernel
theorem dX9_behind_23 : decode cX9_behind 23 = .ok (.ifCond .ne 5, 3) := by decide +kernel
theorem dX9_behind_26 : decode cX9_behind 26 = .ok (.iconst (-1), 1) := by decide +kernel
theorem dX9_behind_27 : decode cX9_behind 27 = .ok (.ireturn, 1) := by decide +kernel
theorem dX9_behind_28 : decode cX9_behind 28 = .ok (.aload_n 0, 1) := by decide +kernel
theorem dX9_behind_29 : decode cX9_behind 29 = .ok (.invokevirtual 162, 3) := by decide +kernel
theorem dX9_behind_32 : decode cX9_behind 32 = .ok (.iconst 0, 1) := by decide +kernel
theorem dX9_behind_33 : decode cX9_behind 33 = .ok (.istore 4, 2) := by decide +kernel
theorem dX9_behind_35 : decode cX9_behind 35 = .ok (.iload 4, 2) := by decide +kernel
theorem dX9_behind_37 : decode cX9_behind 37 = .ok (.iload_n 1, 1) := by decide +kernel
theorem dX9_behind_38 : decode cX9_behind 38 = .ok (.if_icmp .ge 13, 3) := by decide +kernel
theorem dX9_behind_41 : decode cX9_behind 41 = .ok (.aload_n 0, 1) := by decide +kernel
theorem dX9_behind_42 : decode cX9_behind 42 = .ok (.invokevirtual 156, 3) := by decide +kernel
theorem dX9_behind_45 : decode cX9_behind 45 = .ok (.iinc 4 1, 3) := by decide +kernel
theorem dX9_behind_48 : decode cX9_behind 48 = .ok (.goto (-13), 3) := by decide +kernel
theorem dX9_behind_51 : decode cX9_behind 51 = .ok (.aload_n 0, 1) := by decide +kernel
theorem dX9_behind_52 : decode cX9_behind 52 = .ok (.getfield 22, 3) := by decide +kernel
theorem dX9_behind_55 : decode cX9_behind 55 = .ok (.bipush 8, 2) := by decide +kernel
theorem dX9_behind_57 : decode cX9_behind 57 = .ok (.iload_n 2, 1) := by decide +kernel
theorem dX9_behind_58 : decode cX9_behind 58 = .ok (.imul, 1) := by decide +kernel
theorem dX9_behind_59 : decode cX9_behind 59 = .ok (.iload_n 3, 1) := by decide +kernel
theorem dX9_behind_60 : decode cX9_behind 60 = .ok (.iadd, 1) := by decide +kernel
theorem dX9_behind_61 : decode cX9_behind 61 = .ok (.iaload, 1) := by decide +kernel
theorem dX9_behind_62 : decode cX9_behind 62 = .ok (.istore 4, 2) := by decide +kernel
theorem dX9_behind_64 : decode cX9_behind 64 = .ok (.aload_n 0, 1) := by decide +kernel
theorem dX9_behind_65 : decode cX9_behind 65 = .ok (.invokevirtual 165, 3) := by decide +kernel
theorem dX9_behind_68 : decode cX9_behind 68 = .ok (.iload 4, 2) := by decide +kernel
theorem dX9_behind_70 : decode cX9_behind 70 = .ok (.ireturn, 1) := by decide +kernel
set_option maxRecDepth 20000 in
theorem ggX9_homeless_X9_in : GoodIn wsX9_homeless wsX9_in := goodIn_r _ [5] (by decide +kernel) (by decide +kernel)
set_option maxRecDepth 20000 in
theorem gX9_homeless_X9_in : GoodIn wsX9_homeless (va_wsS RX9 63 yX9_in wsX9_in) := goodIn_app (goodIn_of _ (by decide +kernel)) ggX9_homeless_X9_in
set_option maxRecDepth 20000 in
theorem ggX9_homeless_X9_holds : GoodIn wsX9_homeless wsX9_holds := goodIn_r _ [9, 10, 11, 64, 65, 66, 67, 68, 69, 70, 71, 72, 73, 74, 75, 76, 77, 78, 79, 80, 81, 82] (by decide +kernel) (by decide +kernel)
set_option maxRecDepth 20000 in
theorem gX9_homeless_X9_holds : GoodIn wsX9_homeless (wsV RX9 162 RX9 yX9_holds wsX9_holds) := goodIn_app (goodIn_of _ (by decide +kernel)) ggX9_homeless_X9_holds
set_option maxRecDepth 20000 in
theorem ggX9_homeless_X9_passes : GoodIn wsX9_homeless wsX9_passes := goodIn_r _ [15, 1, 16, 11, 17, 18, 19, 4, 20, 21, 22, 23, 24, 25, 26, 27, 28, 29, 30, 31, 32, 33, 34, 35, 36, 2, 3, 5, 37, 38, 39, 40, 41, 42, 43, 44, 45, 46, 47, 48, 49, 50, 51, 52, 53, 54, 55, 56, 57, 58, 59, 64, 65, 66, 67, 68, 69, 70, 71, 72, 73, 74, 75, 76, 77, 78, 79, 80, 81, 82] (by decide +kernel) (by decide +kernel)
set_option maxRecDepth 20000 in
theorem gX9_homeless_X9_passes : GoodIn wsX9_homeless (wsV RX9 156 RX9 yX9_passes wsX9_passes) := goodIn_app (goodIn_of _ (by decide +kernel)) ggX9_homeless_X9_passes
set_option maxRecDepth 20000 in
theorem ggX9_homeless_X9_lets : GoodIn wsX9_homeless wsX9_lets := goodIn_r _ [63, 11, 10, 64, 65, 66, 67, 68, 69, 70, 71, 72, 73, 74, 75, 76, 77, 78, 79, 80, 81, 82] (by decide +kernel) (by decide +kernel)
set_option maxRecDepth 20000 in
theorem gX9_homeless_X9_lets : GoodIn wsX9_homeless (wsV RX9 165 RX9 yX9_lets wsX9_lets) := goodIn_app (goodIn_of _ (by decide +kernel)) ggX9_homeless_X9_lets
theorem dX9_homeless_0 : decode cX9_homeless 0 = .ok (.iload_n 1, 1) := by decide +kernel
theorem dX9_homeless_1 : decode cX9_homeless 1 = .ok (.iconst 0, 1) := by decide +kernel
theorem dX9_homeless_2 : decode cX9_homeless 2 = .ok (.iconst 1, 1) := by decide +kernel
theorem dX9_homeless_3 : decode cX9_homeless 3 = .ok (.invokestatic 63, 3) := by decide +kernel
theorem dX9_homeless_6 : decode cX9_homeless 6 = .ok (.ifCond .ne 5, 3) := by decide +kernel
theorem dX9_homeless_9 : decode cX9_homeless 9 = .ok (.iconst (-1), 1) := by decide +kernel
theorem dX9_homeless_10 : decode cX9_homeless 10 = .ok (.ireturn, 1) := by decide +kernel
theorem dX9_homeless_11 : decode cX9_homeless 11 = .ok (.aload_n 0, 1) := by decide +kernel
theorem dX9_homeless_12 : decode cX9_homeless 12 = .ok (.invokevirtual 162, 3) := by decide +kernel
theorem dX9_homeless_15 : decode cX9_homeless 15 = .ok (.bipush (-4), 2) := by decide +kernel
theorem dX9_homeless_17 : decode cX9_homeless 17 = .ok (.istore_n 2, 1) := by decide +kernel
theorem dX9_homeless_18 : decode cX9_homeless 18 = .ok (.iconst 1, 1) := by decide +kernel
theorem dX9_homeless_19 : decode cX9_homeless 19 = .ok (.istore_n 3, 1) := by decide +kernel
theorem dX9_homeless_20 : decode cX9_homeless 20 = .ok (.iload_n 3, 1) := by decide +kernel
theorem dX9_homeless_21 : decode cX9_homeless 21 = .ok (.bipush 41, 2) := by decide +kernel
theorem dX9_homeless_23 : decode cX9_homeless 23 = .ok (.if_icmp .ge 46, 3) := by decide +kernel
theorem dX9_homeless_26 : decode cX9_homeless 26 = .ok (.iload_n 2, 1) := by decide +kernel
theorem dX9_homeless_27 : decode cX9_homeless 27 = .ok (.bipush (-4), 2) := by decide +kernel
theorem dX9_homeless_29 : decode cX9_homeless 29 = .ok (.if_icmp .ne 40, 3) := by decide +kernel
theorem dX9_homeless_32 : decode cX9_homeless 32 = .ok (.aload_n 0, 1) := by decide +kernel
theorem dX9_homeless_33 : decode cX9_homeless 33 = .ok (.invokevirtual 156, 3) := by decide +kernel
theorem dX9_homeless_36 : decode cX9_homeless 36 = .ok (.aload_n 0, 1) := by decide +kernel
theorem dX9_homeless_37 : decode cX9_homeless 37 = .ok (.getfield 134, 3) := by decide +kernel
theorem dX9_homeless_40 : decode cX9_homeless 40 = .ok (.bipush (-4), 2) := by decide +kernel
theorem dX9_homeless_42 : decode cX9_homeless 42 = .ok (.if_icmp .ne 8, 3) := by decide +kernel
theorem dX9_homeless_45 : decode cX9_homeless 45 = .ok (.bipush (-4), 2) := by decide +kernel
theorem dX9_homeless_47 : decode cX9_homeless 47 = .ok (.goto 15, 3) := by decide +kernel
theorem dX9_homeless_50 : decode cX9_homeless 50 = .ok (.iload_n 1, 1) := by decide +kernel
theorem dX9_homeless_51 : decode cX9_homeless 51 = .ok (.ifCond .ne 10, 3) := by decide +kernel
theorem dX9_homeless_54 : decode cX9_homeless 54 = .ok (.aload_n 0, 1) := by decide +kernel
theorem dX9_homeless_55 : decode cX9_homeless 55 = .ok (.getfield 134, 3) := by decide +kernel
theorem dX9_homeless_58 : decode cX9_homeless 58 = .ok (.goto 4, 3) := by decide +kernel
theorem dX9_homeless_61 : decode cX9_homeless 61 = .ok (.iload_n 3, 1) := by decide +kernel
theorem dX9_homeless_62 : decode cX9_homeless 62 = .ok (.istore_n 2, 1) := by decide +kernel
theorem dX9_homeless_63 : decode cX9_homeless 63 = .ok (.iinc 3 1, 3) := by decide +kernel
theorem dX9_homeless_66 : decode cX9_homeless 66 = .ok (.goto (-46), 3) := by decide +kernel
theorem dX9_homeless_69 : decode cX9_homeless 69 = .ok (.aload_n 0, 1) := by decide +kernel
theorem dX9_homeless_70 : decode cX9_homeless 70 = .ok (.invokevirtual 165, 3) := by decide +kernel
theorem dX9_homeless_73 : decode cX9_homeless 73 = .ok (.iload_n 2, 1) := by decide +kernel
theorem dX9_homeless_74 : decode cX9_homeless 74 = .ok (.ireturn, 1) := by decide +kernel
set_option maxRecDepth 20000 in
theorem ggX9_load_X9_isPerson : GoodIn wsX9_load wsX9_isPerson := goodIn_r _ [5, 6, 7, 8, 4, 9, 15, 16, 17, 18, 19, 20, 21, 22, 23, 24, 25, 26, 27, 28, 29, 30, 31, 32, 33] (by decide +kernel) (by decide +kernel)
set_option maxRecDepth 20000 in
theorem gX9_load_X9_isPerson : GoodIn wsX9_load (wsV RX9 67 RX9 yX9_isPerson wsX9_isPerson) := goodIn_app (goodIn_of _ (by decide +kernel)) ggX9_load_X9_isPerson
set_option maxRecDepth 20000 in
theorem ggX9_load_X9_in : GoodIn wsX9_load wsX9_in := goodIn_r _ [9] (by decide +kernel) (by decide +kernel)
set_option maxRecDepth 20000 in
theorem gX9_load_X9_in : GoodIn wsX9_load (va_wsS RX9 63 yX9_in wsX9_in) := goodIn_app (goodIn_of _ (by decide +kernel)) ggX9_load_X9_in
set_option maxRecDepth 20000 in
theorem ggX9_load_X9_sumOf : GoodIn wsX9_load wsX9_sumOf := goodIn_r _ [13, 14, 6, 15, 16, 17, 18, 19, 20, 21, 22, 23, 24, 25, 26, 27, 28, 29, 30, 31, 32, 33] (by decide +kernel) (by decide +kernel)
set_option maxRecDepth 20000 in
theorem gX9_load_X9_sumOf : GoodIn wsX9_load (wsV RX9 108 RX9 yX9_sumOf wsX9_sumOf) := goodIn_app (goodIn_of _ (by decide +kernel)) ggX9_load_X9_sumOf
theorem dX9_load_0 : decode cX9_load 0 = .ok (.aload_n 0, 1) := by decide +kernel
theorem dX9_load_1 : decode cX9_load 1 = .ok (.iload_n 1, 1) := by decide +kernel
theorem dX9_load_2 : decode cX9_load 2 = .ok (.invokevirtual 67, 3) := by decide +kernel
theorem dX9_load_5 : decode cX9_load 5 = .ok (.ifCond .eq 12, 3) := by decide +kernel
theorem dX9_load_8 : decode cX9_load 8 = .ok (.iload_n 2, 1) := by decide +kernel
theorem dX9_load_9 : decode cX9_load 9 = .ok (.iconst 0, 1) := by decide +kernel
theorem dX9_load_10 : decode cX9_load 10 = .ok (.iconst 1, 1) := by decide +kernel
theorem dX9_load_11 : decode cX9_load 11 = .ok (.invokestatic 63, 3) := by decide +kernel
theorem dX9_load_14 : decode cX9_load 14 = .ok (.ifCond .ne 7, 3) := by decide +kernel
theorem dX9_load_17 : decode cX9_load 17 = .ok (.iconst (-1), 1) := by decide +kernel
theorem dX9_load_18 : decode cX9_load 18 = .ok (.goto 19, 3) := by decide +kernel
theorem dX9_load_21 : decode cX9_load 21 = .ok (.aload_n 0, 1) := by decide +kernel
theorem dX9_load_22 : decode cX9_load 22 = .ok (.iload_n 1, 1) := by decide +kernel
theorem dX9_load_23 : decode cX9_load 23 = .ok (.iload_n 2, 1) := by decide +kernel
theorem dX9_load_24 : decode cX9_load 24 = .ok (.ifCond .ne 8, 3) := by decide +kernel
theorem dX9_load_27 : decode cX9_load 27 = .ok (.bipush 21, 2) := by decide +kernel
theorem dX9_load_29 : decode cX9_load 29 = .ok (.goto 5, 3) := by decide +kernel
theorem dX9_load_32 : decode cX9_load 32 = .ok (.bipush 29, 2) := by decide +kernel
theorem dX9_load_34 : decode cX9_load 34 = .ok (.invokevirtual 108, 3) := by decide +kernel
theorem dX9_load_37 : decode cX9_load 37 = .ok (.ireturn, 1) := by decide +kernel
set_option maxRecDepth 20000 in
theorem ggX9_isOut_X9_goesBy : GoodIn wsX9_isOut wsX9_goesBy := goodIn_r _ [6, 7, 1, 8, 9, 10, 5, 11, 12, 13, 14, 15, 16, 17, 18, 19, 20, 21, 22, 23, 24, 25, 26, 27, 28, 29, 30, 31, 32, 33, 34, 35, 36, 37, 38, 39, 40, 41, 42, 43, 44, 45, 46, 47, 48, 49, 50, 56, 57, 58, 59, 60, 61, 62, 63, 64, 65, 66, 67, 68, 69, 70, 71, 72, 73, 74] (by decide +kernel) (by decide +kernel)
set_option maxRecDepth 20000 in
theorem gX9_isOut_X9_goesBy : GoodIn wsX9_isOut (wsV RX9 150 RX9 yX9_goesBy wsX9_goesBy) := goodIn_app (goodIn_of _ (by decide +kernel)) ggX9_isOut_X9_goesBy
set_option maxRecDepth 20000 in
theorem ggX9_isOut_X9_lets : GoodIn wsX9_isOut wsX9_lets := goodIn_r _ [54, 1, 55, 56, 57, 58, 59, 60, 61, 62, 63, 64, 65, 66, 67, 68, 69, 70, 71, 72, 73, 74] (by decide +kernel) (by decide +kernel)
set_option maxRecDepth 20000 in
theorem gX9_isOut_X9_lets : GoodIn wsX9_isOut (wsV RX9 165 RX9 yX9_lets wsX9_lets) := goodIn_app (goodIn_of _ (by decide +kernel)) ggX9_isOut_X9_lets
theorem dX9_isOut_0 : decode cX9_isOut 0 = .ok (.iload 4, 2) := by decide +kernel
theorem dX9_isOut_2 : decode cX9_isOut 2 = .ok (.ifCond .lt 31, 3) := by decide +kernel
theorem dX9_isOut_5 : decode cX9_isOut 5 = .ok (.aload_n 0, 1) := by decide +kernel
theorem dX9_isOut_6 : decode cX9_isOut 6 = .ok (.getfield 22, 3) := by decide +kernel
theorem dX9_isOut_9 : decode cX9_isOut 9 = .ok (.bipush 48, 2) := by decide +kernel
theorem dX9_isOut_11 : decode cX9_isOut 11 = .ok (.bipush 6, 2) := by decide +kernel
theorem dX9_isOut_13 : decode cX9_isOut 13 = .ok (.iload 4, 2) := by decide +kernel
theorem dX9_isOut_15 : decode cX9_isOut 15 = .ok (.bipush 8, 2) := by decide +kernel
theorem dX9_isOut_17 : decode cX9_isOut 17 = .ok (.idiv, 1) := by decide +kernel
theorem dX9_isOut_18 : decode cX9_isOut 18 = .ok (.imul, 1) := by decide +kernel
theorem dX9_isOut_19 : decode cX9_isOut 19 = .ok (.iadd, 1) := by decide +kernel
theorem dX9_isOut_20 : decode cX9_isOut 20 = .ok (.iload_n 1, 1) := by decide +kernel
theorem dX9_isOut_21 : decode cX9_isOut 21 = .ok (.iadd, 1) := by decide +kernel
theorem dX9_isOut_22 : decode cX9_isOut 22 = .ok (.dup2, 1) := by decide +kernel
theorem dX9_isOut_23 : decode cX9_isOut 23 = .ok (.iaload, 1) := by decide +kernel
theorem dX9_isOut_24 : decode cX9_isOut 24 = .ok (.iconst 1, 1) := by decide +kernel
theorem dX9_isOut_25 : decode cX9_isOut 25 = .ok (.iload 4, 2) := by decide +kernel
theorem dX9_isOut_27 : decode cX9_isOut 27 = .ok (.bipush 8, 2) := by decide +kernel
theorem dX9_isOut_29 : decode cX9_isOut 29 = .ok (.irem, 1) := by decide +kernel
theorem dX9_isOut_30 : decode cX9_isOut 30 = .ok (.ishl, 1) := by decide +kernel
theorem dX9_isOut_31 : decode cX9_isOut 31 = .ok (.ixor, 1) := by decide +kernel
theorem dX9_isOut_32 : decode cX9_isOut 32 = .ok (.iastore, 1) := by decide +kernel
theorem dX9_isOut_33 : decode cX9_isOut 33 = .ok (.iload 5, 2) := by decide +kernel
theorem dX9_isOut_35 : decode cX9_isOut 35 = .ok (.ifCond .lt 31, 3) := by decide +kernel
theorem dX9_isOut_38 : decode cX9_isOut 38 = .ok (.aload_n 0, 1) := by decide +kernel
theorem dX9_isOut_39 : decode cX9_isOut 39 = .ok (.getfield 22, 3) := by decide +kernel
theorem dX9_isOut_42 : decode cX9_isOut 42 = .ok (.bipush 48, 2) := by decide +kernel
theorem dX9_isOut_44 : decode cX9_isOut 44 = .ok (.bipush 6, 2) := by decide +kernel
theorem dX9_isOut_46 : decode cX9_isOut 46 = .ok (.iload 5, 2) := by decide +kernel
theorem dX9_isOut_48 : decode cX9_isOut 48 = .ok (.bipush 8, 2) := by decide +kernel
theorem dX9_isOut_50 : decode cX9_isOut 50 = .ok (.idiv, 1) := by decide +kernel
theorem dX9_isOut_51 : decode cX9_isOut 51 = .ok (.imul, 1) := by decide +kernel
theorem dX9_isOut_52 : decode cX9_isOut 52 = .ok (.iadd, 1) := by decide +kernel
theorem dX9_isOut_53 : decode cX9_isOut 53 = .ok (.iload_n 1, 1) := by decide +kernel
theorem dX9_isOut_54 : decode cX9_isOut 54 = .ok (.iadd, 1) := by decide +kernel
theorem dX9_isOut_55 : decode cX9_isOut 55 = .ok (.dup2, 1) := by decide +kernel
theorem dX9_isOut_56 : decode cX9_isOut 56 = .ok (.iaload, 1) := by decide +kernel
theorem dX9_isOut_57 : decode cX9_isOut 57 = .ok (.iconst 1, 1) := by decide +kernel
theorem dX9_isOut_58 : decode cX9_isOut 58 = .ok (.iload 5, 2) := by decide +kernel
theorem dX9_isOut_60 : decode cX9_isOut 60 = .ok (.bipush 8, 2) := by decide +kernel
theorem dX9_isOut_62 : decode cX9_isOut 62 = .ok (.irem, 1) := by decide +kernel
theorem dX9_isOut_63 : decode cX9_isOut 63 = .ok (.ishl, 1) := by decide +kernel
theorem dX9_isOut_64 : decode cX9_isOut 64 = .ok (.ixor, 1) := by decide +kernel
theorem dX9_isOut_65 : decode cX9_isOut 65 = .ok (.iastore, 1) := by decide +kernel
theorem dX9_isOut_66 : decode cX9_isOut 66 = .ok (.iconst 0, 1) := by decide +kernel
theorem dX9_isOut_67 : decode cX9_isOut 67 = .ok (.istore 6, 2) := by decide +kernel
theorem dX9_isOut_69 : decode cX9_isOut 69 = .ok (.iload 6, 2) := by decide +kernel
theorem dX9_isOut_71 : decode cX9_isOut 71 = .ok (.iload_n 3, 1) := by decide +kernel
theorem dX9_isOut_72 : decode cX9_isOut 72 = .ok (.if_icmp .ge 14, 3) := by decide +kernel
theorem dX9_isOut_75 : decode cX9_isOut 75 = .ok (.aload_n 0, 1) := by decide +kernel
theorem dX9_isOut_76 : decode cX9_isOut 76 = .ok (.iload_n 1, 1) := by decide +kernel
theorem dX9_isOut_77 : decode cX9_isOut 77 = .ok (.invokevirtual 150, 3) := by decide +kernel
theorem dX9_isOut_80 : decode cX9_isOut 80 = .ok (.iinc 6 1, 3) := by decide +kernel
theorem dX9_isOut_83 : decode cX9_isOut 83 = .ok (.goto (-14), 3) := by decide +kernel
theorem dX9_isOut_86 : decode cX9_isOut 86 = .ok (.aload_n 0, 1) := by decide +kernel
theorem dX9_isOut_87 : decode cX9_isOut 87 = .ok (.getfield 22, 3) := by decide +kernel
theorem dX9_isOut_90 : decode cX9_isOut 90 = .ok (.bipush 8, 2) := by decide +kernel
theorem dX9_isOut_92 : decode cX9_isOut 92 = .ok (.iload_n 1, 1) := by decide +kernel
theorem dX9_isOut_93 : decode cX9_isOut 93 = .ok (.imul, 1) := by decide +kernel
theorem dX9_isOut_94 : decode cX9_isOut 94 = .ok (.iload_n 2, 1) := by decide +kernel
theorem dX9_isOut_95 : decode cX9_isOut 95 = .ok (.iadd, 1) := by decide +kernel
theorem dX9_isOut_96 : decode cX9_isOut 96 = .ok (.iaload, 1) := by decide +kernel
theorem dX9_isOut_97 : decode cX9_isOut 97 = .ok (.ifCond .ne 7, 3) := by decide +kernel
theorem dX9_isOut_100 : decode cX9_isOut 100 = .ok (.iconst 1, 1) := by decide +kernel
theorem dX9_isOut_101 : decode cX9_isOut 101 = .ok (.goto 4, 3) := by decide +kernel
theorem dX9_isOut_104 : decode cX9_isOut 104 = .ok (.iconst 0, 1) := by decide +kernel
theorem dX9_isOut_105 : decode cX9_isOut 105 = .ok (.istore 6, 2) := by decide +kernel
theorem dX9_isOut_107 : decode cX9_isOut 107 = .ok (.aload_n 0, 1) := by decide +kernel
theorem dX9_isOut_108 : decode cX9_isOut 108 = .ok (.invokevirtual 165, 3) := by decide +kernel
theorem dX9_isOut_111 : decode cX9_isOut 111 = .ok (.iload 6, 2) := by decide +kernel
theorem dX9_isOut_113 : decode cX9_isOut 113 = .ok (.ireturn, 1) := by decide +kernel
set_option maxRecDepth 20000 in
theorem ggX9_isWord_X9_isPerson : GoodIn wsX9_isWord wsX9_isPerson := goodIn_r _ [5, 6, 7, 8, 4, 9, 14, 15, 16, 17, 18, 19, 20, 21, 22, 23, 24, 25, 26, 27, 28, 29, 30, 31, 32] (by decide +kernel) (by decide +kernel)
set_option maxRecDepth 20000 in
theorem gX9_isWord_X9_isPerson : GoodIn wsX9_isWord (wsV RX9 67 RX9 yX9_isPerson wsX9_isPerson) := goodIn_app (goodIn_of _ (by decide +kernel)) ggX9_isWord_X9_isPerson
set_option maxRecDepth 20000 in
theorem ggX9_isWord_X9_isName : GoodIn wsX9_isWord wsX9_isName := goodIn_r _ [13, 6, 7, 8, 4, 9, 14, 15, 16, 17, 18, 19, 20, 21, 22, 23, 24, 25, 26, 27, 28, 29, 30, 31, 32] (by decide +kernel) (by decide +kernel)
set_option maxRecDepth 20000 in
theorem gX9_isWord_X9_isName : GoodIn wsX9_isWord (wsV RX9 118 RX9 yX9_isName wsX9_isName) := goodIn_app (goodIn_of _ (by decide +kernel)) ggX9_isWord_X9_isName
theorem dX9_isWord_0 : decode cX9_isWord 0 = .ok (.iload_n 2, 1) := by decide +kernel
theorem dX9_isWord_1 : decode cX9_isWord 1 = .ok (.bipush 8, 2) := by decide +kernel
theorem dX9_isWord_3 : decode cX9_isWord 3 = .ok (.idiv, 1) := by decide +kernel
theorem dX9_isWord_4 : decode cX9_isWord 4 = .ok (.iload_n 1, 1) := by decide +kernel
theorem dX9_isWord_5 : decode cX9_isWord 5 = .ok (.if_icmp .eq 29, 3) := by decide +kernel
theorem dX9_isWord_8 : decode cX9_isWord 8 = .ok (.aload_n 0, 1) := by decide +kernel
theorem dX9_isWord_9 : decode cX9_isWord 9 = .ok (.iload_n 2, 1) := by decide +kernel
theorem dX9_isWord_10 : decode cX9_isWord 10 = .ok (.bipush 8, 2) := by decide +kernel
theorem dX9_isWord_12 : decode cX9_isWord 12 = .ok (.idiv, 1) := by decide +kernel
theorem dX9_isWord_13 : decode cX9_isWord 13 = .ok (.invokevirtual 67, 3) := by decide +kernel
theorem dX9_isWord_16 : decode cX9_isWord 16 = .ok (.ifCond .eq 18, 3) := by decide +kernel
theorem dX9_isWord_19 : decode cX9_isWord 19 = .ok (.aload_n 0, 1) := by decide +kernel
theorem dX9_isWord_20 : decode cX9_isWord 20 = .ok (.iload_n 2, 1) := by decide +kernel
theorem dX9_isWord_21 : decode cX9_isWord 21 = .ok (.bipush 8, 2) := by decide +kernel
theorem dX9_isWord_23 : decode cX9_isWord 23 = .ok (.irem, 1) := by decide +kernel
theorem dX9_isWord_24 : decode cX9_isWord 24 = .ok (.invokevirtual 118, 3) := by decide +kernel
theorem dX9_isWord_27 : decode cX9_isWord 27 = .ok (.ifCond .eq 7, 3) := by decide +kernel
theorem dX9_isWord_30 : decode cX9_isWord 30 = .ok (.iconst 1, 1) := by decide +kernel
theorem dX9_isWord_31 : decode cX9_isWord 31 = .ok (.goto 4, 3) := by decide +kernel
theorem dX9_isWord_34 : decode cX9_isWord 34 = .ok (.iconst 0, 1) := by decide +kernel
theorem dX9_isWord_35 : decode cX9_isWord 35 = .ok (.ireturn, 1) := by decide +kernel
set_option maxRecDepth 20000 in
theorem ggX9_out_X9_isPerson : GoodIn wsX9_out wsX9_isPerson := goodIn_r _ [5, 6, 7, 8, 4, 9, 76, 77, 78, 79, 80, 81, 82, 83, 84, 85, 86, 87, 88, 89, 90, 91, 92, 93, 94] (by decide +kernel) (by decide +kernel)
set_option maxRecDepth 20000 in
theorem gX9_out_X9_isPerson : GoodIn wsX9_out (wsV RX9 67 RX9 yX9_isPerson wsX9_isPerson) := goodIn_app (goodIn_of _ (by decide +kernel)) ggX9_out_X9_isPerson
set_option maxRecDepth 20000 in
theorem ggX9_out_X9_isName : GoodIn wsX9_out wsX9_isName := goodIn_r _ [13, 6, 7, 8, 4, 9, 76, 77, 78, 79, 80, 81, 82, 83, 84, 85, 86, 87, 88, 89, 90, 91, 92, 93, 94] (by decide +kernel) (by decide +kernel)
set_option maxRecDepth 20000 in
theorem gX9_out_X9_isName : GoodIn wsX9_out (wsV RX9 118 RX9 yX9_isName wsX9_isName) := goodIn_app (goodIn_of _ (by decide +kernel)) ggX9_out_X9_isName
set_option maxRecDepth 20000 in
theorem ggX9_out_X9_in : GoodIn wsX9_out wsX9_in := goodIn_r _ [9] (by decide +kernel) (by decide +kernel)
set_option maxRecDepth 20000 in
theorem gX9_out_X9_in : GoodIn wsX9_out (va_wsS RX9 63 yX9_in wsX9_in) := goodIn_app (goodIn_of _ (by decide +kernel)) ggX9_out_X9_in
set_option maxRecDepth 20000 in
theorem ggX9_out_X9_holds : GoodIn wsX9_out wsX9_holds := goodIn_r _ [17, 18, 19, 76, 77, 78, 79, 80, 81, 82, 83, 84, 85, 86, 87, 88, 89, 90, 91, 92, 93, 94] (by decide +kernel) (by decide +kernel)
set_option maxRecDepth 20000 in
theorem gX9_out_X9_holds : GoodIn wsX9_out (wsV RX9 162 RX9 yX9_holds wsX9_holds) := goodIn_app (goodIn_of _ (by decide +kernel)) ggX9_out_X9_holds
set_option maxRecDepth 20000 in
theorem ggX9_out_X9_isOut : GoodIn wsX9_out wsX9_isOut := goodIn_r _ [23, 19, 24, 25, 26, 4, 27, 6, 28, 29, 30, 31, 32, 33, 34, 35, 36, 37, 38, 39, 40, 41, 42, 43, 44, 7, 8, 9, 45, 46, 47, 48, 49, 50, 51, 52, 53, 54, 55, 56, 57, 58, 59, 60, 61, 62, 63, 64, 65, 66, 67, 68, 69, 70, 71, 18, 76, 77, 78, 79, 80, 81, 82, 83, 84, 85, 86, 87, 88, 89, 90, 91, 92, 93, 94] (by decide +kernel) (by decide +kernel)
set_option maxRecDepth 20000 in
theorem gX9_out_X9_isOut : GoodIn wsX9_out (wsV RX9 168 RX9 yX9_isOut wsX9_isOut) := goodIn_app (goodIn_of _ (by decide +kernel)) ggX9_out_X9_isOut
set_option maxRecDepth 20000 in
theorem ggX9_out_X9_isWord : GoodIn wsX9_out wsX9_isWord := goodIn_r _ [75, 1, 2, 3, 4, 5, 6, 7, 8, 9, 10, 11, 12, 13, 76, 77, 78, 79, 80, 81, 82, 83, 84, 85, 86, 87, 88, 89, 90, 91, 92, 93, 94] (by decide +kernel) (by decide +kernel)
set_option maxRecDepth 20000 in
theorem gX9_out_X9_isWord : GoodIn wsX9_out (wsV RX9 172 RX9 yX9_isWord wsX9_isWord) := goodIn_app (goodIn_of _ (by decide +kernel)) ggX9_out_X9_isWord
theorem dX9_out_0 : decode cX9_out 0 = .ok (.aload_n 0, 1) := by decide +kernel
theorem dX9_out_1 : decode cX9_out 1 = .ok (.iload_n 1, 1) := by decide +kernel
theorem dX9_out_2 : decode cX9_out 2 = .ok (.invokevirtual 67, 3) := by decide +kernel
theorem dX9_out_5 : decode cX9_out 5 = .ok (.ifCond .eq 31, 3) := by decide +kernel
theorem dX9_out_8 : decode cX9_out 8 = .ok (.aload_n 0, 1) := by decide +kernel
theorem dX9_out_9 : decode cX9_out 9 = .ok (.iload_n 2, 1) := by decide +kernel
theorem dX9_out_10 : decode cX9_out 10 = .ok (.invokevirtual 118, 3) := by decide +kernel
theorem dX9_out_13 : decode cX9_out 13 = .ok (.ifCond .eq 23, 3) := by decide +kernel
theorem dX9_out_16 : decode cX9_out 16 = .ok (.iload_n 3, 1) := by decide +kernel
theorem dX9_out_17 : decode cX9_out 17 = .ok (.iconst 1, 1) := by decide +kernel
theorem dX9_out_18 : decode cX9_out 18 = .ok (.bipush 20, 2) := by decide +kernel
theorem dX9_out_20 : decode cX9_out 20 = .ok (.invokestatic 63, 3) := by decide +kernel
theorem dX9_out_23 : decode cX9_out 23 = .ok (.ifCond .eq 13, 3) := by decide +kernel
theorem dX9_out_26 : decode cX9_out 26 = .ok (.iload 4, 2) := by decide +kernel
theorem dX9_out_28 : decode cX9_out 28 = .ok (.iconst 0, 1) := by decide +kernel
theorem dX9_out_29 : decode cX9_out 29 = .ok (.iconst 2, 1) := by decide +kernel
theorem dX9_out_30 : decode cX9_out 30 = .ok (.invokestatic 63, 3) := by decide +kernel
theorem dX9_out_33 : decode cX9_out 33 = .ok (.ifCond .ne 5, 3) := by decide +kernel
theorem dX9_out_36 : decode cX9_out 36 = .ok (.iconst (-1), 1) := by decide +kernel
theorem dX9_out_37 : decode cX9_out 37 = .ok (.ireturn, 1) := by decide +kernel
theorem dX9_out_38 : decode cX9_out 38 = .ok (.aload_n 0, 1) := by decide +kernel
theorem dX9_out_39 : decode cX9_out 39 = .ok (.invokevirtual 162, 3) := by decide +kernel
theorem dX9_out_42 : decode cX9_out 42 = .ok (.aload_n 0, 1) := by decide +kernel
theorem dX9_out_43 : decode cX9_out 43 = .ok (.iload_n 1, 1) := by decide +kernel
theorem dX9_out_44 : decode cX9_out 44 = .ok (.iload_n 2, 1) := by decide +kernel
theorem dX9_out_45 : decode cX9_out 45 = .ok (.iload_n 3, 1) := by decide +kernel
theorem dX9_out_46 : decode cX9_out 46 = .ok (.iconst (-1), 1) := by decide +kernel
theorem dX9_out_47 : decode cX9_out 47 = .ok (.iconst (-1), 1) := by decide +kernel
theorem dX9_out_48 : decode cX9_out 48 = .ok (.invokevirtual 168, 3) := by decide +kernel
theorem dX9_out_51 : decode cX9_out 51 = .ok (.ifCond .eq 7, 3) := by decide +kernel
theorem dX9_out_54 : decode cX9_out 54 = .ok (.iconst 0, 1) := by decide +kernel
theorem dX9_out_55 : decode cX9_out 55 = .ok (.goto 5, 3) := by decide +kernel
theorem dX9_out_58 : decode cX9_out 58 = .ok (.bipush (-4), 2) := by decide +kernel
theorem dX9_out_60 : decode cX9_out 60 = .ok (.istore 5, 2) := by decide +kernel
theorem dX9_out_62 : decode cX9_out 62 = .ok (.bipush (-4), 2) := by decide +kernel
theorem dX9_out_64 : decode cX9_out 64 = .ok (.istore 6, 2) := by decide +kernel
theorem dX9_out_66 : decode cX9_out 66 = .ok (.bipush (-4), 2) := by decide +kernel
theorem dX9_out_68 : decode cX9_out 68 = .ok (.istore 7, 2) := by decide +kernel
theorem dX9_out_70 : decode cX9_out 70 = .ok (.iconst 0, 1) := by decide +kernel
theorem dX9_out_71 : decode cX9_out 71 = .ok (.istore 8, 2) := by decide +kernel
theorem dX9_out_73 : decode cX9_out 73 = .ok (.iload 8, 2) := by decide +kernel
theorem dX9_out_75 : decode cX9_out 75 = .ok (.bipush 48, 2) := by decide +kernel
theorem dX9_out_77 : decode cX9_out 77 = .ok (.if_icmp .ge 46, 3) := by decide +kernel
theorem dX9_out_80 : decode cX9_out 80 = .ok (.iload 5, 2) := by decide +kernel
theorem dX9_out_82 : decode cX9_out 82 = .ok (.bipush (-4), 2) := by decide +kernel
theorem dX9_out_84 : decode cX9_out 84 = .ok (.if_icmp .ne 39, 3) := by decide +kernel
theorem dX9_out_87 : decode cX9_out 87 = .ok (.aload_n 0, 1) := by decide +kernel
theorem dX9_out_88 : decode cX9_out 88 = .ok (.iload_n 1, 1) := by decide +kernel
theorem dX9_out_89 : decode cX9_out 89 = .ok (.iload 8, 2) := by decide +kernel
theorem dX9_out_91 : decode cX9_out 91 = .ok (.invokevirtual 172, 3) := by decide +kernel
theorem dX9_out_94 : decode cX9_out 94 = .ok (.ifCond .eq 23, 3) := by decide +kernel
theorem dX9_out_97 : decode cX9_out 97 = .ok (.aload_n 0, 1) := by decide +kernel
theorem dX9_out_98 : decode cX9_out 98 = .ok (.iload_n 1, 1) := by decide +kernel
theorem dX9_out_99 : decode cX9_out 99 = .ok (.iload_n 2, 1) := by decide +kernel
theorem dX9_out_100 : decode cX9_out 100 = .ok (.iload_n 3, 1) := by decide +kernel
theorem dX9_out_101 : decode cX9_out 101 = .ok (.iload 8, 2) := by decide +kernel
theorem dX9_out_103 : decode cX9_out 103 = .ok (.iconst (-1), 1) := by decide +kernel
theorem dX9_out_104 : decode cX9_out 104 = .ok (.invokevirtual 168, 3) := by decide +kernel
theorem dX9_out_107 : decode cX9_out 107 = .ok (.ifCond .eq 10, 3) := by decide +kernel
theorem dX9_out_110 : decode cX9_out 110 = .ok (.iconst 1, 1) := by decide +kernel
theorem dX9_out_111 : decode cX9_out 111 = .ok (.istore 5, 2) := by decide +kernel
theorem dX9_out_113 : decode cX9_out 113 = .ok (.iload 8, 2) := by decide +kernel
theorem dX9_out_115 : decode cX9_out 115 = .ok (.istore 6, 2) := by decide +kernel
theorem dX9_out_117 : decode cX9_out 117 = .ok (.iinc 8 1, 3) := by decide +kernel
theorem dX9_out_120 : decode cX9_out 120 = .ok (.goto (-47), 3) := by decide +kernel
theorem dX9_out_123 : decode cX9_out 123 = .ok (.iconst 0, 1) := by decide +kernel
theorem dX9_out_124 : decode cX9_out 124 = .ok (.istore 8, 2) := by decide +kernel
theorem dX9_out_126 : decode cX9_out 126 = .ok (.iload 8, 2) := by decide +kernel
theorem dX9_out_128 : decode cX9_out 128 = .ok (.bipush 48, 2) := by decide +kernel
theorem dX9_out_130 : decode cX9_out 130 = .ok (.if_icmp .ge 87, 3) := by decide +kernel
theorem dX9_out_133 : decode cX9_out 133 = .ok (.iload 5, 2) := by decide +kernel
theorem dX9_out_135 : decode cX9_out 135 = .ok (.bipush (-4), 2) := by decide +kernel
theorem dX9_out_137 : decode cX9_out 137 = .ok (.if_icmp .ne 80, 3) := by decide +kernel
theorem dX9_out_140 : decode cX9_out 140 = .ok (.iload 8, 2) := by decide +kernel
theorem dX9_out_142 : decode cX9_out 142 = .ok (.iconst 1, 1) := by decide +kernel
theorem dX9_out_143 : decode cX9_out 143 = .ok (.iadd, 1) := by decide +kernel
theorem dX9_out_144 : decode cX9_out 144 = .ok (.istore 9, 2) := by decide +kernel
theorem dX9_out_146 : decode cX9_out 146 = .ok (.iload 9, 2) := by decide +kernel
theorem dX9_out_148 : decode cX9_out 148 = .ok (.bipush 48, 2) := by decide +kernel
theorem dX9_out_150 : decode cX9_out 150 = .ok (.if_icmp .ge 61, 3) := by decide +kernel
theorem dX9_out_153 : decode cX9_out 153 = .ok (.iload 5, 2) := by decide +kernel
theorem dX9_out_155 : decode cX9_out 155 = .ok (.bipush (-4), 2) := by decide +kernel
theorem dX9_out_157 : decode cX9_out 157 = .ok (.if_icmp .ne 54, 3) := by decide +kernel
theorem dX9_out_160 : decode cX9_out 160 = .ok (.aload_n 0, 1) := by decide +kernel
theorem dX9_out_161 : decode cX9_out 161 = .ok (.iload_n 1, 1) := by decide +kernel
theorem dX9_out_162 : decode cX9_out 162 = .ok (.iload 8, 2) := by decide +kernel
theorem dX9_out_164 : decode cX9_out 164 = .ok (.invokevirtual 172, 3) := by decide +kernel
theorem dX9_out_167 : decode cX9_out 167 = .ok (.ifCond .eq 38, 3) := by decide +kernel
theorem dX9_out_170 : decode cX9_out 170 = .ok (.aload_n 0, 1) := by decide +kernel
theorem dX9_out_171 : decode cX9_out 171 = .ok (.iload_n 1, 1) := by decide +kernel
theorem dX9_out_172 : decode cX9_out 172 = .ok (.iload 9, 2) := by decide +kernel
theorem dX9_out_174 : decode cX9_out 174 = .ok (.invokevirtual 172, 3) := by decide +kernel
theorem dX9_out_177 : decode cX9_out 177 = .ok (.ifCond .eq 28, 3) := by decide +kernel
theorem dX9_out_180 : decode cX9_out 180 = .ok (.aload_n 0, 1) := by decide +kernel
theorem dX9_out_181 : decode cX9_out 181 = .ok (.iload_n 1, 1) := by decide +kernel
theorem dX9_out_182 : decode cX9_out 182 = .ok (.iload_n 2, 1) := by decide +kernel
theorem dX9_out_183 : decode cX9_out 183 = .ok (.iload_n 3, 1) := by decide +kernel
theorem dX9_out_184 : decode cX9_out 184 = .ok (.iload 8, 2) := by decide +kernel
theorem dX9_out_186 : decode cX9_out 186 = .ok (.iload 9, 2) := by decide +kernel
theorem dX9_out_188 : decode cX9_out 188 = .ok (.invokevirtual 168, 3) := by decide +kernel
theorem dX9_out_191 : decode cX9_out 191 = .ok (.ifCond .eq 14, 3) := by decide +kernel
theorem dX9_out_194 : decode cX9_out 194 = .ok (.iconst 2, 1) := by decide +kernel
theorem dX9_out_195 : decode cX9_out 195 = .ok (.istore 5, 2) := by decide +kernel
theorem dX9_out_197 : decode cX9_out 197 = .ok (.iload 8, 2) := by decide +kernel
theorem dX9_out_199 : decode cX9_out 199 = .ok (.istore 6, 2) := by decide +kernel
theorem dX9_out_201 : decode cX9_out 201 = .ok (.iload 9, 2) := by decide +kernel
theorem dX9_out_203 : decode cX9_out 203 = .ok (.istore 7, 2) := by decide +kernel
theorem dX9_out_205 : decode cX9_out 205 = .ok (.iinc 9 1, 3) := by decide +kernel
theorem dX9_out_208 : decode cX9_out 208 = .ok (.goto (-62), 3) := by decide +kernel
theorem dX9_out_211 : decode cX9_out 211 = .ok (.iinc 8 1, 3) := by decide +kernel
theorem dX9_out_214 : decode cX9_out 214 = .ok (.goto (-88), 3) := by decide +kernel
theorem dX9_out_217 : decode cX9_out 217 = .ok (.iload 4, 2) := by decide +kernel
theorem dX9_out_219 : decode cX9_out 219 = .ok (.iconst 1, 1) := by decide +kernel
theorem dX9_out_220 : decode cX9_out 220 = .ok (.if_icmp .ne 8, 3) := by decide +kernel
theorem dX9_out_223 : decode cX9_out 223 = .ok (.iload 6, 2) := by decide +kernel
theorem dX9_out_225 : decode cX9_out 225 = .ok (.goto 5, 3) := by decide +kernel
theorem dX9_out_228 : decode cX9_out 228 = .ok (.iload 7, 2) := by decide +kernel
theorem dX9_out_230 : decode cX9_out 230 = .ok (.istore 8, 2) := by decide +kernel
theorem dX9_out_232 : decode cX9_out 232 = .ok (.iload 4, 2) := by decide +kernel
theorem dX9_out_234 : decode cX9_out 234 = .ok (.ifCond .ne 8, 3) := by decide +kernel
theorem dX9_out_237 : decode cX9_out 237 = .ok (.iload 5, 2) := by decide +kernel
theorem dX9_out_239 : decode cX9_out 239 = .ok (.goto 29, 3) := by decide +kernel
theorem dX9_out_242 : decode cX9_out 242 = .ok (.iload 8, 2) := by decide +kernel
theorem dX9_out_244 : decode cX9_out 244 = .ok (.bipush (-4), 2) := by decide +kernel
theorem dX9_out_246 : decode cX9_out 246 = .ok (.if_icmp .ne 8, 3) := by decide +kernel
theorem dX9_out_249 : decode cX9_out 249 = .ok (.bipush (-4), 2) := by decide +kernel
theorem dX9_out_251 : decode cX9_out 251 = .ok (.goto 17, 3) := by decide +kernel
theorem dX9_out_254 : decode cX9_out 254 = .ok (.bipush 10, 2) := by decide +kernel
theorem dX9_out_256 : decode cX9_out 256 = .ok (.iload 8, 2) := by decide +kernel
theorem dX9_out_258 : decode cX9_out 258 = .ok (.bipush 8, 2) := by decide +kernel
theorem dX9_out_260 : decode cX9_out 260 = .ok (.idiv, 1) := by decide +kernel
theorem dX9_out_261 : decode cX9_out 261 = .ok (.imul, 1) := by decide +kernel
theorem dX9_out_262 : decode cX9_out 262 = .ok (.iload 8, 2) := by decide +kernel
theorem dX9_out_264 : decode cX9_out 264 = .ok (.bipush 8, 2) := by decide +kernel
theorem dX9_out_266 : decode cX9_out 266 = .ok (.irem, 1) := by decide +kernel
theorem dX9_out_267 : decode cX9_out 267 = .ok (.iadd, 1) := by decide +kernel
theorem dX9_out_268 : decode cX9_out 268 = .ok (.ireturn, 1) := by decide +kernel
set_option maxRecDepth 20000 in
theorem ggX9_rooms_X9_isPerson : GoodIn wsX9_rooms wsX9_isPerson := goodIn_r _ [6, 1, 7, 8, 5, 9, 19, 20, 21, 22, 23, 24, 25, 26, 27, 28, 29, 30, 31, 32, 33, 34, 35, 36, 37] (by decide +kernel) (by decide +kernel)
set_option maxRecDepth 20000 in
theorem gX9_rooms_X9_isPerson : GoodIn wsX9_rooms (wsV RX9 67 RX9 yX9_isPerson wsX9_isPerson) := goodIn_app (goodIn_of _ (by decide +kernel)) ggX9_rooms_X9_isPerson
set_option maxRecDepth 20000 in
theorem ggX9_rooms_X9_lodgers : GoodIn wsX9_rooms wsX9_lodgers := goodIn_r _ [13, 14, 19, 20, 21, 22, 23, 24, 25, 26, 27, 28, 29, 30, 31, 32, 33, 34, 35, 36, 37] (by decide +kernel) (by decide +kernel)
set_option maxRecDepth 20000 in
theorem gX9_rooms_X9_lodgers : GoodIn wsX9_rooms (wsV RX9 112 RX9 yX9_lodgers wsX9_lodgers) := goodIn_app (goodIn_of _ (by decide +kernel)) ggX9_rooms_X9_lodgers
set_option maxRecDepth 20000 in
theorem ggX9_rooms_X9_quarrels : GoodIn wsX9_rooms wsX9_quarrels := goodIn_r _ [18, 1, 7, 8, 5, 9, 19, 20, 21, 22, 23, 24, 25, 26, 27, 28, 29, 30, 31, 32, 33, 34, 35, 36, 37] (by decide +kernel) (by decide +kernel)
set_option maxRecDepth 20000 in
theorem gX9_rooms_X9_quarrels : GoodIn wsX9_rooms (wsV RX9 125 RX9 yX9_quarrels wsX9_quarrels) := goodIn_app (goodIn_of _ (by decide +kernel)) ggX9_rooms_X9_quarrels
theorem dX9_rooms_0 : decode cX9_rooms 0 = .ok (.aload_n 0, 1) := by decide +kernel
theorem dX9_rooms_1 : decode cX9_rooms 1 = .ok (.iload_n 1, 1) := by decide +kernel
theorem dX9_rooms_2 : decode cX9_rooms 2 = .ok (.invokevirtual 67, 3) := by decide +kernel
theorem dX9_rooms_5 : decode cX9_rooms 5 = .ok (.ifCond .ne 5, 3) := by decide +kernel
theorem dX9_rooms_8 : decode cX9_rooms 8 = .ok (.iconst (-1), 1) := by decide +kernel
theorem dX9_rooms_9 : decode cX9_rooms 9 = .ok (.ireturn, 1) := by decide +kernel
theorem dX9_rooms_10 : decode cX9_rooms 10 = .ok (.iconst 0, 1) := by decide +kernel
theorem dX9_rooms_11 : decode cX9_rooms 11 = .ok (.istore_n 2, 1) := by decide +kernel
theorem dX9_rooms_12 : decode cX9_rooms 12 = .ok (.aload_n 0, 1) := by decide +kernel
theorem dX9_rooms_13 : decode cX9_rooms 13 = .ok (.iload_n 1, 1) := by decide +kernel
theorem dX9_rooms_14 : decode cX9_rooms 14 = .ok (.invokevirtual 112, 3) := by decide +kernel
theorem dX9_rooms_17 : decode cX9_rooms 17 = .ok (.istore_n 3, 1) := by decide +kernel
theorem dX9_rooms_18 : decode cX9_rooms 18 = .ok (.iload_n 3, 1) := by decide +kernel
theorem dX9_rooms_19 : decode cX9_rooms 19 = .ok (.ifCond .eq 115, 3) := by decide +kernel
theorem dX9_rooms_22 : decode cX9_rooms 22 = .ok (.iconst (-1), 1) := by decide +kernel
theorem dX9_rooms_23 : decode cX9_rooms 23 = .ok (.istore 4, 2) := by decide +kernel
theorem dX9_rooms_25 : decode cX9_rooms 25 = .ok (.iconst 0, 1) := by decide +kernel
theorem dX9_rooms_26 : decode cX9_rooms 26 = .ok (.istore 5, 2) := by decide +kernel
theorem dX9_rooms_28 : decode cX9_rooms 28 = .ok (.iload 5, 2) := by decide +kernel
theorem dX9_rooms_30 : decode cX9_rooms 30 = .ok (.bipush 8, 2) := by decide +kernel
theorem dX9_rooms_32 : decode cX9_rooms 32 = .ok (.if_icmp .ge 56, 3) := by decide +kernel
theorem dX9_rooms_35 : decode cX9_rooms 35 = .ok (.iload_n 3, 1) := by decide +kernel
theorem dX9_rooms_36 : decode cX9_rooms 36 = .ok (.iload 5, 2) := by decide +kernel
theorem dX9_rooms_38 : decode cX9_rooms 38 = .ok (.ishr, 1) := by decide +kernel
theorem dX9_rooms_39 : decode cX9_rooms 39 = .ok (.iconst 1, 1) := by decide +kernel
theorem dX9_rooms_40 : decode cX9_rooms 40 = .ok (.iand, 1) := by decide +kernel
theorem dX9_rooms_41 : decode cX9_rooms 41 = .ok (.iconst 1, 1) := by decide +kernel
theorem dX9_rooms_42 : decode cX9_rooms 42 = .ok (.if_icmp .ne 36, 3) := by decide +kernel
theorem dX9_rooms_45 : decode cX9_rooms 45 = .ok (.iload 4, 2) := by decide +kernel
theorem dX9_rooms_47 : decode cX9_rooms 47 = .ok (.ifCond .lt 26, 3) := by decide +kernel
theorem dX9_rooms_50 : decode cX9_rooms 50 = .ok (.aload_n 0, 1) := by decide +kernel
theorem dX9_rooms_51 : decode cX9_rooms 51 = .ok (.getfield 13, 3) := by decide +kernel
theorem dX9_rooms_54 : decode cX9_rooms 54 = .ok (.bipush 21, 2) := by decide +kernel
theorem dX9_rooms_56 : decode cX9_rooms 56 = .ok (.iload 5, 2) := by decide +kernel
theorem dX9_rooms_58 : decode cX9_rooms 58 = .ok (.iadd, 1) := by decide +kernel
theorem dX9_rooms_59 : decode cX9_rooms 59 = .ok (.iaload, 1) := by decide +kernel
theorem dX9_rooms_60 : decode cX9_rooms 60 = .ok (.aload_n 0, 1) := by decide +kernel
theorem dX9_rooms_61 : decode cX9_rooms 61 = .ok (.getfield 13, 3) := by decide +kernel
theorem dX9_rooms_64 : decode cX9_rooms 64 = .ok (.bipush 21, 2) := by decide +kernel
theorem dX9_rooms_66 : decode cX9_rooms 66 = .ok (.iload 4, 2) := by decide +kernel
theorem dX9_rooms_68 : decode cX9_rooms 68 = .ok (.iadd, 1) := by decide +kernel
theorem dX9_rooms_69 : decode cX9_rooms 69 = .ok (.iaload, 1) := by decide +kernel
theorem dX9_rooms_70 : decode cX9_rooms 70 = .ok (.if_icmp .ge 8, 3) := by decide +kernel
theorem dX9_rooms_73 : decode cX9_rooms 73 = .ok (.iload 5, 2) := by decide +kernel
theorem dX9_rooms_75 : decode cX9_rooms 75 = .ok (.goto 5, 3) := by decide +kernel
theorem dX9_rooms_78 : decode cX9_rooms 78 = .ok (.iload 4, 2) := by decide +kernel
theorem dX9_rooms_80 : decode cX9_rooms 80 = .ok (.istore 4, 2) := by decide +kernel
theorem dX9_rooms_82 : decode cX9_rooms 82 = .ok (.iinc 5 1, 3) := by decide +kernel
theorem dX9_rooms_85 : decode cX9_rooms 85 = .ok (.goto (-57), 3) := by decide +kernel
theorem dX9_rooms_88 : decode cX9_rooms 88 = .ok (.iconst 0, 1) := by decide +kernel
theorem dX9_rooms_89 : decode cX9_rooms 89 = .ok (.istore 5, 2) := by decide +kernel
theorem dX9_rooms_91 : decode cX9_rooms 91 = .ok (.iload 5, 2) := by decide +kernel
theorem dX9_rooms_93 : decode cX9_rooms 93 = .ok (.bipush 8, 2) := by decide +kernel
theorem dX9_rooms_95 : decode cX9_rooms 95 = .ok (.if_icmp .ge 33, 3) := by decide +kernel
theorem dX9_rooms_98 : decode cX9_rooms 98 = .ok (.iload_n 3, 1) := by decide +kernel
theorem dX9_rooms_99 : decode cX9_rooms 99 = .ok (.aload_n 0, 1) := by decide +kernel
theorem dX9_rooms_100 : decode cX9_rooms 100 = .ok (.iload 4, 2) := by decide +kernel
theorem dX9_rooms_102 : decode cX9_rooms 102 = .ok (.iload 5, 2) := by decide +kernel
theorem dX9_rooms_104 : decode cX9_rooms 104 = .ok (.invokevirtual 125, 3) := by decide +kernel
theorem dX9_rooms_107 : decode cX9_rooms 107 = .ok (.ifCond .eq 7, 3) := by decide +kernel
theorem dX9_rooms_110 : decode cX9_rooms 110 = .ok (.iconst (-1), 1) := by decide +kernel
theorem dX9_rooms_111 : decode cX9_rooms 111 = .ok (.goto 9, 3) := by decide +kernel
theorem dX9_rooms_114 : decode cX9_rooms 114 = .ok (.iconst 1, 1) := by decide +kernel
theorem dX9_rooms_115 : decode cX9_rooms 115 = .ok (.iload 5, 2) := by decide +kernel
theorem dX9_rooms_117 : decode cX9_rooms 117 = .ok (.ishl, 1) := by decide +kernel
theorem dX9_rooms_118 : decode cX9_rooms 118 = .ok (.iconst (-1), 1) := by decide +kernel
theorem dX9_rooms_119 : decode cX9_rooms 119 = .ok (.ixor, 1) := by decide +kernel
theorem dX9_rooms_120 : decode cX9_rooms 120 = .ok (.iand, 1) := by decide +kernel
theorem dX9_rooms_121 : decode cX9_rooms 121 = .ok (.istore_n 3, 1) := by decide +kernel
theorem dX9_rooms_122 : decode cX9_rooms 122 = .ok (.iinc 5 1, 3) := by decide +kernel
theorem dX9_rooms_125 : decode cX9_rooms 125 = .ok (.goto (-34), 3) := by decide +kernel
theorem dX9_rooms_128 : decode cX9_rooms 128 = .ok (.iinc 2 1, 3) := by decide +kernel
theorem dX9_rooms_131 : decode cX9_rooms 131 = .ok (.goto (-113), 3) := by decide +kernel
theorem dX9_rooms_134 : decode cX9_rooms 134 = .ok (.iload_n 2, 1) := by decide +kernel
theorem dX9_rooms_135 : decode cX9_rooms 135 = .ok (.ireturn, 1) := by decide +kernel
set_option maxRecDepth 20000 in
theorem ggX9_plays_X9_goesBy : GoodIn wsX9_plays wsX9_goesBy := goodIn_r _ [7, 8, 1, 9, 10, 11, 6, 12, 13, 14, 15, 16, 17, 18, 19, 20, 21, 22, 23, 24, 25, 26, 27, 28, 29, 30, 31, 32, 33, 34, 35, 36, 37, 38, 39, 40, 41, 42, 43, 44, 45, 46, 47, 48, 49, 50, 51, 57, 58, 59, 60, 61, 62, 63, 64, 65, 66, 67, 68, 69, 70, 71, 72, 73, 74, 75] (by decide +kernel) (by decide +kernel)
set_option maxRecDepth 20000 in
theorem gX9_plays_X9_goesBy : GoodIn wsX9_plays (wsV RX9 150 RX9 yX9_goesBy wsX9_goesBy) := goodIn_app (goodIn_of _ (by decide +kernel)) ggX9_plays_X9_goesBy
set_option maxRecDepth 20000 in
theorem ggX9_plays_X9_sumOf : GoodIn wsX9_plays wsX9_sumOf := goodIn_r _ [51, 1, 8, 57, 58, 59, 60, 61, 62, 63, 64, 65, 66, 67, 68, 69, 70, 71, 72, 73, 74, 75] (by decide +kernel) (by decide +kernel)
set_option maxRecDepth 20000 in
theorem gX9_plays_X9_sumOf : GoodIn wsX9_plays (wsV RX9 108 RX9 yX9_sumOf wsX9_sumOf) := goodIn_app (goodIn_of _ (by decide +kernel)) ggX9_plays_X9_sumOf
set_option maxRecDepth 20000 in
theorem ggX9_plays_X9_lets : GoodIn wsX9_plays wsX9_lets := goodIn_r _ [55, 1, 56, 57, 58, 59, 60, 61, 62, 63, 64, 65, 66, 67, 68, 69, 70, 71, 72, 73, 74, 75] (by decide +kernel) (by decide +kernel)
set_option maxRecDepth 20000 in
theorem gX9_plays_X9_lets : GoodIn wsX9_plays (wsV RX9 165 RX9 yX9_lets wsX9_lets) := goodIn_app (goodIn_of _ (by decide +kernel)) ggX9_plays_X9_lets
theorem dX9_plays_0 : decode cX9_plays 0 = .ok (.iconst 0, 1) := by decide +kernel
theorem dX9_plays_1 : decode cX9_plays 1 = .ok (.istore 4, 2) := by decide +kernel
theorem dX9_plays_3 : decode cX9_plays 3 = .ok (.iload 4, 2) := by decide +kernel
theorem dX9_plays_5 : decode cX9_plays 5 = .ok (.bipush 9, 2) := by decide +kernel
theorem dX9_plays_7 : decode cX9_plays 7 = .ok (.if_icmp .ge 146, 3) := by decide +kernel
theorem dX9_plays_10 : decode cX9_plays 10 = .ok (.iconst 0, 1) := by decide +kernel
theorem dX9_plays_11 : decode cX9_plays 11 = .ok (.istore 5, 2) := by decide +kernel
theorem dX9_plays_13 : decode cX9_plays 13 = .ok (.iload 5, 2) := by decide +kernel
theorem dX9_plays_15 : decode cX9_plays 15 = .ok (.bipush 9, 2) := by decide +kernel
theorem dX9_plays_17 : decode cX9_plays 17 = .ok (.if_icmp .ge 130, 3) := by decide +kernel
theorem dX9_plays_20 : decode cX9_plays 20 = .ok (.aload_n 0, 1) := by decide +kernel
theorem dX9_plays_21 : decode cX9_plays 21 = .ok (.getfield 22, 3) := by decide +kernel
theorem dX9_plays_24 : decode cX9_plays 24 = .ok (.bipush 48, 2) := by decide +kernel
theorem dX9_plays_26 : decode cX9_plays 26 = .ok (.bipush 6, 2) := by decide +kernel
theorem dX9_plays_28 : decode cX9_plays 28 = .ok (.iload_n 1, 1) := by decide +kernel
theorem dX9_plays_29 : decode cX9_plays 29 = .ok (.imul, 1) := by decide +kernel
theorem dX9_plays_30 : decode cX9_plays 30 = .ok (.iadd, 1) := by decide +kernel
theorem dX9_plays_31 : decode cX9_plays 31 = .ok (.iload_n 2, 1) := by decide +kernel
theorem dX9_plays_32 : decode cX9_plays 32 = .ok (.iadd, 1) := by decide +kernel
theorem dX9_plays_33 : decode cX9_plays 33 = .ok (.dup2, 1) := by decide +kernel
theorem dX9_plays_34 : decode cX9_plays 34 = .ok (.iaload, 1) := by decide +kernel
theorem dX9_plays_35 : decode cX9_plays 35 = .ok (.iload 4, 2) := by decide +kernel
theorem dX9_plays_37 : decode cX9_plays 37 = .ok (.bipush 8, 2) := by decide +kernel
theorem dX9_plays_39 : decode cX9_plays 39 = .ok (.if_icmp .ge 10, 3) := by decide +kernel
theorem dX9_plays_42 : decode cX9_plays 42 = .ok (.iconst 1, 1) := by decide +kernel
theorem dX9_plays_43 : decode cX9_plays 43 = .ok (.iload 4, 2) := by decide +kernel
theorem dX9_plays_45 : decode cX9_plays 45 = .ok (.ishl, 1) := by decide +kernel
theorem dX9_plays_46 : decode cX9_plays 46 = .ok (.goto 4, 3) := by decide +kernel
theorem dX9_plays_49 : decode cX9_plays 49 = .ok (.iconst 0, 1) := by decide +kernel
theorem dX9_plays_50 : decode cX9_plays 50 = .ok (.ior, 1) := by decide +kernel
theorem dX9_plays_51 : decode cX9_plays 51 = .ok (.iastore, 1) := by decide +kernel
theorem dX9_plays_52 : decode cX9_plays 52 = .ok (.aload_n 0, 1) := by decide +kernel
theorem dX9_plays_53 : decode cX9_plays 53 = .ok (.getfield 22, 3) := by decide +kernel
theorem dX9_plays_56 : decode cX9_plays 56 = .ok (.bipush 48, 2) := by decide +kernel
theorem dX9_plays_58 : decode cX9_plays 58 = .ok (.bipush 6, 2) := by decide +kernel
theorem dX9_plays_60 : decode cX9_plays 60 = .ok (.iload_n 2, 1) := by decide +kernel
theorem dX9_plays_61 : decode cX9_plays 61 = .ok (.imul, 1) := by decide +kernel
theorem dX9_plays_62 : decode cX9_plays 62 = .ok (.iadd, 1) := by decide +kernel
theorem dX9_plays_63 : decode cX9_plays 63 = .ok (.iload_n 1, 1) := by decide +kernel
theorem dX9_plays_64 : decode cX9_plays 64 = .ok (.iadd, 1) := by decide +kernel
theorem dX9_plays_65 : decode cX9_plays 65 = .ok (.dup2, 1) := by decide +kernel
theorem dX9_plays_66 : decode cX9_plays 66 = .ok (.iaload, 1) := by decide +kernel
theorem dX9_plays_67 : decode cX9_plays 67 = .ok (.iload 5, 2) := by decide +kernel
theorem dX9_plays_69 : decode cX9_plays 69 = .ok (.bipush 8, 2) := by decide +kernel
theorem dX9_plays_71 : decode cX9_plays 71 = .ok (.if_icmp .ge 10, 3) := by decide +kernel
theorem dX9_plays_74 : decode cX9_plays 74 = .ok (.iconst 1, 1) := by decide +kernel
theorem dX9_plays_75 : decode cX9_plays 75 = .ok (.iload 5, 2) := by decide +kernel
theorem dX9_plays_77 : decode cX9_plays 77 = .ok (.ishl, 1) := by decide +kernel
theorem dX9_plays_78 : decode cX9_plays 78 = .ok (.goto 4, 3) := by decide +kernel
theorem dX9_plays_81 : decode cX9_plays 81 = .ok (.iconst 0, 1) := by decide +kernel
theorem dX9_plays_82 : decode cX9_plays 82 = .ok (.ior, 1) := by decide +kernel
theorem dX9_plays_83 : decode cX9_plays 83 = .ok (.iastore, 1) := by decide +kernel
theorem dX9_plays_84 : decode cX9_plays 84 = .ok (.iconst 0, 1) := by decide +kernel
theorem dX9_plays_85 : decode cX9_plays 85 = .ok (.istore 6, 2) := by decide +kernel
theorem dX9_plays_87 : decode cX9_plays 87 = .ok (.iload 6, 2) := by decide +kernel
theorem dX9_plays_89 : decode cX9_plays 89 = .ok (.iload_n 3, 1) := by decide +kernel
theorem dX9_plays_90 : decode cX9_plays 90 = .ok (.if_icmp .ge 19, 3) := by decide +kernel
theorem dX9_plays_93 : decode cX9_plays 93 = .ok (.aload_n 0, 1) := by decide +kernel
theorem dX9_plays_94 : decode cX9_plays 94 = .ok (.iload_n 1, 1) := by decide +kernel
theorem dX9_plays_95 : decode cX9_plays 95 = .ok (.invokevirtual 150, 3) := by decide +kernel
theorem dX9_plays_98 : decode cX9_plays 98 = .ok (.aload_n 0, 1) := by decide +kernel
theorem dX9_plays_99 : decode cX9_plays 99 = .ok (.iload_n 2, 1) := by decide +kernel
theorem dX9_plays_100 : decode cX9_plays 100 = .ok (.invokevirtual 150, 3) := by decide +kernel
theorem dX9_plays_103 : decode cX9_plays 103 = .ok (.iinc 6 1, 3) := by decide +kernel
theorem dX9_plays_106 : decode cX9_plays 106 = .ok (.goto (-19), 3) := by decide +kernel
theorem dX9_plays_109 : decode cX9_plays 109 = .ok (.aload_n 0, 1) := by decide +kernel
theorem dX9_plays_110 : decode cX9_plays 110 = .ok (.getfield 40, 3) := by decide +kernel
theorem dX9_plays_113 : decode cX9_plays 113 = .ok (.bipush 9, 2) := by decide +kernel
theorem dX9_plays_115 : decode cX9_plays 115 = .ok (.iload 4, 2) := by decide +kernel
theorem dX9_plays_117 : decode cX9_plays 117 = .ok (.imul, 1) := by decide +kernel
theorem dX9_plays_118 : decode cX9_plays 118 = .ok (.iload 5, 2) := by decide +kernel
theorem dX9_plays_120 : decode cX9_plays 120 = .ok (.iadd, 1) := by decide +kernel
theorem dX9_plays_121 : decode cX9_plays 121 = .ok (.aload_n 0, 1) := by decide +kernel
theorem dX9_plays_122 : decode cX9_plays 122 = .ok (.iload_n 2, 1) := by decide +kernel
theorem dX9_plays_123 : decode cX9_plays 123 = .ok (.bipush 21, 2) := by decide +kernel
theorem dX9_plays_125 : decode cX9_plays 125 = .ok (.invokevirtual 108, 3) := by decide +kernel
theorem dX9_plays_128 : decode cX9_plays 128 = .ok (.aload_n 0, 1) := by decide +kernel
theorem dX9_plays_129 : decode cX9_plays 129 = .ok (.iload_n 1, 1) := by decide +kernel
theorem dX9_plays_130 : decode cX9_plays 130 = .ok (.bipush 21, 2) := by decide +kernel
theorem dX9_plays_132 : decode cX9_plays 132 = .ok (.invokevirtual 108, 3) := by decide +kernel
theorem dX9_plays_135 : decode cX9_plays 135 = .ok (.isub, 1) := by decide +kernel
theorem dX9_plays_136 : decode cX9_plays 136 = .ok (.iastore, 1) := by decide +kernel
theorem dX9_plays_137 : decode cX9_plays 137 = .ok (.aload_n 0, 1) := by decide +kernel
theorem dX9_plays_138 : decode cX9_plays 138 = .ok (.invokevirtual 165, 3) := by decide +kernel
theorem dX9_plays_141 : decode cX9_plays 141 = .ok (.iinc 5 1, 3) := by decide +kernel
theorem dX9_plays_144 : decode cX9_plays 144 = .ok (.goto (-131), 3) := by decide +kernel
theorem dX9_plays_147 : decode cX9_plays 147 = .ok (.iinc 4 1, 3) := by decide +kernel
theorem dX9_plays_150 : decode cX9_plays 150 = .ok (.goto (-147), 3) := by decide +kernel
theorem dX9_plays_153 : decode cX9_plays 153 = .ok (.return_, 1) := by decide +kernel
set_option maxRecDepth 20000 in
theorem ggX9_isChoice_X9_isName : GoodIn wsX9_isChoice wsX9_isName := goodIn_r _ [5, 6, 7, 8, 4, 9, 10, 11, 12, 13, 14, 15, 16, 17, 18, 19, 20, 21, 22, 23, 24, 25, 26, 27, 28] (by decide +kernel) (by decide +kernel)
set_option maxRecDepth 20000 in
theorem gX9_isChoice_X9_isName : GoodIn wsX9_isChoice (wsV RX9 118 RX9 yX9_isName wsX9_isName) := goodIn_app (goodIn_of _ (by decide +kernel)) ggX9_isChoice_X9_isName
theorem dX9_isChoice_0 : decode cX9_isChoice 0 = .ok (.iload_n 1, 1) := by decide +kernel
theorem dX9_isChoice_1 : decode cX9_isChoice 1 = .ok (.bipush 8, 2) := by decide +kernel
theorem dX9_isChoice_3 : decode cX9_isChoice 3 = .ok (.if_icmp .eq 11, 3) := by decide +kernel
theorem dX9_isChoice_6 : decode cX9_isChoice 6 = .ok (.aload_n 0, 1) := by decide +kernel
theorem dX9_isChoice_7 : decode cX9_isChoice 7 = .ok (.iload_n 1, 1) := by decide +kernel
theorem dX9_isChoice_8 : decode cX9_isChoice 8 = .ok (.invokevirtual 118, 3) := by decide +kernel
theorem dX9_isChoice_11 : decode cX9_isChoice 11 = .ok (.ifCond .eq 7, 3) := by decide +kernel
theorem dX9_isChoice_14 : decode cX9_isChoice 14 = .ok (.iconst 1, 1) := by decide +kernel
theorem dX9_isChoice_15 : decode cX9_isChoice 15 = .ok (.goto 4, 3) := by decide +kernel
theorem dX9_isChoice_18 : decode cX9_isChoice 18 = .ok (.iconst 0, 1) := by decide +kernel
theorem dX9_isChoice_19 : decode cX9_isChoice 19 = .ok (.ireturn, 1) := by decide +kernel
set_option maxRecDepth 20000 in
theorem ggX9_game_X9_areTwo : GoodIn wsX9_game wsX9_areTwo := goodIn_r _ [6, 7, 8, 9, 5, 10, 11, 12, 13, 14, 81, 82, 83, 84, 85, 86, 87, 88, 89, 90, 91, 92, 93, 94, 95, 96, 97, 98, 99] (by decide +kernel) (by decide +kernel)
set_option maxRecDepth 20000 in
theorem gX9_game_X9_areTwo : GoodIn wsX9_game (wsV RX9 121 RX9 yX9_areTwo wsX9_areTwo) := goodIn_app (goodIn_of _ (by decide +kernel)) ggX9_game_X9_areTwo
set_option maxRecDepth 20000 in
theorem ggX9_game_X9_in : GoodIn wsX9_game wsX9_in := goodIn_r _ [14] (by decide +kernel) (by decide +kernel)
set_option maxRecDepth 20000 in
theorem gX9_game_X9_in : GoodIn wsX9_game (va_wsS RX9 63 yX9_in wsX9_in) := goodIn_app (goodIn_of _ (by decide +kernel)) ggX9_game_X9_in
set_option maxRecDepth 20000 in
theorem ggX9_game_X9_holds : GoodIn wsX9_game wsX9_holds := goodIn_r _ [18, 19, 20, 81, 82, 83, 84, 85, 86, 87, 88, 89, 90, 91, 92, 93, 94, 95, 96, 97, 98, 99] (by decide +kernel) (by decide +kernel)
set_option maxRecDepth 20000 in
theorem gX9_game_X9_holds : GoodIn wsX9_game (wsV RX9 162 RX9 yX9_holds wsX9_holds) := goodIn_app (goodIn_of _ (by decide +kernel)) ggX9_game_X9_holds
set_option maxRecDepth 20000 in
theorem ggX9_game_X9_plays : GoodIn wsX9_game wsX9_plays := goodIn_r _ [24, 20, 1, 25, 26, 27, 5, 28, 11, 29, 30, 31, 32, 33, 34, 35, 36, 37, 38, 39, 40, 41, 42, 43, 44, 45, 12, 13, 14, 46, 47, 48, 49, 50, 51, 52, 53, 54, 55, 56, 57, 58, 59, 60, 61, 62, 63, 64, 65, 66, 67, 68, 69, 70, 71, 72, 19, 81, 82, 83, 84, 85, 86, 87, 88, 89, 90, 91, 92, 93, 94, 95, 96, 97, 98, 99] (by decide +kernel) (by decide +kernel)
set_option maxRecDepth 20000 in
theorem gX9_game_X9_plays : GoodIn wsX9_game (wsV RX9 175 RX9 yX9_plays wsX9_plays) := goodIn_app (goodIn_of _ (by decide +kernel)) ggX9_game_X9_plays
set_option maxRecDepth 20000 in
theorem ggX9_game_X9_isChoice : GoodIn wsX9_game wsX9_isChoice := goodIn_r _ [76, 77, 78, 79, 5, 80, 11, 12, 13, 14, 81, 82, 83, 84, 85, 86, 87, 88, 89, 90, 91, 92, 93, 94, 95, 96, 97, 98, 99] (by decide +kernel) (by decide +kernel)
set_option maxRecDepth 20000 in
theorem gX9_game_X9_isChoice : GoodIn wsX9_game (wsV RX9 178 RX9 yX9_isChoice wsX9_isChoice) := goodIn_app (goodIn_of _ (by decide +kernel)) ggX9_game_X9_isChoice
theorem dX9_game_0 : decode cX9_game 0 = .ok (.aload_n 0, 1) := by decide +kernel
theorem dX9_game_1 : decode cX9_game 1 = .ok (.iload_n 1, 1) := by decide +kernel
theorem dX9_game_2 : decode cX9_game 2 = .ok (.iload_n 2, 1) := by decide +kernel
theorem dX9_game_3 : decode cX9_game 3 = .ok (.invokevirtual 121, 3) := by decide +kernel
theorem dX9_game_6 : decode cX9_game 6 = .ok (.ifCond .eq 23, 3) := by decide +kernel
theorem dX9_game_9 : decode cX9_game 9 = .ok (.iload_n 3, 1) := by decide +kernel
theorem dX9_game_10 : decode cX9_game 10 = .ok (.iconst 1, 1) := by decide +kernel
theorem dX9_game_11 : decode cX9_game 11 = .ok (.bipush 10, 2) := by decide +kernel
theorem dX9_game_13 : decode cX9_game 13 = .ok (.invokestatic 63, 3) := by decide +kernel
theorem dX9_game_16 : decode cX9_game 16 = .ok (.ifCond .eq 13, 3) := by decide +kernel
theorem dX9_game_19 : decode cX9_game 19 = .ok (.iload 4, 2) := by decide +kernel
theorem dX9_game_21 : decode cX9_game 21 = .ok (.iconst 0, 1) := by decide +kernel
theorem dX9_game_22 : decode cX9_game 22 = .ok (.iconst 1, 1) := by decide +kernel
theorem dX9_game_23 : decode cX9_game 23 = .ok (.invokestatic 63, 3) := by decide +kernel
theorem dX9_game_26 : decode cX9_game 26 = .ok (.ifCond .ne 5, 3) := by decide +kernel
theorem dX9_game_29 : decode cX9_game 29 = .ok (.iconst (-1), 1) := by decide +kernel
theorem dX9_game_30 : decode cX9_game 30 = .ok (.ireturn, 1) := by decide +kernel
theorem dX9_game_31 : decode cX9_game 31 = .ok (.aload_n 0, 1) := by decide +kernel
theorem dX9_game_32 : decode cX9_game 32 = .ok (.invokevirtual 162, 3) := by decide +kernel
theorem dX9_game_35 : decode cX9_game 35 = .ok (.aload_n 0, 1) := by decide +kernel
theorem dX9_game_36 : decode cX9_game 36 = .ok (.iload_n 1, 1) := by decide +kernel
theorem dX9_game_37 : decode cX9_game 37 = .ok (.iload_n 2, 1) := by decide +kernel
theorem dX9_game_38 : decode cX9_game 38 = .ok (.iload_n 3, 1) := by decide +kernel
theorem dX9_game_39 : decode cX9_game 39 = .ok (.invokevirtual 175, 3) := by decide +kernel
theorem dX9_game_42 : decode cX9_game 42 = .ok (.iconst 0, 1) := by decide +kernel
theorem dX9_game_43 : decode cX9_game 43 = .ok (.istore 5, 2) := by decide +kernel
theorem dX9_game_45 : decode cX9_game 45 = .ok (.bipush (-4), 2) := by decide +kernel
theorem dX9_game_47 : decode cX9_game 47 = .ok (.istore 6, 2) := by decide +kernel
theorem dX9_game_49 : decode cX9_game 49 = .ok (.bipush 80, 2) := by decide +kernel
theorem dX9_game_51 : decode cX9_game 51 = .ok (.istore 7, 2) := by decide +kernel
theorem dX9_game_53 : decode cX9_game 53 = .ok (.iload 7, 2) := by decide +kernel
theorem dX9_game_55 : decode cX9_game 55 = .ok (.ifCond .lt 190, 3) := by decide +kernel
theorem dX9_game_58 : decode cX9_game 58 = .ok (.iload 7, 2) := by decide +kernel
theorem dX9_game_60 : decode cX9_game 60 = .ok (.bipush 9, 2) := by decide +kernel
theorem dX9_game_62 : decode cX9_game 62 = .ok (.idiv, 1) := by decide +kernel
theorem dX9_game_63 : decode cX9_game 63 = .ok (.istore 8, 2) := by decide +kernel
theorem dX9_game_65 : decode cX9_game 65 = .ok (.iload 7, 2) := by decide +kernel
theorem dX9_game_67 : decode cX9_game 67 = .ok (.bipush 9, 2) := by decide +kernel
theorem dX9_game_69 : decode cX9_game 69 = .ok (.irem, 1) := by decide +kernel
theorem dX9_game_70 : decode cX9_game 70 = .ok (.istore 9, 2) := by decide +kernel
theorem dX9_game_72 : decode cX9_game 72 = .ok (.aload_n 0, 1) := by decide +kernel
theorem dX9_game_73 : decode cX9_game 73 = .ok (.iload 8, 2) := by decide +kernel
theorem dX9_game_75 : decode cX9_game 75 = .ok (.invokevirtual 178, 3) := by decide +kernel
theorem dX9_game_78 : decode cX9_game 78 = .ok (.ifCond .eq 16, 3) := by decide +kernel
theorem dX9_game_81 : decode cX9_game 81 = .ok (.aload_n 0, 1) := by decide +kernel
theorem dX9_game_82 : decode cX9_game 82 = .ok (.iload 9, 2) := by decide +kernel
theorem dX9_game_84 : decode cX9_game 84 = .ok (.invokevirtual 178, 3) := by decide +kernel
theorem dX9_game_87 : decode cX9_game 87 = .ok (.ifCond .eq 7, 3) := by decide +kernel
theorem dX9_game_90 : decode cX9_game 90 = .ok (.iconst 1, 1) := by decide +kernel
theorem dX9_game_91 : decode cX9_game 91 = .ok (.goto 4, 3) := by decide +kernel
theorem dX9_game_94 : decode cX9_game 94 = .ok (.iconst 0, 1) := by decide +kernel
theorem dX9_game_95 : decode cX9_game 95 = .ok (.istore 10, 2) := by decide +kernel
theorem dX9_game_97 : decode cX9_game 97 = .ok (.iconst 0, 1) := by decide +kernel
theorem dX9_game_98 : decode cX9_game 98 = .ok (.istore 11, 2) := by decide +kernel
theorem dX9_game_100 : decode cX9_game 100 = .ok (.iload 11, 2) := by decide +kernel
theorem dX9_game_102 : decode cX9_game 102 = .ok (.bipush 9, 2) := by decide +kernel
theorem dX9_game_104 : decode cX9_game 104 = .ok (.if_icmp .ge 76, 3) := by decide +kernel
theorem dX9_game_107 : decode cX9_game 107 = .ok (.iload 10, 2) := by decide +kernel
theorem dX9_game_109 : decode cX9_game 109 = .ok (.ifCond .eq 71, 3) := by decide +kernel
theorem dX9_game_112 : decode cX9_game 112 = .ok (.aload_n 0, 1) := by decide +kernel
theorem dX9_game_113 : decode cX9_game 113 = .ok (.iload 11, 2) := by decide +kernel
theorem dX9_game_115 : decode cX9_game 115 = .ok (.invokevirtual 178, 3) := by decide +kernel
theorem dX9_game_118 : decode cX9_game 118 = .ok (.ifCond .eq 49, 3) := by decide +kernel
theorem dX9_game_121 : decode cX9_game 121 = .ok (.aload_n 0, 1) := by decide +kernel
theorem dX9_game_122 : decode cX9_game 122 = .ok (.getfield 40, 3) := by decide +kernel
theorem dX9_game_125 : decode cX9_game 125 = .ok (.bipush 9, 2) := by decide +kernel
theorem dX9_game_127 : decode cX9_game 127 = .ok (.iload 11, 2) := by decide +kernel
theorem dX9_game_129 : decode cX9_game 129 = .ok (.imul, 1) := by decide +kernel
theorem dX9_game_130 : decode cX9_game 130 = .ok (.iload 9, 2) := by decide +kernel
theorem dX9_game_132 : decode cX9_game 132 = .ok (.iadd, 1) := by decide +kernel
theorem dX9_game_133 : decode cX9_game 133 = .ok (.iaload, 1) := by decide +kernel
theorem dX9_game_134 : decode cX9_game 134 = .ok (.aload_n 0, 1) := by decide +kernel
theorem dX9_game_135 : decode cX9_game 135 = .ok (.getfield 40, 3) := by decide +kernel
theorem dX9_game_138 : decode cX9_game 138 = .ok (.iload 7, 2) := by decide +kernel
theorem dX9_game_140 : decode cX9_game 140 = .ok (.iaload, 1) := by decide +kernel
theorem dX9_game_141 : decode cX9_game 141 = .ok (.if_icmp .gt 30, 3) := by decide +kernel
theorem dX9_game_144 : decode cX9_game 144 = .ok (.aload_n 0, 1) := by decide +kernel
theorem dX9_game_145 : decode cX9_game 145 = .ok (.getfield 40, 3) := by decide +kernel
theorem dX9_game_148 : decode cX9_game 148 = .ok (.bipush 9, 2) := by decide +kernel
theorem dX9_game_150 : decode cX9_game 150 = .ok (.iload 8, 2) := by decide +kernel
theorem dX9_game_152 : decode cX9_game 152 = .ok (.imul, 1) := by decide +kernel
theorem dX9_game_153 : decode cX9_game 153 = .ok (.iload 11, 2) := by decide +kernel
theorem dX9_game_155 : decode cX9_game 155 = .ok (.iadd, 1) := by decide +kernel
theorem dX9_game_156 : decode cX9_game 156 = .ok (.iaload, 1) := by decide +kernel
theorem dX9_game_157 : decode cX9_game 157 = .ok (.aload_n 0, 1) := by decide +kernel
theorem dX9_game_158 : decode cX9_game 158 = .ok (.getfield 40, 3) := by decide +kernel
theorem dX9_game_161 : decode cX9_game 161 = .ok (.iload 7, 2) := by decide +kernel
theorem dX9_game_163 : decode cX9_game 163 = .ok (.iaload, 1) := by decide +kernel
theorem dX9_game_164 : decode cX9_game 164 = .ok (.if_icmp .lt 7, 3) := by decide +kernel
theorem dX9_game_167 : decode cX9_game 167 = .ok (.iconst 1, 1) := by decide +kernel
theorem dX9_game_168 : decode cX9_game 168 = .ok (.goto 4, 3) := by decide +kernel
theorem dX9_game_171 : decode cX9_game 171 = .ok (.iconst 0, 1) := by decide +kernel
theorem dX9_game_172 : decode cX9_game 172 = .ok (.istore 10, 2) := by decide +kernel
theorem dX9_game_174 : decode cX9_game 174 = .ok (.iinc 11 1, 3) := by decide +kernel
theorem dX9_game_177 : decode cX9_game 177 = .ok (.goto (-77), 3) := by decide +kernel
theorem dX9_game_180 : decode cX9_game 180 = .ok (.iload 5, 2) := by decide +kernel
theorem dX9_game_182 : decode cX9_game 182 = .ok (.iload 10, 2) := by decide +kernel
theorem dX9_game_184 : decode cX9_game 184 = .ok (.ifCond .eq 7, 3) := by decide +kernel
theorem dX9_game_187 : decode cX9_game 187 = .ok (.iconst 1, 1) := by decide +kernel
theorem dX9_game_188 : decode cX9_game 188 = .ok (.goto 4, 3) := by decide +kernel
theorem dX9_game_191 : decode cX9_game 191 = .ok (.iconst 0, 1) := by decide +kernel
theorem dX9_game_192 : decode cX9_game 192 = .ok (.iadd, 1) := by decide +kernel
theorem dX9_game_193 : decode cX9_game 193 = .ok (.istore 5, 2) := by decide +kernel
theorem dX9_game_195 : decode cX9_game 195 = .ok (.iload 10, 2) := by decide +kernel
theorem dX9_game_197 : decode cX9_game 197 = .ok (.ifCond .eq 38, 3) := by decide +kernel
theorem dX9_game_200 : decode cX9_game 200 = .ok (.bipush 10, 2) := by decide +kernel
theorem dX9_game_202 : decode cX9_game 202 = .ok (.iload 8, 2) := by decide +kernel
theorem dX9_game_204 : decode cX9_game 204 = .ok (.bipush 8, 2) := by decide +kernel
theorem dX9_game_206 : decode cX9_game 206 = .ok (.if_icmp .ne 8, 3) := by decide +kernel
theorem dX9_game_209 : decode cX9_game 209 = .ok (.bipush 9, 2) := by decide +kernel
theorem dX9_game_211 : decode cX9_game 211 = .ok (.goto 5, 3) := by decide +kernel
theorem dX9_game_214 : decode cX9_game 214 = .ok (.iload 8, 2) := by decide +kernel
theorem dX9_game_216 : decode cX9_game 216 = .ok (.imul, 1) := by decide +kernel
theorem dX9_game_217 : decode cX9_game 217 = .ok (.iload 9, 2) := by decide +kernel
theorem dX9_game_219 : decode cX9_game 219 = .ok (.bipush 8, 2) := by decide +kernel
theorem dX9_game_221 : decode cX9_game 221 = .ok (.if_icmp .ne 8, 3) := by decide +kernel
theorem dX9_game_224 : decode cX9_game 224 = .ok (.bipush 9, 2) := by decide +kernel
theorem dX9_game_226 : decode cX9_game 226 = .ok (.goto 5, 3) := by decide +kernel
theorem dX9_game_229 : decode cX9_game 229 = .ok (.iload 9, 2) := by decide +kernel
theorem dX9_game_231 : decode cX9_game 231 = .ok (.iadd, 1) := by decide +kernel
theorem dX9_game_232 : decode cX9_game 232 = .ok (.goto 5, 3) := by decide +kernel
theorem dX9_game_235 : decode cX9_game 235 = .ok (.iload 6, 2) := by decide +kernel
theorem dX9_game_237 : decode cX9_game 237 = .ok (.istore 6, 2) := by decide +kernel
theorem dX9_game_239 : decode cX9_game 239 = .ok (.iinc 7 (-1), 3) := by decide +kernel
theorem dX9_game_242 : decode cX9_game 242 = .ok (.goto (-189), 3) := by decide +kernel
theorem dX9_game_245 : decode cX9_game 245 = .ok (.iload 4, 2) := by decide +kernel
theorem dX9_game_247 : decode cX9_game 247 = .ok (.ifCond .ne 8, 3) := by decide +kernel
theorem dX9_game_250 : decode cX9_game 250 = .ok (.iload 5, 2) := by decide +kernel
theorem dX9_game_252 : decode cX9_game 252 = .ok (.goto 5, 3) := by decide +kernel
theorem dX9_game_255 : decode cX9_game 255 = .ok (.iload 6, 2) := by decide +kernel
theorem dX9_game_257 : decode cX9_game 257 = .ok (.ireturn, 1) := by decide +kernel
set_option maxRecDepth 20000 in
theorem ggX9_see_X9_isPerson : GoodIn wsX9_see wsX9_isPerson := goodIn_r _ [8, 9, 10, 11, 7, 12, 17, 18, 19, 20, 21, 22, 23, 24, 25, 26, 27, 28, 29, 30, 31, 32, 33, 34, 35] (by decide +kernel) (by decide +kernel)
set_option maxRecDepth 20000 in
theorem gX9_see_X9_isPerson : GoodIn wsX9_see (wsV RX9 67 RX9 yX9_isPerson wsX9_isPerson) := goodIn_app (goodIn_of _ (by decide +kernel)) ggX9_see_X9_isPerson
set_option maxRecDepth 20000 in
theorem ggX9_see_X9_isName : GoodIn wsX9_see wsX9_isName := goodIn_r _ [16, 9, 10, 11, 7, 12, 17, 18, 19, 20, 21, 22, 23, 24, 25, 26, 27, 28, 29, 30, 31, 32, 33, 34, 35] (by decide +kernel) (by decide +kernel)
set_option maxRecDepth 20000 in
theorem gX9_see_X9_isName : GoodIn wsX9_see (wsV RX9 118 RX9 yX9_isName wsX9_isName) := goodIn_app (goodIn_of _ (by decide +kernel)) ggX9_see_X9_isName
set_option maxRecDepth 20000 in
theorem ggX9_see_X9_in : GoodIn wsX9_see wsX9_in := goodIn_r _ [12] (by decide +kernel) (by decide +kernel)
set_option maxRecDepth 20000 in
theorem gX9_see_X9_in : GoodIn wsX9_see (va_wsS RX9 63 yX9_in wsX9_in) := goodIn_app (goodIn_of _ (by decide +kernel)) ggX9_see_X9_in
theorem dX9_see_0 : decode cX9_see 0 = .ok (.aload_n 0, 1) := by decide +kernel
theorem dX9_see_1 : decode cX9_see 1 = .ok (.iload_n 1, 1) := by decide +kernel
theorem dX9_see_2 : decode cX9_see 2 = .ok (.invokevirtual 67, 3) := by decide +kernel
theorem dX9_see_5 : decode cX9_see 5 = .ok (.ifCond .eq 32, 3) := by decide +kernel
theorem dX9_see_8 : decode cX9_see 8 = .ok (.aload_n 0, 1) := by decide +kernel
theorem dX9_see_9 : decode cX9_see 9 = .ok (.iload_n 2, 1) := by decide +kernel
theorem dX9_see_10 : decode cX9_see 10 = .ok (.invokevirtual 118, 3) := by decide +kernel
theorem dX9_see_13 : decode cX9_see 13 = .ok (.ifCond .eq 24, 3) := by decide +kernel
theorem dX9_see_16 : decode cX9_see 16 = .ok (.iload_n 3, 1) := by decide +kernel
theorem dX9_see_17 : decode cX9_see 17 = .ok (.iconst 1, 1) := by decide +kernel
theorem dX9_see_18 : decode cX9_see 18 = .ok (.bipush 20, 2) := by decide +kernel
theorem dX9_see_20 : decode cX9_see 20 = .ok (.invokestatic 63, 3) := by decide +kernel
theorem dX9_see_23 : decode cX9_see 23 = .ok (.ifCond .eq 14, 3) := by decide +kernel
theorem dX9_see_26 : decode cX9_see 26 = .ok (.iload 4, 2) := by decide +kernel
theorem dX9_see_28 : decode cX9_see 28 = .ok (.iconst 0, 1) := by decide +kernel
theorem dX9_see_29 : decode cX9_see 29 = .ok (.bipush 9, 2) := by decide +kernel
theorem dX9_see_31 : decode cX9_see 31 = .ok (.invokestatic 63, 3) := by decide +kernel
theorem dX9_see_34 : decode cX9_see 34 = .ok (.ifCond .ne 5, 3) := by decide +kernel
theorem dX9_see_37 : decode cX9_see 37 = .ok (.iconst (-1), 1) := by decide +kernel
theorem dX9_see_38 : decode cX9_see 38 = .ok (.ireturn, 1) := by decide +kernel
theorem dX9_see_39 : decode cX9_see 39 = .ok (.aload_n 0, 1) := by decide +kernel
theorem dX9_see_40 : decode cX9_see 40 = .ok (.getfield 105, 3) := by decide +kernel
theorem dX9_see_43 : decode cX9_see 43 = .ok (.bipush 6, 2) := by decide +kernel
theorem dX9_see_45 : decode cX9_see 45 = .ok (.if_icmp .ne 6, 3) := by decide +kernel
theorem dX9_see_48 : decode cX9_see 48 = .ok (.bipush (-3), 2) := by decide +kernel
theorem dX9_see_50 : decode cX9_see 50 = .ok (.ireturn, 1) := by decide +kernel
theorem dX9_see_51 : decode cX9_see 51 = .ok (.aload_n 0, 1) := by decide +kernel
theorem dX9_see_52 : decode cX9_see 52 = .ok (.getfield 31, 3) := by decide +kernel
theorem dX9_see_55 : decode cX9_see 55 = .ok (.aload_n 0, 1) := by decide +kernel
theorem dX9_see_56 : decode cX9_see 56 = .ok (.getfield 105, 3) := by decide +kernel
theorem dX9_see_59 : decode cX9_see 59 = .ok (.bipush 10, 2) := by decide +kernel
theorem dX9_see_61 : decode cX9_see 61 = .ok (.bipush 8, 2) := by decide +kernel
theorem dX9_see_63 : decode cX9_see 63 = .ok (.iload_n 1, 1) := by decide +kernel
theorem dX9_see_64 : decode cX9_see 64 = .ok (.imul, 1) := by decide +kernel
theorem dX9_see_65 : decode cX9_see 65 = .ok (.iload_n 2, 1) := by decide +kernel
theorem dX9_see_66 : decode cX9_see 66 = .ok (.iadd, 1) := by decide +kernel
theorem dX9_see_67 : decode cX9_see 67 = .ok (.imul, 1) := by decide +kernel
theorem dX9_see_68 : decode cX9_see 68 = .ok (.iload 4, 2) := by decide +kernel
theorem dX9_see_70 : decode cX9_see 70 = .ok (.iadd, 1) := by decide +kernel
theorem dX9_see_71 : decode cX9_see 71 = .ok (.iastore, 1) := by decide +kernel
theorem dX9_see_72 : decode cX9_see 72 = .ok (.aload_n 0, 1) := by decide +kernel
theorem dX9_see_73 : decode cX9_see 73 = .ok (.getfield 34, 3) := by decide +kernel
theorem dX9_see_76 : decode cX9_see 76 = .ok (.aload_n 0, 1) := by decide +kernel
theorem dX9_see_77 : decode cX9_see 77 = .ok (.getfield 105, 3) := by decide +kernel
theorem dX9_see_80 : decode cX9_see 80 = .ok (.iload_n 3, 1) := by decide +kernel
theorem dX9_see_81 : decode cX9_see 81 = .ok (.iastore, 1) := by decide +kernel
theorem dX9_see_82 : decode cX9_see 82 = .ok (.aload_n 0, 1) := by decide +kernel
theorem dX9_see_83 : decode cX9_see 83 = .ok (.dup, 1) := by decide +kernel
theorem dX9_see_84 : decode cX9_see 84 = .ok (.getfield 105, 3) := by decide +kernel
theorem dX9_see_87 : decode cX9_see 87 = .ok (.iconst 1, 1) := by decide +kernel
theorem dX9_see_88 : decode cX9_see 88 = .ok (.iadd, 1) := by decide +kernel
theorem dX9_see_89 : decode cX9_see 89 = .ok (.putfield 105, 3) := by decide +kernel
theorem dX9_see_92 : decode cX9_see 92 = .ok (.aload_n 0, 1) := by decide +kernel
theorem dX9_see_93 : decode cX9_see 93 = .ok (.getfield 105, 3) := by decide +kernel
theorem dX9_see_96 : decode cX9_see 96 = .ok (.ireturn, 1) := by decide +kernel
theorem dX9_forget_0 : decode cX9_forget 0 = .ok (.aload_n 0, 1) := by decide +kernel
theorem dX9_forget_1 : decode cX9_forget 1 = .ok (.getfield 105, 3) := by decide +kernel
theorem dX9_forget_4 : decode cX9_forget 4 = .ok (.istore_n 1, 1) := by decide +kernel
theorem dX9_forget_5 : decode cX9_forget 5 = .ok (.aload_n 0, 1) := by decide +kernel
theorem dX9_forget_6 : decode cX9_forget 6 = .ok (.iconst 0, 1) := by decide +kernel
theorem dX9_forget_7 : decode cX9_forget 7 = .ok (.putfield 105, 3) := by decide +kernel
theorem dX9_forget_10 : decode cX9_forget 10 = .ok (.iload_n 1, 1) := by decide +kernel
theorem dX9_forget_11 : decode cX9_forget 11 = .ok (.ireturn, 1) := by decide +kernel
set_option maxRecDepth 20000 in
theorem ggX9_isSo_X9_passes : GoodIn wsX9_isSo wsX9_passes := goodIn_r _ [9, 10, 11, 3, 12, 13, 14, 8, 15, 16, 17, 18, 19, 20, 21, 22, 23, 24, 25, 26, 27, 28, 29, 30, 31, 32, 33, 34, 35, 36, 37, 38, 39, 40, 41, 42, 43, 44, 45, 46, 47, 48, 49, 50, 51, 52, 53, 54, 55, 56, 57, 63, 64, 65, 66, 67, 68, 69, 70, 71, 72, 73, 74, 75, 76, 77, 78, 79, 80, 81] (by decide +kernel) (by decide +kernel)
set_option maxRecDepth 20000 in
theorem gX9_isSo_X9_passes : GoodIn wsX9_isSo (wsV RX9 156 RX9 yX9_passes wsX9_passes) := goodIn_app (goodIn_of _ (by decide +kernel)) ggX9_isSo_X9_passes
set_option maxRecDepth 20000 in
theorem ggX9_isSo_X9_lets : GoodIn wsX9_isSo wsX9_lets := goodIn_r _ [61, 3, 62, 63, 64, 65, 66, 67, 68, 69, 70, 71, 72, 73, 74, 75, 76, 77, 78, 79, 80, 81] (by decide +kernel) (by decide +kernel)
set_option maxRecDepth 20000 in
theorem gX9_isSo_X9_lets : GoodIn wsX9_isSo (wsV RX9 165 RX9 yX9_lets wsX9_lets) := goodIn_app (goodIn_of _ (by decide +kernel)) ggX9_isSo_X9_lets
theorem dX9_isSo_0 : decode cX9_isSo 0 = .ok (.iconst 1, 1) := by decide +kernel
theorem dX9_isSo_1 : decode cX9_isSo 1 = .ok (.istore_n 1, 1) := by decide +kernel
theorem dX9_isSo_2 : decode cX9_isSo 2 = .ok (.iconst 1, 1) := by decide +kernel
theorem dX9_isSo_3 : decode cX9_isSo 3 = .ok (.istore_n 2, 1) := by decide +kernel
theorem dX9_isSo_4 : decode cX9_isSo 4 = .ok (.iload_n 2, 1) := by decide +kernel
theorem dX9_isSo_5 : decode cX9_isSo 5 = .ok (.bipush 21, 2) := by decide +kernel
theorem dX9_isSo_7 : decode cX9_isSo 7 = .ok (.if_icmp .ge 75, 3) := by decide +kernel
theorem dX9_isSo_10 : decode cX9_isSo 10 = .ok (.aload_n 0, 1) := by decide +kernel
theorem dX9_isSo_11 : decode cX9_isSo 11 = .ok (.invokevirtual 156, 3) := by decide +kernel
theorem dX9_isSo_14 : decode cX9_isSo 14 = .ok (.iconst 0, 1) := by decide +kernel
theorem dX9_isSo_15 : decode cX9_isSo 15 = .ok (.istore_n 3, 1) := by decide +kernel
theorem dX9_isSo_16 : decode cX9_isSo 16 = .ok (.iload_n 3, 1) := by decide +kernel
theorem dX9_isSo_17 : decode cX9_isSo 17 = .ok (.aload_n 0, 1) := by decide +kernel
theorem dX9_isSo_18 : decode cX9_isSo 18 = .ok (.getfield 105, 3) := by decide +kernel
theorem dX9_isSo_21 : decode cX9_isSo 21 = .ok (.if_icmp .ge 55, 3) := by decide +kernel
theorem dX9_isSo_24 : decode cX9_isSo 24 = .ok (.iload_n 1, 1) := by decide +kernel
theorem dX9_isSo_25 : decode cX9_isSo 25 = .ok (.ifCond .eq 43, 3) := by decide +kernel
theorem dX9_isSo_28 : decode cX9_isSo 28 = .ok (.aload_n 0, 1) := by decide +kernel
theorem dX9_isSo_29 : decode cX9_isSo 29 = .ok (.getfield 34, 3) := by decide +kernel
theorem dX9_isSo_32 : decode cX9_isSo 32 = .ok (.iload_n 3, 1) := by decide +kernel
theorem dX9_isSo_33 : decode cX9_isSo 33 = .ok (.iaload, 1) := by decide +kernel
theorem dX9_isSo_34 : decode cX9_isSo 34 = .ok (.iload_n 2, 1) := by decide +kernel
theorem dX9_isSo_35 : decode cX9_isSo 35 = .ok (.if_icmp .ne 29, 3) := by decide +kernel
theorem dX9_isSo_38 : decode cX9_isSo 38 = .ok (.aload_n 0, 1) := by decide +kernel
theorem dX9_isSo_39 : decode cX9_isSo 39 = .ok (.getfield 22, 3) := by decide +kernel
theorem dX9_isSo_42 : decode cX9_isSo 42 = .ok (.aload_n 0, 1) := by decide +kernel
theorem dX9_isSo_43 : decode cX9_isSo 43 = .ok (.getfield 31, 3) := by decide +kernel
theorem dX9_isSo_46 : decode cX9_isSo 46 = .ok (.iload_n 3, 1) := by decide +kernel
theorem dX9_isSo_47 : decode cX9_isSo 47 = .ok (.iaload, 1) := by decide +kernel
theorem dX9_isSo_48 : decode cX9_isSo 48 = .ok (.bipush 10, 2) := by decide +kernel
theorem dX9_isSo_50 : decode cX9_isSo 50 = .ok (.idiv, 1) := by decide +kernel
theorem dX9_isSo_51 : decode cX9_isSo 51 = .ok (.iaload, 1) := by decide +kernel
theorem dX9_isSo_52 : decode cX9_isSo 52 = .ok (.aload_n 0, 1) := by decide +kernel
theorem dX9_isSo_53 : decode cX9_isSo 53 = .ok (.getfield 31, 3) := by decide +kernel
theorem dX9_isSo_56 : decode cX9_isSo 56 = .ok (.iload_n 3, 1) := by decide +kernel
theorem dX9_isSo_57 : decode cX9_isSo 57 = .ok (.iaload, 1) := by decide +kernel
theorem dX9_isSo_58 : decode cX9_isSo 58 = .ok (.bipush 10, 2) := by decide +kernel
theorem dX9_isSo_60 : decode cX9_isSo 60 = .ok (.irem, 1) := by decide +kernel
theorem dX9_isSo_61 : decode cX9_isSo 61 = .ok (.if_icmp .ne 7, 3) := by decide +kernel
theorem dX9_isSo_64 : decode cX9_isSo 64 = .ok (.iconst 1, 1) := by decide +kernel
theorem dX9_isSo_65 : decode cX9_isSo 65 = .ok (.goto 4, 3) := by decide +kernel
theorem dX9_isSo_68 : decode cX9_isSo 68 = .ok (.iconst 0, 1) := by decide +kernel
theorem dX9_isSo_69 : decode cX9_isSo 69 = .ok (.istore_n 1, 1) := by decide +kernel
theorem dX9_isSo_70 : decode cX9_isSo 70 = .ok (.iinc 3 1, 3) := by decide +kernel
theorem dX9_isSo_73 : decode cX9_isSo 73 = .ok (.goto (-57), 3) := by decide +kernel
theorem dX9_isSo_76 : decode cX9_isSo 76 = .ok (.iinc 2 1, 3) := by decide +kernel
theorem dX9_isSo_79 : decode cX9_isSo 79 = .ok (.goto (-75), 3) := by decide +kernel
theorem dX9_isSo_82 : decode cX9_isSo 82 = .ok (.aload_n 0, 1) := by decide +kernel
theorem dX9_isSo_83 : decode cX9_isSo 83 = .ok (.invokevirtual 165, 3) := by decide +kernel
theorem dX9_isSo_86 : decode cX9_isSo 86 = .ok (.iload_n 1, 1) := by decide +kernel
theorem dX9_isSo_87 : decode cX9_isSo 87 = .ok (.ireturn, 1) := by decide +kernel
set_option maxRecDepth 20000 in
theorem ggX9_said_X9_areTwo : GoodIn wsX9_said wsX9_areTwo := goodIn_r _ [7, 8, 9, 10, 6, 11, 1, 12, 13, 14, 79, 80, 81, 82, 83, 84, 85, 86, 87, 88, 89, 90, 91, 92, 93, 94, 95, 96, 97] (by decide +kernel) (by decide +kernel)
set_option maxRecDepth 20000 in
theorem gX9_said_X9_areTwo : GoodIn wsX9_said (wsV RX9 121 RX9 yX9_areTwo wsX9_areTwo) := goodIn_app (goodIn_of _ (by decide +kernel)) ggX9_said_X9_areTwo
set_option maxRecDepth 20000 in
theorem ggX9_said_X9_holds : GoodIn wsX9_said wsX9_holds := goodIn_r _ [18, 19, 2, 79, 80, 81, 82, 83, 84, 85, 86, 87, 88, 89, 90, 91, 92, 93, 94, 95, 96, 97] (by decide +kernel) (by decide +kernel)
set_option maxRecDepth 20000 in
theorem gX9_said_X9_holds : GoodIn wsX9_said (wsV RX9 162 RX9 yX9_holds wsX9_holds) := goodIn_app (goodIn_of _ (by decide +kernel)) ggX9_said_X9_holds
set_option maxRecDepth 20000 in
theorem ggX9_said_X9_isSo : GoodIn wsX9_said wsX9_isSo := goodIn_r _ [23, 24, 25, 2, 26, 27, 28, 29, 6, 30, 31, 1, 32, 33, 34, 35, 36, 37, 38, 39, 40, 41, 42, 43, 44, 45, 46, 47, 48, 49, 50, 51, 12, 13, 14, 52, 53, 54, 55, 56, 57, 58, 59, 60, 61, 62, 63, 64, 65, 66, 67, 68, 69, 70, 71, 72, 73, 74, 75, 76, 77, 78, 19, 79, 80, 81, 82, 83, 84, 85, 86, 87, 88, 89, 90, 91, 92, 93, 94, 95, 96, 97] (by decide +kernel) (by decide +kernel)
set_option maxRecDepth 20000 in
theorem gX9_said_X9_isSo : GoodIn wsX9_said (wsV RX9 181 RX9 yX9_isSo wsX9_isSo) := goodIn_app (goodIn_of _ (by decide +kernel)) ggX9_said_X9_isSo
theorem dX9_said_0 : decode cX9_said 0 = .ok (.aload_n 0, 1) := by decide +kernel
theorem dX9_said_1 : decode cX9_said 1 = .ok (.iload_n 1, 1) := by decide +kernel
theorem dX9_said_2 : decode cX9_said 2 = .ok (.iload_n 2, 1) := by decide +kernel
theorem dX9_said_3 : decode cX9_said 3 = .ok (.invokevirtual 121, 3) := by decide +kernel
theorem dX9_said_6 : decode cX9_said 6 = .ok (.ifCond .ne 5, 3) := by decide +kernel
theorem dX9_said_9 : decode cX9_said 9 = .ok (.iconst (-1), 1) := by decide +kernel
theorem dX9_said_10 : decode cX9_said 10 = .ok (.ireturn, 1) := by decide +kernel
theorem dX9_said_11 : decode cX9_said 11 = .ok (.aload_n 0, 1) := by decide +kernel
theorem dX9_said_12 : decode cX9_said 12 = .ok (.invokevirtual 162, 3) := by decide +kernel
theorem dX9_said_15 : decode cX9_said 15 = .ok (.aload_n 0, 1) := by decide +kernel
theorem dX9_said_16 : decode cX9_said 16 = .ok (.invokevirtual 181, 3) := by decide +kernel
theorem dX9_said_19 : decode cX9_said 19 = .ok (.ifCond .eq 9, 3) := by decide +kernel
theorem dX9_said_22 : decode cX9_said 22 = .ok (.sipush 256, 3) := by decide +kernel
theorem dX9_said_25 : decode cX9_said 25 = .ok (.goto 4, 3) := by decide +kernel
theorem dX9_said_28 : decode cX9_said 28 = .ok (.iconst 0, 1) := by decide +kernel
theorem dX9_said_29 : decode cX9_said 29 = .ok (.istore_n 3, 1) := by decide +kernel
theorem dX9_said_30 : decode cX9_said 30 = .ok (.iconst 0, 1) := by decide +kernel
theorem dX9_said_31 : decode cX9_said 31 = .ok (.istore 4, 2) := by decide +kernel
theorem dX9_said_33 : decode cX9_said 33 = .ok (.iload 4, 2) := by decide +kernel
theorem dX9_said_35 : decode cX9_said 35 = .ok (.aload_n 0, 1) := by decide +kernel
theorem dX9_said_36 : decode cX9_said 36 = .ok (.getfield 13, 3) := by decide +kernel
theorem dX9_said_39 : decode cX9_said 39 = .ok (.iconst 1, 1) := by decide +kernel
theorem dX9_said_40 : decode cX9_said 40 = .ok (.iaload, 1) := by decide +kernel
theorem dX9_said_41 : decode cX9_said 41 = .ok (.if_icmp .ge 48, 3) := by decide +kernel
theorem dX9_said_44 : decode cX9_said 44 = .ok (.aload_n 0, 1) := by decide +kernel
theorem dX9_said_45 : decode cX9_said 45 = .ok (.getfield 22, 3) := by decide +kernel
theorem dX9_said_48 : decode cX9_said 48 = .ok (.bipush 48, 2) := by decide +kernel
theorem dX9_said_50 : decode cX9_said 50 = .ok (.bipush 6, 2) := by decide +kernel
theorem dX9_said_52 : decode cX9_said 52 = .ok (.iload_n 1, 1) := by decide +kernel
theorem dX9_said_53 : decode cX9_said 53 = .ok (.imul, 1) := by decide +kernel
theorem dX9_said_54 : decode cX9_said 54 = .ok (.iadd, 1) := by decide +kernel
theorem dX9_said_55 : decode cX9_said 55 = .ok (.iload_n 2, 1) := by decide +kernel
theorem dX9_said_56 : decode cX9_said 56 = .ok (.iadd, 1) := by decide +kernel
theorem dX9_said_57 : decode cX9_said 57 = .ok (.dup2, 1) := by decide +kernel
theorem dX9_said_58 : decode cX9_said 58 = .ok (.iaload, 1) := by decide +kernel
theorem dX9_said_59 : decode cX9_said 59 = .ok (.iconst 1, 1) := by decide +kernel
theorem dX9_said_60 : decode cX9_said 60 = .ok (.iload 4, 2) := by decide +kernel
theorem dX9_said_62 : decode cX9_said 62 = .ok (.ishl, 1) := by decide +kernel
theorem dX9_said_63 : decode cX9_said 63 = .ok (.ior, 1) := by decide +kernel
theorem dX9_said_64 : decode cX9_said 64 = .ok (.iastore, 1) := by decide +kernel
theorem dX9_said_65 : decode cX9_said 65 = .ok (.iload_n 3, 1) := by decide +kernel
theorem dX9_said_66 : decode cX9_said 66 = .ok (.aload_n 0, 1) := by decide +kernel
theorem dX9_said_67 : decode cX9_said 67 = .ok (.invokevirtual 181, 3) := by decide +kernel
theorem dX9_said_70 : decode cX9_said 70 = .ok (.ifCond .eq 10, 3) := by decide +kernel
theorem dX9_said_73 : decode cX9_said 73 = .ok (.iconst 1, 1) := by decide +kernel
theorem dX9_said_74 : decode cX9_said 74 = .ok (.iload 4, 2) := by decide +kernel
theorem dX9_said_76 : decode cX9_said 76 = .ok (.ishl, 1) := by decide +kernel
theorem dX9_said_77 : decode cX9_said 77 = .ok (.goto 4, 3) := by decide +kernel
theorem dX9_said_80 : decode cX9_said 80 = .ok (.iconst 0, 1) := by decide +kernel
theorem dX9_said_81 : decode cX9_said 81 = .ok (.ior, 1) := by decide +kernel
theorem dX9_said_82 : decode cX9_said 82 = .ok (.istore_n 3, 1) := by decide +kernel
theorem dX9_said_83 : decode cX9_said 83 = .ok (.iinc 4 1, 3) := by decide +kernel
theorem dX9_said_86 : decode cX9_said 86 = .ok (.goto (-53), 3) := by decide +kernel
theorem dX9_said_89 : decode cX9_said 89 = .ok (.iload_n 3, 1) := by decide +kernel
theorem dX9_said_90 : decode cX9_said 90 = .ok (.ireturn, 1) := by decide +kernel
set_option maxRecDepth 20000 in
theorem ggX9_whose_X9_isPerson : GoodIn wsX9_whose wsX9_isPerson := goodIn_r _ [7, 1, 8, 9, 6, 10, 15, 16, 17, 18, 19, 20, 21, 22, 23, 24, 25, 26, 27, 28, 29, 30, 31, 32, 33] (by decide +kernel) (by decide +kernel)
set_option maxRecDepth 20000 in
theorem gX9_whose_X9_isPerson : GoodIn wsX9_whose (wsV RX9 67 RX9 yX9_isPerson wsX9_isPerson) := goodIn_app (goodIn_of _ (by decide +kernel)) ggX9_whose_X9_isPerson
set_option maxRecDepth 20000 in
theorem ggX9_whose_X9_isName : GoodIn wsX9_whose wsX9_isName := goodIn_r _ [14, 1, 8, 9, 6, 10, 15, 16, 17, 18, 19, 20, 21, 22, 23, 24, 25, 26, 27, 28, 29, 30, 31, 32, 33] (by decide +kernel) (by decide +kernel)
set_option maxRecDepth 20000 in
theorem gX9_whose_X9_isName : GoodIn wsX9_whose (wsV RX9 118 RX9 yX9_isName wsX9_isName) := goodIn_app (goodIn_of _ (by decide +kernel)) ggX9_whose_X9_isName
theorem dX9_whose_0 : decode cX9_whose 0 = .ok (.aload_n 0, 1) := by decide +kernel
theorem dX9_whose_1 : decode cX9_whose 1 = .ok (.iload_n 1, 1) := by decide +kernel
theorem dX9_whose_2 : decode cX9_whose 2 = .ok (.invokevirtual 67, 3) := by decide +kernel
theorem dX9_whose_5 : decode cX9_whose 5 = .ok (.ifCond .eq 11, 3) := by decide +kernel
theorem dX9_whose_8 : decode cX9_whose 8 = .ok (.aload_n 0, 1) := by decide +kernel
theorem dX9_whose_9 : decode cX9_whose 9 = .ok (.iload_n 2, 1) := by decide +kernel
theorem dX9_whose_10 : decode cX9_whose 10 = .ok (.invokevirtual 118, 3) := by decide +kernel
theorem dX9_whose_13 : decode cX9_whose 13 = .ok (.ifCond .ne 5, 3) := by decide +kernel
theorem dX9_whose_16 : decode cX9_whose 16 = .ok (.iconst (-1), 1) := by decide +kernel
theorem dX9_whose_17 : decode cX9_whose 17 = .ok (.ireturn, 1) := by decide +kernel
theorem dX9_whose_18 : decode cX9_whose 18 = .ok (.iconst 0, 1) := by decide +kernel
theorem dX9_whose_19 : decode cX9_whose 19 = .ok (.istore_n 3, 1) := by decide +kernel
theorem dX9_whose_20 : decode cX9_whose 20 = .ok (.iconst 0, 1) := by decide +kernel
theorem dX9_whose_21 : decode cX9_whose 21 = .ok (.istore 4, 2) := by decide +kernel
theorem dX9_whose_23 : decode cX9_whose 23 = .ok (.iload 4, 2) := by decide +kernel
theorem dX9_whose_25 : decode cX9_whose 25 = .ok (.aload_n 0, 1) := by decide +kernel
theorem dX9_whose_26 : decode cX9_whose 26 = .ok (.getfield 13, 3) := by decide +kernel
theorem dX9_whose_29 : decode cX9_whose 29 = .ok (.iconst 0, 1) := by decide +kernel
theorem dX9_whose_30 : decode cX9_whose 30 = .ok (.iaload, 1) := by decide +kernel
theorem dX9_whose_31 : decode cX9_whose 31 = .ok (.if_icmp .ge 43, 3) := by decide +kernel
theorem dX9_whose_34 : decode cX9_whose 34 = .ok (.iload_n 3, 1) := by decide +kernel
theorem dX9_whose_35 : decode cX9_whose 35 = .ok (.aload_n 0, 1) := by decide +kernel
theorem dX9_whose_36 : decode cX9_whose 36 = .ok (.getfield 22, 3) := by decide +kernel
theorem dX9_whose_39 : decode cX9_whose 39 = .ok (.bipush 48, 2) := by decide +kernel
theorem dX9_whose_41 : decode cX9_whose 41 = .ok (.bipush 6, 2) := by decide +kernel
theorem dX9_whose_43 : decode cX9_whose 43 = .ok (.iload 4, 2) := by decide +kernel
theorem dX9_whose_45 : decode cX9_whose 45 = .ok (.imul, 1) := by decide +kernel
theorem dX9_whose_46 : decode cX9_whose 46 = .ok (.iadd, 1) := by decide +kernel
theorem dX9_whose_47 : decode cX9_whose 47 = .ok (.iload_n 1, 1) := by decide +kernel
theorem dX9_whose_48 : decode cX9_whose 48 = .ok (.iadd, 1) := by decide +kernel
theorem dX9_whose_49 : decode cX9_whose 49 = .ok (.iaload, 1) := by decide +kernel
theorem dX9_whose_50 : decode cX9_whose 50 = .ok (.iload_n 2, 1) := by decide +kernel
theorem dX9_whose_51 : decode cX9_whose 51 = .ok (.ishr, 1) := by decide +kernel
theorem dX9_whose_52 : decode cX9_whose 52 = .ok (.iconst 1, 1) := by decide +kernel
theorem dX9_whose_53 : decode cX9_whose 53 = .ok (.iand, 1) := by decide +kernel
theorem dX9_whose_54 : decode cX9_whose 54 = .ok (.iconst 1, 1) := by decide +kernel
theorem dX9_whose_55 : decode cX9_whose 55 = .ok (.if_icmp .ne 10, 3) := by decide +kernel
theorem dX9_whose_58 : decode cX9_whose 58 = .ok (.iconst 1, 1) := by decide +kernel
theorem dX9_whose_59 : decode cX9_whose 59 = .ok (.iload 4, 2) := by decide +kernel
theorem dX9_whose_61 : decode cX9_whose 61 = .ok (.ishl, 1) := by decide +kernel
theorem dX9_whose_62 : decode cX9_whose 62 = .ok (.goto 4, 3) := by decide +kernel
theorem dX9_whose_65 : decode cX9_whose 65 = .ok (.iconst 0, 1) := by decide +kernel
theorem dX9_whose_66 : decode cX9_whose 66 = .ok (.ior, 1) := by decide +kernel
theorem dX9_whose_67 : decode cX9_whose 67 = .ok (.istore_n 3, 1) := by decide +kernel
theorem dX9_whose_68 : decode cX9_whose 68 = .ok (.iinc 4 1, 3) := by decide +kernel
theorem dX9_whose_71 : decode cX9_whose 71 = .ok (.goto (-48), 3) := by decide +kernel
theorem dX9_whose_74 : decode cX9_whose 74 = .ok (.iload_n 3, 1) := by decide +kernel
theorem dX9_whose_75 : decode cX9_whose 75 = .ok (.ireturn, 1) := by decide +kernel
set_option maxRecDepth 20000 in
theorem ggX9_chance_X9_isPerson : GoodIn wsX9_chance wsX9_isPerson := goodIn_r _ [10, 2, 11, 12, 9, 13, 71, 72, 73, 74, 75, 76, 77, 78, 79, 80, 81, 82, 83, 84, 85, 86, 87, 88, 89] (by decide +kernel) (by decide +kernel)
set_option maxRecDepth 20000 in
theorem gX9_chance_X9_isPerson : GoodIn wsX9_chance (wsV RX9 67 RX9 yX9_isPerson wsX9_isPerson) := goodIn_app (goodIn_of _ (by decide +kernel)) ggX9_chance_X9_isPerson
set_option maxRecDepth 20000 in
theorem ggX9_chance_X9_isName : GoodIn wsX9_chance wsX9_isName := goodIn_r _ [17, 2, 11, 12, 9, 13, 71, 72, 73, 74, 75, 76, 77, 78, 79, 80, 81, 82, 83, 84, 85, 86, 87, 88, 89] (by decide +kernel) (by decide +kernel)
set_option maxRecDepth 20000 in
theorem gX9_chance_X9_isName : GoodIn wsX9_chance (wsV RX9 118 RX9 yX9_isName wsX9_isName) := goodIn_app (goodIn_of _ (by decide +kernel)) ggX9_chance_X9_isName
set_option maxRecDepth 20000 in
theorem ggX9_chance_X9_in : GoodIn wsX9_chance wsX9_in := goodIn_r _ [13] (by decide +kernel) (by decide +kernel)
set_option maxRecDepth 20000 in
theorem gX9_chance_X9_in : GoodIn wsX9_chance (va_wsS RX9 63 yX9_in wsX9_in) := goodIn_app (goodIn_of _ (by decide +kernel)) ggX9_chance_X9_in
set_option maxRecDepth 20000 in
theorem ggX9_chance_X9_holds : GoodIn wsX9_chance wsX9_holds := goodIn_r _ [21, 22, 3, 71, 72, 73, 74, 75, 76, 77, 78, 79, 80, 81, 82, 83, 84, 85, 86, 87, 88, 89] (by decide +kernel) (by decide +kernel)
set_option maxRecDepth 20000 in
theorem gX9_chance_X9_holds : GoodIn wsX9_chance (wsV RX9 162 RX9 yX9_holds wsX9_holds) := goodIn_app (goodIn_of _ (by decide +kernel)) ggX9_chance_X9_holds
set_option maxRecDepth 20000 in
theorem ggX9_chance_X9_goesBy : GoodIn wsX9_chance wsX9_goesBy := goodIn_r _ [26, 2, 3, 27, 28, 29, 9, 30, 31, 32, 33, 34, 35, 36, 37, 38, 39, 40, 41, 42, 43, 11, 12, 13, 44, 45, 46, 47, 48, 49, 50, 51, 52, 53, 54, 55, 56, 57, 58, 59, 60, 61, 62, 63, 64, 65, 66, 71, 72, 73, 74, 75, 76, 77, 78, 79, 80, 81, 82, 83, 84, 85, 86, 87, 88, 89] (by decide +kernel) (by decide +kernel)
set_option maxRecDepth 20000 in
theorem gX9_chance_X9_goesBy : GoodIn wsX9_chance (wsV RX9 150 RX9 yX9_goesBy wsX9_goesBy) := goodIn_app (goodIn_of _ (by decide +kernel)) ggX9_chance_X9_goesBy
set_option maxRecDepth 20000 in
theorem ggX9_chance_X9_lets : GoodIn wsX9_chance wsX9_lets := goodIn_r _ [70, 3, 22, 71, 72, 73, 74, 75, 76, 77, 78, 79, 80, 81, 82, 83, 84, 85, 86, 87, 88, 89] (by decide +kernel) (by decide +kernel)
set_option maxRecDepth 20000 in
theorem gX9_chance_X9_lets : GoodIn wsX9_chance (wsV RX9 165 RX9 yX9_lets wsX9_lets) := goodIn_app (goodIn_of _ (by decide +kernel)) ggX9_chance_X9_lets
theorem dX9_chance_0 : decode cX9_chance 0 = .ok (.aload_n 0, 1) := by decide +kernel
theorem dX9_chance_1 : decode cX9_chance 1 = .ok (.iload_n 1, 1) := by decide +kernel
theorem dX9_chance_2 : decode cX9_chance 2 = .ok (.invokevirtual 67, 3) := by decide +kernel
theorem dX9_chance_5 : decode cX9_chance 5 = .ok (.ifCond .eq 31, 3) := by decide +kernel
theorem dX9_chance_8 : decode cX9_chance 8 = .ok (.aload_n 0, 1) := by decide +kernel
theorem dX9_chance_9 : decode cX9_chance 9 = .ok (.iload_n 2, 1) := by decide +kernel
theorem dX9_chance_10 : decode cX9_chance 10 = .ok (.invokevirtual 118, 3) := by decide +kernel
theorem dX9_chance_13 : decode cX9_chance 13 = .ok (.ifCond .eq 23, 3) := by decide +kernel
theorem dX9_chance_16 : decode cX9_chance 16 = .ok (.iload_n 3, 1) := by decide +kernel
theorem dX9_chance_17 : decode cX9_chance 17 = .ok (.iconst 0, 1) := by decide +kernel
theorem dX9_chance_18 : decode cX9_chance 18 = .ok (.bipush 10, 2) := by decide +kernel
theorem dX9_chance_20 : decode cX9_chance 20 = .ok (.invokestatic 63, 3) := by decide +kernel
theorem dX9_chance_23 : decode cX9_chance 23 = .ok (.ifCond .eq 13, 3) := by decide +kernel
theorem dX9_chance_26 : decode cX9_chance 26 = .ok (.iload 4, 2) := by decide +kernel
theorem dX9_chance_28 : decode cX9_chance 28 = .ok (.iconst 0, 1) := by decide +kernel
theorem dX9_chance_29 : decode cX9_chance 29 = .ok (.iconst 1, 1) := by decide +kernel
theorem dX9_chance_30 : decode cX9_chance 30 = .ok (.invokestatic 63, 3) := by decide +kernel
theorem dX9_chance_33 : decode cX9_chance 33 = .ok (.ifCond .ne 7, 3) := by decide +kernel
theorem dX9_chance_36 : decode cX9_chance 36 = .ok (.ldc2_w 185, 3) := by decide +kernel
theorem dX9_chance_39 : decode cX9_chance 39 = .ok (.lreturn, 1) := by decide +kernel
theorem dX9_chance_40 : decode cX9_chance 40 = .ok (.aload_n 0, 1) := by decide +kernel
theorem dX9_chance_41 : decode cX9_chance 41 = .ok (.invokevirtual 162, 3) := by decide +kernel
theorem dX9_chance_44 : decode cX9_chance 44 = .ok (.iconst 0, 1) := by decide +kernel
theorem dX9_chance_45 : decode cX9_chance 45 = .ok (.istore 5, 2) := by decide +kernel
theorem dX9_chance_47 : decode cX9_chance 47 = .ok (.iconst 0, 1) := by decide +kernel
theorem dX9_chance_48 : decode cX9_chance 48 = .ok (.istore 6, 2) := by decide +kernel
theorem dX9_chance_50 : decode cX9_chance 50 = .ok (.iload 6, 2) := by decide +kernel
theorem dX9_chance_52 : decode cX9_chance 52 = .ok (.bipush 48, 2) := by decide +kernel
theorem dX9_chance_54 : decode cX9_chance 54 = .ok (.if_icmp .ge 65, 3) := by decide +kernel
theorem dX9_chance_57 : decode cX9_chance 57 = .ok (.iload 6, 2) := by decide +kernel
theorem dX9_chance_59 : decode cX9_chance 59 = .ok (.bipush 8, 2) := by decide +kernel
theorem dX9_chance_61 : decode cX9_chance 61 = .ok (.idiv, 1) := by decide +kernel
theorem dX9_chance_62 : decode cX9_chance 62 = .ok (.aload_n 0, 1) := by decide +kernel
theorem dX9_chance_63 : decode cX9_chance 63 = .ok (.getfield 13, 3) := by decide +kernel
theorem dX9_chance_66 : decode cX9_chance 66 = .ok (.iconst 0, 1) := by decide +kernel
theorem dX9_chance_67 : decode cX9_chance 67 = .ok (.iaload, 1) := by decide +kernel
theorem dX9_chance_68 : decode cX9_chance 68 = .ok (.if_icmp .ge 45, 3) := by decide +kernel
theorem dX9_chance_71 : decode cX9_chance 71 = .ok (.aload_n 0, 1) := by decide +kernel
theorem dX9_chance_72 : decode cX9_chance 72 = .ok (.getfield 22, 3) := by decide +kernel
theorem dX9_chance_75 : decode cX9_chance 75 = .ok (.bipush 48, 2) := by decide +kernel
theorem dX9_chance_77 : decode cX9_chance 77 = .ok (.bipush 6, 2) := by decide +kernel
theorem dX9_chance_79 : decode cX9_chance 79 = .ok (.iload 6, 2) := by decide +kernel
theorem dX9_chance_81 : decode cX9_chance 81 = .ok (.bipush 8, 2) := by decide +kernel
theorem dX9_chance_83 : decode cX9_chance 83 = .ok (.idiv, 1) := by decide +kernel
theorem dX9_chance_84 : decode cX9_chance 84 = .ok (.imul, 1) := by decide +kernel
theorem dX9_chance_85 : decode cX9_chance 85 = .ok (.iadd, 1) := by decide +kernel
theorem dX9_chance_86 : decode cX9_chance 86 = .ok (.iload_n 1, 1) := by decide +kernel
theorem dX9_chance_87 : decode cX9_chance 87 = .ok (.iadd, 1) := by decide +kernel
theorem dX9_chance_88 : decode cX9_chance 88 = .ok (.iaload, 1) := by decide +kernel
theorem dX9_chance_89 : decode cX9_chance 89 = .ok (.iload 6, 2) := by decide +kernel
theorem dX9_chance_91 : decode cX9_chance 91 = .ok (.bipush 8, 2) := by decide +kernel
theorem dX9_chance_93 : decode cX9_chance 93 = .ok (.irem, 1) := by decide +kernel
theorem dX9_chance_94 : decode cX9_chance 94 = .ok (.ishr, 1) := by decide +kernel
theorem dX9_chance_95 : decode cX9_chance 95 = .ok (.iconst 1, 1) := by decide +kernel
theorem dX9_chance_96 : decode cX9_chance 96 = .ok (.iand, 1) := by decide +kernel
theorem dX9_chance_97 : decode cX9_chance 97 = .ok (.iconst 1, 1) := by decide +kernel
theorem dX9_chance_98 : decode cX9_chance 98 = .ok (.if_icmp .ne 15, 3) := by decide +kernel
theorem dX9_chance_101 : decode cX9_chance 101 = .ok (.aload_n 0, 1) := by decide +kernel
theorem dX9_chance_102 : decode cX9_chance 102 = .ok (.getfield 43, 3) := by decide +kernel
theorem dX9_chance_105 : decode cX9_chance 105 = .ok (.iload 5, 2) := by decide +kernel
theorem dX9_chance_107 : decode cX9_chance 107 = .ok (.iload 6, 2) := by decide +kernel
theorem dX9_chance_109 : decode cX9_chance 109 = .ok (.iastore, 1) := by decide +kernel
theorem dX9_chance_110 : decode cX9_chance 110 = .ok (.iinc 5 1, 3) := by decide +kernel
theorem dX9_chance_113 : decode cX9_chance 113 = .ok (.iinc 6 1, 3) := by decide +kernel
theorem dX9_chance_116 : decode cX9_chance 116 = .ok (.goto (-66), 3) := by decide +kernel
theorem dX9_chance_119 : decode cX9_chance 119 = .ok (.lconst 0, 1) := by decide +kernel
theorem dX9_chance_120 : decode cX9_chance 120 = .ok (.lstore 6, 2) := by decide +kernel
theorem dX9_chance_122 : decode cX9_chance 122 = .ok (.lconst 1, 1) := by decide +kernel
theorem dX9_chance_123 : decode cX9_chance 123 = .ok (.lstore 8, 2) := by decide +kernel
theorem dX9_chance_125 : decode cX9_chance 125 = .ok (.iconst 0, 1) := by decide +kernel
theorem dX9_chance_126 : decode cX9_chance 126 = .ok (.istore 10, 2) := by decide +kernel
theorem dX9_chance_128 : decode cX9_chance 128 = .ok (.iload 10, 2) := by decide +kernel
theorem dX9_chance_130 : decode cX9_chance 130 = .ok (.iload 5, 2) := by decide +kernel
theorem dX9_chance_132 : decode cX9_chance 132 = .ok (.if_icmp .ge 17, 3) := by decide +kernel
theorem dX9_chance_135 : decode cX9_chance 135 = .ok (.lload 8, 2) := by decide +kernel
theorem dX9_chance_137 : decode cX9_chance 137 = .ok (.ldc2_w 187, 3) := by decide +kernel
theorem dX9_chance_140 : decode cX9_chance 140 = .ok (.lmul, 1) := by decide +kernel
theorem dX9_chance_141 : decode cX9_chance 141 = .ok (.lstore 8, 2) := by decide +kernel
theorem dX9_chance_143 : decode cX9_chance 143 = .ok (.iinc 10 1, 3) := by decide +kernel
theorem dX9_chance_146 : decode cX9_chance 146 = .ok (.goto (-18), 3) := by decide +kernel
theorem dX9_chance_149 : decode cX9_chance 149 = .ok (.iconst 0, 1) := by decide +kernel
theorem dX9_chance_150 : decode cX9_chance 150 = .ok (.istore 10, 2) := by decide +kernel
theorem dX9_chance_152 : decode cX9_chance 152 = .ok (.iload 10, 2) := by decide +kernel
theorem dX9_chance_154 : decode cX9_chance 154 = .ok (.iconst 1, 1) := by decide +kernel
theorem dX9_chance_155 : decode cX9_chance 155 = .ok (.iload 5, 2) := by decide +kernel
theorem dX9_chance_157 : decode cX9_chance 157 = .ok (.ishl, 1) := by decide +kernel
theorem dX9_chance_158 : decode cX9_chance 158 = .ok (.if_icmp .ge 147, 3) := by decide +kernel
theorem dX9_chance_161 : decode cX9_chance 161 = .ok (.lconst 1, 1) := by decide +kernel
theorem dX9_chance_162 : decode cX9_chance 162 = .ok (.lstore 11, 2) := by decide +kernel
theorem dX9_chance_164 : decode cX9_chance 164 = .ok (.iconst 0, 1) := by decide +kernel
theorem dX9_chance_165 : decode cX9_chance 165 = .ok (.istore 13, 2) := by decide +kernel
theorem dX9_chance_167 : decode cX9_chance 167 = .ok (.iload 13, 2) := by decide +kernel
theorem dX9_chance_169 : decode cX9_chance 169 = .ok (.iload 5, 2) := by decide +kernel
theorem dX9_chance_171 : decode cX9_chance 171 = .ok (.if_icmp .ge 94, 3) := by decide +kernel
theorem dX9_chance_174 : decode cX9_chance 174 = .ok (.iload 10, 2) := by decide +kernel
theorem dX9_chance_176 : decode cX9_chance 176 = .ok (.iload 13, 2) := by decide +kernel
theorem dX9_chance_178 : decode cX9_chance 178 = .ok (.ishr, 1) := by decide +kernel
theorem dX9_chance_179 : decode cX9_chance 179 = .ok (.iconst 1, 1) := by decide +kernel
theorem dX9_chance_180 : decode cX9_chance 180 = .ok (.iand, 1) := by decide +kernel
theorem dX9_chance_181 : decode cX9_chance 181 = .ok (.iconst 1, 1) := by decide +kernel
theorem dX9_chance_182 : decode cX9_chance 182 = .ok (.if_icmp .ne 7, 3) := by decide +kernel
theorem dX9_chance_185 : decode cX9_chance 185 = .ok (.iconst 1, 1) := by decide +kernel
theorem dX9_chance_186 : decode cX9_chance 186 = .ok (.goto 4, 3) := by decide +kernel
theorem dX9_chance_189 : decode cX9_chance 189 = .ok (.iconst 0, 1) := by decide +kernel
theorem dX9_chance_190 : decode cX9_chance 190 = .ok (.istore 14, 2) := by decide +kernel
theorem dX9_chance_192 : decode cX9_chance 192 = .ok (.lload 11, 2) := by decide +kernel
theorem dX9_chance_194 : decode cX9_chance 194 = .ok (.iload 14, 2) := by decide +kernel
theorem dX9_chance_196 : decode cX9_chance 196 = .ok (.ifCond .eq 8, 3) := by decide +kernel
theorem dX9_chance_199 : decode cX9_chance 199 = .ok (.iload_n 3, 1) := by decide +kernel
theorem dX9_chance_200 : decode cX9_chance 200 = .ok (.i2l, 1) := by decide +kernel
theorem dX9_chance_201 : decode cX9_chance 201 = .ok (.goto 8, 3) := by decide +kernel
theorem dX9_chance_204 : decode cX9_chance 204 = .ok (.bipush 10, 2) := by decide +kernel
theorem dX9_chance_206 : decode cX9_chance 206 = .ok (.iload_n 3, 1) := by decide +kernel
theorem dX9_chance_207 : decode cX9_chance 207 = .ok (.isub, 1) := by decide +kernel
theorem dX9_chance_208 : decode cX9_chance 208 = .ok (.i2l, 1) := by decide +kernel
theorem dX9_chance_209 : decode cX9_chance 209 = .ok (.lmul, 1) := by decide +kernel
theorem dX9_chance_210 : decode cX9_chance 210 = .ok (.lstore 11, 2) := by decide +kernel
theorem dX9_chance_212 : decode cX9_chance 212 = .ok (.aload_n 0, 1) := by decide +kernel
theorem dX9_chance_213 : decode cX9_chance 213 = .ok (.getfield 22, 3) := by decide +kernel
theorem dX9_chance_216 : decode cX9_chance 216 = .ok (.bipush 48, 2) := by decide +kernel
theorem dX9_chance_218 : decode cX9_chance 218 = .ok (.bipush 6, 2) := by decide +kernel
theorem dX9_chance_220 : decode cX9_chance 220 = .ok (.aload_n 0, 1) := by decide +kernel
theorem dX9_chance_221 : decode cX9_chance 221 = .ok (.getfield 43, 3) := by decide +kernel
theorem dX9_chance_224 : decode cX9_chance 224 = .ok (.iload 13, 2) := by decide +kernel
theorem dX9_chance_226 : decode cX9_chance 226 = .ok (.iaload, 1) := by decide +kernel
theorem dX9_chance_227 : decode cX9_chance 227 = .ok (.bipush 8, 2) := by decide +kernel
theorem dX9_chance_229 : decode cX9_chance 229 = .ok (.idiv, 1) := by decide +kernel
theorem dX9_chance_230 : decode cX9_chance 230 = .ok (.imul, 1) := by decide +kernel
theorem dX9_chance_231 : decode cX9_chance 231 = .ok (.iadd, 1) := by decide +kernel
