set_option maxRecDepth 20000 in
theorem gX8_init_X5_begin : GoodIn wsX8_init (wsV RX8 92 RX5 yX5_begin wsX5_begin) := goodIn_app (goodIn_of _ (by decide +kernel)) ggX8_init_X5_begin
set_option maxRecDepth 20000 in
theorem ggX8_init_X6_clear : GoodIn wsX8_init wsX6_clear := goodIn_r _ [252, 147, 253, 254, 255] (by decide +kernel) (by decide +kernel)
set_option maxRecDepth 20000 in
theorem gX8_init_X6_clear : GoodIn wsX8_init (wsV RX8 95 RX6 yX6_clear wsX6_clear) := goodIn_app (goodIn_of _ (by decide +kernel)) ggX8_init_X6_clear
theorem dX8_init_0 : decode cX8_init 0 = .ok (.aload_n 0, 1) := by decide +kernel
theorem dX8_init_1 : decode cX8_init 1 = .ok (.invokespecial 1, 3) := by decide +kernel
theorem dX8_init_4 : decode cX8_init 4 = .ok (.aload_n 0, 1) := by decide +kernel
theorem dX8_init_5 : decode cX8_init 5 = .ok (.new 7, 3) := by decide +kernel
theorem dX8_init_8 : decode cX8_init 8 = .ok (.dup, 1) := by decide +kernel
theorem dX8_init_9 : decode cX8_init 9 = .ok (.invokespecial 9, 3) := by decide +kernel
theorem dX8_init_12 : decode cX8_init 12 = .ok (.putfield 10, 3) := by decide +kernel
theorem dX8_init_15 : decode cX8_init 15 = .ok (.aload_n 0, 1) := by decide +kernel
theorem dX8_init_16 : decode cX8_init 16 = .ok (.new 16, 3) := by decide +kernel
theorem dX8_init_19 : decode cX8_init 19 = .ok (.dup, 1) := by decide +kernel
theorem dX8_init_20 : decode cX8_init 20 = .ok (.invokespecial 18, 3) := by decide +kernel
theorem dX8_init_23 : decode cX8_init 23 = .ok (.putfield 19, 3) := by decide +kernel
theorem dX8_init_26 : decode cX8_init 26 = .ok (.aload_n 0, 1) := by decide +kernel
theorem dX8_init_27 : decode cX8_init 27 = .ok (.new 16, 3) := by decide +kernel
theorem dX8_init_30 : decode cX8_init 30 = .ok (.dup, 1) := by decide +kernel
theorem dX8_init_31 : decode cX8_init 31 = .ok (.invokespecial 18, 3) := by decide +kernel
theorem dX8_init_34 : decode cX8_init 34 = .ok (.putfield 23, 3) := by decide +kernel
theorem dX8_init_37 : decode cX8_init 37 = .ok (.aload_n 0, 1) := by decide +kernel
theorem dX8_init_38 : decode cX8_init 38 = .ok (.new 26, 3) := by decide +kernel
theorem dX8_init_41 : decode cX8_init 41 = .ok (.dup, 1) := by decide +kernel
theorem dX8_init_42 : decode cX8_init 42 = .ok (.invokespecial 28, 3) := by decide +kernel
theorem dX8_init_45 : decode cX8_init 45 = .ok (.putfield 29, 3) := by decide +kernel
theorem dX8_init_48 : decode cX8_init 48 = .ok (.aload_n 0, 1) := by decide +kernel
theorem dX8_init_49 : decode cX8_init 49 = .ok (.new 26, 3) := by decide +kernel
theorem dX8_init_52 : decode cX8_init 52 = .ok (.dup, 1) := by decide +kernel
theorem dX8_init_53 : decode cX8_init 53 = .ok (.invokespecial 28, 3) := by decide +kernel
theorem dX8_init_56 : decode cX8_init 56 = .ok (.putfield 33, 3) := by decide +kernel
theorem dX8_init_59 : decode cX8_init 59 = .ok (.aload_n 0, 1) := by decide +kernel
theorem dX8_init_60 : decode cX8_init 60 = .ok (.new 36, 3) := by decide +kernel
theorem dX8_init_63 : decode cX8_init 63 = .ok (.dup, 1) := by decide +kernel
theorem dX8_init_64 : decode cX8_init 64 = .ok (.bipush 8, 2) := by decide +kernel
theorem dX8_init_66 : decode cX8_init 66 = .ok (.invokespecial 38, 3) := by decide +kernel
theorem dX8_init_69 : decode cX8_init 69 = .ok (.putfield 41, 3) := by decide +kernel
theorem dX8_init_72 : decode cX8_init 72 = .ok (.aload_n 0, 1) := by decide +kernel
theorem dX8_init_73 : decode cX8_init 73 = .ok (.new 36, 3) := by decide +kernel
theorem dX8_init_76 : decode cX8_init 76 = .ok (.dup, 1) := by decide +kernel
theorem dX8_init_77 : decode cX8_init 77 = .ok (.iconst 2, 1) := by decide +kernel
theorem dX8_init_78 : decode cX8_init 78 = .ok (.invokespecial 38, 3) := by decide +kernel
theorem dX8_init_81 : decode cX8_init 81 = .ok (.putfield 45, 3) := by decide +kernel
theorem dX8_init_84 : decode cX8_init 84 = .ok (.aload_n 0, 1) := by decide +kernel
theorem dX8_init_85 : decode cX8_init 85 = .ok (.new 48, 3) := by decide +kernel
theorem dX8_init_88 : decode cX8_init 88 = .ok (.dup, 1) := by decide +kernel
theorem dX8_init_89 : decode cX8_init 89 = .ok (.invokespecial 50, 3) := by decide +kernel
theorem dX8_init_92 : decode cX8_init 92 = .ok (.putfield 51, 3) := by decide +kernel
theorem dX8_init_95 : decode cX8_init 95 = .ok (.aload_n 0, 1) := by decide +kernel
theorem dX8_init_96 : decode cX8_init 96 = .ok (.new 55, 3) := by decide +kernel
theorem dX8_init_99 : decode cX8_init 99 = .ok (.dup, 1) := by decide +kernel
theorem dX8_init_100 : decode cX8_init 100 = .ok (.aload_n 0, 1) := by decide +kernel
theorem dX8_init_101 : decode cX8_init 101 = .ok (.getfield 19, 3) := by decide +kernel
theorem dX8_init_104 : decode cX8_init 104 = .ok (.invokespecial 57, 3) := by decide +kernel
theorem dX8_init_107 : decode cX8_init 107 = .ok (.putfield 60, 3) := by decide +kernel
theorem dX8_init_110 : decode cX8_init 110 = .ok (.aload_n 0, 1) := by decide +kernel
theorem dX8_init_111 : decode cX8_init 111 = .ok (.new 64, 3) := by decide +kernel
theorem dX8_init_114 : decode cX8_init 114 = .ok (.dup, 1) := by decide +kernel
theorem dX8_init_115 : decode cX8_init 115 = .ok (.aload_n 0, 1) := by decide +kernel
theorem dX8_init_116 : decode cX8_init 116 = .ok (.getfield 19, 3) := by decide +kernel
theorem dX8_init_119 : decode cX8_init 119 = .ok (.aload_n 0, 1) := by decide +kernel
theorem dX8_init_120 : decode cX8_init 120 = .ok (.getfield 29, 3) := by decide +kernel
theorem dX8_init_123 : decode cX8_init 123 = .ok (.aload_n 0, 1) := by decide +kernel
theorem dX8_init_124 : decode cX8_init 124 = .ok (.getfield 60, 3) := by decide +kernel
theorem dX8_init_127 : decode cX8_init 127 = .ok (.invokespecial 66, 3) := by decide +kernel
theorem dX8_init_130 : decode cX8_init 130 = .ok (.putfield 69, 3) := by decide +kernel
theorem dX8_init_133 : decode cX8_init 133 = .ok (.iconst 0, 1) := by decide +kernel
theorem dX8_init_134 : decode cX8_init 134 = .ok (.istore_n 1, 1) := by decide +kernel
theorem dX8_init_135 : decode cX8_init 135 = .ok (.iload_n 1, 1) := by decide +kernel
theorem dX8_init_136 : decode cX8_init 136 = .ok (.ldc 73, 2) := by decide +kernel
theorem dX8_init_138 : decode cX8_init 138 = .ok (.invokevirtual 75, 3) := by decide +kernel
theorem dX8_init_141 : decode cX8_init 141 = .ok (.if_icmp .ge 22, 3) := by decide +kernel
theorem dX8_init_144 : decode cX8_init 144 = .ok (.aload_n 0, 1) := by decide +kernel
theorem dX8_init_145 : decode cX8_init 145 = .ok (.getfield 10, 3) := by decide +kernel
theorem dX8_init_148 : decode cX8_init 148 = .ok (.ldc 73, 2) := by decide +kernel
theorem dX8_init_150 : decode cX8_init 150 = .ok (.iload_n 1, 1) := by decide +kernel
theorem dX8_init_151 : decode cX8_init 151 = .ok (.invokevirtual 81, 3) := by decide +kernel
theorem dX8_init_154 : decode cX8_init 154 = .ok (.invokevirtual 85, 3) := by decide +kernel
theorem dX8_init_157 : decode cX8_init 157 = .ok (.iinc 1 1, 3) := by decide +kernel
theorem dX8_init_160 : decode cX8_init 160 = .ok (.goto (-25), 3) := by decide +kernel
theorem dX8_init_163 : decode cX8_init 163 = .ok (.aload_n 0, 1) := by decide +kernel
theorem dX8_init_164 : decode cX8_init 164 = .ok (.getfield 10, 3) := by decide +kernel
theorem dX8_init_167 : decode cX8_init 167 = .ok (.aload_n 0, 1) := by decide +kernel
theorem dX8_init_168 : decode cX8_init 168 = .ok (.getfield 19, 3) := by decide +kernel
theorem dX8_init_171 : decode cX8_init 171 = .ok (.invokevirtual 88, 3) := by decide +kernel
theorem dX8_init_174 : decode cX8_init 174 = .ok (.pop, 1) := by decide +kernel
theorem dX8_init_175 : decode cX8_init 175 = .ok (.aload_n 0, 1) := by decide +kernel
theorem dX8_init_176 : decode cX8_init 176 = .ok (.getfield 29, 3) := by decide +kernel
theorem dX8_init_179 : decode cX8_init 179 = .ok (.aload_n 0, 1) := by decide +kernel
theorem dX8_init_180 : decode cX8_init 180 = .ok (.getfield 19, 3) := by decide +kernel
theorem dX8_init_183 : decode cX8_init 183 = .ok (.invokevirtual 92, 3) := by decide +kernel
theorem dX8_init_186 : decode cX8_init 186 = .ok (.aload_n 0, 1) := by decide +kernel
theorem dX8_init_187 : decode cX8_init 187 = .ok (.getfield 10, 3) := by decide +kernel
theorem dX8_init_190 : decode cX8_init 190 = .ok (.invokevirtual 95, 3) := by decide +kernel
theorem dX8_init_193 : decode cX8_init 193 = .ok (.return_, 1) := by decide +kernel
set_option maxRecDepth 20000 in
theorem ggX8_write_X8_within : GoodIn wsX8_write wsX8_within := goodIn_r _ [5] (by decide +kernel) (by decide +kernel)
set_option maxRecDepth 20000 in
theorem gX8_write_X8_within : GoodIn wsX8_write (va_wsS RX8 98 yX8_within wsX8_within) := goodIn_app (goodIn_of _ (by decide +kernel)) ggX8_write_X8_within
set_option maxRecDepth 20000 in
theorem ggX8_write_X6_add : GoodIn wsX8_write wsX6_add := goodIn_r _ [10, 11, 12, 13, 4, 14, 25, 26, 27] (by decide +kernel) (by decide +kernel)
set_option maxRecDepth 20000 in
theorem gX8_write_X6_add : GoodIn wsX8_write (wsV RX8 85 RX6 yX6_add wsX6_add) := goodIn_app (goodIn_of _ (by decide +kernel)) ggX8_write_X6_add
theorem dX8_write_0 : decode cX8_write 0 = .ok (.iload_n 1, 1) := by decide +kernel
theorem dX8_write_1 : decode cX8_write 1 = .ok (.bipush 32, 2) := by decide +kernel
theorem dX8_write_3 : decode cX8_write 3 = .ok (.bipush 126, 2) := by decide +kernel
theorem dX8_write_5 : decode cX8_write 5 = .ok (.invokestatic 98, 3) := by decide +kernel
theorem dX8_write_8 : decode cX8_write 8 = .ok (.ifCond .ne 5, 3) := by decide +kernel
theorem dX8_write_11 : decode cX8_write 11 = .ok (.iconst (-1), 1) := by decide +kernel
theorem dX8_write_12 : decode cX8_write 12 = .ok (.ireturn, 1) := by decide +kernel
theorem dX8_write_13 : decode cX8_write 13 = .ok (.aload_n 0, 1) := by decide +kernel
theorem dX8_write_14 : decode cX8_write 14 = .ok (.getfield 10, 3) := by decide +kernel
theorem dX8_write_17 : decode cX8_write 17 = .ok (.getfield 102, 3) := by decide +kernel
theorem dX8_write_20 : decode cX8_write 20 = .ok (.sipush 200, 3) := by decide +kernel
theorem dX8_write_23 : decode cX8_write 23 = .ok (.if_icmp .lt 6, 3) := by decide +kernel
theorem dX8_write_26 : decode cX8_write 26 = .ok (.bipush (-3), 2) := by decide +kernel
theorem dX8_write_28 : decode cX8_write 28 = .ok (.ireturn, 1) := by decide +kernel
theorem dX8_write_29 : decode cX8_write 29 = .ok (.aload_n 0, 1) := by decide +kernel
theorem dX8_write_30 : decode cX8_write 30 = .ok (.getfield 10, 3) := by decide +kernel
theorem dX8_write_33 : decode cX8_write 33 = .ok (.iload_n 1, 1) := by decide +kernel
theorem dX8_write_34 : decode cX8_write 34 = .ok (.invokevirtual 85, 3) := by decide +kernel
theorem dX8_write_37 : decode cX8_write 37 = .ok (.aload_n 0, 1) := by decide +kernel
theorem dX8_write_38 : decode cX8_write 38 = .ok (.getfield 10, 3) := by decide +kernel
theorem dX8_write_41 : decode cX8_write 41 = .ok (.getfield 102, 3) := by decide +kernel
theorem dX8_write_44 : decode cX8_write 44 = .ok (.ireturn, 1) := by decide +kernel
set_option maxRecDepth 20000 in
theorem ggX8_wipe_X6_clear : GoodIn wsX8_wipe wsX6_clear := goodIn_r _ [6, 7, 18, 19, 20] (by decide +kernel) (by decide +kernel)
set_option maxRecDepth 20000 in
theorem gX8_wipe_X6_clear : GoodIn wsX8_wipe (wsV RX8 95 RX6 yX6_clear wsX6_clear) := goodIn_app (goodIn_of _ (by decide +kernel)) ggX8_wipe_X6_clear
theorem dX8_wipe_0 : decode cX8_wipe 0 = .ok (.aload_n 0, 1) := by decide +kernel
theorem dX8_wipe_1 : decode cX8_wipe 1 = .ok (.getfield 10, 3) := by decide +kernel
theorem dX8_wipe_4 : decode cX8_wipe 4 = .ok (.getfield 102, 3) := by decide +kernel
theorem dX8_wipe_7 : decode cX8_wipe 7 = .ok (.istore_n 1, 1) := by decide +kernel
theorem dX8_wipe_8 : decode cX8_wipe 8 = .ok (.aload_n 0, 1) := by decide +kernel
theorem dX8_wipe_9 : decode cX8_wipe 9 = .ok (.getfield 10, 3) := by decide +kernel
theorem dX8_wipe_12 : decode cX8_wipe 12 = .ok (.invokevirtual 95, 3) := by decide +kernel
theorem dX8_wipe_15 : decode cX8_wipe 15 = .ok (.iload_n 1, 1) := by decide +kernel
theorem dX8_wipe_16 : decode cX8_wipe 16 = .ok (.ireturn, 1) := by decide +kernel
set_option maxRecDepth 20000 in
theorem ggX8_fault_X6_readInto : GoodIn wsX8_fault wsX6_readInto := goodIn_r _ [7, 8, 9, 10, 11, 12, 13, 14, 15, 16, 17, 18, 19, 20, 21, 22, 23, 24, 25, 26, 27, 28, 29, 30, 6, 31, 32, 33, 34, 35, 36, 37, 38, 39, 40, 41, 42, 43, 44, 45, 46, 47, 48, 49, 50, 51, 52, 53, 54, 55, 56, 57, 58, 59, 60, 61, 62, 63, 64, 65, 66, 67, 68, 69, 70, 71, 72, 73, 74, 75, 76, 77, 78, 79, 80, 81, 82, 83, 84, 85, 86, 87, 88, 89, 90, 91, 92, 93, 94, 95, 96, 97, 98, 99, 100, 101, 102, 113, 114, 115, 116, 117, 118, 119, 120, 121, 122, 123, 124, 125] (by decide +kernel) (by decide +kernel)
set_option maxRecDepth 20000 in
theorem gX8_fault_X6_readInto : GoodIn wsX8_fault (wsV RX8 88 RX6 yX6_readInto wsX6_readInto) := goodIn_app (goodIn_of _ (by decide +kernel)) ggX8_fault_X6_readInto
theorem dX8_fault_0 : decode cX8_fault 0 = .ok (.aload_n 0, 1) := by decide +kernel
theorem dX8_fault_1 : decode cX8_fault 1 = .ok (.getfield 10, 3) := by decide +kernel
theorem dX8_fault_4 : decode cX8_fault 4 = .ok (.aload_n 0, 1) := by decide +kernel
theorem dX8_fault_5 : decode cX8_fault 5 = .ok (.getfield 23, 3) := by decide +kernel
theorem dX8_fault_8 : decode cX8_fault 8 = .ok (.invokevirtual 88, 3) := by decide +kernel
theorem dX8_fault_11 : decode cX8_fault 11 = .ok (.ireturn, 1) := by decide +kernel
set_option maxRecDepth 20000 in
theorem ggX8_lay_X6_readInto : GoodIn wsX8_lay wsX6_readInto := goodIn_r _ [12, 13, 14, 15, 16, 17, 18, 19, 20, 21, 22, 23, 24, 25, 26, 27, 28, 29, 30, 31, 32, 33, 34, 35, 11, 36, 37, 38, 39, 40, 41, 42, 43, 44, 45, 46, 47, 48, 49, 50, 51, 52, 53, 54, 55, 56, 57, 58, 59, 60, 61, 62, 63, 64, 65, 66, 67, 68, 69, 70, 71, 72, 73, 74, 75, 76, 77, 78, 79, 80, 81, 82, 83, 84, 85, 86, 87, 88, 89, 90, 91, 92, 93, 94, 95, 96, 97, 98, 99, 100, 101, 102, 103, 104, 105, 106, 107, 156, 157, 158, 147, 148, 149, 150, 151, 152, 153, 154, 155, 159] (by decide +kernel) (by decide +kernel)
set_option maxRecDepth 20000 in
theorem gX8_lay_X6_readInto : GoodIn wsX8_lay (wsV RX8 88 RX6 yX6_readInto wsX6_readInto) := goodIn_app (goodIn_of _ (by decide +kernel)) ggX8_lay_X6_readInto
set_option maxRecDepth 20000 in
theorem ggX8_lay_X5_begin : GoodIn wsX8_lay wsX5_begin := goodIn_r _ [112, 113, 114, 115, 116, 117, 118, 119, 27, 120, 29, 121, 122, 123, 124, 84, 31, 85, 30, 32, 53, 54, 160, 161, 162, 163, 147, 148, 149, 150, 151, 152, 153, 154, 155, 159] (by decide +kernel) (by decide +kernel)
set_option maxRecDepth 20000 in
theorem gX8_lay_X5_begin : GoodIn wsX8_lay (wsV RX8 92 RX5 yX5_begin wsX5_begin) := goodIn_app (goodIn_of _ (by decide +kernel)) ggX8_lay_X5_begin
set_option maxRecDepth 20000 in
theorem ggX8_lay_X2_clear : GoodIn wsX8_lay wsX2_clear := goodIn_r _ [129, 130, 164, 165, 166] (by decide +kernel) (by decide +kernel)
set_option maxRecDepth 20000 in
theorem gX8_lay_X2_clear : GoodIn wsX8_lay (wsV RX8 111 RX2 yX2_clear wsX2_clear) := goodIn_app (goodIn_of _ (by decide +kernel)) ggX8_lay_X2_clear
set_option maxRecDepth 20000 in
theorem ggX8_lay_X4_clear : GoodIn wsX8_lay wsX4_clear := goodIn_r _ [135, 136, 167, 168, 169, 170, 171] (by decide +kernel) (by decide +kernel)
set_option maxRecDepth 20000 in
theorem gX8_lay_X4_clear : GoodIn wsX8_lay (wsV RX8 112 RX4 yX4_clear wsX4_clear) := goodIn_app (goodIn_of _ (by decide +kernel)) ggX8_lay_X4_clear
theorem dX8_lay_0 : decode cX8_lay 0 = .ok (.aload_n 0, 1) := by decide +kernel
theorem dX8_lay_1 : decode cX8_lay 1 = .ok (.getfield 10, 3) := by decide +kernel
theorem dX8_lay_4 : decode cX8_lay 4 = .ok (.aload_n 0, 1) := by decide +kernel
theorem dX8_lay_5 : decode cX8_lay 5 = .ok (.getfield 23, 3) := by decide +kernel
theorem dX8_lay_8 : decode cX8_lay 8 = .ok (.invokevirtual 88, 3) := by decide +kernel
theorem dX8_lay_11 : decode cX8_lay 11 = .ok (.bipush (-4), 2) := by decide +kernel
theorem dX8_lay_13 : decode cX8_lay 13 = .ok (.if_icmp .ne 25, 3) := by decide +kernel
theorem dX8_lay_16 : decode cX8_lay 16 = .ok (.aload_n 0, 1) := by decide +kernel
theorem dX8_lay_17 : decode cX8_lay 17 = .ok (.getfield 23, 3) := by decide +kernel
theorem dX8_lay_20 : decode cX8_lay 20 = .ok (.getfield 105, 3) := by decide +kernel
theorem dX8_lay_23 : decode cX8_lay 23 = .ok (.iconst 1, 1) := by decide +kernel
theorem dX8_lay_24 : decode cX8_lay 24 = .ok (.if_icmp .lt 14, 3) := by decide +kernel
theorem dX8_lay_27 : decode cX8_lay 27 = .ok (.aload_n 0, 1) := by decide +kernel
theorem dX8_lay_28 : decode cX8_lay 28 = .ok (.getfield 23, 3) := by decide +kernel
theorem dX8_lay_31 : decode cX8_lay 31 = .ok (.getfield 108, 3) := by decide +kernel
theorem dX8_lay_34 : decode cX8_lay 34 = .ok (.iconst 1, 1) := by decide +kernel
theorem dX8_lay_35 : decode cX8_lay 35 = .ok (.if_icmp .ge 6, 3) := by decide +kernel
theorem dX8_lay_38 : decode cX8_lay 38 = .ok (.bipush (-2), 2) := by decide +kernel
theorem dX8_lay_40 : decode cX8_lay 40 = .ok (.ireturn, 1) := by decide +kernel
theorem dX8_lay_41 : decode cX8_lay 41 = .ok (.aload_n 0, 1) := by decide +kernel
theorem dX8_lay_42 : decode cX8_lay 42 = .ok (.getfield 10, 3) := by decide +kernel
theorem dX8_lay_45 : decode cX8_lay 45 = .ok (.aload_n 0, 1) := by decide +kernel
theorem dX8_lay_46 : decode cX8_lay 46 = .ok (.getfield 19, 3) := by decide +kernel
theorem dX8_lay_49 : decode cX8_lay 49 = .ok (.invokevirtual 88, 3) := by decide +kernel
theorem dX8_lay_52 : decode cX8_lay 52 = .ok (.pop, 1) := by decide +kernel
theorem dX8_lay_53 : decode cX8_lay 53 = .ok (.aload_n 0, 1) := by decide +kernel
theorem dX8_lay_54 : decode cX8_lay 54 = .ok (.getfield 29, 3) := by decide +kernel
theorem dX8_lay_57 : decode cX8_lay 57 = .ok (.aload_n 0, 1) := by decide +kernel
theorem dX8_lay_58 : decode cX8_lay 58 = .ok (.getfield 19, 3) := by decide +kernel
theorem dX8_lay_61 : decode cX8_lay 61 = .ok (.invokevirtual 92, 3) := by decide +kernel
theorem dX8_lay_64 : decode cX8_lay 64 = .ok (.aload_n 0, 1) := by decide +kernel
theorem dX8_lay_65 : decode cX8_lay 65 = .ok (.getfield 41, 3) := by decide +kernel
theorem dX8_lay_68 : decode cX8_lay 68 = .ok (.invokevirtual 111, 3) := by decide +kernel
theorem dX8_lay_71 : decode cX8_lay 71 = .ok (.aload_n 0, 1) := by decide +kernel
theorem dX8_lay_72 : decode cX8_lay 72 = .ok (.getfield 45, 3) := by decide +kernel
theorem dX8_lay_75 : decode cX8_lay 75 = .ok (.invokevirtual 111, 3) := by decide +kernel
theorem dX8_lay_78 : decode cX8_lay 78 = .ok (.aload_n 0, 1) := by decide +kernel
theorem dX8_lay_79 : decode cX8_lay 79 = .ok (.getfield 51, 3) := by decide +kernel
theorem dX8_lay_82 : decode cX8_lay 82 = .ok (.invokevirtual 112, 3) := by decide +kernel
theorem dX8_lay_85 : decode cX8_lay 85 = .ok (.aload_n 0, 1) := by decide +kernel
theorem dX8_lay_86 : decode cX8_lay 86 = .ok (.getfield 19, 3) := by decide +kernel
theorem dX8_lay_89 : decode cX8_lay 89 = .ok (.getfield 105, 3) := by decide +kernel
theorem dX8_lay_92 : decode cX8_lay 92 = .ok (.ireturn, 1) := by decide +kernel
set_option maxRecDepth 20000 in
theorem ggX8_person_X8_isPerson : GoodIn wsX8_person wsX8_isPerson := goodIn_r _ [8, 3, 9, 10, 7, 11, 49, 50, 51, 52, 53, 54, 55, 56, 57, 58, 65, 66, 67, 68, 69, 70, 71, 72, 73] (by decide +kernel) (by decide +kernel)
set_option maxRecDepth 20000 in
theorem gX8_person_X8_isPerson : GoodIn wsX8_person (wsV RX8 113 RX8 yX8_isPerson wsX8_isPerson) := goodIn_app (goodIn_of _ (by decide +kernel)) ggX8_person_X8_isPerson
set_option maxRecDepth 20000 in
theorem ggX8_person_X8_within : GoodIn wsX8_person wsX8_within := goodIn_r _ [11] (by decide +kernel) (by decide +kernel)
set_option maxRecDepth 20000 in
theorem gX8_person_X8_within : GoodIn wsX8_person (va_wsS RX8 98 yX8_within wsX8_within) := goodIn_app (goodIn_of _ (by decide +kernel)) ggX8_person_X8_within
set_option maxRecDepth 20000 in
theorem ggX8_person_X0_enter : GoodIn wsX8_person wsX0_enter := goodIn_r _ [16, 17, 18, 19, 20, 21, 22, 23, 7, 24, 25, 26, 27, 28, 29, 30, 31, 32, 33, 34, 35, 36, 37, 38, 39, 40, 59, 60, 61, 62, 63, 64, 65, 66, 67, 68, 69, 70, 71, 72, 73, 74, 75, 76, 77, 78] (by decide +kernel) (by decide +kernel)
set_option maxRecDepth 20000 in
theorem gX8_person_X0_enter : GoodIn wsX8_person (wsV RX8 117 RX0 yX0_enter wsX0_enter) := goodIn_app (goodIn_of _ (by decide +kernel)) ggX8_person_X0_enter
set_option maxRecDepth 20000 in
theorem ggX8_person_X0_lodgers : GoodIn wsX8_person wsX0_lodgers := goodIn_r _ [44, 22, 23, 7, 24, 59, 60, 61, 62, 63, 64] (by decide +kernel) (by decide +kernel)
set_option maxRecDepth 20000 in
theorem gX8_person_X0_lodgers : GoodIn wsX8_person (wsV RX8 130 RX0 yX0_lodgers wsX0_lodgers) := goodIn_app (goodIn_of _ (by decide +kernel)) ggX8_person_X0_lodgers
set_option maxRecDepth 20000 in
theorem ggX8_person_X0_together : GoodIn wsX8_person wsX0_together := goodIn_r _ [48, 22, 23, 7, 24, 59, 60, 61, 62, 63, 64] (by decide +kernel) (by decide +kernel)
set_option maxRecDepth 20000 in
theorem gX8_person_X0_together : GoodIn wsX8_person (wsV RX8 137 RX0 yX0_together wsX0_together) := goodIn_app (goodIn_of _ (by decide +kernel)) ggX8_person_X0_together
theorem dX8_person_0 : decode cX8_person 0 = .ok (.aload_n 0, 1) := by decide +kernel
theorem dX8_person_1 : decode cX8_person 1 = .ok (.iload_n 1, 1) := by decide +kernel
theorem dX8_person_2 : decode cX8_person 2 = .ok (.invokevirtual 113, 3) := by decide +kernel
theorem dX8_person_5 : decode cX8_person 5 = .ok (.ifCond .eq 12, 3) := by decide +kernel
theorem dX8_person_8 : decode cX8_person 8 = .ok (.iload_n 2, 1) := by decide +kernel
theorem dX8_person_9 : decode cX8_person 9 = .ok (.iconst 0, 1) := by decide +kernel
theorem dX8_person_10 : decode cX8_person 10 = .ok (.iconst 4, 1) := by decide +kernel
theorem dX8_person_11 : decode cX8_person 11 = .ok (.invokestatic 98, 3) := by decide +kernel
theorem dX8_person_14 : decode cX8_person 14 = .ok (.ifCond .ne 5, 3) := by decide +kernel
theorem dX8_person_17 : decode cX8_person 17 = .ok (.iconst (-1), 1) := by decide +kernel
theorem dX8_person_18 : decode cX8_person 18 = .ok (.ireturn, 1) := by decide +kernel
theorem dX8_person_19 : decode cX8_person 19 = .ok (.aload_n 0, 1) := by decide +kernel
theorem dX8_person_20 : decode cX8_person 20 = .ok (.getfield 60, 3) := by decide +kernel
theorem dX8_person_23 : decode cX8_person 23 = .ok (.aload_n 0, 1) := by decide +kernel
theorem dX8_person_24 : decode cX8_person 24 = .ok (.getfield 29, 3) := by decide +kernel
theorem dX8_person_27 : decode cX8_person 27 = .ok (.iload_n 1, 1) := by decide +kernel
theorem dX8_person_28 : decode cX8_person 28 = .ok (.invokevirtual 117, 3) := by decide +kernel
theorem dX8_person_31 : decode cX8_person 31 = .ok (.iload_n 2, 1) := by decide +kernel
theorem dX8_person_32 : decode cX8_person 32 = .ok (.tableswitch 64 0 3 #[32, 40, 48, 56], 32) := by decide +kernel
theorem dX8_person_64 : decode cX8_person 64 = .ok (.aload_n 0, 1) := by decide +kernel
theorem dX8_person_65 : decode cX8_person 65 = .ok (.getfield 60, 3) := by decide +kernel
theorem dX8_person_68 : decode cX8_person 68 = .ok (.getfield 121, 3) := by decide +kernel
theorem dX8_person_71 : decode cX8_person 71 = .ok (.ireturn, 1) := by decide +kernel
theorem dX8_person_72 : decode cX8_person 72 = .ok (.aload_n 0, 1) := by decide +kernel
theorem dX8_person_73 : decode cX8_person 73 = .ok (.getfield 60, 3) := by decide +kernel
theorem dX8_person_76 : decode cX8_person 76 = .ok (.getfield 124, 3) := by decide +kernel
theorem dX8_person_79 : decode cX8_person 79 = .ok (.ireturn, 1) := by decide +kernel
theorem dX8_person_80 : decode cX8_person 80 = .ok (.aload_n 0, 1) := by decide +kernel
theorem dX8_person_81 : decode cX8_person 81 = .ok (.getfield 60, 3) := by decide +kernel
theorem dX8_person_84 : decode cX8_person 84 = .ok (.getfield 127, 3) := by decide +kernel
theorem dX8_person_87 : decode cX8_person 87 = .ok (.ireturn, 1) := by decide +kernel
theorem dX8_person_88 : decode cX8_person 88 = .ok (.aload_n 0, 1) := by decide +kernel
theorem dX8_person_89 : decode cX8_person 89 = .ok (.getfield 60, 3) := by decide +kernel
theorem dX8_person_92 : decode cX8_person 92 = .ok (.invokevirtual 130, 3) := by decide +kernel
theorem dX8_person_95 : decode cX8_person 95 = .ok (.ireturn, 1) := by decide +kernel
theorem dX8_person_96 : decode cX8_person 96 = .ok (.aload_n 0, 1) := by decide +kernel
theorem dX8_person_97 : decode cX8_person 97 = .ok (.getfield 60, 3) := by decide +kernel
theorem dX8_person_100 : decode cX8_person 100 = .ok (.aload_n 0, 1) := by decide +kernel
theorem dX8_person_101 : decode cX8_person 101 = .ok (.getfield 19, 3) := by decide +kernel
theorem dX8_person_104 : decode cX8_person 104 = .ok (.getfield 133, 3) := by decide +kernel
theorem dX8_person_107 : decode cX8_person 107 = .ok (.invokevirtual 137, 3) := by decide +kernel
theorem dX8_person_110 : decode cX8_person 110 = .ok (.aload_n 0, 1) := by decide +kernel
theorem dX8_person_111 : decode cX8_person 111 = .ok (.getfield 60, 3) := by decide +kernel
theorem dX8_person_114 : decode cX8_person 114 = .ok (.getfield 127, 3) := by decide +kernel
theorem dX8_person_117 : decode cX8_person 117 = .ok (.if_icmp .le 7, 3) := by decide +kernel
theorem dX8_person_120 : decode cX8_person 120 = .ok (.iconst 1, 1) := by decide +kernel
theorem dX8_person_121 : decode cX8_person 121 = .ok (.goto 4, 3) := by decide +kernel
theorem dX8_person_124 : decode cX8_person 124 = .ok (.iconst 0, 1) := by decide +kernel
theorem dX8_person_125 : decode cX8_person 125 = .ok (.ireturn, 1) := by decide +kernel
set_option maxRecDepth 20000 in
theorem ggX8_name_X8_isName : GoodIn wsX8_name wsX8_isName := goodIn_r _ [6, 1, 7, 8, 5, 9, 13, 14, 15, 16, 17, 18, 19, 20, 21, 22, 23, 24, 25, 26, 27, 28, 29, 30, 31] (by decide +kernel) (by decide +kernel)
set_option maxRecDepth 20000 in
theorem gX8_name_X8_isName : GoodIn wsX8_name (wsV RX8 141 RX8 yX8_isName wsX8_isName) := goodIn_app (goodIn_of _ (by decide +kernel)) ggX8_name_X8_isName
set_option maxRecDepth 20000 in
theorem ggX8_name_X8_within : GoodIn wsX8_name wsX8_within := goodIn_r _ [9] (by decide +kernel) (by decide +kernel)
set_option maxRecDepth 20000 in
theorem gX8_name_X8_within : GoodIn wsX8_name (va_wsS RX8 98 yX8_within wsX8_within) := goodIn_app (goodIn_of _ (by decide +kernel)) ggX8_name_X8_within
set_option maxRecDepth 20000 in
theorem ggX8_name_X8_at : GoodIn wsX8_name wsX8_at := goodIn_r _ [12] (by decide +kernel) (by decide +kernel)
set_option maxRecDepth 20000 in
theorem gX8_name_X8_at : GoodIn wsX8_name (va_wsS RX8 147 yX8_at wsX8_at) := goodIn_app (goodIn_of _ (by decide +kernel)) ggX8_name_X8_at
theorem dX8_name_0 : decode cX8_name 0 = .ok (.aload_n 0, 1) := by decide +kernel
theorem dX8_name_1 : decode cX8_name 1 = .ok (.iload_n 1, 1) := by decide +kernel
theorem dX8_name_2 : decode cX8_name 2 = .ok (.invokevirtual 141, 3) := by decide +kernel
theorem dX8_name_5 : decode cX8_name 5 = .ok (.ifCond .eq 12, 3) := by decide +kernel
theorem dX8_name_8 : decode cX8_name 8 = .ok (.iload_n 2, 1) := by decide +kernel
theorem dX8_name_9 : decode cX8_name 9 = .ok (.iconst 0, 1) := by decide +kernel
theorem dX8_name_10 : decode cX8_name 10 = .ok (.iconst 1, 1) := by decide +kernel
theorem dX8_name_11 : decode cX8_name 11 = .ok (.invokestatic 98, 3) := by decide +kernel
theorem dX8_name_14 : decode cX8_name 14 = .ok (.ifCond .ne 5, 3) := by decide +kernel
theorem dX8_name_17 : decode cX8_name 17 = .ok (.iconst (-1), 1) := by decide +kernel
theorem dX8_name_18 : decode cX8_name 18 = .ok (.ireturn, 1) := by decide +kernel
theorem dX8_name_19 : decode cX8_name 19 = .ok (.iload_n 2, 1) := by decide +kernel
theorem dX8_name_20 : decode cX8_name 20 = .ok (.ifCond .ne 17, 3) := by decide +kernel
theorem dX8_name_23 : decode cX8_name 23 = .ok (.aload_n 0, 1) := by decide +kernel
theorem dX8_name_24 : decode cX8_name 24 = .ok (.getfield 19, 3) := by decide +kernel
theorem dX8_name_27 : decode cX8_name 27 = .ok (.getfield 144, 3) := by decide +kernel
theorem dX8_name_30 : decode cX8_name 30 = .ok (.iload_n 1, 1) := by decide +kernel
theorem dX8_name_31 : decode cX8_name 31 = .ok (.invokestatic 147, 3) := by decide +kernel
theorem dX8_name_34 : decode cX8_name 34 = .ok (.goto 14, 3) := by decide +kernel
theorem dX8_name_37 : decode cX8_name 37 = .ok (.aload_n 0, 1) := by decide +kernel
theorem dX8_name_38 : decode cX8_name 38 = .ok (.getfield 19, 3) := by decide +kernel
theorem dX8_name_41 : decode cX8_name 41 = .ok (.getfield 133, 3) := by decide +kernel
theorem dX8_name_44 : decode cX8_name 44 = .ok (.iload_n 1, 1) := by decide +kernel
theorem dX8_name_45 : decode cX8_name 45 = .ok (.invokestatic 147, 3) := by decide +kernel
theorem dX8_name_48 : decode cX8_name 48 = .ok (.ireturn, 1) := by decide +kernel
set_option maxRecDepth 20000 in
theorem ggX8_stout_X8_isLodging : GoodIn wsX8_stout wsX8_isLodging := goodIn_r _ [6, 7, 8, 9, 5, 10, 11, 12, 13, 14, 15, 16, 17, 18, 27, 28, 29, 30, 31, 32, 33, 34, 35, 36, 37, 38, 39, 40, 41, 42, 43, 44, 45] (by decide +kernel) (by decide +kernel)
set_option maxRecDepth 20000 in
theorem gX8_stout_X8_isLodging : GoodIn wsX8_stout (wsV RX8 151 RX8 yX8_isLodging wsX8_isLodging) := goodIn_app (goodIn_of _ (by decide +kernel)) ggX8_stout_X8_isLodging
set_option maxRecDepth 20000 in
theorem ggX8_stout_X5_stoutAt : GoodIn wsX8_stout wsX5_stoutAt := goodIn_r _ [23, 24, 25, 5, 26, 46, 47, 48, 49] (by decide +kernel) (by decide +kernel)
set_option maxRecDepth 20000 in
theorem gX8_stout_X5_stoutAt : GoodIn wsX8_stout (wsV RX8 155 RX5 yX5_stoutAt wsX5_stoutAt) := goodIn_app (goodIn_of _ (by decide +kernel)) ggX8_stout_X5_stoutAt
theorem dX8_stout_0 : decode cX8_stout 0 = .ok (.aload_n 0, 1) := by decide +kernel
theorem dX8_stout_1 : decode cX8_stout 1 = .ok (.iload_n 1, 1) := by decide +kernel
theorem dX8_stout_2 : decode cX8_stout 2 = .ok (.iload_n 2, 1) := by decide +kernel
theorem dX8_stout_3 : decode cX8_stout 3 = .ok (.invokevirtual 151, 3) := by decide +kernel
theorem dX8_stout_6 : decode cX8_stout 6 = .ok (.ifCond .eq 15, 3) := by decide +kernel
theorem dX8_stout_9 : decode cX8_stout 9 = .ok (.aload_n 0, 1) := by decide +kernel
theorem dX8_stout_10 : decode cX8_stout 10 = .ok (.getfield 29, 3) := by decide +kernel
theorem dX8_stout_13 : decode cX8_stout 13 = .ok (.iload_n 1, 1) := by decide +kernel
theorem dX8_stout_14 : decode cX8_stout 14 = .ok (.iload_n 2, 1) := by decide +kernel
theorem dX8_stout_15 : decode cX8_stout 15 = .ok (.invokevirtual 155, 3) := by decide +kernel
theorem dX8_stout_18 : decode cX8_stout 18 = .ok (.goto 4, 3) := by decide +kernel
theorem dX8_stout_21 : decode cX8_stout 21 = .ok (.iconst (-1), 1) := by decide +kernel
theorem dX8_stout_22 : decode cX8_stout 22 = .ok (.ireturn, 1) := by decide +kernel
set_option maxRecDepth 20000 in
theorem ggX8_calls_X8_isWord : GoodIn wsX8_calls wsX8_isWord := goodIn_r _ [6, 7, 8, 9, 5, 10, 11, 12, 13, 14, 15, 16, 17, 18, 19, 20, 21, 22, 34, 35, 36, 37, 38, 39, 40, 41, 42, 43, 48, 49, 50, 51, 52, 53, 54, 55, 56] (by decide +kernel) (by decide +kernel)
set_option maxRecDepth 20000 in
theorem gX8_calls_X8_isWord : GoodIn wsX8_calls (wsV RX8 159 RX8 yX8_isWord wsX8_isWord) := goodIn_app (goodIn_of _ (by decide +kernel)) ggX8_calls_X8_isWord
set_option maxRecDepth 20000 in
theorem ggX8_calls_X7_has : GoodIn wsX8_calls wsX7_has := goodIn_r _ [27, 28, 29, 5, 30, 31, 32, 26, 33, 57] (by decide +kernel) (by decide +kernel)
set_option maxRecDepth 20000 in
theorem gX8_calls_X7_has : GoodIn wsX8_calls (wsV RX8 166 RX7 yX7_has wsX7_has) := goodIn_app (goodIn_of _ (by decide +kernel)) ggX8_calls_X7_has
theorem dX8_calls_0 : decode cX8_calls 0 = .ok (.aload_n 0, 1) := by decide +kernel
theorem dX8_calls_1 : decode cX8_calls 1 = .ok (.iload_n 1, 1) := by decide +kernel
theorem dX8_calls_2 : decode cX8_calls 2 = .ok (.iload_n 2, 1) := by decide +kernel
theorem dX8_calls_3 : decode cX8_calls 3 = .ok (.iload_n 3, 1) := by decide +kernel
theorem dX8_calls_4 : decode cX8_calls 4 = .ok (.invokevirtual 159, 3) := by decide +kernel
theorem dX8_calls_7 : decode cX8_calls 7 = .ok (.ifCond .ne 5, 3) := by decide +kernel
theorem dX8_calls_10 : decode cX8_calls 10 = .ok (.iconst (-1), 1) := by decide +kernel
theorem dX8_calls_11 : decode cX8_calls 11 = .ok (.ireturn, 1) := by decide +kernel
theorem dX8_calls_12 : decode cX8_calls 12 = .ok (.aload_n 0, 1) := by decide +kernel
theorem dX8_calls_13 : decode cX8_calls 13 = .ok (.getfield 29, 3) := by decide +kernel
theorem dX8_calls_16 : decode cX8_calls 16 = .ok (.getfield 162, 3) := by decide +kernel
theorem dX8_calls_19 : decode cX8_calls 19 = .ok (.iload_n 1, 1) := by decide +kernel
theorem dX8_calls_20 : decode cX8_calls 20 = .ok (.iload_n 2, 1) := by decide +kernel
theorem dX8_calls_21 : decode cX8_calls 21 = .ok (.iload_n 3, 1) := by decide +kernel
theorem dX8_calls_22 : decode cX8_calls 22 = .ok (.invokevirtual 166, 3) := by decide +kernel
theorem dX8_calls_25 : decode cX8_calls 25 = .ok (.ifCond .eq 7, 3) := by decide +kernel
theorem dX8_calls_28 : decode cX8_calls 28 = .ok (.iconst 1, 1) := by decide +kernel
theorem dX8_calls_29 : decode cX8_calls 29 = .ok (.goto 4, 3) := by decide +kernel
theorem dX8_calls_32 : decode cX8_calls 32 = .ok (.iconst 0, 1) := by decide +kernel
theorem dX8_calls_33 : decode cX8_calls 33 = .ok (.ireturn, 1) := by decide +kernel
set_option maxRecDepth 20000 in
theorem ggX8_pass_X8_within : GoodIn wsX8_pass wsX8_within := goodIn_r _ [7] (by decide +kernel) (by decide +kernel)
set_option maxRecDepth 20000 in
theorem gX8_pass_X8_within : GoodIn wsX8_pass (va_wsS RX8 98 yX8_within wsX8_within) := goodIn_app (goodIn_of _ (by decide +kernel)) ggX8_pass_X8_within
set_option maxRecDepth 20000 in
theorem ggX8_pass_X2_push : GoodIn wsX8_pass wsX2_push := goodIn_r _ [12, 13, 14, 15, 16, 17, 18, 19, 20, 21, 22, 11, 23, 24, 25, 26, 27, 28, 29, 30, 31, 32, 33, 34, 35, 36, 37, 38, 39, 40, 41, 42, 43, 6, 44, 45, 46, 47, 48, 49, 50, 137, 138, 139, 133, 134, 135, 136, 140] (by decide +kernel) (by decide +kernel)
set_option maxRecDepth 20000 in
theorem gX8_pass_X2_push : GoodIn wsX8_pass (wsV RX8 171 RX2 yX2_push wsX2_push) := goodIn_app (goodIn_of _ (by decide +kernel)) ggX8_pass_X2_push
set_option maxRecDepth 20000 in
theorem ggX8_pass_X1_passDays : GoodIn wsX8_pass wsX1_passDays := goodIn_r _ [55, 56, 57, 58, 59, 60, 61, 62, 63, 64, 65, 66, 67, 68, 47, 6, 48, 69, 40, 41, 36, 42, 38, 43, 44, 70, 71, 72, 27, 73, 30, 49, 50, 74, 75, 76, 77, 78, 79, 80, 81, 82, 83, 84, 85, 86, 87, 88, 89, 90, 91, 92, 93, 94, 95, 96, 17, 18, 19, 97, 98, 99, 100, 101, 102, 103, 104, 105, 106, 107, 108, 109, 110, 111, 112, 113, 114, 115, 116, 117, 118, 119, 120, 121, 122, 141, 142, 143, 144, 145, 146, 147, 148, 149, 150, 151, 152, 153, 154, 133, 134, 135, 136, 155, 156, 157, 158, 159, 160, 140] (by decide +kernel) (by decide +kernel)
set_option maxRecDepth 20000 in
theorem gX8_pass_X1_passDays : GoodIn wsX8_pass (wsV RX8 175 RX1 yX1_passDays wsX1_passDays) := goodIn_app (goodIn_of _ (by decide +kernel)) ggX8_pass_X1_passDays
theorem dX8_pass_0 : decode cX8_pass 0 = .ok (.iload_n 1, 1) := by decide +kernel
theorem dX8_pass_1 : decode cX8_pass 1 = .ok (.iconst 1, 1) := by decide +kernel
theorem dX8_pass_2 : decode cX8_pass 2 = .ok (.bipush 20, 2) := by decide +kernel
theorem dX8_pass_4 : decode cX8_pass 4 = .ok (.invokestatic 98, 3) := by decide +kernel
theorem dX8_pass_7 : decode cX8_pass 7 = .ok (.ifCond .ne 5, 3) := by decide +kernel
theorem dX8_pass_10 : decode cX8_pass 10 = .ok (.iconst (-1), 1) := by decide +kernel
theorem dX8_pass_11 : decode cX8_pass 11 = .ok (.ireturn, 1) := by decide +kernel
theorem dX8_pass_12 : decode cX8_pass 12 = .ok (.aload_n 0, 1) := by decide +kernel
theorem dX8_pass_13 : decode cX8_pass 13 = .ok (.getfield 41, 3) := by decide +kernel
theorem dX8_pass_16 : decode cX8_pass 16 = .ok (.aload_n 0, 1) := by decide +kernel
theorem dX8_pass_17 : decode cX8_pass 17 = .ok (.getfield 29, 3) := by decide +kernel
theorem dX8_pass_20 : decode cX8_pass 20 = .ok (.invokevirtual 171, 3) := by decide +kernel
theorem dX8_pass_23 : decode cX8_pass 23 = .ok (.aload_n 0, 1) := by decide +kernel
theorem dX8_pass_24 : decode cX8_pass 24 = .ok (.getfield 69, 3) := by decide +kernel
theorem dX8_pass_27 : decode cX8_pass 27 = .ok (.aload_n 0, 1) := by decide +kernel
theorem dX8_pass_28 : decode cX8_pass 28 = .ok (.getfield 29, 3) := by decide +kernel
theorem dX8_pass_31 : decode cX8_pass 31 = .ok (.iload_n 1, 1) := by decide +kernel
theorem dX8_pass_32 : decode cX8_pass 32 = .ok (.invokevirtual 175, 3) := by decide +kernel
theorem dX8_pass_35 : decode cX8_pass 35 = .ok (.aload_n 0, 1) := by decide +kernel
theorem dX8_pass_36 : decode cX8_pass 36 = .ok (.getfield 29, 3) := by decide +kernel
theorem dX8_pass_39 : decode cX8_pass 39 = .ok (.getfield 178, 3) := by decide +kernel
theorem dX8_pass_42 : decode cX8_pass 42 = .ok (.ireturn, 1) := by decide +kernel
set_option maxRecDepth 20000 in
theorem ggX8_say_X8_isWord : GoodIn wsX8_say wsX8_isWord := goodIn_r _ [7, 8, 9, 10, 6, 11, 12, 13, 14, 15, 16, 17, 18, 19, 20, 21, 22, 23, 94, 95, 96, 97, 98, 99, 100, 101, 102, 103, 108, 109, 110, 111, 112, 113, 114, 115, 116] (by decide +kernel) (by decide +kernel)
set_option maxRecDepth 20000 in
theorem gX8_say_X8_isWord : GoodIn wsX8_say (wsV RX8 159 RX8 yX8_isWord wsX8_isWord) := goodIn_app (goodIn_of _ (by decide +kernel)) ggX8_say_X8_isWord
set_option maxRecDepth 20000 in
theorem ggX8_say_X7_canFlip : GoodIn wsX8_say wsX7_canFlip := goodIn_r _ [28, 29, 30, 31, 27, 32, 33, 34, 6, 35, 36, 37, 38, 39, 40, 41, 42, 43, 44, 45, 46, 47, 48, 49, 117] (by decide +kernel) (by decide +kernel)
set_option maxRecDepth 20000 in
theorem gX8_say_X7_canFlip : GoodIn wsX8_say (wsV RX8 181 RX7 yX7_canFlip wsX7_canFlip) := goodIn_app (goodIn_of _ (by decide +kernel)) ggX8_say_X7_canFlip
set_option maxRecDepth 20000 in
theorem ggX8_say_X2_push : GoodIn wsX8_say wsX2_push := goodIn_r _ [54, 55, 56, 57, 58, 59, 60, 61, 62, 63, 64, 53, 65, 66, 67, 68, 69, 70, 71, 72, 73, 74, 75, 76, 77, 27, 78, 33, 79, 80, 81, 82, 34, 6, 35, 83, 84, 85, 86, 87, 88, 118, 119, 120, 104, 105, 106, 107, 117] (by decide +kernel) (by decide +kernel)
set_option maxRecDepth 20000 in
theorem gX8_say_X2_push : GoodIn wsX8_say (wsV RX8 171 RX2 yX2_push wsX2_push) := goodIn_app (goodIn_of _ (by decide +kernel)) ggX8_say_X2_push
set_option maxRecDepth 20000 in
theorem ggX8_say_X7_flip : GoodIn wsX8_say wsX7_flip := goodIn_r _ [92, 33, 34, 6, 35, 36, 37, 27, 38, 83, 84, 117] (by decide +kernel) (by decide +kernel)
set_option maxRecDepth 20000 in
theorem gX8_say_X7_flip : GoodIn wsX8_say (wsV RX8 184 RX7 yX7_flip wsX7_flip) := goodIn_app (goodIn_of _ (by decide +kernel)) ggX8_say_X7_flip
set_option maxRecDepth 20000 in
theorem ggX8_say_X7_has : GoodIn wsX8_say wsX7_has := goodIn_r _ [32, 33, 34, 6, 35, 36, 37, 27, 38, 117] (by decide +kernel) (by decide +kernel)
set_option maxRecDepth 20000 in
theorem gX8_say_X7_has : GoodIn wsX8_say (wsV RX8 166 RX7 yX7_has wsX7_has) := goodIn_app (goodIn_of _ (by decide +kernel)) ggX8_say_X7_has
theorem dX8_say_0 : decode cX8_say 0 = .ok (.aload_n 0, 1) := by decide +kernel
theorem dX8_say_1 : decode cX8_say 1 = .ok (.iload_n 1, 1) := by decide +kernel
theorem dX8_say_2 : decode cX8_say 2 = .ok (.iload_n 2, 1) := by decide +kernel
theorem dX8_say_3 : decode cX8_say 3 = .ok (.iload_n 3, 1) := by decide +kernel
theorem dX8_say_4 : decode cX8_say 4 = .ok (.invokevirtual 159, 3) := by decide +kernel
theorem dX8_say_7 : decode cX8_say 7 = .ok (.ifCond .ne 5, 3) := by decide +kernel
theorem dX8_say_10 : decode cX8_say 10 = .ok (.iconst (-1), 1) := by decide +kernel
theorem dX8_say_11 : decode cX8_say 11 = .ok (.ireturn, 1) := by decide +kernel
theorem dX8_say_12 : decode cX8_say 12 = .ok (.aload_n 0, 1) := by decide +kernel
theorem dX8_say_13 : decode cX8_say 13 = .ok (.getfield 29, 3) := by decide +kernel
theorem dX8_say_16 : decode cX8_say 16 = .ok (.getfield 162, 3) := by decide +kernel
theorem dX8_say_19 : decode cX8_say 19 = .ok (.iload_n 1, 1) := by decide +kernel
theorem dX8_say_20 : decode cX8_say 20 = .ok (.iload_n 2, 1) := by decide +kernel
theorem dX8_say_21 : decode cX8_say 21 = .ok (.iload_n 3, 1) := by decide +kernel
theorem dX8_say_22 : decode cX8_say 22 = .ok (.invokevirtual 181, 3) := by decide +kernel
theorem dX8_say_25 : decode cX8_say 25 = .ok (.ifCond .ne 6, 3) := by decide +kernel
theorem dX8_say_28 : decode cX8_say 28 = .ok (.bipush (-3), 2) := by decide +kernel
theorem dX8_say_30 : decode cX8_say 30 = .ok (.ireturn, 1) := by decide +kernel
theorem dX8_say_31 : decode cX8_say 31 = .ok (.aload_n 0, 1) := by decide +kernel
theorem dX8_say_32 : decode cX8_say 32 = .ok (.getfield 41, 3) := by decide +kernel
theorem dX8_say_35 : decode cX8_say 35 = .ok (.aload_n 0, 1) := by decide +kernel
theorem dX8_say_36 : decode cX8_say 36 = .ok (.getfield 29, 3) := by decide +kernel
theorem dX8_say_39 : decode cX8_say 39 = .ok (.invokevirtual 171, 3) := by decide +kernel
theorem dX8_say_42 : decode cX8_say 42 = .ok (.aload_n 0, 1) := by decide +kernel
theorem dX8_say_43 : decode cX8_say 43 = .ok (.getfield 29, 3) := by decide +kernel
theorem dX8_say_46 : decode cX8_say 46 = .ok (.getfield 162, 3) := by decide +kernel
theorem dX8_say_49 : decode cX8_say 49 = .ok (.iload_n 1, 1) := by decide +kernel
theorem dX8_say_50 : decode cX8_say 50 = .ok (.iload_n 2, 1) := by decide +kernel
theorem dX8_say_51 : decode cX8_say 51 = .ok (.iload_n 3, 1) := by decide +kernel
theorem dX8_say_52 : decode cX8_say 52 = .ok (.invokevirtual 184, 3) := by decide +kernel
theorem dX8_say_55 : decode cX8_say 55 = .ok (.aload_n 0, 1) := by decide +kernel
theorem dX8_say_56 : decode cX8_say 56 = .ok (.getfield 29, 3) := by decide +kernel
theorem dX8_say_59 : decode cX8_say 59 = .ok (.getfield 162, 3) := by decide +kernel
theorem dX8_say_62 : decode cX8_say 62 = .ok (.iload_n 1, 1) := by decide +kernel
theorem dX8_say_63 : decode cX8_say 63 = .ok (.iload_n 2, 1) := by decide +kernel
theorem dX8_say_64 : decode cX8_say 64 = .ok (.iload_n 3, 1) := by decide +kernel
theorem dX8_say_65 : decode cX8_say 65 = .ok (.invokevirtual 166, 3) := by decide +kernel
theorem dX8_say_68 : decode cX8_say 68 = .ok (.ifCond .eq 7, 3) := by decide +kernel
theorem dX8_say_71 : decode cX8_say 71 = .ok (.iconst 1, 1) := by decide +kernel
theorem dX8_say_72 : decode cX8_say 72 = .ok (.goto 4, 3) := by decide +kernel
theorem dX8_say_75 : decode cX8_say 75 = .ok (.iconst 0, 1) := by decide +kernel
theorem dX8_say_76 : decode cX8_say 76 = .ok (.ireturn, 1) := by decide +kernel
set_option maxRecDepth 20000 in
theorem ggX8_mend_X8_isPerson : GoodIn wsX8_mend wsX8_isPerson := goodIn_r _ [7, 8, 9, 10, 6, 11, 74, 75, 76, 77, 78, 79, 80, 81, 82, 83, 84, 85, 86, 87, 88, 89, 90, 91, 92] (by decide +kernel) (by decide +kernel)
set_option maxRecDepth 20000 in
theorem gX8_mend_X8_isPerson : GoodIn wsX8_mend (wsV RX8 113 RX8 yX8_isPerson wsX8_isPerson) := goodIn_app (goodIn_of _ (by decide +kernel)) ggX8_mend_X8_isPerson
set_option maxRecDepth 20000 in
theorem ggX8_mend_X2_push : GoodIn wsX8_mend wsX2_push := goodIn_r _ [16, 17, 18, 19, 20, 21, 22, 23, 24, 25, 26, 15, 27, 28, 29, 30, 31, 32, 33, 34, 35, 36, 37, 38, 39, 40, 41, 42, 43, 44, 45, 46, 47, 6, 48, 49, 50, 51, 52, 53, 54, 93, 94, 95, 96, 97, 98, 99, 100] (by decide +kernel) (by decide +kernel)
set_option maxRecDepth 20000 in
theorem gX8_mend_X2_push : GoodIn wsX8_mend (wsV RX8 171 RX2 yX2_push wsX2_push) := goodIn_app (goodIn_of _ (by decide +kernel)) ggX8_mend_X2_push
set_option maxRecDepth 20000 in
theorem ggX8_mend_X5_lodgings : GoodIn wsX8_mend wsX5_lodgings := goodIn_r _ [58, 34, 51, 6, 52, 96, 97, 98, 99] (by decide +kernel) (by decide +kernel)
set_option maxRecDepth 20000 in
theorem gX8_mend_X5_lodgings : GoodIn wsX8_mend (wsV RX8 188 RX5 yX5_lodgings wsX5_lodgings) := goodIn_app (goodIn_of _ (by decide +kernel)) ggX8_mend_X5_lodgings
set_option maxRecDepth 20000 in
theorem ggX8_mend_X5_thinAll : GoodIn wsX8_mend wsX5_thinAll := goodIn_r _ [62, 63, 64, 22, 65, 66, 67, 68, 31, 69, 34, 51, 6, 52, 70, 71, 72, 73, 53, 54, 96, 97, 98, 99] (by decide +kernel) (by decide +kernel)
set_option maxRecDepth 20000 in
theorem gX8_mend_X5_thinAll : GoodIn wsX8_mend (wsV RX8 191 RX5 yX5_thinAll wsX5_thinAll) := goodIn_app (goodIn_of _ (by decide +kernel)) ggX8_mend_X5_thinAll
theorem dX8_mend_0 : decode cX8_mend 0 = .ok (.aload_n 0, 1) := by decide +kernel
theorem dX8_mend_1 : decode cX8_mend 1 = .ok (.iload_n 1, 1) := by decide +kernel
theorem dX8_mend_2 : decode cX8_mend 2 = .ok (.invokevirtual 113, 3) := by decide +kernel
theorem dX8_mend_5 : decode cX8_mend 5 = .ok (.ifCond .ne 5, 3) := by decide +kernel
theorem dX8_mend_8 : decode cX8_mend 8 = .ok (.iconst (-1), 1) := by decide +kernel
theorem dX8_mend_9 : decode cX8_mend 9 = .ok (.ireturn, 1) := by decide +kernel
theorem dX8_mend_10 : decode cX8_mend 10 = .ok (.aload_n 0, 1) := by decide +kernel
theorem dX8_mend_11 : decode cX8_mend 11 = .ok (.getfield 41, 3) := by decide +kernel
theorem dX8_mend_14 : decode cX8_mend 14 = .ok (.aload_n 0, 1) := by decide +kernel
theorem dX8_mend_15 : decode cX8_mend 15 = .ok (.getfield 29, 3) := by decide +kernel
theorem dX8_mend_18 : decode cX8_mend 18 = .ok (.invokevirtual 171, 3) := by decide +kernel
theorem dX8_mend_21 : decode cX8_mend 21 = .ok (.aload_n 0, 1) := by decide +kernel
theorem dX8_mend_22 : decode cX8_mend 22 = .ok (.getfield 29, 3) := by decide +kernel
theorem dX8_mend_25 : decode cX8_mend 25 = .ok (.invokevirtual 188, 3) := by decide +kernel
theorem dX8_mend_28 : decode cX8_mend 28 = .ok (.istore_n 2, 1) := by decide +kernel
theorem dX8_mend_29 : decode cX8_mend 29 = .ok (.aload_n 0, 1) := by decide +kernel
theorem dX8_mend_30 : decode cX8_mend 30 = .ok (.getfield 29, 3) := by decide +kernel
theorem dX8_mend_33 : decode cX8_mend 33 = .ok (.iload_n 1, 1) := by decide +kernel
theorem dX8_mend_34 : decode cX8_mend 34 = .ok (.invokevirtual 191, 3) := by decide +kernel
theorem dX8_mend_37 : decode cX8_mend 37 = .ok (.iload_n 2, 1) := by decide +kernel
theorem dX8_mend_38 : decode cX8_mend 38 = .ok (.aload_n 0, 1) := by decide +kernel
theorem dX8_mend_39 : decode cX8_mend 39 = .ok (.getfield 29, 3) := by decide +kernel
theorem dX8_mend_42 : decode cX8_mend 42 = .ok (.invokevirtual 188, 3) := by decide +kernel
theorem dX8_mend_45 : decode cX8_mend 45 = .ok (.isub, 1) := by decide +kernel
theorem dX8_mend_46 : decode cX8_mend 46 = .ok (.ireturn, 1) := by decide +kernel
set_option maxRecDepth 20000 in
theorem ggX8_undo_X2_pop : GoodIn wsX8_undo wsX2_pop := goodIn_r _ [7, 8, 9, 10, 11, 12, 13, 6, 14, 15, 16, 17, 18, 19, 20, 21, 22, 23, 24, 25, 26, 27, 28, 29, 30, 31, 32, 33, 34, 35, 36, 37, 38, 39, 40, 41, 42, 53, 54, 55, 56, 57, 58, 59, 60] (by decide +kernel) (by decide +kernel)
set_option maxRecDepth 20000 in
theorem gX8_undo_X2_pop : GoodIn wsX8_undo (wsV RX8 197 RX2 yX2_pop wsX2_pop) := goodIn_app (goodIn_of _ (by decide +kernel)) ggX8_undo_X2_pop
theorem dX8_undo_0 : decode cX8_undo 0 = .ok (.aload_n 0, 1) := by decide +kernel
theorem dX8_undo_1 : decode cX8_undo 1 = .ok (.getfield 41, 3) := by decide +kernel
theorem dX8_undo_4 : decode cX8_undo 4 = .ok (.getfield 194, 3) := by decide +kernel
theorem dX8_undo_7 : decode cX8_undo 7 = .ok (.iconst 1, 1) := by decide +kernel
theorem dX8_undo_8 : decode cX8_undo 8 = .ok (.if_icmp .ge 6, 3) := by decide +kernel
theorem dX8_undo_11 : decode cX8_undo 11 = .ok (.bipush (-2), 2) := by decide +kernel
theorem dX8_undo_13 : decode cX8_undo 13 = .ok (.ireturn, 1) := by decide +kernel
theorem dX8_undo_14 : decode cX8_undo 14 = .ok (.aload_n 0, 1) := by decide +kernel
theorem dX8_undo_15 : decode cX8_undo 15 = .ok (.getfield 41, 3) := by decide +kernel
theorem dX8_undo_18 : decode cX8_undo 18 = .ok (.aload_n 0, 1) := by decide +kernel
theorem dX8_undo_19 : decode cX8_undo 19 = .ok (.getfield 29, 3) := by decide +kernel
theorem dX8_undo_22 : decode cX8_undo 22 = .ok (.invokevirtual 197, 3) := by decide +kernel
theorem dX8_undo_25 : decode cX8_undo 25 = .ok (.aload_n 0, 1) := by decide +kernel
theorem dX8_undo_26 : decode cX8_undo 26 = .ok (.getfield 41, 3) := by decide +kernel
theorem dX8_undo_29 : decode cX8_undo 29 = .ok (.getfield 194, 3) := by decide +kernel
theorem dX8_undo_32 : decode cX8_undo 32 = .ok (.ireturn, 1) := by decide +kernel
set_option maxRecDepth 20000 in
theorem ggX8_behind_X8_within : GoodIn wsX8_behind wsX8_within := goodIn_r _ [6] (by decide +kernel) (by decide +kernel)
set_option maxRecDepth 20000 in
theorem gX8_behind_X8_within : GoodIn wsX8_behind (va_wsS RX8 98 yX8_within wsX8_within) := goodIn_app (goodIn_of _ (by decide +kernel)) ggX8_behind_X8_within
set_option maxRecDepth 20000 in
theorem ggX8_behind_X8_isLodging : GoodIn wsX8_behind wsX8_isLodging := goodIn_r _ [10, 11, 12, 13, 5, 14, 15, 3, 4, 6, 16, 17, 18, 19, 94, 95, 96, 97, 98, 99, 100, 101, 102, 103, 110, 111, 112, 113, 114, 115, 116, 117, 118] (by decide +kernel) (by decide +kernel)
set_option maxRecDepth 20000 in
theorem gX8_behind_X8_isLodging : GoodIn wsX8_behind (wsV RX8 151 RX8 yX8_isLodging wsX8_isLodging) := goodIn_app (goodIn_of _ (by decide +kernel)) ggX8_behind_X8_isLodging
set_option maxRecDepth 20000 in
theorem ggX8_behind_X0_enter : GoodIn wsX8_behind wsX0_enter := goodIn_r _ [24, 25, 26, 27, 28, 29, 30, 31, 5, 32, 33, 34, 35, 36, 37, 38, 39, 40, 41, 42, 43, 44, 45, 46, 47, 48, 104, 105, 106, 107, 108, 109, 110, 111, 112, 113, 114, 115, 116, 117, 118, 119, 120, 121, 122, 123] (by decide +kernel) (by decide +kernel)
set_option maxRecDepth 20000 in
theorem gX8_behind_X0_enter : GoodIn wsX8_behind (wsV RX8 117 RX0 yX0_enter wsX0_enter) := goodIn_app (goodIn_of _ (by decide +kernel)) ggX8_behind_X0_enter
set_option maxRecDepth 20000 in
theorem ggX8_behind_X0_passDays : GoodIn wsX8_behind wsX0_passDays := goodIn_r _ [52, 53, 54, 55, 23, 56, 26, 25, 29, 30, 28, 57, 58, 36, 59, 60, 61, 62, 63, 64, 65, 66, 31, 5, 32, 67, 68, 69, 70, 71, 72, 73, 74, 75, 76, 77, 47, 48, 78, 79, 80, 81, 82, 83, 84, 27, 85, 86, 87, 88, 89, 90, 91, 92, 104, 105, 106, 107, 108, 109, 110, 111, 112, 113, 114, 115, 116, 117, 118] (by decide +kernel) (by decide +kernel)
set_option maxRecDepth 20000 in
theorem gX8_behind_X0_passDays : GoodIn wsX8_behind (wsV RX8 200 RX0 yX0_passDays wsX0_passDays) := goodIn_app (goodIn_of _ (by decide +kernel)) ggX8_behind_X0_passDays
set_option maxRecDepth 20000 in
theorem ggX8_behind_X8_at : GoodIn wsX8_behind wsX8_at := goodIn_r _ [32] (by decide +kernel) (by decide +kernel)
set_option maxRecDepth 20000 in
theorem gX8_behind_X8_at : GoodIn wsX8_behind (va_wsS RX8 147 yX8_at wsX8_at) := goodIn_app (goodIn_of _ (by decide +kernel)) ggX8_behind_X8_at
theorem dX8_behind_0 : decode cX8_behind 0 = .ok (.iload_n 1, 1) := by decide +kernel
theorem dX8_behind_1 : decode cX8_behind 1 = .ok (.iconst 0, 1) := by decide +kernel
theorem dX8_behind_2 : decode cX8_behind 2 = .ok (.bipush 40, 2) := by decide +kernel
theorem dX8_behind_4 : decode cX8_behind 4 = .ok (.invokestatic 98, 3) := by decide +kernel
theorem dX8_behind_7 : decode cX8_behind 7 = .ok (.ifCond .eq 12, 3) := by decide +kernel
theorem dX8_behind_10 : decode cX8_behind 10 = .ok (.aload_n 0, 1) := by decide +kernel
theorem dX8_behind_11 : decode cX8_behind 11 = .ok (.iload_n 2, 1) := by decide +kernel
theorem dX8_behind_12 : decode cX8_behind 12 = .ok (.iload_n 3, 1) := by decide +kernel
theorem dX8_behind_13 : decode cX8_behind 13 = .ok (.invokevirtual 151, 3) := by decide +kernel
theorem dX8_behind_16 : decode cX8_behind 16 = .ok (.ifCond .ne 5, 3) := by decide +kernel
theorem dX8_behind_19 : decode cX8_behind 19 = .ok (.iconst (-1), 1) := by decide +kernel
theorem dX8_behind_20 : decode cX8_behind 20 = .ok (.ireturn, 1) := by decide +kernel
theorem dX8_behind_21 : decode cX8_behind 21 = .ok (.aload_n 0, 1) := by decide +kernel
theorem dX8_behind_22 : decode cX8_behind 22 = .ok (.getfield 60, 3) := by decide +kernel
theorem dX8_behind_25 : decode cX8_behind 25 = .ok (.aload_n 0, 1) := by decide +kernel
theorem dX8_behind_26 : decode cX8_behind 26 = .ok (.getfield 29, 3) := by decide +kernel
theorem dX8_behind_29 : decode cX8_behind 29 = .ok (.iload_n 2, 1) := by decide +kernel
theorem dX8_behind_30 : decode cX8_behind 30 = .ok (.invokevirtual 117, 3) := by decide +kernel
theorem dX8_behind_33 : decode cX8_behind 33 = .ok (.aload_n 0, 1) := by decide +kernel
theorem dX8_behind_34 : decode cX8_behind 34 = .ok (.getfield 60, 3) := by decide +kernel
theorem dX8_behind_37 : decode cX8_behind 37 = .ok (.iload_n 1, 1) := by decide +kernel
theorem dX8_behind_38 : decode cX8_behind 38 = .ok (.invokevirtual 200, 3) := by decide +kernel
theorem dX8_behind_41 : decode cX8_behind 41 = .ok (.pop, 1) := by decide +kernel
theorem dX8_behind_42 : decode cX8_behind 42 = .ok (.aload_n 0, 1) := by decide +kernel
theorem dX8_behind_43 : decode cX8_behind 43 = .ok (.getfield 60, 3) := by decide +kernel
theorem dX8_behind_46 : decode cX8_behind 46 = .ok (.getfield 203, 3) := by decide +kernel
theorem dX8_behind_49 : decode cX8_behind 49 = .ok (.iload_n 3, 1) := by decide +kernel
theorem dX8_behind_50 : decode cX8_behind 50 = .ok (.invokestatic 147, 3) := by decide +kernel
theorem dX8_behind_53 : decode cX8_behind 53 = .ok (.ireturn, 1) := by decide +kernel
set_option maxRecDepth 20000 in
theorem ggX8_homeless_X8_within : GoodIn wsX8_homeless wsX8_within := goodIn_r _ [5] (by decide +kernel) (by decide +kernel)
set_option maxRecDepth 20000 in
theorem gX8_homeless_X8_within : GoodIn wsX8_homeless (va_wsS RX8 98 yX8_within wsX8_within) := goodIn_app (goodIn_of _ (by decide +kernel)) ggX8_homeless_X8_within
set_option maxRecDepth 20000 in
theorem ggX8_homeless_X1_findHomeless : GoodIn wsX8_homeless wsX1_findHomeless := goodIn_r _ [10, 11, 12, 13, 14, 15, 16, 17, 18, 19, 20, 21, 22, 23, 24, 25, 26, 27, 4, 28, 29, 30, 31, 32, 33, 34, 35, 36, 37, 38, 39, 40, 41, 42, 43, 44, 45, 46, 47, 48, 49, 50, 51, 52, 53, 54, 55, 56, 57, 58, 59, 60, 61, 62, 63, 64, 65, 66, 67, 68, 69, 70, 71, 72, 73, 74, 75, 76, 77, 78, 79, 80, 81, 82, 83, 84, 85, 86, 9, 87, 98, 99, 100, 101, 102, 103, 104, 105, 106, 107, 108, 109, 110, 111, 112, 113, 114, 115, 116, 117, 118, 119, 120, 121, 122] (by decide +kernel) (by decide +kernel)
set_option maxRecDepth 20000 in
theorem gX8_homeless_X1_findHomeless : GoodIn wsX8_homeless (wsV RX8 206 RX1 yX1_findHomeless wsX1_findHomeless) := goodIn_app (goodIn_of _ (by decide +kernel)) ggX8_homeless_X1_findHomeless
theorem dX8_homeless_0 : decode cX8_homeless 0 = .ok (.iload_n 1, 1) := by decide +kernel
theorem dX8_homeless_1 : decode cX8_homeless 1 = .ok (.iconst 0, 1) := by decide +kernel
theorem dX8_homeless_2 : decode cX8_homeless 2 = .ok (.iconst 1, 1) := by decide +kernel
theorem dX8_homeless_3 : decode cX8_homeless 3 = .ok (.invokestatic 98, 3) := by decide +kernel
theorem dX8_homeless_6 : decode cX8_homeless 6 = .ok (.ifCond .ne 5, 3) := by decide +kernel
theorem dX8_homeless_9 : decode cX8_homeless 9 = .ok (.iconst (-1), 1) := by decide +kernel
theorem dX8_homeless_10 : decode cX8_homeless 10 = .ok (.ireturn, 1) := by decide +kernel
theorem dX8_homeless_11 : decode cX8_homeless 11 = .ok (.aload_n 0, 1) := by decide +kernel
theorem dX8_homeless_12 : decode cX8_homeless 12 = .ok (.getfield 69, 3) := by decide +kernel
theorem dX8_homeless_15 : decode cX8_homeless 15 = .ok (.invokevirtual 206, 3) := by decide +kernel
theorem dX8_homeless_18 : decode cX8_homeless 18 = .ok (.ifCond .ne 6, 3) := by decide +kernel
theorem dX8_homeless_21 : decode cX8_homeless 21 = .ok (.bipush (-4), 2) := by decide +kernel
theorem dX8_homeless_23 : decode cX8_homeless 23 = .ok (.ireturn, 1) := by decide +kernel
theorem dX8_homeless_24 : decode cX8_homeless 24 = .ok (.iload_n 1, 1) := by decide +kernel
theorem dX8_homeless_25 : decode cX8_homeless 25 = .ok (.ifCond .ne 13, 3) := by decide +kernel
theorem dX8_homeless_28 : decode cX8_homeless 28 = .ok (.aload_n 0, 1) := by decide +kernel
theorem dX8_homeless_29 : decode cX8_homeless 29 = .ok (.getfield 69, 3) := by decide +kernel
theorem dX8_homeless_32 : decode cX8_homeless 32 = .ok (.getfield 210, 3) := by decide +kernel
theorem dX8_homeless_35 : decode cX8_homeless 35 = .ok (.goto 10, 3) := by decide +kernel
theorem dX8_homeless_38 : decode cX8_homeless 38 = .ok (.aload_n 0, 1) := by decide +kernel
theorem dX8_homeless_39 : decode cX8_homeless 39 = .ok (.getfield 69, 3) := by decide +kernel
theorem dX8_homeless_42 : decode cX8_homeless 42 = .ok (.getfield 213, 3) := by decide +kernel
theorem dX8_homeless_45 : decode cX8_homeless 45 = .ok (.ireturn, 1) := by decide +kernel
set_option maxRecDepth 20000 in
theorem ggX8_load_X8_isPerson : GoodIn wsX8_load wsX8_isPerson := goodIn_r _ [8, 3, 9, 10, 7, 11, 45, 46, 47, 48, 49, 50, 51, 52, 53, 54, 55, 56, 57, 58, 59, 60, 61, 62, 63] (by decide +kernel) (by decide +kernel)
set_option maxRecDepth 20000 in
theorem gX8_load_X8_isPerson : GoodIn wsX8_load (wsV RX8 113 RX8 yX8_isPerson wsX8_isPerson) := goodIn_app (goodIn_of _ (by decide +kernel)) ggX8_load_X8_isPerson
set_option maxRecDepth 20000 in
theorem ggX8_load_X8_within : GoodIn wsX8_load wsX8_within := goodIn_r _ [11] (by decide +kernel) (by decide +kernel)
set_option maxRecDepth 20000 in
theorem gX8_load_X8_within : GoodIn wsX8_load (va_wsS RX8 98 yX8_within wsX8_within) := goodIn_app (goodIn_of _ (by decide +kernel)) ggX8_load_X8_within
set_option maxRecDepth 20000 in
theorem ggX8_load_X0_enter : GoodIn wsX8_load wsX0_enter := goodIn_r _ [16, 17, 18, 19, 20, 21, 22, 23, 7, 24, 25, 26, 27, 28, 29, 30, 31, 32, 33, 34, 35, 36, 37, 38, 39, 40, 64, 65, 66, 67, 68, 69, 55, 56, 57, 58, 59, 60, 61, 62, 63, 70, 71, 72, 73, 74] (by decide +kernel) (by decide +kernel)
set_option maxRecDepth 20000 in
theorem gX8_load_X0_enter : GoodIn wsX8_load (wsV RX8 117 RX0 yX0_enter wsX0_enter) := goodIn_app (goodIn_of _ (by decide +kernel)) ggX8_load_X0_enter
set_option maxRecDepth 20000 in
theorem ggX8_load_X0_together : GoodIn wsX8_load wsX0_together := goodIn_r _ [44, 22, 23, 7, 24, 64, 65, 66, 67, 68, 69] (by decide +kernel) (by decide +kernel)
set_option maxRecDepth 20000 in
theorem gX8_load_X0_together : GoodIn wsX8_load (wsV RX8 137 RX0 yX0_together wsX0_together) := goodIn_app (goodIn_of _ (by decide +kernel)) ggX8_load_X0_together
theorem dX8_load_0 : decode cX8_load 0 = .ok (.aload_n 0, 1) := by decide +kernel
theorem dX8_load_1 : decode cX8_load 1 = .ok (.iload_n 1, 1) := by decide +kernel
theorem dX8_load_2 : decode cX8_load 2 = .ok (.invokevirtual 113, 3) := by decide +kernel
theorem dX8_load_5 : decode cX8_load 5 = .ok (.ifCond .eq 12, 3) := by decide +kernel
theorem dX8_load_8 : decode cX8_load 8 = .ok (.iload_n 2, 1) := by decide +kernel
theorem dX8_load_9 : decode cX8_load 9 = .ok (.iconst 0, 1) := by decide +kernel
theorem dX8_load_10 : decode cX8_load 10 = .ok (.iconst 1, 1) := by decide +kernel
theorem dX8_load_11 : decode cX8_load 11 = .ok (.invokestatic 98, 3) := by decide +kernel
theorem dX8_load_14 : decode cX8_load 14 = .ok (.ifCond .ne 5, 3) := by decide +kernel
theorem dX8_load_17 : decode cX8_load 17 = .ok (.iconst (-1), 1) := by decide +kernel
theorem dX8_load_18 : decode cX8_load 18 = .ok (.ireturn, 1) := by decide +kernel
theorem dX8_load_19 : decode cX8_load 19 = .ok (.aload_n 0, 1) := by decide +kernel
theorem dX8_load_20 : decode cX8_load 20 = .ok (.getfield 60, 3) := by decide +kernel
theorem dX8_load_23 : decode cX8_load 23 = .ok (.aload_n 0, 1) := by decide +kernel
theorem dX8_load_24 : decode cX8_load 24 = .ok (.getfield 29, 3) := by decide +kernel
theorem dX8_load_27 : decode cX8_load 27 = .ok (.iload_n 1, 1) := by decide +kernel
theorem dX8_load_28 : decode cX8_load 28 = .ok (.invokevirtual 117, 3) := by decide +kernel
theorem dX8_load_31 : decode cX8_load 31 = .ok (.aload_n 0, 1) := by decide +kernel
theorem dX8_load_32 : decode cX8_load 32 = .ok (.getfield 60, 3) := by decide +kernel
theorem dX8_load_35 : decode cX8_load 35 = .ok (.iload_n 2, 1) := by decide +kernel
theorem dX8_load_36 : decode cX8_load 36 = .ok (.ifCond .ne 13, 3) := by decide +kernel
theorem dX8_load_39 : decode cX8_load 39 = .ok (.aload_n 0, 1) := by decide +kernel
theorem dX8_load_40 : decode cX8_load 40 = .ok (.getfield 19, 3) := by decide +kernel
theorem dX8_load_43 : decode cX8_load 43 = .ok (.getfield 144, 3) := by decide +kernel
theorem dX8_load_46 : decode cX8_load 46 = .ok (.goto 10, 3) := by decide +kernel
theorem dX8_load_49 : decode cX8_load 49 = .ok (.aload_n 0, 1) := by decide +kernel
theorem dX8_load_50 : decode cX8_load 50 = .ok (.getfield 19, 3) := by decide +kernel
theorem dX8_load_53 : decode cX8_load 53 = .ok (.getfield 133, 3) := by decide +kernel
theorem dX8_load_56 : decode cX8_load 56 = .ok (.invokevirtual 137, 3) := by decide +kernel
theorem dX8_load_59 : decode cX8_load 59 = .ok (.ireturn, 1) := by decide +kernel
set_option maxRecDepth 20000 in
theorem ggX8_out_X8_isLodging : GoodIn wsX8_out wsX8_isLodging := goodIn_r _ [6, 7, 8, 9, 5, 10, 11, 12, 13, 14, 15, 16, 17, 18, 116, 117, 118, 119, 120, 121, 122, 123, 124, 125, 131, 132, 133, 134, 135, 136, 137, 138, 139] (by decide +kernel) (by decide +kernel)
set_option maxRecDepth 20000 in
theorem gX8_out_X8_isLodging : GoodIn wsX8_out (wsV RX8 151 RX8 yX8_isLodging wsX8_isLodging) := goodIn_app (goodIn_of _ (by decide +kernel)) ggX8_out_X8_isLodging
set_option maxRecDepth 20000 in
theorem ggX8_out_X8_within : GoodIn wsX8_out wsX8_within := goodIn_r _ [14] (by decide +kernel) (by decide +kernel)
set_option maxRecDepth 20000 in
theorem gX8_out_X8_within : GoodIn wsX8_out (va_wsS RX8 98 yX8_within wsX8_within) := goodIn_app (goodIn_of _ (by decide +kernel)) ggX8_out_X8_within
set_option maxRecDepth 20000 in
theorem ggX8_out_X1_findOut : GoodIn wsX8_out wsX1_findOut := goodIn_r _ [23, 24, 25, 26, 27, 28, 29, 22, 30, 31, 32, 33, 34, 35, 36, 37, 38, 39, 40, 41, 42, 43, 44, 5, 45, 46, 47, 48, 49, 50, 51, 52, 53, 54, 55, 56, 57, 58, 59, 60, 61, 62, 63, 64, 65, 66, 67, 68, 69, 70, 71, 72, 73, 74, 75, 76, 77, 78, 79, 80, 81, 82, 83, 84, 85, 86, 87, 88, 89, 90, 91, 92, 93, 94, 95, 96, 97, 98, 99, 100, 101, 102, 103, 104, 105, 106, 107, 108, 109, 110, 111, 112, 113, 114, 115, 126, 127, 128, 129, 130, 131, 132, 133, 134, 135, 136, 137, 138, 139, 140, 141, 142, 143, 144, 145, 146, 147, 148, 149, 150] (by decide +kernel) (by decide +kernel)
set_option maxRecDepth 20000 in
theorem gX8_out_X1_findOut : GoodIn wsX8_out (wsV RX8 216 RX1 yX1_findOut wsX1_findOut) := goodIn_app (goodIn_of _ (by decide +kernel)) ggX8_out_X1_findOut
theorem dX8_out_0 : decode cX8_out 0 = .ok (.aload_n 0, 1) := by decide +kernel
theorem dX8_out_1 : decode cX8_out 1 = .ok (.iload_n 1, 1) := by decide +kernel
theorem dX8_out_2 : decode cX8_out 2 = .ok (.iload_n 2, 1) := by decide +kernel
theorem dX8_out_3 : decode cX8_out 3 = .ok (.invokevirtual 151, 3) := by decide +kernel
theorem dX8_out_6 : decode cX8_out 6 = .ok (.ifCond .eq 23, 3) := by decide +kernel
theorem dX8_out_9 : decode cX8_out 9 = .ok (.iload_n 3, 1) := by decide +kernel
theorem dX8_out_10 : decode cX8_out 10 = .ok (.iconst 1, 1) := by decide +kernel
theorem dX8_out_11 : decode cX8_out 11 = .ok (.bipush 20, 2) := by decide +kernel
theorem dX8_out_13 : decode cX8_out 13 = .ok (.invokestatic 98, 3) := by decide +kernel
theorem dX8_out_16 : decode cX8_out 16 = .ok (.ifCond .eq 13, 3) := by decide +kernel
theorem dX8_out_19 : decode cX8_out 19 = .ok (.iload 4, 2) := by decide +kernel
theorem dX8_out_21 : decode cX8_out 21 = .ok (.iconst 0, 1) := by decide +kernel
theorem dX8_out_22 : decode cX8_out 22 = .ok (.iconst 2, 1) := by decide +kernel
theorem dX8_out_23 : decode cX8_out 23 = .ok (.invokestatic 98, 3) := by decide +kernel
theorem dX8_out_26 : decode cX8_out 26 = .ok (.ifCond .ne 5, 3) := by decide +kernel
theorem dX8_out_29 : decode cX8_out 29 = .ok (.iconst (-1), 1) := by decide +kernel
theorem dX8_out_30 : decode cX8_out 30 = .ok (.ireturn, 1) := by decide +kernel
theorem dX8_out_31 : decode cX8_out 31 = .ok (.aload_n 0, 1) := by decide +kernel
theorem dX8_out_32 : decode cX8_out 32 = .ok (.getfield 69, 3) := by decide +kernel
theorem dX8_out_35 : decode cX8_out 35 = .ok (.iload_n 1, 1) := by decide +kernel
theorem dX8_out_36 : decode cX8_out 36 = .ok (.iload_n 2, 1) := by decide +kernel
theorem dX8_out_37 : decode cX8_out 37 = .ok (.iload_n 3, 1) := by decide +kernel
theorem dX8_out_38 : decode cX8_out 38 = .ok (.invokevirtual 216, 3) := by decide +kernel
theorem dX8_out_41 : decode cX8_out 41 = .ok (.istore 5, 2) := by decide +kernel
theorem dX8_out_43 : decode cX8_out 43 = .ok (.iload 5, 2) := by decide +kernel
theorem dX8_out_45 : decode cX8_out 45 = .ok (.iload 4, 2) := by decide +kernel
theorem dX8_out_47 : decode cX8_out 47 = .ok (.if_icmp .ge 6, 3) := by decide +kernel
theorem dX8_out_50 : decode cX8_out 50 = .ok (.bipush (-4), 2) := by decide +kernel
theorem dX8_out_52 : decode cX8_out 52 = .ok (.ireturn, 1) := by decide +kernel
theorem dX8_out_53 : decode cX8_out 53 = .ok (.iload 4, 2) := by decide +kernel
theorem dX8_out_55 : decode cX8_out 55 = .ok (.lookupswitch 36 #[(0, 25), (1, 28)], 25) := by decide +kernel
theorem dX8_out_80 : decode cX8_out 80 = .ok (.iload 5, 2) := by decide +kernel
theorem dX8_out_82 : decode cX8_out 82 = .ok (.ireturn, 1) := by decide +kernel
theorem dX8_out_83 : decode cX8_out 83 = .ok (.aload_n 0, 1) := by decide +kernel
theorem dX8_out_84 : decode cX8_out 84 = .ok (.getfield 69, 3) := by decide +kernel
theorem dX8_out_87 : decode cX8_out 87 = .ok (.getfield 210, 3) := by decide +kernel
theorem dX8_out_90 : decode cX8_out 90 = .ok (.ireturn, 1) := by decide +kernel
theorem dX8_out_91 : decode cX8_out 91 = .ok (.aload_n 0, 1) := by decide +kernel
theorem dX8_out_92 : decode cX8_out 92 = .ok (.getfield 69, 3) := by decide +kernel
theorem dX8_out_95 : decode cX8_out 95 = .ok (.getfield 213, 3) := by decide +kernel
theorem dX8_out_98 : decode cX8_out 98 = .ok (.ireturn, 1) := by decide +kernel
set_option maxRecDepth 20000 in
theorem ggX8_rooms_X8_isPerson : GoodIn wsX8_rooms wsX8_isPerson := goodIn_r _ [7, 8, 9, 10, 6, 11, 49, 50, 51, 52, 53, 54, 55, 56, 57, 58, 59, 60, 61, 62, 63, 64, 65, 66, 67] (by decide +kernel) (by decide +kernel)
set_option maxRecDepth 20000 in
theorem gX8_rooms_X8_isPerson : GoodIn wsX8_rooms (wsV RX8 113 RX8 yX8_isPerson wsX8_isPerson) := goodIn_app (goodIn_of _ (by decide +kernel)) ggX8_rooms_X8_isPerson
set_option maxRecDepth 20000 in
theorem ggX8_rooms_X0_enter : GoodIn wsX8_rooms wsX0_enter := goodIn_r _ [16, 17, 18, 19, 20, 21, 22, 23, 6, 24, 25, 26, 27, 28, 29, 30, 31, 32, 33, 34, 35, 36, 37, 38, 39, 40, 68, 69, 70, 71, 72, 73, 59, 60, 61, 62, 63, 64, 65, 66, 67, 74, 75, 76, 77, 78] (by decide +kernel) (by decide +kernel)
set_option maxRecDepth 20000 in
theorem gX8_rooms_X0_enter : GoodIn wsX8_rooms (wsV RX8 117 RX0 yX0_enter wsX0_enter) := goodIn_app (goodIn_of _ (by decide +kernel)) ggX8_rooms_X0_enter
set_option maxRecDepth 20000 in
theorem ggX8_rooms_X0_fewestRooms : GoodIn wsX8_rooms wsX0_fewestRooms := goodIn_r _ [44, 17, 45, 46, 47, 15, 48, 22, 23, 6, 24, 68, 69, 70, 71, 72, 73, 59, 60, 61, 62, 63, 64, 65, 66, 67] (by decide +kernel) (by decide +kernel)
set_option maxRecDepth 20000 in
theorem gX8_rooms_X0_fewestRooms : GoodIn wsX8_rooms (wsV RX8 220 RX0 yX0_fewestRooms wsX0_fewestRooms) := goodIn_app (goodIn_of _ (by decide +kernel)) ggX8_rooms_X0_fewestRooms
theorem dX8_rooms_0 : decode cX8_rooms 0 = .ok (.aload_n 0, 1) := by decide +kernel
theorem dX8_rooms_1 : decode cX8_rooms 1 = .ok (.iload_n 1, 1) := by decide +kernel
theorem dX8_rooms_2 : decode cX8_rooms 2 = .ok (.invokevirtual 113, 3) := by decide +kernel
theorem dX8_rooms_5 : decode cX8_rooms 5 = .ok (.ifCond .ne 5, 3) := by decide +kernel
theorem dX8_rooms_8 : decode cX8_rooms 8 = .ok (.iconst (-1), 1) := by decide +kernel
theorem dX8_rooms_9 : decode cX8_rooms 9 = .ok (.ireturn, 1) := by decide +kernel
theorem dX8_rooms_10 : decode cX8_rooms 10 = .ok (.aload_n 0, 1) := by decide +kernel
theorem dX8_rooms_11 : decode cX8_rooms 11 = .ok (.getfield 60, 3) := by decide +kernel
theorem dX8_rooms_14 : decode cX8_rooms 14 = .ok (.aload_n 0, 1) := by decide +kernel
theorem dX8_rooms_15 : decode cX8_rooms 15 = .ok (.getfield 29, 3) := by decide +kernel
theorem dX8_rooms_18 : decode cX8_rooms 18 = .ok (.iload_n 1, 1) := by decide +kernel
theorem dX8_rooms_19 : decode cX8_rooms 19 = .ok (.invokevirtual 117, 3) := by decide +kernel
theorem dX8_rooms_22 : decode cX8_rooms 22 = .ok (.aload_n 0, 1) := by decide +kernel
theorem dX8_rooms_23 : decode cX8_rooms 23 = .ok (.getfield 60, 3) := by decide +kernel
theorem dX8_rooms_26 : decode cX8_rooms 26 = .ok (.invokevirtual 220, 3) := by decide +kernel
theorem dX8_rooms_29 : decode cX8_rooms 29 = .ok (.ireturn, 1) := by decide +kernel
set_option maxRecDepth 20000 in
theorem ggX8_game_X8_isPair : GoodIn wsX8_game wsX8_isPair := goodIn_r _ [6, 7, 8, 9, 5, 10, 11, 12, 13, 14, 101, 102, 103, 104, 105, 106, 107, 108, 109, 110, 116, 117, 118, 119, 120, 121, 122, 123, 124] (by decide +kernel) (by decide +kernel)
set_option maxRecDepth 20000 in
theorem gX8_game_X8_isPair : GoodIn wsX8_game (wsV RX8 223 RX8 yX8_isPair wsX8_isPair) := goodIn_app (goodIn_of _ (by decide +kernel)) ggX8_game_X8_isPair
set_option maxRecDepth 20000 in
theorem ggX8_game_X8_within : GoodIn wsX8_game wsX8_within := goodIn_r _ [14] (by decide +kernel) (by decide +kernel)
set_option maxRecDepth 20000 in
theorem gX8_game_X8_within : GoodIn wsX8_game (va_wsS RX8 98 yX8_within wsX8_within) := goodIn_app (goodIn_of _ (by decide +kernel)) ggX8_game_X8_within
set_option maxRecDepth 20000 in
theorem ggX8_game_X1_findWorst : GoodIn wsX8_game wsX1_findWorst := goodIn_r _ [19, 20, 21, 22, 23, 24, 25, 26, 27, 28, 29, 30, 31, 32, 33, 34, 35, 5, 36, 37, 38, 39, 40, 41, 42, 43, 44, 45, 46, 47, 48, 49, 50, 51, 52, 53, 54, 55, 56, 57, 58, 59, 60, 61, 62, 63, 64, 65, 66, 67, 68, 69, 70, 71, 72, 73, 74, 75, 76, 77, 78, 79, 80, 81, 82, 83, 84, 85, 86, 87, 88, 89, 90, 91, 92, 93, 94, 95, 96, 97, 98, 99, 100, 111, 112, 113, 114, 115, 116, 117, 118, 119, 120, 121, 122, 123, 124, 125, 126, 127, 128, 129, 130, 131, 132, 133, 134, 135] (by decide +kernel) (by decide +kernel)
set_option maxRecDepth 20000 in
theorem gX8_game_X1_findWorst : GoodIn wsX8_game (wsV RX8 226 RX1 yX1_findWorst wsX1_findWorst) := goodIn_app (goodIn_of _ (by decide +kernel)) ggX8_game_X1_findWorst
theorem dX8_game_0 : decode cX8_game 0 = .ok (.aload_n 0, 1) := by decide +kernel
theorem dX8_game_1 : decode cX8_game 1 = .ok (.iload_n 1, 1) := by decide +kernel
theorem dX8_game_2 : decode cX8_game 2 = .ok (.iload_n 2, 1) := by decide +kernel
theorem dX8_game_3 : decode cX8_game 3 = .ok (.invokevirtual 223, 3) := by decide +kernel
theorem dX8_game_6 : decode cX8_game 6 = .ok (.ifCond .eq 23, 3) := by decide +kernel
theorem dX8_game_9 : decode cX8_game 9 = .ok (.iload_n 3, 1) := by decide +kernel
theorem dX8_game_10 : decode cX8_game 10 = .ok (.iconst 1, 1) := by decide +kernel
theorem dX8_game_11 : decode cX8_game 11 = .ok (.bipush 10, 2) := by decide +kernel
theorem dX8_game_13 : decode cX8_game 13 = .ok (.invokestatic 98, 3) := by decide +kernel
theorem dX8_game_16 : decode cX8_game 16 = .ok (.ifCond .eq 13, 3) := by decide +kernel
theorem dX8_game_19 : decode cX8_game 19 = .ok (.iload 4, 2) := by decide +kernel
theorem dX8_game_21 : decode cX8_game 21 = .ok (.iconst 0, 1) := by decide +kernel
theorem dX8_game_22 : decode cX8_game 22 = .ok (.iconst 1, 1) := by decide +kernel
theorem dX8_game_23 : decode cX8_game 23 = .ok (.invokestatic 98, 3) := by decide +kernel
theorem dX8_game_26 : decode cX8_game 26 = .ok (.ifCond .ne 5, 3) := by decide +kernel
theorem dX8_game_29 : decode cX8_game 29 = .ok (.iconst (-1), 1) := by decide +kernel
theorem dX8_game_30 : decode cX8_game 30 = .ok (.ireturn, 1) := by decide +kernel
theorem dX8_game_31 : decode cX8_game 31 = .ok (.aload_n 0, 1) := by decide +kernel
theorem dX8_game_32 : decode cX8_game 32 = .ok (.getfield 69, 3) := by decide +kernel
theorem dX8_game_35 : decode cX8_game 35 = .ok (.iload_n 1, 1) := by decide +kernel
theorem dX8_game_36 : decode cX8_game 36 = .ok (.iload_n 2, 1) := by decide +kernel
theorem dX8_game_37 : decode cX8_game 37 = .ok (.iload_n 3, 1) := by decide +kernel
theorem dX8_game_38 : decode cX8_game 38 = .ok (.invokevirtual 226, 3) := by decide +kernel
theorem dX8_game_41 : decode cX8_game 41 = .ok (.istore 5, 2) := by decide +kernel
theorem dX8_game_43 : decode cX8_game 43 = .ok (.aload_n 0, 1) := by decide +kernel
theorem dX8_game_44 : decode cX8_game 44 = .ok (.getfield 69, 3) := by decide +kernel
theorem dX8_game_47 : decode cX8_game 47 = .ok (.getfield 210, 3) := by decide +kernel
theorem dX8_game_50 : decode cX8_game 50 = .ok (.istore 6, 2) := by decide +kernel
theorem dX8_game_52 : decode cX8_game 52 = .ok (.iload 5, 2) := by decide +kernel
theorem dX8_game_54 : decode cX8_game 54 = .ok (.aload_n 0, 1) := by decide +kernel
theorem dX8_game_55 : decode cX8_game 55 = .ok (.getfield 69, 3) := by decide +kernel
theorem dX8_game_58 : decode cX8_game 58 = .ok (.iload_n 2, 1) := by decide +kernel
theorem dX8_game_59 : decode cX8_game 59 = .ok (.iload_n 1, 1) := by decide +kernel
theorem dX8_game_60 : decode cX8_game 60 = .ok (.iload_n 3, 1) := by decide +kernel
theorem dX8_game_61 : decode cX8_game 61 = .ok (.invokevirtual 226, 3) := by decide +kernel
theorem dX8_game_64 : decode cX8_game 64 = .ok (.imul, 1) := by decide +kernel
theorem dX8_game_65 : decode cX8_game 65 = .ok (.istore 5, 2) := by decide +kernel
theorem dX8_game_67 : decode cX8_game 67 = .ok (.iload 4, 2) := by decide +kernel
theorem dX8_game_69 : decode cX8_game 69 = .ok (.ifCond .ne 8, 3) := by decide +kernel
theorem dX8_game_72 : decode cX8_game 72 = .ok (.iload 5, 2) := by decide +kernel
theorem dX8_game_74 : decode cX8_game 74 = .ok (.goto 16, 3) := by decide +kernel
theorem dX8_game_77 : decode cX8_game 77 = .ok (.bipush 10, 2) := by decide +kernel
theorem dX8_game_79 : decode cX8_game 79 = .ok (.iload 6, 2) := by decide +kernel
theorem dX8_game_81 : decode cX8_game 81 = .ok (.imul, 1) := by decide +kernel
theorem dX8_game_82 : decode cX8_game 82 = .ok (.aload_n 0, 1) := by decide +kernel
theorem dX8_game_83 : decode cX8_game 83 = .ok (.getfield 69, 3) := by decide +kernel
theorem dX8_game_86 : decode cX8_game 86 = .ok (.getfield 210, 3) := by decide +kernel
theorem dX8_game_89 : decode cX8_game 89 = .ok (.iadd, 1) := by decide +kernel
theorem dX8_game_90 : decode cX8_game 90 = .ok (.ireturn, 1) := by decide +kernel
set_option maxRecDepth 20000 in
theorem ggX8_see_X8_isLodging : GoodIn wsX8_see wsX8_isLodging := goodIn_r _ [6, 7, 8, 9, 5, 10, 11, 12, 13, 14, 15, 16, 17, 18, 31, 32, 33, 34, 35, 36, 37, 38, 39, 40, 46, 47, 48, 49, 50, 51, 52, 53, 54] (by decide +kernel) (by decide +kernel)
set_option maxRecDepth 20000 in
theorem gX8_see_X8_isLodging : GoodIn wsX8_see (wsV RX8 151 RX8 yX8_isLodging wsX8_isLodging) := goodIn_app (goodIn_of _ (by decide +kernel)) ggX8_see_X8_isLodging
set_option maxRecDepth 20000 in
theorem ggX8_see_X8_within : GoodIn wsX8_see wsX8_within := goodIn_r _ [14] (by decide +kernel) (by decide +kernel)
set_option maxRecDepth 20000 in
theorem gX8_see_X8_within : GoodIn wsX8_see (va_wsS RX8 98 yX8_within wsX8_within) := goodIn_app (goodIn_of _ (by decide +kernel)) ggX8_see_X8_within
set_option maxRecDepth 20000 in
theorem ggX8_see_X4_add : GoodIn wsX8_see wsX4_add := goodIn_r _ [23, 24, 25, 26, 27, 28, 29, 5, 30, 41, 42, 43, 44, 45] (by decide +kernel) (by decide +kernel)
set_option maxRecDepth 20000 in
theorem gX8_see_X4_add : GoodIn wsX8_see (wsV RX8 232 RX4 yX4_add wsX4_add) := goodIn_app (goodIn_of _ (by decide +kernel)) ggX8_see_X4_add
theorem dX8_see_0 : decode cX8_see 0 = .ok (.aload_n 0, 1) := by decide +kernel
theorem dX8_see_1 : decode cX8_see 1 = .ok (.iload_n 1, 1) := by decide +kernel
theorem dX8_see_2 : decode cX8_see 2 = .ok (.iload_n 2, 1) := by decide +kernel
theorem dX8_see_3 : decode cX8_see 3 = .ok (.invokevirtual 151, 3) := by decide +kernel
theorem dX8_see_6 : decode cX8_see 6 = .ok (.ifCond .eq 24, 3) := by decide +kernel
theorem dX8_see_9 : decode cX8_see 9 = .ok (.iload_n 3, 1) := by decide +kernel
theorem dX8_see_10 : decode cX8_see 10 = .ok (.iconst 1, 1) := by decide +kernel
theorem dX8_see_11 : decode cX8_see 11 = .ok (.bipush 20, 2) := by decide +kernel
theorem dX8_see_13 : decode cX8_see 13 = .ok (.invokestatic 98, 3) := by decide +kernel
theorem dX8_see_16 : decode cX8_see 16 = .ok (.ifCond .eq 14, 3) := by decide +kernel
theorem dX8_see_19 : decode cX8_see 19 = .ok (.iload 4, 2) := by decide +kernel
theorem dX8_see_21 : decode cX8_see 21 = .ok (.iconst 0, 1) := by decide +kernel
theorem dX8_see_22 : decode cX8_see 22 = .ok (.bipush 9, 2) := by decide +kernel
theorem dX8_see_24 : decode cX8_see 24 = .ok (.invokestatic 98, 3) := by decide +kernel
theorem dX8_see_27 : decode cX8_see 27 = .ok (.ifCond .ne 5, 3) := by decide +kernel
theorem dX8_see_30 : decode cX8_see 30 = .ok (.iconst (-1), 1) := by decide +kernel
theorem dX8_see_31 : decode cX8_see 31 = .ok (.ireturn, 1) := by decide +kernel
theorem dX8_see_32 : decode cX8_see 32 = .ok (.aload_n 0, 1) := by decide +kernel
theorem dX8_see_33 : decode cX8_see 33 = .ok (.getfield 51, 3) := by decide +kernel
theorem dX8_see_36 : decode cX8_see 36 = .ok (.getfield 229, 3) := by decide +kernel
theorem dX8_see_39 : decode cX8_see 39 = .ok (.bipush 6, 2) := by decide +kernel
theorem dX8_see_41 : decode cX8_see 41 = .ok (.if_icmp .lt 6, 3) := by decide +kernel
theorem dX8_see_44 : decode cX8_see 44 = .ok (.bipush (-3), 2) := by decide +kernel
theorem dX8_see_46 : decode cX8_see 46 = .ok (.ireturn, 1) := by decide +kernel
theorem dX8_see_47 : decode cX8_see 47 = .ok (.aload_n 0, 1) := by decide +kernel
theorem dX8_see_48 : decode cX8_see 48 = .ok (.getfield 51, 3) := by decide +kernel
theorem dX8_see_51 : decode cX8_see 51 = .ok (.iload_n 1, 1) := by decide +kernel
theorem dX8_see_52 : decode cX8_see 52 = .ok (.iload_n 2, 1) := by decide +kernel
theorem dX8_see_53 : decode cX8_see 53 = .ok (.iload_n 3, 1) := by decide +kernel
theorem dX8_see_54 : decode cX8_see 54 = .ok (.iload 4, 2) := by decide +kernel
theorem dX8_see_56 : decode cX8_see 56 = .ok (.invokevirtual 232, 3) := by decide +kernel
theorem dX8_see_59 : decode cX8_see 59 = .ok (.aload_n 0, 1) := by decide +kernel
theorem dX8_see_60 : decode cX8_see 60 = .ok (.getfield 51, 3) := by decide +kernel
theorem dX8_see_63 : decode cX8_see 63 = .ok (.getfield 229, 3) := by decide +kernel
theorem dX8_see_66 : decode cX8_see 66 = .ok (.ireturn, 1) := by decide +kernel
set_option maxRecDepth 20000 in
theorem ggX8_forget_X4_clear : GoodIn wsX8_forget wsX4_clear := goodIn_r _ [6, 7, 18, 19, 20, 21, 22] (by decide +kernel) (by decide +kernel)
set_option maxRecDepth 20000 in
theorem gX8_forget_X4_clear : GoodIn wsX8_forget (wsV RX8 112 RX4 yX4_clear wsX4_clear) := goodIn_app (goodIn_of _ (by decide +kernel)) ggX8_forget_X4_clear
theorem dX8_forget_0 : decode cX8_forget 0 = .ok (.aload_n 0, 1) := by decide +kernel
theorem dX8_forget_1 : decode cX8_forget 1 = .ok (.getfield 51, 3) := by decide +kernel
theorem dX8_forget_4 : decode cX8_forget 4 = .ok (.getfield 229, 3) := by decide +kernel
theorem dX8_forget_7 : decode cX8_forget 7 = .ok (.istore_n 1, 1) := by decide +kernel
theorem dX8_forget_8 : decode cX8_forget 8 = .ok (.aload_n 0, 1) := by decide +kernel
theorem dX8_forget_9 : decode cX8_forget 9 = .ok (.getfield 51, 3) := by decide +kernel
theorem dX8_forget_12 : decode cX8_forget 12 = .ok (.invokevirtual 112, 3) := by decide +kernel
theorem dX8_forget_15 : decode cX8_forget 15 = .ok (.iload_n 1, 1) := by decide +kernel
theorem dX8_forget_16 : decode cX8_forget 16 = .ok (.ireturn, 1) := by decide +kernel
set_option maxRecDepth 20000 in
theorem ggX8_said_X8_isPair : GoodIn wsX8_said wsX8_isPair := goodIn_r _ [8, 9, 10, 11, 7, 12, 3, 13, 14, 15, 99, 100, 101, 102, 103, 104, 105, 106, 107, 108, 109, 110, 111, 112, 113, 114, 115, 116, 117] (by decide +kernel) (by decide +kernel)
set_option maxRecDepth 20000 in
theorem gX8_said_X8_isPair : GoodIn wsX8_said (wsV RX8 223 RX8 yX8_isPair wsX8_isPair) := goodIn_app (goodIn_of _ (by decide +kernel)) ggX8_said_X8_isPair
set_option maxRecDepth 20000 in
theorem ggX8_said_X1_holds : GoodIn wsX8_said wsX1_holds := goodIn_r _ [20, 21, 22, 23, 7, 24, 25, 26, 27, 28, 29, 30, 31, 32, 33, 34, 35, 36, 37, 38, 39, 40, 41, 42, 43, 44, 45, 46, 47, 48, 49, 50, 51, 52, 53, 54, 55, 56, 57, 58, 59, 60, 61, 62, 63, 64, 65, 66, 67, 68, 69, 70, 71, 72, 73, 74, 75, 76, 77, 78, 79, 80, 81, 82, 83, 84, 85, 86, 87, 88, 89, 90, 91, 92, 93, 94, 95, 118, 119, 120, 121, 122, 123, 124, 125, 126, 127, 128, 129, 130, 131, 132, 133, 109, 110, 111, 112, 113, 114, 115, 116, 117, 134, 135, 136, 137, 138] (by decide +kernel) (by decide +kernel)
set_option maxRecDepth 20000 in
theorem gX8_said_X1_holds : GoodIn wsX8_said (wsV RX8 235 RX1 yX1_holds wsX1_holds) := goodIn_app (goodIn_of _ (by decide +kernel)) ggX8_said_X1_holds
set_option maxRecDepth 20000 in
theorem ggX8_said_X7_bit : GoodIn wsX8_said wsX7_bit := goodIn_r _ [98] (by decide +kernel) (by decide +kernel)
set_option maxRecDepth 20000 in
theorem gX8_said_X7_bit : GoodIn wsX8_said (va_wsS RX8 239 yX7_bit wsX7_bit) := goodIn_app (goodIn_of _ (by decide +kernel)) ggX8_said_X7_bit
theorem dX8_said_0 : decode cX8_said 0 = .ok (.aload_n 0, 1) := by decide +kernel
theorem dX8_said_1 : decode cX8_said 1 = .ok (.iload_n 1, 1) := by decide +kernel
theorem dX8_said_2 : decode cX8_said 2 = .ok (.iload_n 2, 1) := by decide +kernel
theorem dX8_said_3 : decode cX8_said 3 = .ok (.invokevirtual 223, 3) := by decide +kernel
theorem dX8_said_6 : decode cX8_said 6 = .ok (.ifCond .ne 5, 3) := by decide +kernel
theorem dX8_said_9 : decode cX8_said 9 = .ok (.iconst (-1), 1) := by decide +kernel
theorem dX8_said_10 : decode cX8_said 10 = .ok (.ireturn, 1) := by decide +kernel
theorem dX8_said_11 : decode cX8_said 11 = .ok (.aload_n 0, 1) := by decide +kernel
theorem dX8_said_12 : decode cX8_said 12 = .ok (.getfield 69, 3) := by decide +kernel
theorem dX8_said_15 : decode cX8_said 15 = .ok (.aload_n 0, 1) := by decide +kernel
theorem dX8_said_16 : decode cX8_said 16 = .ok (.getfield 51, 3) := by decide +kernel
theorem dX8_said_19 : decode cX8_said 19 = .ok (.iload_n 2, 1) := by decide +kernel
theorem dX8_said_20 : decode cX8_said 20 = .ok (.lconst 0, 1) := by decide +kernel
theorem dX8_said_21 : decode cX8_said 21 = .ok (.invokevirtual 235, 3) := by decide +kernel
theorem dX8_said_24 : decode cX8_said 24 = .ok (.ifCond .eq 9, 3) := by decide +kernel
theorem dX8_said_27 : decode cX8_said 27 = .ok (.sipush 256, 3) := by decide +kernel
theorem dX8_said_30 : decode cX8_said 30 = .ok (.goto 4, 3) := by decide +kernel
theorem dX8_said_33 : decode cX8_said 33 = .ok (.iconst 0, 1) := by decide +kernel
theorem dX8_said_34 : decode cX8_said 34 = .ok (.istore_n 3, 1) := by decide +kernel
theorem dX8_said_35 : decode cX8_said 35 = .ok (.iconst 0, 1) := by decide +kernel
theorem dX8_said_36 : decode cX8_said 36 = .ok (.istore 4, 2) := by decide +kernel
theorem dX8_said_38 : decode cX8_said 38 = .ok (.iload 4, 2) := by decide +kernel
theorem dX8_said_40 : decode cX8_said 40 = .ok (.aload_n 0, 1) := by decide +kernel
theorem dX8_said_41 : decode cX8_said 41 = .ok (.getfield 19, 3) := by decide +kernel
theorem dX8_said_44 : decode cX8_said 44 = .ok (.getfield 108, 3) := by decide +kernel
theorem dX8_said_47 : decode cX8_said 47 = .ok (.if_icmp .ge 37, 3) := by decide +kernel
theorem dX8_said_50 : decode cX8_said 50 = .ok (.aload_n 0, 1) := by decide +kernel
theorem dX8_said_51 : decode cX8_said 51 = .ok (.getfield 69, 3) := by decide +kernel
theorem dX8_said_54 : decode cX8_said 54 = .ok (.aload_n 0, 1) := by decide +kernel
theorem dX8_said_55 : decode cX8_said 55 = .ok (.getfield 51, 3) := by decide +kernel
theorem dX8_said_58 : decode cX8_said 58 = .ok (.iload_n 2, 1) := by decide +kernel
theorem dX8_said_59 : decode cX8_said 59 = .ok (.iload_n 1, 1) := by decide +kernel
theorem dX8_said_60 : decode cX8_said 60 = .ok (.iload 4, 2) := by decide +kernel
theorem dX8_said_62 : decode cX8_said 62 = .ok (.invokestatic 239, 3) := by decide +kernel
theorem dX8_said_65 : decode cX8_said 65 = .ok (.invokevirtual 235, 3) := by decide +kernel
theorem dX8_said_68 : decode cX8_said 68 = .ok (.ifCond .eq 10, 3) := by decide +kernel
theorem dX8_said_71 : decode cX8_said 71 = .ok (.iload_n 3, 1) := by decide +kernel
theorem dX8_said_72 : decode cX8_said 72 = .ok (.iconst 1, 1) := by decide +kernel
theorem dX8_said_73 : decode cX8_said 73 = .ok (.iload 4, 2) := by decide +kernel
theorem dX8_said_75 : decode cX8_said 75 = .ok (.ishl, 1) := by decide +kernel
theorem dX8_said_76 : decode cX8_said 76 = .ok (.ior, 1) := by decide +kernel
theorem dX8_said_77 : decode cX8_said 77 = .ok (.istore_n 3, 1) := by decide +kernel
theorem dX8_said_78 : decode cX8_said 78 = .ok (.iinc 4 1, 3) := by decide +kernel
theorem dX8_said_81 : decode cX8_said 81 = .ok (.goto (-43), 3) := by decide +kernel
theorem dX8_said_84 : decode cX8_said 84 = .ok (.iload_n 3, 1) := by decide +kernel
theorem dX8_said_85 : decode cX8_said 85 = .ok (.ireturn, 1) := by decide +kernel
set_option maxRecDepth 20000 in
theorem ggX8_whose_X8_isLodging : GoodIn wsX8_whose wsX8_isLodging := goodIn_r _ [6, 7, 8, 9, 5, 10, 11, 12, 13, 14, 15, 16, 17, 18, 30, 31, 32, 33, 34, 35, 36, 37, 38, 39, 44, 45, 46, 47, 48, 49, 50, 51, 52] (by decide +kernel) (by decide +kernel)
set_option maxRecDepth 20000 in
theorem gX8_whose_X8_isLodging : GoodIn wsX8_whose (wsV RX8 151 RX8 yX8_isLodging wsX8_isLodging) := goodIn_app (goodIn_of _ (by decide +kernel)) ggX8_whose_X8_isLodging
set_option maxRecDepth 20000 in
theorem ggX8_whose_X7_about : GoodIn wsX8_whose wsX7_about := goodIn_r _ [23, 24, 25, 5, 26, 53] (by decide +kernel) (by decide +kernel)
set_option maxRecDepth 20000 in
theorem gX8_whose_X7_about : GoodIn wsX8_whose (wsV RX8 243 RX7 yX7_about wsX7_about) := goodIn_app (goodIn_of _ (by decide +kernel)) ggX8_whose_X7_about
set_option maxRecDepth 20000 in
theorem ggX8_whose_X7_callers : GoodIn wsX8_whose wsX7_callers := goodIn_r _ [29] (by decide +kernel) (by decide +kernel)
set_option maxRecDepth 20000 in
theorem gX8_whose_X7_callers : GoodIn wsX8_whose (va_wsS RX8 247 yX7_callers wsX7_callers) := goodIn_app (goodIn_of _ (by decide +kernel)) ggX8_whose_X7_callers
theorem dX8_whose_0 : decode cX8_whose 0 = .ok (.aload_n 0, 1) := by decide +kernel
theorem dX8_whose_1 : decode cX8_whose 1 = .ok (.iload_n 1, 1) := by decide +kernel
theorem dX8_whose_2 : decode cX8_whose 2 = .ok (.iload_n 2, 1) := by decide +kernel
theorem dX8_whose_3 : decode cX8_whose 3 = .ok (.invokevirtual 151, 3) := by decide +kernel
theorem dX8_whose_6 : decode cX8_whose 6 = .ok (.ifCond .eq 21, 3) := by decide +kernel
theorem dX8_whose_9 : decode cX8_whose 9 = .ok (.aload_n 0, 1) := by decide +kernel
theorem dX8_whose_10 : decode cX8_whose 10 = .ok (.getfield 29, 3) := by decide +kernel
theorem dX8_whose_13 : decode cX8_whose 13 = .ok (.getfield 162, 3) := by decide +kernel
theorem dX8_whose_16 : decode cX8_whose 16 = .ok (.iload_n 1, 1) := by decide +kernel
theorem dX8_whose_17 : decode cX8_whose 17 = .ok (.invokevirtual 243, 3) := by decide +kernel
theorem dX8_whose_20 : decode cX8_whose 20 = .ok (.iload_n 2, 1) := by decide +kernel
theorem dX8_whose_21 : decode cX8_whose 21 = .ok (.invokestatic 247, 3) := by decide +kernel
theorem dX8_whose_24 : decode cX8_whose 24 = .ok (.goto 4, 3) := by decide +kernel
theorem dX8_whose_27 : decode cX8_whose 27 = .ok (.iconst (-1), 1) := by decide +kernel
theorem dX8_whose_28 : decode cX8_whose 28 = .ok (.ireturn, 1) := by decide +kernel
set_option maxRecDepth 20000 in
theorem ggX8_chance_X8_isLodging : GoodIn wsX8_chance wsX8_isLodging := goodIn_r _ [9, 10, 11, 12, 8, 13, 14, 15, 16, 17, 18, 19, 20, 21, 115, 116, 117, 118, 119, 120, 121, 122, 123, 124, 129, 130, 131, 132, 133, 134, 135, 136, 137] (by decide +kernel) (by decide +kernel)
set_option maxRecDepth 20000 in
theorem gX8_chance_X8_isLodging : GoodIn wsX8_chance (wsV RX8 151 RX8 yX8_isLodging wsX8_isLodging) := goodIn_app (goodIn_of _ (by decide +kernel)) ggX8_chance_X8_isLodging
set_option maxRecDepth 20000 in
theorem ggX8_chance_X8_within : GoodIn wsX8_chance wsX8_within := goodIn_r _ [17] (by decide +kernel) (by decide +kernel)
set_option maxRecDepth 20000 in
theorem gX8_chance_X8_within : GoodIn wsX8_chance (va_wsS RX8 98 yX8_within wsX8_within) := goodIn_app (goodIn_of _ (by decide +kernel)) ggX8_chance_X8_within
set_option maxRecDepth 20000 in
theorem ggX8_chance_X1_chanceAbove : GoodIn wsX8_chance wsX1_chanceAbove := goodIn_r _ [26, 27, 28, 29, 30, 31, 32, 33, 34, 35, 36, 37, 38, 39, 8, 40, 41, 42, 43, 44, 45, 46, 47, 48, 49, 50, 51, 52, 53, 54, 55, 56, 57, 58, 59, 60, 61, 62, 63, 64, 65, 66, 67, 68, 69, 70, 71, 72, 73, 74, 75, 76, 77, 78, 79, 80, 81, 82, 83, 84, 85, 86, 87, 88, 89, 90, 91, 92, 93, 94, 95, 96, 97, 98, 99, 100, 101, 102, 103, 104, 105, 106, 107, 108, 138, 139, 140, 141, 142, 125, 126, 127, 128, 143, 144, 145, 146, 147, 148, 149, 129, 130, 131, 132, 133, 134, 135, 136, 137] (by decide +kernel) (by decide +kernel)
set_option maxRecDepth 20000 in
theorem gX8_chance_X1_chanceAbove : GoodIn wsX8_chance (wsV RX8 253 RX1 yX1_chanceAbove wsX1_chanceAbove) := goodIn_app (goodIn_of _ (by decide +kernel)) ggX8_chance_X1_chanceAbove
set_option maxRecDepth 20000 in
theorem ggX8_chance_X7_about : GoodIn wsX8_chance wsX7_about := goodIn_r _ [37, 38, 39, 8, 40, 149] (by decide +kernel) (by decide +kernel)
set_option maxRecDepth 20000 in
theorem gX8_chance_X7_about : GoodIn wsX8_chance (wsV RX8 243 RX7 yX7_about wsX7_about) := goodIn_app (goodIn_of _ (by decide +kernel)) ggX8_chance_X7_about
set_option maxRecDepth 20000 in
theorem ggX8_chance_J13_bitCount_95d88 : GoodIn wsX8_chance wsJ13_bitCount_95d88 := goodIn_r _ [44, 45, 46, 47] (by decide +kernel) (by decide +kernel)
set_option maxRecDepth 20000 in
theorem gX8_chance_J13_bitCount_95d88 : GoodIn wsX8_chance (va_wsS RX8 259 yJ13_bitCount_95d88 wsJ13_bitCount_95d88) := goodIn_app (goodIn_of _ (by decide +kernel)) ggX8_chance_J13_bitCount_95d88
set_option maxRecDepth 20000 in
theorem ggX8_chance_X8_power : GoodIn wsX8_chance wsX8_power := goodIn_r _ [108] (by decide +kernel) (by decide +kernel)
set_option maxRecDepth 20000 in
theorem gX8_chance_X8_power : GoodIn wsX8_chance (va_wsS RX8 265 yX8_power wsX8_power) := goodIn_app (goodIn_of _ (by decide +kernel)) ggX8_chance_X8_power
set_option maxRecDepth 20000 in
theorem ggX8_chance_X8_greatestShared : GoodIn wsX8_chance wsX8_greatestShared := goodIn_r _ [114] (by decide +kernel) (by decide +kernel)
set_option maxRecDepth 20000 in
theorem gX8_chance_X8_greatestShared : GoodIn wsX8_chance (va_wsS RX8 269 yX8_greatestShared wsX8_greatestShared) := goodIn_app (goodIn_of _ (by decide +kernel)) ggX8_chance_X8_greatestShared
theorem dX8_chance_0 : decode cX8_chance 0 = .ok (.aload_n 0, 1) := by decide +kernel
theorem dX8_chance_1 : decode cX8_chance 1 = .ok (.iload_n 1, 1) := by decide +kernel
theorem dX8_chance_2 : decode cX8_chance 2 = .ok (.iload_n 2, 1) := by decide +kernel
theorem dX8_chance_3 : decode cX8_chance 3 = .ok (.invokevirtual 151, 3) := by decide +kernel
theorem dX8_chance_6 : decode cX8_chance 6 = .ok (.ifCond .eq 23, 3) := by decide +kernel
theorem dX8_chance_9 : decode cX8_chance 9 = .ok (.iload_n 3, 1) := by decide +kernel
theorem dX8_chance_10 : decode cX8_chance 10 = .ok (.iconst 0, 1) := by decide +kernel
theorem dX8_chance_11 : decode cX8_chance 11 = .ok (.bipush 10, 2) := by decide +kernel
theorem dX8_chance_13 : decode cX8_chance 13 = .ok (.invokestatic 98, 3) := by decide +kernel
theorem dX8_chance_16 : decode cX8_chance 16 = .ok (.ifCond .eq 13, 3) := by decide +kernel
theorem dX8_chance_19 : decode cX8_chance 19 = .ok (.iload 4, 2) := by decide +kernel
theorem dX8_chance_21 : decode cX8_chance 21 = .ok (.iconst 0, 1) := by decide +kernel
theorem dX8_chance_22 : decode cX8_chance 22 = .ok (.iconst 1, 1) := by decide +kernel
theorem dX8_chance_23 : decode cX8_chance 23 = .ok (.invokestatic 98, 3) := by decide +kernel
theorem dX8_chance_26 : decode cX8_chance 26 = .ok (.ifCond .ne 7, 3) := by decide +kernel
theorem dX8_chance_29 : decode cX8_chance 29 = .ok (.ldc2_w 251, 3) := by decide +kernel
theorem dX8_chance_32 : decode cX8_chance 32 = .ok (.lreturn, 1) := by decide +kernel
theorem dX8_chance_33 : decode cX8_chance 33 = .ok (.aload_n 0, 1) := by decide +kernel
theorem dX8_chance_34 : decode cX8_chance 34 = .ok (.getfield 69, 3) := by decide +kernel
theorem dX8_chance_37 : decode cX8_chance 37 = .ok (.iload_n 1, 1) := by decide +kernel
theorem dX8_chance_38 : decode cX8_chance 38 = .ok (.iload_n 2, 1) := by decide +kernel
theorem dX8_chance_39 : decode cX8_chance 39 = .ok (.iload_n 3, 1) := by decide +kernel
theorem dX8_chance_40 : decode cX8_chance 40 = .ok (.invokevirtual 253, 3) := by decide +kernel
theorem dX8_chance_43 : decode cX8_chance 43 = .ok (.lstore 5, 2) := by decide +kernel
theorem dX8_chance_45 : decode cX8_chance 45 = .ok (.ldc2_w 257, 3) := by decide +kernel
theorem dX8_chance_48 : decode cX8_chance 48 = .ok (.aload_n 0, 1) := by decide +kernel
theorem dX8_chance_49 : decode cX8_chance 49 = .ok (.getfield 29, 3) := by decide +kernel
theorem dX8_chance_52 : decode cX8_chance 52 = .ok (.getfield 162, 3) := by decide +kernel
theorem dX8_chance_55 : decode cX8_chance 55 = .ok (.iload_n 1, 1) := by decide +kernel
theorem dX8_chance_56 : decode cX8_chance 56 = .ok (.invokevirtual 243, 3) := by decide +kernel
theorem dX8_chance_59 : decode cX8_chance 59 = .ok (.invokestatic 259, 3) := by decide +kernel
theorem dX8_chance_62 : decode cX8_chance 62 = .ok (.invokestatic 265, 3) := by decide +kernel
theorem dX8_chance_65 : decode cX8_chance 65 = .ok (.lstore 7, 2) := by decide +kernel
theorem dX8_chance_67 : decode cX8_chance 67 = .ok (.lload 5, 2) := by decide +kernel
theorem dX8_chance_69 : decode cX8_chance 69 = .ok (.lload 7, 2) := by decide +kernel
theorem dX8_chance_71 : decode cX8_chance 71 = .ok (.invokestatic 269, 3) := by decide +kernel
theorem dX8_chance_74 : decode cX8_chance 74 = .ok (.lstore 9, 2) := by decide +kernel
theorem dX8_chance_76 : decode cX8_chance 76 = .ok (.lload 9, 2) := by decide +kernel
theorem dX8_chance_78 : decode cX8_chance 78 = .ok (.lconst 1, 1) := by decide +kernel
theorem dX8_chance_79 : decode cX8_chance 79 = .ok (.lcmp, 1) := by decide +kernel
theorem dX8_chance_80 : decode cX8_chance 80 = .ok (.ifCond .ge 5, 3) := by decide +kernel
theorem dX8_chance_83 : decode cX8_chance 83 = .ok (.lconst 0, 1) := by decide +kernel
theorem dX8_chance_84 : decode cX8_chance 84 = .ok (.lreturn, 1) := by decide +kernel
theorem dX8_chance_85 : decode cX8_chance 85 = .ok (.iload 4, 2) := by decide +kernel
theorem dX8_chance_87 : decode cX8_chance 87 = .ok (.ifCond .ne 8, 3) := by decide +kernel
theorem dX8_chance_90 : decode cX8_chance 90 = .ok (.lload 5, 2) := by decide +kernel
theorem dX8_chance_92 : decode cX8_chance 92 = .ok (.goto 5, 3) := by decide +kernel
theorem dX8_chance_95 : decode cX8_chance 95 = .ok (.lload 7, 2) := by decide +kernel
theorem dX8_chance_97 : decode cX8_chance 97 = .ok (.lload 9, 2) := by decide +kernel
theorem dX8_chance_99 : decode cX8_chance 99 = .ok (.ldiv, 1) := by decide +kernel
theorem dX8_chance_100 : decode cX8_chance 100 = .ok (.lreturn, 1) := by decide +kernel
set_option maxRecDepth 20000 in
theorem ggX8_year_X8_within : GoodIn wsX8_year wsX8_within := goodIn_r _ [10] (by decide +kernel) (by decide +kernel)
set_option maxRecDepth 20000 in
theorem gX8_year_X8_within : GoodIn wsX8_year (va_wsS RX8 98 yX8_within wsX8_within) := goodIn_app (goodIn_of _ (by decide +kernel)) ggX8_year_X8_within
set_option maxRecDepth 20000 in
theorem ggX8_year_X5_become : GoodIn wsX8_year wsX5_become := goodIn_r _ [15, 16, 17, 18, 19, 20, 21, 22, 23, 24, 25, 26, 27, 28, 29, 30, 9, 31, 32, 33, 34, 35, 36, 37, 157, 158, 159, 160, 161] (by decide +kernel) (by decide +kernel)
set_option maxRecDepth 20000 in
theorem gX8_year_X5_become : GoodIn wsX8_year (wsV RX8 273 RX5 yX5_become wsX5_become) := goodIn_app (goodIn_of _ (by decide +kernel)) ggX8_year_X5_become
set_option maxRecDepth 20000 in
theorem ggX8_year_X1_flipDrawn : GoodIn wsX8_year wsX1_flipDrawn := goodIn_r _ [42, 43, 44, 45, 46, 23, 47, 48, 49, 50, 51, 25, 30, 9, 31, 52, 53, 54, 55, 56, 57, 58, 59, 60, 61, 62, 63, 64, 65, 66, 67, 68, 69, 32, 33, 162, 163, 164, 165, 166, 167, 168, 169, 170, 171, 172, 173, 174, 175, 157, 158, 159, 160, 161] (by decide +kernel) (by decide +kernel)
set_option maxRecDepth 20000 in
theorem gX8_year_X1_flipDrawn : GoodIn wsX8_year (wsV RX8 282 RX1 yX1_flipDrawn wsX1_flipDrawn) := goodIn_app (goodIn_of _ (by decide +kernel)) ggX8_year_X1_flipDrawn
set_option maxRecDepth 20000 in
theorem ggX8_year_X1_passDays : GoodIn wsX8_year wsX1_passDays := goodIn_r _ [73, 43, 74, 75, 76, 77, 78, 79, 80, 81, 82, 83, 84, 85, 34, 9, 35, 86, 27, 28, 23, 29, 25, 30, 31, 87, 88, 89, 14, 90, 17, 36, 37, 91, 92, 93, 94, 95, 96, 97, 98, 99, 100, 101, 102, 103, 104, 105, 106, 107, 108, 109, 110, 111, 112, 113, 114, 115, 116, 117, 118, 119, 120, 121, 122, 123, 124, 125, 126, 127, 128, 129, 130, 131, 132, 133, 134, 135, 136, 137, 138, 139, 140, 141, 142, 162, 163, 164, 165, 166, 167, 168, 169, 170, 171, 172, 173, 174, 175, 157, 158, 159, 160, 176, 177, 178, 179, 180, 181, 161] (by decide +kernel) (by decide +kernel)
set_option maxRecDepth 20000 in
theorem gX8_year_X1_passDays : GoodIn wsX8_year (wsV RX8 175 RX1 yX1_passDays wsX1_passDays) := goodIn_app (goodIn_of _ (by decide +kernel)) ggX8_year_X1_passDays
set_option maxRecDepth 20000 in
theorem ggX8_year_X5_lodgings : GoodIn wsX8_year wsX5_lodgings := goodIn_r _ [146, 17, 34, 9, 35, 157, 158, 159, 160] (by decide +kernel) (by decide +kernel)
set_option maxRecDepth 20000 in
theorem gX8_year_X5_lodgings : GoodIn wsX8_year (wsV RX8 188 RX5 yX5_lodgings wsX5_lodgings) := goodIn_app (goodIn_of _ (by decide +kernel)) ggX8_year_X5_lodgings
theorem dX8_year_0 : decode cX8_year 0 = .ok (.iload_n 1, 1) := by decide +kernel
theorem dX8_year_1 : decode cX8_year 1 = .ok (.iconst 0, 1) := by decide +kernel
theorem dX8_year_2 : decode cX8_year 2 = .ok (.sipush 9999, 3) := by decide +kernel
theorem dX8_year_5 : decode cX8_year 5 = .ok (.invokestatic 98, 3) := by decide +kernel
theorem dX8_year_8 : decode cX8_year 8 = .ok (.ifCond .eq 22, 3) := by decide +kernel
theorem dX8_year_11 : decode cX8_year 11 = .ok (.iload_n 2, 1) := by decide +kernel
theorem dX8_year_12 : decode cX8_year 12 = .ok (.iconst 1, 1) := by decide +kernel
theorem dX8_year_13 : decode cX8_year 13 = .ok (.bipush 60, 2) := by decide +kernel
theorem dX8_year_15 : decode cX8_year 15 = .ok (.invokestatic 98, 3) := by decide +kernel
theorem dX8_year_18 : decode cX8_year 18 = .ok (.ifCond .eq 12, 3) := by decide +kernel
theorem dX8_year_21 : decode cX8_year 21 = .ok (.iload_n 3, 1) := by decide +kernel
theorem dX8_year_22 : decode cX8_year 22 = .ok (.iconst 0, 1) := by decide +kernel
theorem dX8_year_23 : decode cX8_year 23 = .ok (.iconst 1, 1) := by decide +kernel
theorem dX8_year_24 : decode cX8_year 24 = .ok (.invokestatic 98, 3) := by decide +kernel
theorem dX8_year_27 : decode cX8_year 27 = .ok (.ifCond .ne 5, 3) := by decide +kernel
theorem dX8_year_30 : decode cX8_year 30 = .ok (.iconst (-1), 1) := by decide +kernel
theorem dX8_year_31 : decode cX8_year 31 = .ok (.ireturn, 1) := by decide +kernel
theorem dX8_year_32 : decode cX8_year 32 = .ok (.aload_n 0, 1) := by decide +kernel
theorem dX8_year_33 : decode cX8_year 33 = .ok (.getfield 33, 3) := by decide +kernel
theorem dX8_year_36 : decode cX8_year 36 = .ok (.aload_n 0, 1) := by decide +kernel
theorem dX8_year_37 : decode cX8_year 37 = .ok (.getfield 29, 3) := by decide +kernel
theorem dX8_year_40 : decode cX8_year 40 = .ok (.invokevirtual 273, 3) := by decide +kernel
theorem dX8_year_43 : decode cX8_year 43 = .ok (.iconst 0, 1) := by decide +kernel
theorem dX8_year_44 : decode cX8_year 44 = .ok (.istore 4, 2) := by decide +kernel
theorem dX8_year_46 : decode cX8_year 46 = .ok (.iload 4, 2) := by decide +kernel
theorem dX8_year_48 : decode cX8_year 48 = .ok (.iload_n 2, 1) := by decide +kernel
theorem dX8_year_49 : decode cX8_year 49 = .ok (.if_icmp .ge 60, 3) := by decide +kernel
theorem dX8_year_52 : decode cX8_year 52 = .ok (.ldc2_w 276, 3) := by decide +kernel
theorem dX8_year_55 : decode cX8_year 55 = .ok (.iload_n 1, 1) := by decide +kernel
theorem dX8_year_56 : decode cX8_year 56 = .ok (.i2l, 1) := by decide +kernel
theorem dX8_year_57 : decode cX8_year 57 = .ok (.lmul, 1) := by decide +kernel
theorem dX8_year_58 : decode cX8_year 58 = .ok (.ldc2_w 278, 3) := by decide +kernel
theorem dX8_year_61 : decode cX8_year 61 = .ok (.iload 4, 2) := by decide +kernel
theorem dX8_year_63 : decode cX8_year 63 = .ok (.i2l, 1) := by decide +kernel
theorem dX8_year_64 : decode cX8_year 64 = .ok (.lmul, 1) := by decide +kernel
theorem dX8_year_65 : decode cX8_year 65 = .ok (.ladd, 1) := by decide +kernel
theorem dX8_year_66 : decode cX8_year 66 = .ok (.lconst 1, 1) := by decide +kernel
theorem dX8_year_67 : decode cX8_year 67 = .ok (.ladd, 1) := by decide +kernel
theorem dX8_year_68 : decode cX8_year 68 = .ok (.lstore 5, 2) := by decide +kernel
theorem dX8_year_70 : decode cX8_year 70 = .ok (.aload_n 0, 1) := by decide +kernel
theorem dX8_year_71 : decode cX8_year 71 = .ok (.getfield 69, 3) := by decide +kernel
theorem dX8_year_74 : decode cX8_year 74 = .ok (.aload_n 0, 1) := by decide +kernel
theorem dX8_year_75 : decode cX8_year 75 = .ok (.getfield 33, 3) := by decide +kernel
theorem dX8_year_78 : decode cX8_year 78 = .ok (.lload 5, 2) := by decide +kernel
theorem dX8_year_80 : decode cX8_year 80 = .ok (.lload 5, 2) := by decide +kernel
theorem dX8_year_82 : decode cX8_year 82 = .ok (.lmul, 1) := by decide +kernel
theorem dX8_year_83 : decode cX8_year 83 = .ok (.ldc2_w 280, 3) := by decide +kernel
theorem dX8_year_86 : decode cX8_year 86 = .ok (.lrem, 1) := by decide +kernel
theorem dX8_year_87 : decode cX8_year 87 = .ok (.l2i, 1) := by decide +kernel
theorem dX8_year_88 : decode cX8_year 88 = .ok (.invokevirtual 282, 3) := by decide +kernel
theorem dX8_year_91 : decode cX8_year 91 = .ok (.aload_n 0, 1) := by decide +kernel
theorem dX8_year_92 : decode cX8_year 92 = .ok (.getfield 69, 3) := by decide +kernel
theorem dX8_year_95 : decode cX8_year 95 = .ok (.aload_n 0, 1) := by decide +kernel
theorem dX8_year_96 : decode cX8_year 96 = .ok (.getfield 33, 3) := by decide +kernel
theorem dX8_year_99 : decode cX8_year 99 = .ok (.iconst 1, 1) := by decide +kernel
theorem dX8_year_100 : decode cX8_year 100 = .ok (.invokevirtual 175, 3) := by decide +kernel
theorem dX8_year_103 : decode cX8_year 103 = .ok (.iinc 4 1, 3) := by decide +kernel
theorem dX8_year_106 : decode cX8_year 106 = .ok (.goto (-60), 3) := by decide +kernel
theorem dX8_year_109 : decode cX8_year 109 = .ok (.iload_n 3, 1) := by decide +kernel
theorem dX8_year_110 : decode cX8_year 110 = .ok (.ifCond .ne 13, 3) := by decide +kernel
theorem dX8_year_113 : decode cX8_year 113 = .ok (.aload_n 0, 1) := by decide +kernel
theorem dX8_year_114 : decode cX8_year 114 = .ok (.getfield 33, 3) := by decide +kernel
theorem dX8_year_117 : decode cX8_year 117 = .ok (.invokevirtual 188, 3) := by decide +kernel
theorem dX8_year_120 : decode cX8_year 120 = .ok (.goto 18, 3) := by decide +kernel
theorem dX8_year_123 : decode cX8_year 123 = .ok (.aload_n 0, 1) := by decide +kernel
theorem dX8_year_124 : decode cX8_year 124 = .ok (.getfield 33, 3) := by decide +kernel
theorem dX8_year_127 : decode cX8_year 127 = .ok (.getfield 285, 3) := by decide +kernel
theorem dX8_year_130 : decode cX8_year 130 = .ok (.aload_n 0, 1) := by decide +kernel
theorem dX8_year_131 : decode cX8_year 131 = .ok (.getfield 29, 3) := by decide +kernel
theorem dX8_year_134 : decode cX8_year 134 = .ok (.getfield 285, 3) := by decide +kernel
theorem dX8_year_137 : decode cX8_year 137 = .ok (.isub, 1) := by decide +kernel
theorem dX8_year_138 : decode cX8_year 138 = .ok (.ireturn, 1) := by decide +kernel
set_option maxRecDepth 20000 in
theorem ggX8_keep_X2_push : GoodIn wsX8_keep wsX2_push := goodIn_r _ [7, 8, 9, 10, 11, 12, 13, 14, 15, 16, 17, 6, 18, 19, 20, 21, 22, 23, 24, 25, 26, 27, 28, 29, 30, 31, 32, 33, 34, 35, 36, 37, 38, 39, 40, 41, 42, 43, 44, 45, 46, 57, 58, 59, 60, 61, 62, 63, 64] (by decide +kernel) (by decide +kernel)
set_option maxRecDepth 20000 in
theorem gX8_keep_X2_push : GoodIn wsX8_keep (wsV RX8 171 RX2 yX2_push wsX2_push) := goodIn_app (goodIn_of _ (by decide +kernel)) ggX8_keep_X2_push
theorem dX8_keep_0 : decode cX8_keep 0 = .ok (.aload_n 0, 1) := by decide +kernel
theorem dX8_keep_1 : decode cX8_keep 1 = .ok (.getfield 45, 3) := by decide +kernel
theorem dX8_keep_4 : decode cX8_keep 4 = .ok (.getfield 194, 3) := by decide +kernel
theorem dX8_keep_7 : decode cX8_keep 7 = .ok (.iconst 2, 1) := by decide +kernel
theorem dX8_keep_8 : decode cX8_keep 8 = .ok (.if_icmp .lt 6, 3) := by decide +kernel
theorem dX8_keep_11 : decode cX8_keep 11 = .ok (.bipush (-3), 2) := by decide +kernel
theorem dX8_keep_13 : decode cX8_keep 13 = .ok (.ireturn, 1) := by decide +kernel
theorem dX8_keep_14 : decode cX8_keep 14 = .ok (.aload_n 0, 1) := by decide +kernel
theorem dX8_keep_15 : decode cX8_keep 15 = .ok (.getfield 45, 3) := by decide +kernel
theorem dX8_keep_18 : decode cX8_keep 18 = .ok (.aload_n 0, 1) := by decide +kernel
theorem dX8_keep_19 : decode cX8_keep 19 = .ok (.getfield 29, 3) := by decide +kernel
theorem dX8_keep_22 : decode cX8_keep 22 = .ok (.invokevirtual 171, 3) := by decide +kernel
theorem dX8_keep_25 : decode cX8_keep 25 = .ok (.aload_n 0, 1) := by decide +kernel
theorem dX8_keep_26 : decode cX8_keep 26 = .ok (.getfield 45, 3) := by decide +kernel
theorem dX8_keep_29 : decode cX8_keep 29 = .ok (.getfield 194, 3) := by decide +kernel
theorem dX8_keep_32 : decode cX8_keep 32 = .ok (.ireturn, 1) := by decide +kernel
set_option maxRecDepth 20000 in
theorem ggX8_back_X2_pop : GoodIn wsX8_back wsX2_pop := goodIn_r _ [8, 9, 10, 11, 12, 13, 14, 7, 15, 16, 17, 18, 19, 20, 21, 22, 23, 24, 25, 26, 27, 28, 29, 30, 31, 32, 33, 34, 35, 36, 37, 38, 39, 40, 41, 42, 43, 58, 59, 60, 61, 62, 63, 64, 65] (by decide +kernel) (by decide +kernel)
set_option maxRecDepth 20000 in
theorem gX8_back_X2_pop : GoodIn wsX8_back (wsV RX8 197 RX2 yX2_pop wsX2_pop) := goodIn_app (goodIn_of _ (by decide +kernel)) ggX8_back_X2_pop
set_option maxRecDepth 20000 in
theorem ggX8_back_X2_clear : GoodIn wsX8_back wsX2_clear := goodIn_r _ [47, 11, 58, 59, 60] (by decide +kernel) (by decide +kernel)
set_option maxRecDepth 20000 in
theorem gX8_back_X2_clear : GoodIn wsX8_back (wsV RX8 111 RX2 yX2_clear wsX2_clear) := goodIn_app (goodIn_of _ (by decide +kernel)) ggX8_back_X2_clear
theorem dX8_back_0 : decode cX8_back 0 = .ok (.aload_n 0, 1) := by decide +kernel
theorem dX8_back_1 : decode cX8_back 1 = .ok (.getfield 45, 3) := by decide +kernel
theorem dX8_back_4 : decode cX8_back 4 = .ok (.getfield 194, 3) := by decide +kernel
theorem dX8_back_7 : decode cX8_back 7 = .ok (.iconst 1, 1) := by decide +kernel
theorem dX8_back_8 : decode cX8_back 8 = .ok (.if_icmp .ge 6, 3) := by decide +kernel
theorem dX8_back_11 : decode cX8_back 11 = .ok (.bipush (-2), 2) := by decide +kernel
theorem dX8_back_13 : decode cX8_back 13 = .ok (.ireturn, 1) := by decide +kernel
theorem dX8_back_14 : decode cX8_back 14 = .ok (.aload_n 0, 1) := by decide +kernel
theorem dX8_back_15 : decode cX8_back 15 = .ok (.getfield 45, 3) := by decide +kernel
theorem dX8_back_18 : decode cX8_back 18 = .ok (.aload_n 0, 1) := by decide +kernel
theorem dX8_back_19 : decode cX8_back 19 = .ok (.getfield 29, 3) := by decide +kernel
theorem dX8_back_22 : decode cX8_back 22 = .ok (.invokevirtual 197, 3) := by decide +kernel
theorem dX8_back_25 : decode cX8_back 25 = .ok (.aload_n 0, 1) := by decide +kernel
theorem dX8_back_26 : decode cX8_back 26 = .ok (.getfield 41, 3) := by decide +kernel
theorem dX8_back_29 : decode cX8_back 29 = .ok (.invokevirtual 111, 3) := by decide +kernel
theorem dX8_back_32 : decode cX8_back 32 = .ok (.aload_n 0, 1) := by decide +kernel
theorem dX8_back_33 : decode cX8_back 33 = .ok (.getfield 45, 3) := by decide +kernel
theorem dX8_back_36 : decode cX8_back 36 = .ok (.getfield 194, 3) := by decide +kernel
theorem dX8_back_39 : decode cX8_back 39 = .ok (.ireturn, 1) := by decide +kernel
set_option maxRecDepth 20000 in
theorem ggX8_count_X7_total : GoodIn wsX8_count wsX7_total := goodIn_r _ [11, 12, 13, 14, 15, 16, 17, 18, 19, 20, 21, 22, 65] (by decide +kernel) (by decide +kernel)
set_option maxRecDepth 20000 in
theorem gX8_count_X7_total : GoodIn wsX8_count (wsV RX8 288 RX7 yX7_total wsX7_total) := goodIn_app (goodIn_of _ (by decide +kernel)) ggX8_count_X7_total
set_option maxRecDepth 20000 in
theorem ggX8_count_X5_lodgings : GoodIn wsX8_count wsX5_lodgings := goodIn_r _ [27, 28, 29, 14, 30, 50, 51, 52, 53] (by decide +kernel) (by decide +kernel)
set_option maxRecDepth 20000 in
theorem gX8_count_X5_lodgings : GoodIn wsX8_count (wsV RX8 188 RX5 yX5_lodgings wsX5_lodgings) := goodIn_app (goodIn_of _ (by decide +kernel)) ggX8_count_X5_lodgings
theorem dX8_count_0 : decode cX8_count 0 = .ok (.iload_n 1, 1) := by decide +kernel
theorem dX8_count_1 : decode cX8_count 1 = .ok (.tableswitch 150 0 10 #[59, 67, 75, 86, 94, 102, 110, 118, 126, 134, 142], 59) := by decide +kernel
theorem dX8_count_60 : decode cX8_count 60 = .ok (.aload_n 0, 1) := by decide +kernel
theorem dX8_count_61 : decode cX8_count 61 = .ok (.getfield 19, 3) := by decide +kernel
theorem dX8_count_64 : decode cX8_count 64 = .ok (.getfield 105, 3) := by decide +kernel
theorem dX8_count_67 : decode cX8_count 67 = .ok (.ireturn, 1) := by decide +kernel
theorem dX8_count_68 : decode cX8_count 68 = .ok (.aload_n 0, 1) := by decide +kernel
theorem dX8_count_69 : decode cX8_count 69 = .ok (.getfield 19, 3) := by decide +kernel
theorem dX8_count_72 : decode cX8_count 72 = .ok (.getfield 108, 3) := by decide +kernel
theorem dX8_count_75 : decode cX8_count 75 = .ok (.ireturn, 1) := by decide +kernel
theorem dX8_count_76 : decode cX8_count 76 = .ok (.aload_n 0, 1) := by decide +kernel
theorem dX8_count_77 : decode cX8_count 77 = .ok (.getfield 29, 3) := by decide +kernel
theorem dX8_count_80 : decode cX8_count 80 = .ok (.getfield 162, 3) := by decide +kernel
theorem dX8_count_83 : decode cX8_count 83 = .ok (.invokevirtual 288, 3) := by decide +kernel
theorem dX8_count_86 : decode cX8_count 86 = .ok (.ireturn, 1) := by decide +kernel
theorem dX8_count_87 : decode cX8_count 87 = .ok (.aload_n 0, 1) := by decide +kernel
theorem dX8_count_88 : decode cX8_count 88 = .ok (.getfield 29, 3) := by decide +kernel
theorem dX8_count_91 : decode cX8_count 91 = .ok (.invokevirtual 188, 3) := by decide +kernel
theorem dX8_count_94 : decode cX8_count 94 = .ok (.ireturn, 1) := by decide +kernel
theorem dX8_count_95 : decode cX8_count 95 = .ok (.aload_n 0, 1) := by decide +kernel
theorem dX8_count_96 : decode cX8_count 96 = .ok (.getfield 29, 3) := by decide +kernel
theorem dX8_count_99 : decode cX8_count 99 = .ok (.getfield 178, 3) := by decide +kernel
theorem dX8_count_102 : decode cX8_count 102 = .ok (.ireturn, 1) := by decide +kernel
theorem dX8_count_103 : decode cX8_count 103 = .ok (.aload_n 0, 1) := by decide +kernel
theorem dX8_count_104 : decode cX8_count 104 = .ok (.getfield 29, 3) := by decide +kernel
theorem dX8_count_107 : decode cX8_count 107 = .ok (.getfield 285, 3) := by decide +kernel
theorem dX8_count_110 : decode cX8_count 110 = .ok (.ireturn, 1) := by decide +kernel
theorem dX8_count_111 : decode cX8_count 111 = .ok (.aload_n 0, 1) := by decide +kernel
theorem dX8_count_112 : decode cX8_count 112 = .ok (.getfield 19, 3) := by decide +kernel
theorem dX8_count_115 : decode cX8_count 115 = .ok (.getfield 291, 3) := by decide +kernel
theorem dX8_count_118 : decode cX8_count 118 = .ok (.ireturn, 1) := by decide +kernel
theorem dX8_count_119 : decode cX8_count 119 = .ok (.aload_n 0, 1) := by decide +kernel
theorem dX8_count_120 : decode cX8_count 120 = .ok (.getfield 51, 3) := by decide +kernel
theorem dX8_count_123 : decode cX8_count 123 = .ok (.getfield 229, 3) := by decide +kernel
theorem dX8_count_126 : decode cX8_count 126 = .ok (.ireturn, 1) := by decide +kernel
theorem dX8_count_127 : decode cX8_count 127 = .ok (.aload_n 0, 1) := by decide +kernel
theorem dX8_count_128 : decode cX8_count 128 = .ok (.getfield 41, 3) := by decide +kernel
theorem dX8_count_131 : decode cX8_count 131 = .ok (.getfield 194, 3) := by decide +kernel
theorem dX8_count_134 : decode cX8_count 134 = .ok (.ireturn, 1) := by decide +kernel
theorem dX8_count_135 : decode cX8_count 135 = .ok (.aload_n 0, 1) := by decide +kernel
theorem dX8_count_136 : decode cX8_count 136 = .ok (.getfield 45, 3) := by decide +kernel
theorem dX8_count_139 : decode cX8_count 139 = .ok (.getfield 194, 3) := by decide +kernel
theorem dX8_count_142 : decode cX8_count 142 = .ok (.ireturn, 1) := by decide +kernel
theorem dX8_count_143 : decode cX8_count 143 = .ok (.aload_n 0, 1) := by decide +kernel
theorem dX8_count_144 : decode cX8_count 144 = .ok (.getfield 10, 3) := by decide +kernel
theorem dX8_count_147 : decode cX8_count 147 = .ok (.getfield 102, 3) := by decide +kernel
theorem dX8_count_150 : decode cX8_count 150 = .ok (.ireturn, 1) := by decide +kernel
theorem dX8_count_151 : decode cX8_count 151 = .ok (.iconst (-1), 1) := by decide +kernel
theorem dX8_count_152 : decode cX8_count 152 = .ok (.ireturn, 1) := by decide +kernel
set_option maxRecDepth 20000 in
theorem ggX8_isPerson_X8_within : GoodIn wsX8_isPerson wsX8_within := goodIn_r _ [5] (by decide +kernel) (by decide +kernel)
set_option maxRecDepth 20000 in
theorem gX8_isPerson_X8_within : GoodIn wsX8_isPerson (va_wsS RX8 98 yX8_within wsX8_within) := goodIn_app (goodIn_of _ (by decide +kernel)) ggX8_isPerson_X8_within
theorem dX8_isPerson_0 : decode cX8_isPerson 0 = .ok (.iload_n 1, 1) := by decide +kernel
theorem dX8_isPerson_1 : decode cX8_isPerson 1 = .ok (.iconst 0, 1) := by decide +kernel
theorem dX8_isPerson_2 : decode cX8_isPerson 2 = .ok (.aload_n 0, 1) := by decide +kernel
theorem dX8_isPerson_3 : decode cX8_isPerson 3 = .ok (.getfield 19, 3) := by decide +kernel
theorem dX8_isPerson_6 : decode cX8_isPerson 6 = .ok (.getfield 105, 3) := by decide +kernel
theorem dX8_isPerson_9 : decode cX8_isPerson 9 = .ok (.iconst 1, 1) := by decide +kernel
theorem dX8_isPerson_10 : decode cX8_isPerson 10 = .ok (.isub, 1) := by decide +kernel
theorem dX8_isPerson_11 : decode cX8_isPerson 11 = .ok (.invokestatic 98, 3) := by decide +kernel
theorem dX8_isPerson_14 : decode cX8_isPerson 14 = .ok (.ireturn, 1) := by decide +kernel
set_option maxRecDepth 20000 in
theorem ggX8_isName_X8_within : GoodIn wsX8_isName wsX8_within := goodIn_r _ [5] (by decide +kernel) (by decide +kernel)
set_option maxRecDepth 20000 in
theorem gX8_isName_X8_within : GoodIn wsX8_isName (va_wsS RX8 98 yX8_within wsX8_within) := goodIn_app (goodIn_of _ (by decide +kernel)) ggX8_isName_X8_within
theorem dX8_isName_0 : decode cX8_isName 0 = .ok (.iload_n 1, 1) := by decide +kernel
theorem dX8_isName_1 : decode cX8_isName 1 = .ok (.iconst 0, 1) := by decide +kernel
theorem dX8_isName_2 : decode cX8_isName 2 = .ok (.aload_n 0, 1) := by decide +kernel
theorem dX8_isName_3 : decode cX8_isName 3 = .ok (.getfield 19, 3) := by decide +kernel
theorem dX8_isName_6 : decode cX8_isName 6 = .ok (.getfield 108, 3) := by decide +kernel
theorem dX8_isName_9 : decode cX8_isName 9 = .ok (.iconst 1, 1) := by decide +kernel
theorem dX8_isName_10 : decode cX8_isName 10 = .ok (.isub, 1) := by decide +kernel
theorem dX8_isName_11 : decode cX8_isName 11 = .ok (.invokestatic 98, 3) := by decide +kernel
theorem dX8_isName_14 : decode cX8_isName 14 = .ok (.ireturn, 1) := by decide +kernel
set_option maxRecDepth 20000 in
theorem ggX8_isLodging_X8_isPerson : GoodIn wsX8_isLodging wsX8_isPerson := goodIn_r _ [5, 6, 7, 8, 4, 9, 14, 15, 16, 17, 18, 19, 20, 21, 22, 23, 24, 25, 26, 27, 28, 29, 30, 31, 32] (by decide +kernel) (by decide +kernel)
set_option maxRecDepth 20000 in
theorem gX8_isLodging_X8_isPerson : GoodIn wsX8_isLodging (wsV RX8 113 RX8 yX8_isPerson wsX8_isPerson) := goodIn_app (goodIn_of _ (by decide +kernel)) ggX8_isLodging_X8_isPerson
set_option maxRecDepth 20000 in
theorem ggX8_isLodging_X8_isName : GoodIn wsX8_isLodging wsX8_isName := goodIn_r _ [13, 6, 7, 8, 4, 9, 14, 15, 16, 17, 18, 19, 20, 21, 22, 23, 24, 25, 26, 27, 28, 29, 30, 31, 32] (by decide +kernel) (by decide +kernel)
set_option maxRecDepth 20000 in
theorem gX8_isLodging_X8_isName : GoodIn wsX8_isLodging (wsV RX8 141 RX8 yX8_isName wsX8_isName) := goodIn_app (goodIn_of _ (by decide +kernel)) ggX8_isLodging_X8_isName
theorem dX8_isLodging_0 : decode cX8_isLodging 0 = .ok (.aload_n 0, 1) := by decide +kernel
theorem dX8_isLodging_1 : decode cX8_isLodging 1 = .ok (.iload_n 1, 1) := by decide +kernel
theorem dX8_isLodging_2 : decode cX8_isLodging 2 = .ok (.invokevirtual 113, 3) := by decide +kernel
theorem dX8_isLodging_5 : decode cX8_isLodging 5 = .ok (.ifCond .eq 15, 3) := by decide +kernel
theorem dX8_isLodging_8 : decode cX8_isLodging 8 = .ok (.aload_n 0, 1) := by decide +kernel
theorem dX8_isLodging_9 : decode cX8_isLodging 9 = .ok (.iload_n 2, 1) := by decide +kernel
theorem dX8_isLodging_10 : decode cX8_isLodging 10 = .ok (.invokevirtual 141, 3) := by decide +kernel
theorem dX8_isLodging_13 : decode cX8_isLodging 13 = .ok (.ifCond .eq 7, 3) := by decide +kernel
theorem dX8_isLodging_16 : decode cX8_isLodging 16 = .ok (.iconst 1, 1) := by decide +kernel
theorem dX8_isLodging_17 : decode cX8_isLodging 17 = .ok (.goto 4, 3) := by decide +kernel
theorem dX8_isLodging_20 : decode cX8_isLodging 20 = .ok (.iconst 0, 1) := by decide +kernel
theorem dX8_isLodging_21 : decode cX8_isLodging 21 = .ok (.ireturn, 1) := by decide +kernel
set_option maxRecDepth 20000 in
theorem ggX8_isPair_X8_isPerson : GoodIn wsX8_isPair wsX8_isPerson := goodIn_r _ [5, 6, 7, 8, 4, 9, 10, 11, 12, 13, 14, 15, 16, 17, 18, 19, 20, 21, 22, 23, 24, 25, 26, 27, 28] (by decide +kernel) (by decide +kernel)
set_option maxRecDepth 20000 in
theorem gX8_isPair_X8_isPerson : GoodIn wsX8_isPair (wsV RX8 113 RX8 yX8_isPerson wsX8_isPerson) := goodIn_app (goodIn_of _ (by decide +kernel)) ggX8_isPair_X8_isPerson
theorem dX8_isPair_0 : decode cX8_isPair 0 = .ok (.aload_n 0, 1) := by decide +kernel
theorem dX8_isPair_1 : decode cX8_isPair 1 = .ok (.iload_n 1, 1) := by decide +kernel
theorem dX8_isPair_2 : decode cX8_isPair 2 = .ok (.invokevirtual 113, 3) := by decide +kernel
theorem dX8_isPair_5 : decode cX8_isPair 5 = .ok (.ifCond .eq 20, 3) := by decide +kernel
theorem dX8_isPair_8 : decode cX8_isPair 8 = .ok (.aload_n 0, 1) := by decide +kernel
theorem dX8_isPair_9 : decode cX8_isPair 9 = .ok (.iload_n 2, 1) := by decide +kernel
theorem dX8_isPair_10 : decode cX8_isPair 10 = .ok (.invokevirtual 113, 3) := by decide +kernel
theorem dX8_isPair_13 : decode cX8_isPair 13 = .ok (.ifCond .eq 12, 3) := by decide +kernel
theorem dX8_isPair_16 : decode cX8_isPair 16 = .ok (.iload_n 1, 1) := by decide +kernel
theorem dX8_isPair_17 : decode cX8_isPair 17 = .ok (.iload_n 2, 1) := by decide +kernel
theorem dX8_isPair_18 : decode cX8_isPair 18 = .ok (.if_icmp .eq 7, 3) := by decide +kernel
theorem dX8_isPair_21 : decode cX8_isPair 21 = .ok (.iconst 1, 1) := by decide +kernel
theorem dX8_isPair_22 : decode cX8_isPair 22 = .ok (.goto 4, 3) := by decide +kernel
theorem dX8_isPair_25 : decode cX8_isPair 25 = .ok (.iconst 0, 1) := by decide +kernel
theorem dX8_isPair_26 : decode cX8_isPair 26 = .ok (.ireturn, 1) := by decide +kernel
set_option maxRecDepth 20000 in
theorem ggX8_isWord_X8_isPair : GoodIn wsX8_isWord wsX8_isPair := goodIn_r _ [5, 6, 7, 8, 4, 9, 10, 11, 12, 13, 18, 19, 20, 21, 22, 23, 24, 25, 26, 27, 28, 29, 30, 31, 32, 33, 34, 35, 36] (by decide +kernel) (by decide +kernel)
set_option maxRecDepth 20000 in
theorem gX8_isWord_X8_isPair : GoodIn wsX8_isWord (wsV RX8 223 RX8 yX8_isPair wsX8_isPair) := goodIn_app (goodIn_of _ (by decide +kernel)) ggX8_isWord_X8_isPair
set_option maxRecDepth 20000 in
theorem ggX8_isWord_X8_isName : GoodIn wsX8_isWord wsX8_isName := goodIn_r _ [17, 10, 11, 12, 4, 13, 18, 19, 20, 21, 22, 23, 24, 25, 26, 27, 28, 29, 30, 31, 32, 33, 34, 35, 36] (by decide +kernel) (by decide +kernel)
set_option maxRecDepth 20000 in
theorem gX8_isWord_X8_isName : GoodIn wsX8_isWord (wsV RX8 141 RX8 yX8_isName wsX8_isName) := goodIn_app (goodIn_of _ (by decide +kernel)) ggX8_isWord_X8_isName
theorem dX8_isWord_0 : decode cX8_isWord 0 = .ok (.aload_n 0, 1) := by decide +kernel
theorem dX8_isWord_1 : decode cX8_isWord 1 = .ok (.iload_n 1, 1) := by decide +kernel
theorem dX8_isWord_2 : decode cX8_isWord 2 = .ok (.iload_n 2, 1) := by decide +kernel
theorem dX8_isWord_3 : decode cX8_isWord 3 = .ok (.invokevirtual 223, 3) := by decide +kernel
theorem dX8_isWord_6 : decode cX8_isWord 6 = .ok (.ifCond .eq 15, 3) := by decide +kernel
theorem dX8_isWord_9 : decode cX8_isWord 9 = .ok (.aload_n 0, 1) := by decide +kernel
theorem dX8_isWord_10 : decode cX8_isWord 10 = .ok (.iload_n 3, 1) := by decide +kernel
theorem dX8_isWord_11 : decode cX8_isWord 11 = .ok (.invokevirtual 141, 3) := by decide +kernel
theorem dX8_isWord_14 : decode cX8_isWord 14 = .ok (.ifCond .eq 7, 3) := by decide +kernel
theorem dX8_isWord_17 : decode cX8_isWord 17 = .ok (.iconst 1, 1) := by decide +kernel
theorem dX8_isWord_18 : decode cX8_isWord 18 = .ok (.goto 4, 3) := by decide +kernel
theorem dX8_isWord_21 : decode cX8_isWord 21 = .ok (.iconst 0, 1) := by decide +kernel
theorem dX8_isWord_22 : decode cX8_isWord 22 = .ok (.ireturn, 1) := by decide +kernel
theorem dX8_within_0 : decode cX8_within 0 = .ok (.iload_n 1, 1) := by decide +kernel
theorem dX8_within_1 : decode cX8_within 1 = .ok (.iload_n 0, 1) := by decide +kernel
theorem dX8_within_2 : decode cX8_within 2 = .ok (.if_icmp .gt 12, 3) := by decide +kernel
theorem dX8_within_5 : decode cX8_within 5 = .ok (.iload_n 0, 1) := by decide +kernel
theorem dX8_within_6 : decode cX8_within 6 = .ok (.iload_n 2, 1) := by decide +kernel
theorem dX8_within_7 : decode cX8_within 7 = .ok (.if_icmp .gt 7, 3) := by decide +kernel
theorem dX8_within_10 : decode cX8_within 10 = .ok (.iconst 1, 1) := by decide +kernel
theorem dX8_within_11 : decode cX8_within 11 = .ok (.goto 4, 3) := by decide +kernel
theorem dX8_within_14 : decode cX8_within 14 = .ok (.iconst 0, 1) := by decide +kernel
theorem dX8_within_15 : decode cX8_within 15 = .ok (.ireturn, 1) := by decide +kernel
theorem dX8_at_0 : decode cX8_at 0 = .ok (.aload_n 0, 1) := by decide +kernel
theorem dX8_at_1 : decode cX8_at 1 = .ok (.ifnull 19, 3) := by decide +kernel
theorem dX8_at_4 : decode cX8_at 4 = .ok (.iload_n 1, 1) := by decide +kernel
theorem dX8_at_5 : decode cX8_at 5 = .ok (.ifCond .lt 15, 3) := by decide +kernel
theorem dX8_at_8 : decode cX8_at 8 = .ok (.iload_n 1, 1) := by decide +kernel
theorem dX8_at_9 : decode cX8_at 9 = .ok (.aload_n 0, 1) := by decide +kernel
theorem dX8_at_10 : decode cX8_at 10 = .ok (.arraylength, 1) := by decide +kernel
theorem dX8_at_11 : decode cX8_at 11 = .ok (.if_icmp .ge 9, 3) := by decide +kernel
theorem dX8_at_14 : decode cX8_at 14 = .ok (.aload_n 0, 1) := by decide +kernel
theorem dX8_at_15 : decode cX8_at 15 = .ok (.iload_n 1, 1) := by decide +kernel
theorem dX8_at_16 : decode cX8_at 16 = .ok (.iaload, 1) := by decide +kernel
theorem dX8_at_17 : decode cX8_at 17 = .ok (.goto 4, 3) := by decide +kernel
theorem dX8_at_20 : decode cX8_at 20 = .ok (.iconst 0, 1) := by decide +kernel
theorem dX8_at_21 : decode cX8_at 21 = .ok (.ireturn, 1) := by decide +kernel
theorem dX8_at__0 : decode cX8_at_ 0 = .ok (.aload_n 0, 1) := by decide +kernel
theorem dX8_at__1 : decode cX8_at_ 1 = .ok (.ifnull 19, 3) := by decide +kernel
theorem dX8_at__4 : decode cX8_at_ 4 = .ok (.iload_n 1, 1) := by decide +kernel
theorem dX8_at__5 : decode cX8_at_ 5 = .ok (.ifCond .lt 15, 3) := by decide +kernel
theorem dX8_at__8 : decode cX8_at_ 8 = .ok (.iload_n 1, 1) := by decide +kernel
theorem dX8_at__9 : decode cX8_at_ 9 = .ok (.aload_n 0, 1) := by decide +kernel
theorem dX8_at__10 : decode cX8_at_ 10 = .ok (.arraylength, 1) := by decide +kernel
theorem dX8_at__11 : decode cX8_at_ 11 = .ok (.if_icmp .ge 9, 3) := by decide +kernel
theorem dX8_at__14 : decode cX8_at_ 14 = .ok (.aload_n 0, 1) := by decide +kernel
theorem dX8_at__15 : decode cX8_at_ 15 = .ok (.iload_n 1, 1) := by decide +kernel
theorem dX8_at__16 : decode cX8_at_ 16 = .ok (.laload, 1) := by decide +kernel
theorem dX8_at__17 : decode cX8_at_ 17 = .ok (.goto 4, 3) := by decide +kernel
theorem dX8_at__20 : decode cX8_at_ 20 = .ok (.lconst 0, 1) := by decide +kernel
theorem dX8_at__21 : decode cX8_at_ 21 = .ok (.lreturn, 1) := by decide +kernel
theorem dX8_put_0 : decode cX8_put 0 = .ok (.aload_n 0, 1) := by decide +kernel
theorem dX8_put_1 : decode cX8_put 1 = .ok (.ifnull 17, 3) := by decide +kernel
theorem dX8_put_4 : decode cX8_put 4 = .ok (.iload_n 1, 1) := by decide +kernel
theorem dX8_put_5 : decode cX8_put 5 = .ok (.ifCond .lt 13, 3) := by decide +kernel
theorem dX8_put_8 : decode cX8_put 8 = .ok (.iload_n 1, 1) := by decide +kernel
theorem dX8_put_9 : decode cX8_put 9 = .ok (.aload_n 0, 1) := by decide +kernel
theorem dX8_put_10 : decode cX8_put 10 = .ok (.arraylength, 1) := by decide +kernel
theorem dX8_put_11 : decode cX8_put 11 = .ok (.if_icmp .ge 7, 3) := by decide +kernel
theorem dX8_put_14 : decode cX8_put 14 = .ok (.aload_n 0, 1) := by decide +kernel
theorem dX8_put_15 : decode cX8_put 15 = .ok (.iload_n 1, 1) := by decide +kernel
theorem dX8_put_16 : decode cX8_put 16 = .ok (.iload_n 2, 1) := by decide +kernel
theorem dX8_put_17 : decode cX8_put 17 = .ok (.iastore, 1) := by decide +kernel
theorem dX8_put_18 : decode cX8_put 18 = .ok (.return_, 1) := by decide +kernel
theorem dX8_put__0 : decode cX8_put_ 0 = .ok (.aload_n 0, 1) := by decide +kernel
theorem dX8_put__1 : decode cX8_put_ 1 = .ok (.ifnull 17, 3) := by decide +kernel
theorem dX8_put__4 : decode cX8_put_ 4 = .ok (.iload_n 1, 1) := by decide +kernel
theorem dX8_put__5 : decode cX8_put_ 5 = .ok (.ifCond .lt 13, 3) := by decide +kernel
theorem dX8_put__8 : decode cX8_put_ 8 = .ok (.iload_n 1, 1) := by decide +kernel
theorem dX8_put__9 : decode cX8_put_ 9 = .ok (.aload_n 0, 1) := by decide +kernel
theorem dX8_put__10 : decode cX8_put_ 10 = .ok (.arraylength, 1) := by decide +kernel
theorem dX8_put__11 : decode cX8_put_ 11 = .ok (.if_icmp .ge 7, 3) := by decide +kernel
theorem dX8_put__14 : decode cX8_put_ 14 = .ok (.aload_n 0, 1) := by decide +kernel
theorem dX8_put__15 : decode cX8_put_ 15 = .ok (.iload_n 1, 1) := by decide +kernel
theorem dX8_put__16 : decode cX8_put_ 16 = .ok (.lload_n 2, 1) := by decide +kernel
theorem dX8_put__17 : decode cX8_put_ 17 = .ok (.lastore, 1) := by decide +kernel
theorem dX8_put__18 : decode cX8_put_ 18 = .ok (.return_, 1) := by decide +kernel
theorem dX8_power_0 : decode cX8_power 0 = .ok (.lconst 1, 1) := by decide +kernel
theorem dX8_power_1 : decode cX8_power 1 = .ok (.lstore_n 3, 1) := by decide +kernel
theorem dX8_power_2 : decode cX8_power 2 = .ok (.iconst 0, 1) := by decide +kernel
theorem dX8_power_3 : decode cX8_power 3 = .ok (.istore 5, 2) := by decide +kernel
theorem dX8_power_5 : decode cX8_power 5 = .ok (.iload 5, 2) := by decide +kernel
theorem dX8_power_7 : decode cX8_power 7 = .ok (.iload_n 2, 1) := by decide +kernel
theorem dX8_power_8 : decode cX8_power 8 = .ok (.if_icmp .ge 13, 3) := by decide +kernel
theorem dX8_power_11 : decode cX8_power 11 = .ok (.lload_n 3, 1) := by decide +kernel
theorem dX8_power_12 : decode cX8_power 12 = .ok (.lload_n 0, 1) := by decide +kernel
theorem dX8_power_13 : decode cX8_power 13 = .ok (.lmul, 1) := by decide +kernel
theorem dX8_power_14 : decode cX8_power 14 = .ok (.lstore_n 3, 1) := by decide +kernel
theorem dX8_power_15 : decode cX8_power 15 = .ok (.iinc 5 1, 3) := by decide +kernel
theorem dX8_power_18 : decode cX8_power 18 = .ok (.goto (-13), 3) := by decide +kernel
theorem dX8_power_21 : decode cX8_power 21 = .ok (.lload_n 3, 1) := by decide +kernel
theorem dX8_power_22 : decode cX8_power 22 = .ok (.lreturn, 1) := by decide +kernel
theorem dX8_greatestShared_0 : decode cX8_greatestShared 0 = .ok (.lload_n 0, 1) := by decide +kernel
theorem dX8_greatestShared_1 : decode cX8_greatestShared 1 = .ok (.lstore 4, 2) := by decide +kernel
theorem dX8_greatestShared_3 : decode cX8_greatestShared 3 = .ok (.lload_n 2, 1) := by decide +kernel
theorem dX8_greatestShared_4 : decode cX8_greatestShared 4 = .ok (.lstore 6, 2) := by decide +kernel
theorem dX8_greatestShared_6 : decode cX8_greatestShared 6 = .ok (.iconst 0, 1) := by decide +kernel
theorem dX8_greatestShared_7 : decode cX8_greatestShared 7 = .ok (.istore 8, 2) := by decide +kernel
theorem dX8_greatestShared_9 : decode cX8_greatestShared 9 = .ok (.iload 8, 2) := by decide +kernel
theorem dX8_greatestShared_11 : decode cX8_greatestShared 11 = .ok (.sipush 1000, 3) := by decide +kernel
theorem dX8_greatestShared_14 : decode cX8_greatestShared 14 = .ok (.if_icmp .ge 31, 3) := by decide +kernel
theorem dX8_greatestShared_17 : decode cX8_greatestShared 17 = .ok (.lload 6, 2) := by decide +kernel
theorem dX8_greatestShared_19 : decode cX8_greatestShared 19 = .ok (.lconst 0, 1) := by decide +kernel
theorem dX8_greatestShared_20 : decode cX8_greatestShared 20 = .ok (.lcmp, 1) := by decide +kernel
theorem dX8_greatestShared_21 : decode cX8_greatestShared 21 = .ok (.ifCond .eq 24, 3) := by decide +kernel
theorem dX8_greatestShared_24 : decode cX8_greatestShared 24 = .ok (.lload 4, 2) := by decide +kernel
theorem dX8_greatestShared_26 : decode cX8_greatestShared 26 = .ok (.lload 6, 2) := by decide +kernel
theorem dX8_greatestShared_28 : decode cX8_greatestShared 28 = .ok (.lrem, 1) := by decide +kernel
theorem dX8_greatestShared_29 : decode cX8_greatestShared 29 = .ok (.lstore 9, 2) := by decide +kernel
theorem dX8_greatestShared_31 : decode cX8_greatestShared 31 = .ok (.lload 6, 2) := by decide +kernel
theorem dX8_greatestShared_33 : decode cX8_greatestShared 33 = .ok (.lstore 4, 2) := by decide +kernel
theorem dX8_greatestShared_35 : decode cX8_greatestShared 35 = .ok (.lload 9, 2) := by decide +kernel
theorem dX8_greatestShared_37 : decode cX8_greatestShared 37 = .ok (.lstore 6, 2) := by decide +kernel
theorem dX8_greatestShared_39 : decode cX8_greatestShared 39 = .ok (.iinc 8 1, 3) := by decide +kernel
theorem dX8_greatestShared_42 : decode cX8_greatestShared 42 = .ok (.goto (-33), 3) := by decide +kernel
theorem dX8_greatestShared_45 : decode cX8_greatestShared 45 = .ok (.lload 4, 2) := by decide +kernel
theorem dX8_greatestShared_47 : decode cX8_greatestShared 47 = .ok (.lreturn, 1) := by decide +kernel
set_option maxRecDepth 20000 in
theorem ggX9_init_X9_begins : GoodIn wsX9_init wsX9_begins := goodIn_r _ [21, 7, 8, 22, 45, 46, 47, 48, 49, 50, 51, 52, 53, 54, 55, 56, 57, 58, 59, 60, 61, 62, 63] (by decide +kernel) (by decide +kernel)
set_option maxRecDepth 20000 in
theorem gX9_init_X9_begins : GoodIn wsX9_init (wsV RX9 46 RX9 yX9_begins wsX9_begins) := goodIn_app (goodIn_of _ (by decide +kernel)) ggX9_init_X9_begins
set_option maxRecDepth 20000 in
theorem ggX9_init_X9_personOf : GoodIn wsX9_init wsX9_personOf := goodIn_r _ [26, 7, 45, 46, 47, 48, 49, 50, 51, 52, 53, 54, 55, 56, 57, 58, 59, 60, 61, 62, 63] (by decide +kernel) (by decide +kernel)
set_option maxRecDepth 20000 in
theorem gX9_init_X9_personOf : GoodIn wsX9_init (wsV RX9 49 RX9 yX9_personOf wsX9_personOf) := goodIn_app (goodIn_of _ (by decide +kernel)) ggX9_init_X9_personOf
set_option maxRecDepth 20000 in
theorem ggX9_init_X9_nameOf : GoodIn wsX9_init wsX9_nameOf := goodIn_r _ [30, 7, 45, 46, 47, 48, 49, 50, 51, 52, 53, 54, 55, 56, 57, 58, 59, 60, 61, 62, 63] (by decide +kernel) (by decide +kernel)
set_option maxRecDepth 20000 in
theorem gX9_init_X9_nameOf : GoodIn wsX9_init (wsV RX9 53 RX9 yX9_nameOf wsX9_nameOf) := goodIn_app (goodIn_of _ (by decide +kernel)) ggX9_init_X9_nameOf
set_option maxRecDepth 20000 in
theorem ggX9_init_X9_wordOf : GoodIn wsX9_init wsX9_wordOf := goodIn_r _ [34, 8, 22, 45, 46, 47, 48, 49, 50, 51, 52, 53, 54, 55, 56, 57, 58, 59, 60, 61, 62, 63] (by decide +kernel) (by decide +kernel)
set_option maxRecDepth 20000 in
theorem gX9_init_X9_wordOf : GoodIn wsX9_init (wsV RX9 57 RX9 yX9_wordOf wsX9_wordOf) := goodIn_app (goodIn_of _ (by decide +kernel)) ggX9_init_X9_wordOf
set_option maxRecDepth 20000 in
theorem ggX9_init_X9_lays : GoodIn wsX9_init wsX9_lays := goodIn_r _ [38, 6, 7, 9, 8, 39, 40, 41, 42, 43, 20, 44, 45, 46, 47, 48, 49, 50, 51, 52, 53, 54, 55, 56, 57, 58, 59, 60, 61, 62, 63] (by decide +kernel) (by decide +kernel)
set_option maxRecDepth 20000 in
theorem gX9_init_X9_lays : GoodIn wsX9_init (wsV RX9 60 RX9 yX9_lays wsX9_lays) := goodIn_app (goodIn_of _ (by decide +kernel)) ggX9_init_X9_lays
theorem dX9_init_0 : decode cX9_init 0 = .ok (.aload_n 0, 1) := by decide +kernel
theorem dX9_init_1 : decode cX9_init 1 = .ok (.invokespecial 1, 3) := by decide +kernel
theorem dX9_init_4 : decode cX9_init 4 = .ok (.aload_n 0, 1) := by decide +kernel
theorem dX9_init_5 : decode cX9_init 5 = .ok (.sipush 200, 3) := by decide +kernel
theorem dX9_init_8 : decode cX9_init 8 = .ok (.newarray .int, 2) := by decide +kernel
theorem dX9_init_10 : decode cX9_init 10 = .ok (.putfield 7, 3) := by decide +kernel
theorem dX9_init_13 : decode cX9_init 13 = .ok (.aload_n 0, 1) := by decide +kernel
theorem dX9_init_14 : decode cX9_init 14 = .ok (.bipush 37, 2) := by decide +kernel
theorem dX9_init_16 : decode cX9_init 16 = .ok (.newarray .int, 2) := by decide +kernel
theorem dX9_init_18 : decode cX9_init 18 = .ok (.putfield 13, 3) := by decide +kernel
theorem dX9_init_21 : decode cX9_init 21 = .ok (.aload_n 0, 1) := by decide +kernel
theorem dX9_init_22 : decode cX9_init 22 = .ok (.bipush 37, 2) := by decide +kernel
theorem dX9_init_24 : decode cX9_init 24 = .ok (.newarray .int, 2) := by decide +kernel
theorem dX9_init_26 : decode cX9_init 26 = .ok (.putfield 16, 3) := by decide +kernel
theorem dX9_init_29 : decode cX9_init 29 = .ok (.aload_n 0, 1) := by decide +kernel
theorem dX9_init_30 : decode cX9_init 30 = .ok (.bipush 36, 2) := by decide +kernel
theorem dX9_init_32 : decode cX9_init 32 = .ok (.newarray .int, 2) := by decide +kernel
theorem dX9_init_34 : decode cX9_init 34 = .ok (.putfield 19, 3) := by decide +kernel
theorem dX9_init_37 : decode cX9_init 37 = .ok (.aload_n 0, 1) := by decide +kernel
theorem dX9_init_38 : decode cX9_init 38 = .ok (.bipush 86, 2) := by decide +kernel
theorem dX9_init_40 : decode cX9_init 40 = .ok (.newarray .int, 2) := by decide +kernel
theorem dX9_init_42 : decode cX9_init 42 = .ok (.putfield 22, 3) := by decide +kernel
theorem dX9_init_45 : decode cX9_init 45 = .ok (.aload_n 0, 1) := by decide +kernel
theorem dX9_init_46 : decode cX9_init 46 = .ok (.sipush 688, 3) := by decide +kernel
theorem dX9_init_49 : decode cX9_init 49 = .ok (.newarray .int, 2) := by decide +kernel
theorem dX9_init_51 : decode cX9_init 51 = .ok (.putfield 25, 3) := by decide +kernel
theorem dX9_init_54 : decode cX9_init 54 = .ok (.aload_n 0, 1) := by decide +kernel
theorem dX9_init_55 : decode cX9_init 55 = .ok (.sipush 172, 3) := by decide +kernel
theorem dX9_init_58 : decode cX9_init 58 = .ok (.newarray .int, 2) := by decide +kernel
theorem dX9_init_60 : decode cX9_init 60 = .ok (.putfield 28, 3) := by decide +kernel
theorem dX9_init_63 : decode cX9_init 63 = .ok (.aload_n 0, 1) := by decide +kernel
theorem dX9_init_64 : decode cX9_init 64 = .ok (.bipush 6, 2) := by decide +kernel
theorem dX9_init_66 : decode cX9_init 66 = .ok (.newarray .int, 2) := by decide +kernel
theorem dX9_init_68 : decode cX9_init 68 = .ok (.putfield 31, 3) := by decide +kernel
theorem dX9_init_71 : decode cX9_init 71 = .ok (.aload_n 0, 1) := by decide +kernel
theorem dX9_init_72 : decode cX9_init 72 = .ok (.bipush 6, 2) := by decide +kernel
theorem dX9_init_74 : decode cX9_init 74 = .ok (.newarray .int, 2) := by decide +kernel
theorem dX9_init_76 : decode cX9_init 76 = .ok (.putfield 34, 3) := by decide +kernel
theorem dX9_init_79 : decode cX9_init 79 = .ok (.aload_n 0, 1) := by decide +kernel
theorem dX9_init_80 : decode cX9_init 80 = .ok (.bipush 86, 2) := by decide +kernel
theorem dX9_init_82 : decode cX9_init 82 = .ok (.newarray .int, 2) := by decide +kernel
theorem dX9_init_84 : decode cX9_init 84 = .ok (.putfield 37, 3) := by decide +kernel
theorem dX9_init_87 : decode cX9_init 87 = .ok (.aload_n 0, 1) := by decide +kernel
theorem dX9_init_88 : decode cX9_init 88 = .ok (.bipush 81, 2) := by decide +kernel
theorem dX9_init_90 : decode cX9_init 90 = .ok (.newarray .int, 2) := by decide +kernel
theorem dX9_init_92 : decode cX9_init 92 = .ok (.putfield 40, 3) := by decide +kernel
theorem dX9_init_95 : decode cX9_init 95 = .ok (.aload_n 0, 1) := by decide +kernel
theorem dX9_init_96 : decode cX9_init 96 = .ok (.bipush 48, 2) := by decide +kernel
theorem dX9_init_98 : decode cX9_init 98 = .ok (.newarray .int, 2) := by decide +kernel
theorem dX9_init_100 : decode cX9_init 100 = .ok (.putfield 43, 3) := by decide +kernel
theorem dX9_init_103 : decode cX9_init 103 = .ok (.aload_n 0, 1) := by decide +kernel
theorem dX9_init_104 : decode cX9_init 104 = .ok (.invokevirtual 46, 3) := by decide +kernel
theorem dX9_init_107 : decode cX9_init 107 = .ok (.aload_n 0, 1) := by decide +kernel
theorem dX9_init_108 : decode cX9_init 108 = .ok (.iconst 0, 1) := by decide +kernel
theorem dX9_init_109 : decode cX9_init 109 = .ok (.iconst 2, 1) := by decide +kernel
theorem dX9_init_110 : decode cX9_init 110 = .ok (.bipush 6, 2) := by decide +kernel
theorem dX9_init_112 : decode cX9_init 112 = .ok (.invokevirtual 49, 3) := by decide +kernel
theorem dX9_init_115 : decode cX9_init 115 = .ok (.aload_n 0, 1) := by decide +kernel
theorem dX9_init_116 : decode cX9_init 116 = .ok (.iconst 1, 1) := by decide +kernel
theorem dX9_init_117 : decode cX9_init 117 = .ok (.iconst 2, 1) := by decide +kernel
theorem dX9_init_118 : decode cX9_init 118 = .ok (.bipush 12, 2) := by decide +kernel
theorem dX9_init_120 : decode cX9_init 120 = .ok (.invokevirtual 49, 3) := by decide +kernel
theorem dX9_init_123 : decode cX9_init 123 = .ok (.aload_n 0, 1) := by decide +kernel
theorem dX9_init_124 : decode cX9_init 124 = .ok (.iconst 2, 1) := by decide +kernel
theorem dX9_init_125 : decode cX9_init 125 = .ok (.iconst 2, 1) := by decide +kernel
theorem dX9_init_126 : decode cX9_init 126 = .ok (.bipush 9, 2) := by decide +kernel
theorem dX9_init_128 : decode cX9_init 128 = .ok (.invokevirtual 49, 3) := by decide +kernel
theorem dX9_init_131 : decode cX9_init 131 = .ok (.aload_n 0, 1) := by decide +kernel
theorem dX9_init_132 : decode cX9_init 132 = .ok (.iconst 3, 1) := by decide +kernel
theorem dX9_init_133 : decode cX9_init 133 = .ok (.iconst 1, 1) := by decide +kernel
theorem dX9_init_134 : decode cX9_init 134 = .ok (.iconst 5, 1) := by decide +kernel
theorem dX9_init_135 : decode cX9_init 135 = .ok (.invokevirtual 49, 3) := by decide +kernel
theorem dX9_init_138 : decode cX9_init 138 = .ok (.aload_n 0, 1) := by decide +kernel
theorem dX9_init_139 : decode cX9_init 139 = .ok (.iconst 4, 1) := by decide +kernel
theorem dX9_init_140 : decode cX9_init 140 = .ok (.iconst 3, 1) := by decide +kernel
theorem dX9_init_141 : decode cX9_init 141 = .ok (.bipush 8, 2) := by decide +kernel
theorem dX9_init_143 : decode cX9_init 143 = .ok (.invokevirtual 49, 3) := by decide +kernel
theorem dX9_init_146 : decode cX9_init 146 = .ok (.aload_n 0, 1) := by decide +kernel
theorem dX9_init_147 : decode cX9_init 147 = .ok (.iconst 3, 1) := by decide +kernel
theorem dX9_init_148 : decode cX9_init 148 = .ok (.iconst 2, 1) := by decide +kernel
theorem dX9_init_149 : decode cX9_init 149 = .ok (.invokevirtual 53, 3) := by decide +kernel
theorem dX9_init_152 : decode cX9_init 152 = .ok (.aload_n 0, 1) := by decide +kernel
theorem dX9_init_153 : decode cX9_init 153 = .ok (.bipush 9, 2) := by decide +kernel
theorem dX9_init_155 : decode cX9_init 155 = .ok (.iconst 4, 1) := by decide +kernel
theorem dX9_init_156 : decode cX9_init 156 = .ok (.invokevirtual 53, 3) := by decide +kernel
theorem dX9_init_159 : decode cX9_init 159 = .ok (.aload_n 0, 1) := by decide +kernel
theorem dX9_init_160 : decode cX9_init 160 = .ok (.iconst 1, 1) := by decide +kernel
theorem dX9_init_161 : decode cX9_init 161 = .ok (.iconst 1, 1) := by decide +kernel
theorem dX9_init_162 : decode cX9_init 162 = .ok (.invokevirtual 53, 3) := by decide +kernel
theorem dX9_init_165 : decode cX9_init 165 = .ok (.aload_n 0, 1) := by decide +kernel
theorem dX9_init_166 : decode cX9_init 166 = .ok (.bipush 14, 2) := by decide +kernel
theorem dX9_init_168 : decode cX9_init 168 = .ok (.iconst 3, 1) := by decide +kernel
theorem dX9_init_169 : decode cX9_init 169 = .ok (.invokevirtual 53, 3) := by decide +kernel
theorem dX9_init_172 : decode cX9_init 172 = .ok (.aload_n 0, 1) := by decide +kernel
theorem dX9_init_173 : decode cX9_init 173 = .ok (.bipush 6, 2) := by decide +kernel
theorem dX9_init_175 : decode cX9_init 175 = .ok (.iconst 5, 1) := by decide +kernel
theorem dX9_init_176 : decode cX9_init 176 = .ok (.invokevirtual 53, 3) := by decide +kernel
theorem dX9_init_179 : decode cX9_init 179 = .ok (.aload_n 0, 1) := by decide +kernel
theorem dX9_init_180 : decode cX9_init 180 = .ok (.iconst 0, 1) := by decide +kernel
theorem dX9_init_181 : decode cX9_init 181 = .ok (.iconst 1, 1) := by decide +kernel
theorem dX9_init_182 : decode cX9_init 182 = .ok (.iconst 0, 1) := by decide +kernel
theorem dX9_init_183 : decode cX9_init 183 = .ok (.invokevirtual 57, 3) := by decide +kernel
theorem dX9_init_186 : decode cX9_init 186 = .ok (.aload_n 0, 1) := by decide +kernel
theorem dX9_init_187 : decode cX9_init 187 = .ok (.iconst 1, 1) := by decide +kernel
theorem dX9_init_188 : decode cX9_init 188 = .ok (.iconst 0, 1) := by decide +kernel
theorem dX9_init_189 : decode cX9_init 189 = .ok (.iconst 3, 1) := by decide +kernel
theorem dX9_init_190 : decode cX9_init 190 = .ok (.invokevirtual 57, 3) := by decide +kernel
theorem dX9_init_193 : decode cX9_init 193 = .ok (.aload_n 0, 1) := by decide +kernel
theorem dX9_init_194 : decode cX9_init 194 = .ok (.iconst 2, 1) := by decide +kernel
theorem dX9_init_195 : decode cX9_init 195 = .ok (.iconst 1, 1) := by decide +kernel
theorem dX9_init_196 : decode cX9_init 196 = .ok (.iconst 1, 1) := by decide +kernel
theorem dX9_init_197 : decode cX9_init 197 = .ok (.invokevirtual 57, 3) := by decide +kernel
theorem dX9_init_200 : decode cX9_init 200 = .ok (.aload_n 0, 1) := by decide +kernel
theorem dX9_init_201 : decode cX9_init 201 = .ok (.iconst 0, 1) := by decide +kernel
theorem dX9_init_202 : decode cX9_init 202 = .ok (.iconst 2, 1) := by decide +kernel
theorem dX9_init_203 : decode cX9_init 203 = .ok (.iconst 2, 1) := by decide +kernel
theorem dX9_init_204 : decode cX9_init 204 = .ok (.invokevirtual 57, 3) := by decide +kernel
theorem dX9_init_207 : decode cX9_init 207 = .ok (.aload_n 0, 1) := by decide +kernel
theorem dX9_init_208 : decode cX9_init 208 = .ok (.iconst 3, 1) := by decide +kernel
theorem dX9_init_209 : decode cX9_init 209 = .ok (.iconst 2, 1) := by decide +kernel
theorem dX9_init_210 : decode cX9_init 210 = .ok (.iconst 4, 1) := by decide +kernel
theorem dX9_init_211 : decode cX9_init 211 = .ok (.invokevirtual 57, 3) := by decide +kernel
theorem dX9_init_214 : decode cX9_init 214 = .ok (.aload_n 0, 1) := by decide +kernel
theorem dX9_init_215 : decode cX9_init 215 = .ok (.iconst 4, 1) := by decide +kernel
theorem dX9_init_216 : decode cX9_init 216 = .ok (.iconst 1, 1) := by decide +kernel
theorem dX9_init_217 : decode cX9_init 217 = .ok (.iconst 0, 1) := by decide +kernel
theorem dX9_init_218 : decode cX9_init 218 = .ok (.invokevirtual 57, 3) := by decide +kernel
theorem dX9_init_221 : decode cX9_init 221 = .ok (.aload_n 0, 1) := by decide +kernel
theorem dX9_init_222 : decode cX9_init 222 = .ok (.iconst 1, 1) := by decide +kernel
theorem dX9_init_223 : decode cX9_init 223 = .ok (.iconst 3, 1) := by decide +kernel
theorem dX9_init_224 : decode cX9_init 224 = .ok (.iconst 1, 1) := by decide +kernel
theorem dX9_init_225 : decode cX9_init 225 = .ok (.invokevirtual 57, 3) := by decide +kernel
theorem dX9_init_228 : decode cX9_init 228 = .ok (.aload_n 0, 1) := by decide +kernel
theorem dX9_init_229 : decode cX9_init 229 = .ok (.iconst 0, 1) := by decide +kernel
theorem dX9_init_230 : decode cX9_init 230 = .ok (.iconst 4, 1) := by decide +kernel
theorem dX9_init_231 : decode cX9_init 231 = .ok (.iconst 1, 1) := by decide +kernel
theorem dX9_init_232 : decode cX9_init 232 = .ok (.invokevirtual 57, 3) := by decide +kernel
theorem dX9_init_235 : decode cX9_init 235 = .ok (.aload_n 0, 1) := by decide +kernel
theorem dX9_init_236 : decode cX9_init 236 = .ok (.getfield 16, 3) := by decide +kernel
theorem dX9_init_239 : decode cX9_init 239 = .ok (.iconst 2, 1) := by decide +kernel
theorem dX9_init_240 : decode cX9_init 240 = .ok (.bipush 6, 2) := by decide +kernel
theorem dX9_init_242 : decode cX9_init 242 = .ok (.iastore, 1) := by decide +kernel
theorem dX9_init_243 : decode cX9_init 243 = .ok (.aload_n 0, 1) := by decide +kernel
theorem dX9_init_244 : decode cX9_init 244 = .ok (.invokevirtual 60, 3) := by decide +kernel
theorem dX9_init_247 : decode cX9_init 247 = .ok (.return_, 1) := by decide +kernel
theorem dX9_in_0 : decode cX9_in 0 = .ok (.iload_n 0, 1) := by decide +kernel
theorem dX9_in_1 : decode cX9_in 1 = .ok (.iload_n 1, 1) := by decide +kernel
theorem dX9_in_2 : decode cX9_in 2 = .ok (.if_icmp .lt 12, 3) := by decide +kernel
theorem dX9_in_5 : decode cX9_in 5 = .ok (.iload_n 0, 1) := by decide +kernel
theorem dX9_in_6 : decode cX9_in 6 = .ok (.iload_n 2, 1) := by decide +kernel
theorem dX9_in_7 : decode cX9_in 7 = .ok (.if_icmp .gt 7, 3) := by decide +kernel
theorem dX9_in_10 : decode cX9_in 10 = .ok (.iconst 1, 1) := by decide +kernel
theorem dX9_in_11 : decode cX9_in 11 = .ok (.goto 4, 3) := by decide +kernel
theorem dX9_in_14 : decode cX9_in 14 = .ok (.iconst 0, 1) := by decide +kernel
theorem dX9_in_15 : decode cX9_in 15 = .ok (.ireturn, 1) := by decide +kernel
set_option maxRecDepth 20000 in
theorem ggX9_isPerson_X9_in : GoodIn wsX9_isPerson wsX9_in := goodIn_r _ [5] (by decide +kernel) (by decide +kernel)
set_option maxRecDepth 20000 in
theorem gX9_isPerson_X9_in : GoodIn wsX9_isPerson (va_wsS RX9 63 yX9_in wsX9_in) := goodIn_app (goodIn_of _ (by decide +kernel)) ggX9_isPerson_X9_in
theorem dX9_isPerson_0 : decode cX9_isPerson 0 = .ok (.iload_n 1, 1) := by decide +kernel
theorem dX9_isPerson_1 : decode cX9_isPerson 1 = .ok (.iconst 0, 1) := by decide +kernel
theorem dX9_isPerson_2 : decode cX9_isPerson 2 = .ok (.aload_n 0, 1) := by decide +kernel
theorem dX9_isPerson_3 : decode cX9_isPerson 3 = .ok (.getfield 13, 3) := by decide +kernel
theorem dX9_isPerson_6 : decode cX9_isPerson 6 = .ok (.iconst 0, 1) := by decide +kernel
theorem dX9_isPerson_7 : decode cX9_isPerson 7 = .ok (.iaload, 1) := by decide +kernel
theorem dX9_isPerson_8 : decode cX9_isPerson 8 = .ok (.iconst 1, 1) := by decide +kernel
theorem dX9_isPerson_9 : decode cX9_isPerson 9 = .ok (.isub, 1) := by decide +kernel
theorem dX9_isPerson_10 : decode cX9_isPerson 10 = .ok (.invokestatic 63, 3) := by decide +kernel
theorem dX9_isPerson_13 : decode cX9_isPerson 13 = .ok (.ireturn, 1) := by decide +kernel
set_option maxRecDepth 20000 in
theorem ggX9_isName_X9_in : GoodIn wsX9_isName wsX9_in := goodIn_r _ [5] (by decide +kernel) (by decide +kernel)
set_option maxRecDepth 20000 in
theorem gX9_isName_X9_in : GoodIn wsX9_isName (va_wsS RX9 63 yX9_in wsX9_in) := goodIn_app (goodIn_of _ (by decide +kernel)) ggX9_isName_X9_in
theorem dX9_isName_0 : decode cX9_isName 0 = .ok (.iload_n 1, 1) := by decide +kernel
theorem dX9_isName_1 : decode cX9_isName 1 = .ok (.iconst 0, 1) := by decide +kernel
theorem dX9_isName_2 : decode cX9_isName 2 = .ok (.aload_n 0, 1) := by decide +kernel
theorem dX9_isName_3 : decode cX9_isName 3 = .ok (.getfield 13, 3) := by decide +kernel
theorem dX9_isName_6 : decode cX9_isName 6 = .ok (.iconst 1, 1) := by decide +kernel
theorem dX9_isName_7 : decode cX9_isName 7 = .ok (.iaload, 1) := by decide +kernel
theorem dX9_isName_8 : decode cX9_isName 8 = .ok (.iconst 1, 1) := by decide +kernel
theorem dX9_isName_9 : decode cX9_isName 9 = .ok (.isub, 1) := by decide +kernel
theorem dX9_isName_10 : decode cX9_isName 10 = .ok (.invokestatic 63, 3) := by decide +kernel
theorem dX9_isName_13 : decode cX9_isName 13 = .ok (.ireturn, 1) := by decide +kernel
set_option maxRecDepth 20000 in
theorem ggX9_areTwo_X9_isPerson : GoodIn wsX9_areTwo wsX9_isPerson := goodIn_r _ [5, 6, 7, 8, 4, 9, 10, 11, 12, 13, 14, 15, 16, 17, 18, 19, 20, 21, 22, 23, 24, 25, 26, 27, 28] (by decide +kernel) (by decide +kernel)
set_option maxRecDepth 20000 in
theorem gX9_areTwo_X9_isPerson : GoodIn wsX9_areTwo (wsV RX9 67 RX9 yX9_isPerson wsX9_isPerson) := goodIn_app (goodIn_of _ (by decide +kernel)) ggX9_areTwo_X9_isPerson
theorem dX9_areTwo_0 : decode cX9_areTwo 0 = .ok (.aload_n 0, 1) := by decide +kernel
theorem dX9_areTwo_1 : decode cX9_areTwo 1 = .ok (.iload_n 1, 1) := by decide +kernel
theorem dX9_areTwo_2 : decode cX9_areTwo 2 = .ok (.invokevirtual 67, 3) := by decide +kernel
theorem dX9_areTwo_5 : decode cX9_areTwo 5 = .ok (.ifCond .eq 20, 3) := by decide +kernel
theorem dX9_areTwo_8 : decode cX9_areTwo 8 = .ok (.aload_n 0, 1) := by decide +kernel
theorem dX9_areTwo_9 : decode cX9_areTwo 9 = .ok (.iload_n 2, 1) := by decide +kernel
theorem dX9_areTwo_10 : decode cX9_areTwo 10 = .ok (.invokevirtual 67, 3) := by decide +kernel
theorem dX9_areTwo_13 : decode cX9_areTwo 13 = .ok (.ifCond .eq 12, 3) := by decide +kernel
theorem dX9_areTwo_16 : decode cX9_areTwo 16 = .ok (.iload_n 1, 1) := by decide +kernel
theorem dX9_areTwo_17 : decode cX9_areTwo 17 = .ok (.iload_n 2, 1) := by decide +kernel
theorem dX9_areTwo_18 : decode cX9_areTwo 18 = .ok (.if_icmp .eq 7, 3) := by decide +kernel
theorem dX9_areTwo_21 : decode cX9_areTwo 21 = .ok (.iconst 1, 1) := by decide +kernel
theorem dX9_areTwo_22 : decode cX9_areTwo 22 = .ok (.goto 4, 3) := by decide +kernel
theorem dX9_areTwo_25 : decode cX9_areTwo 25 = .ok (.iconst 0, 1) := by decide +kernel
theorem dX9_areTwo_26 : decode cX9_areTwo 26 = .ok (.ireturn, 1) := by decide +kernel
theorem dX9_ones_0 : decode cX9_ones 0 = .ok (.iconst 0, 1) := by decide +kernel
theorem dX9_ones_1 : decode cX9_ones 1 = .ok (.istore_n 1, 1) := by decide +kernel
theorem dX9_ones_2 : decode cX9_ones 2 = .ok (.iconst 0, 1) := by decide +kernel
theorem dX9_ones_3 : decode cX9_ones 3 = .ok (.istore_n 2, 1) := by decide +kernel
theorem dX9_ones_4 : decode cX9_ones 4 = .ok (.iload_n 2, 1) := by decide +kernel
theorem dX9_ones_5 : decode cX9_ones 5 = .ok (.bipush 8, 2) := by decide +kernel
theorem dX9_ones_7 : decode cX9_ones 7 = .ok (.if_icmp .ge 17, 3) := by decide +kernel
theorem dX9_ones_10 : decode cX9_ones 10 = .ok (.iload_n 1, 1) := by decide +kernel
theorem dX9_ones_11 : decode cX9_ones 11 = .ok (.iload_n 0, 1) := by decide +kernel
theorem dX9_ones_12 : decode cX9_ones 12 = .ok (.iload_n 2, 1) := by decide +kernel
theorem dX9_ones_13 : decode cX9_ones 13 = .ok (.ishr, 1) := by decide +kernel
theorem dX9_ones_14 : decode cX9_ones 14 = .ok (.iconst 1, 1) := by decide +kernel
theorem dX9_ones_15 : decode cX9_ones 15 = .ok (.iand, 1) := by decide +kernel
theorem dX9_ones_16 : decode cX9_ones 16 = .ok (.iadd, 1) := by decide +kernel
theorem dX9_ones_17 : decode cX9_ones 17 = .ok (.istore_n 1, 1) := by decide +kernel
theorem dX9_ones_18 : decode cX9_ones 18 = .ok (.iinc 2 1, 3) := by decide +kernel
theorem dX9_ones_21 : decode cX9_ones 21 = .ok (.goto (-17), 3) := by decide +kernel
theorem dX9_ones_24 : decode cX9_ones 24 = .ok (.iload_n 1, 1) := by decide +kernel
theorem dX9_ones_25 : decode cX9_ones 25 = .ok (.ireturn, 1) := by decide +kernel
set_option maxRecDepth 20000 in
theorem ggX9_write_X9_in : GoodIn wsX9_write wsX9_in := goodIn_r _ [6] (by decide +kernel) (by decide +kernel)
set_option maxRecDepth 20000 in
theorem gX9_write_X9_in : GoodIn wsX9_write (va_wsS RX9 63 yX9_in wsX9_in) := goodIn_app (goodIn_of _ (by decide +kernel)) ggX9_write_X9_in
theorem dX9_write_0 : decode cX9_write 0 = .ok (.iload_n 1, 1) := by decide +kernel
theorem dX9_write_1 : decode cX9_write 1 = .ok (.bipush 32, 2) := by decide +kernel
theorem dX9_write_3 : decode cX9_write 3 = .ok (.bipush 126, 2) := by decide +kernel
theorem dX9_write_5 : decode cX9_write 5 = .ok (.invokestatic 63, 3) := by decide +kernel
theorem dX9_write_8 : decode cX9_write 8 = .ok (.ifCond .ne 5, 3) := by decide +kernel
theorem dX9_write_11 : decode cX9_write 11 = .ok (.iconst (-1), 1) := by decide +kernel
theorem dX9_write_12 : decode cX9_write 12 = .ok (.ireturn, 1) := by decide +kernel
theorem dX9_write_13 : decode cX9_write 13 = .ok (.aload_n 0, 1) := by decide +kernel
theorem dX9_write_14 : decode cX9_write 14 = .ok (.getfield 71, 3) := by decide +kernel
theorem dX9_write_17 : decode cX9_write 17 = .ok (.sipush 200, 3) := by decide +kernel
theorem dX9_write_20 : decode cX9_write 20 = .ok (.if_icmp .ne 6, 3) := by decide +kernel
theorem dX9_write_23 : decode cX9_write 23 = .ok (.bipush (-3), 2) := by decide +kernel
theorem dX9_write_25 : decode cX9_write 25 = .ok (.ireturn, 1) := by decide +kernel
theorem dX9_write_26 : decode cX9_write 26 = .ok (.aload_n 0, 1) := by decide +kernel
theorem dX9_write_27 : decode cX9_write 27 = .ok (.getfield 7, 3) := by decide +kernel
theorem dX9_write_30 : decode cX9_write 30 = .ok (.aload_n 0, 1) := by decide +kernel
theorem dX9_write_31 : decode cX9_write 31 = .ok (.getfield 71, 3) := by decide +kernel
theorem dX9_write_34 : decode cX9_write 34 = .ok (.iload_n 1, 1) := by decide +kernel
theorem dX9_write_35 : decode cX9_write 35 = .ok (.iastore, 1) := by decide +kernel
theorem dX9_write_36 : decode cX9_write 36 = .ok (.aload_n 0, 1) := by decide +kernel
theorem dX9_write_37 : decode cX9_write 37 = .ok (.dup, 1) := by decide +kernel
theorem dX9_write_38 : decode cX9_write 38 = .ok (.getfield 71, 3) := by decide +kernel
theorem dX9_write_41 : decode cX9_write 41 = .ok (.iconst 1, 1) := by decide +kernel
theorem dX9_write_42 : decode cX9_write 42 = .ok (.iadd, 1) := by decide +kernel
theorem dX9_write_43 : decode cX9_write 43 = .ok (.putfield 71, 3) := by decide +kernel
theorem dX9_write_46 : decode cX9_write 46 = .ok (.aload_n 0, 1) := by decide +kernel
theorem dX9_write_47 : decode cX9_write 47 = .ok (.getfield 71, 3) := by decide +kernel
theorem dX9_write_50 : decode cX9_write 50 = .ok (.ireturn, 1) := by decide +kernel
theorem dX9_wipe_0 : decode cX9_wipe 0 = .ok (.aload_n 0, 1) := by decide +kernel
theorem dX9_wipe_1 : decode cX9_wipe 1 = .ok (.getfield 71, 3) := by decide +kernel
theorem dX9_wipe_4 : decode cX9_wipe 4 = .ok (.istore_n 1, 1) := by decide +kernel
theorem dX9_wipe_5 : decode cX9_wipe 5 = .ok (.aload_n 0, 1) := by decide +kernel
theorem dX9_wipe_6 : decode cX9_wipe 6 = .ok (.iconst 0, 1) := by decide +kernel
theorem dX9_wipe_7 : decode cX9_wipe 7 = .ok (.putfield 71, 3) := by decide +kernel
theorem dX9_wipe_10 : decode cX9_wipe 10 = .ok (.iload_n 1, 1) := by decide +kernel
theorem dX9_wipe_11 : decode cX9_wipe 11 = .ok (.ireturn, 1) := by decide +kernel
theorem dX9_letterAt_0 : decode cX9_letterAt 0 = .ok (.iload_n 1, 1) := by decide +kernel
theorem dX9_letterAt_1 : decode cX9_letterAt 1 = .ok (.aload_n 0, 1) := by decide +kernel
theorem dX9_letterAt_2 : decode cX9_letterAt 2 = .ok (.getfield 71, 3) := by decide +kernel
theorem dX9_letterAt_5 : decode cX9_letterAt 5 = .ok (.if_icmp .ge 12, 3) := by decide +kernel
theorem dX9_letterAt_8 : decode cX9_letterAt 8 = .ok (.aload_n 0, 1) := by decide +kernel
theorem dX9_letterAt_9 : decode cX9_letterAt 9 = .ok (.getfield 7, 3) := by decide +kernel
theorem dX9_letterAt_12 : decode cX9_letterAt 12 = .ok (.iload_n 1, 1) := by decide +kernel
theorem dX9_letterAt_13 : decode cX9_letterAt 13 = .ok (.iaload, 1) := by decide +kernel
theorem dX9_letterAt_14 : decode cX9_letterAt 14 = .ok (.goto 4, 3) := by decide +kernel
theorem dX9_letterAt_17 : decode cX9_letterAt 17 = .ok (.iconst (-1), 1) := by decide +kernel
theorem dX9_letterAt_18 : decode cX9_letterAt 18 = .ok (.ireturn, 1) := by decide +kernel
set_option maxRecDepth 20000 in
theorem ggX9_isFigure_X9_in : GoodIn wsX9_isFigure wsX9_in := goodIn_r _ [4] (by decide +kernel) (by decide +kernel)
set_option maxRecDepth 20000 in
theorem gX9_isFigure_X9_in : GoodIn wsX9_isFigure (va_wsS RX9 63 yX9_in wsX9_in) := goodIn_app (goodIn_of _ (by decide +kernel)) ggX9_isFigure_X9_in
theorem dX9_isFigure_0 : decode cX9_isFigure 0 = .ok (.iload_n 0, 1) := by decide +kernel
theorem dX9_isFigure_1 : decode cX9_isFigure 1 = .ok (.bipush 48, 2) := by decide +kernel
theorem dX9_isFigure_3 : decode cX9_isFigure 3 = .ok (.bipush 57, 2) := by decide +kernel
theorem dX9_isFigure_5 : decode cX9_isFigure 5 = .ok (.invokestatic 63, 3) := by decide +kernel
theorem dX9_isFigure_8 : decode cX9_isFigure 8 = .ok (.ireturn, 1) := by decide +kernel
set_option maxRecDepth 20000 in
theorem ggX9_number_X9_letterAt : GoodIn wsX9_number wsX9_letterAt := goodIn_r _ [6, 7, 8, 15, 16, 17, 18, 19, 20, 21, 22, 23, 24, 25, 26, 27, 28, 29, 30, 31, 32, 33] (by decide +kernel) (by decide +kernel)
set_option maxRecDepth 20000 in
theorem gX9_number_X9_letterAt : GoodIn wsX9_number (wsV RX9 78 RX9 yX9_letterAt wsX9_letterAt) := goodIn_app (goodIn_of _ (by decide +kernel)) ggX9_number_X9_letterAt
set_option maxRecDepth 20000 in
theorem ggX9_number_X9_isFigure : GoodIn wsX9_number wsX9_isFigure := goodIn_r _ [11, 12, 13, 5, 14] (by decide +kernel) (by decide +kernel)
set_option maxRecDepth 20000 in
theorem gX9_number_X9_isFigure : GoodIn wsX9_number (va_wsS RX9 82 yX9_isFigure wsX9_isFigure) := goodIn_app (goodIn_of _ (by decide +kernel)) ggX9_number_X9_isFigure
set_option maxRecDepth 20000 in
theorem ggX9_number_X9_in : GoodIn wsX9_number wsX9_in := goodIn_r _ [14] (by decide +kernel) (by decide +kernel)
set_option maxRecDepth 20000 in
theorem gX9_number_X9_in : GoodIn wsX9_number (va_wsS RX9 63 yX9_in wsX9_in) := goodIn_app (goodIn_of _ (by decide +kernel)) ggX9_number_X9_in
theorem dX9_number_0 : decode cX9_number 0 = .ok (.aload_n 0, 1) := by decide +kernel
theorem dX9_number_1 : decode cX9_number 1 = .ok (.aload_n 0, 1) := by decide +kernel
theorem dX9_number_2 : decode cX9_number 2 = .ok (.getfield 75, 3) := by decide +kernel
theorem dX9_number_5 : decode cX9_number 5 = .ok (.invokevirtual 78, 3) := by decide +kernel
theorem dX9_number_8 : decode cX9_number 8 = .ok (.invokestatic 82, 3) := by decide +kernel
theorem dX9_number_11 : decode cX9_number 11 = .ok (.ifCond .ne 5, 3) := by decide +kernel
theorem dX9_number_14 : decode cX9_number 14 = .ok (.iconst (-1), 1) := by decide +kernel
theorem dX9_number_15 : decode cX9_number 15 = .ok (.ireturn, 1) := by decide +kernel
theorem dX9_number_16 : decode cX9_number 16 = .ok (.aload_n 0, 1) := by decide +kernel
theorem dX9_number_17 : decode cX9_number 17 = .ok (.aload_n 0, 1) := by decide +kernel
theorem dX9_number_18 : decode cX9_number 18 = .ok (.getfield 75, 3) := by decide +kernel
theorem dX9_number_21 : decode cX9_number 21 = .ok (.invokevirtual 78, 3) := by decide +kernel
theorem dX9_number_24 : decode cX9_number 24 = .ok (.bipush 48, 2) := by decide +kernel
theorem dX9_number_26 : decode cX9_number 26 = .ok (.isub, 1) := by decide +kernel
theorem dX9_number_27 : decode cX9_number 27 = .ok (.istore 4, 2) := by decide +kernel
theorem dX9_number_29 : decode cX9_number 29 = .ok (.aload_n 0, 1) := by decide +kernel
theorem dX9_number_30 : decode cX9_number 30 = .ok (.dup, 1) := by decide +kernel
theorem dX9_number_31 : decode cX9_number 31 = .ok (.getfield 75, 3) := by decide +kernel
theorem dX9_number_34 : decode cX9_number 34 = .ok (.iconst 1, 1) := by decide +kernel
theorem dX9_number_35 : decode cX9_number 35 = .ok (.iadd, 1) := by decide +kernel
theorem dX9_number_36 : decode cX9_number 36 = .ok (.putfield 75, 3) := by decide +kernel
theorem dX9_number_39 : decode cX9_number 39 = .ok (.aload_n 0, 1) := by decide +kernel
theorem dX9_number_40 : decode cX9_number 40 = .ok (.aload_n 0, 1) := by decide +kernel
theorem dX9_number_41 : decode cX9_number 41 = .ok (.getfield 75, 3) := by decide +kernel
theorem dX9_number_44 : decode cX9_number 44 = .ok (.invokevirtual 78, 3) := by decide +kernel
theorem dX9_number_47 : decode cX9_number 47 = .ok (.invokestatic 82, 3) := by decide +kernel
theorem dX9_number_50 : decode cX9_number 50 = .ok (.ifCond .eq 32, 3) := by decide +kernel
theorem dX9_number_53 : decode cX9_number 53 = .ok (.bipush 10, 2) := by decide +kernel
theorem dX9_number_55 : decode cX9_number 55 = .ok (.iload 4, 2) := by decide +kernel
theorem dX9_number_57 : decode cX9_number 57 = .ok (.imul, 1) := by decide +kernel
theorem dX9_number_58 : decode cX9_number 58 = .ok (.aload_n 0, 1) := by decide +kernel
theorem dX9_number_59 : decode cX9_number 59 = .ok (.aload_n 0, 1) := by decide +kernel
theorem dX9_number_60 : decode cX9_number 60 = .ok (.getfield 75, 3) := by decide +kernel
theorem dX9_number_63 : decode cX9_number 63 = .ok (.invokevirtual 78, 3) := by decide +kernel
theorem dX9_number_66 : decode cX9_number 66 = .ok (.iadd, 1) := by decide +kernel
theorem dX9_number_67 : decode cX9_number 67 = .ok (.bipush 48, 2) := by decide +kernel
theorem dX9_number_69 : decode cX9_number 69 = .ok (.isub, 1) := by decide +kernel
theorem dX9_number_70 : decode cX9_number 70 = .ok (.istore 4, 2) := by decide +kernel
theorem dX9_number_72 : decode cX9_number 72 = .ok (.aload_n 0, 1) := by decide +kernel
theorem dX9_number_73 : decode cX9_number 73 = .ok (.dup, 1) := by decide +kernel
theorem dX9_number_74 : decode cX9_number 74 = .ok (.getfield 75, 3) := by decide +kernel
theorem dX9_number_77 : decode cX9_number 77 = .ok (.iconst 1, 1) := by decide +kernel
theorem dX9_number_78 : decode cX9_number 78 = .ok (.iadd, 1) := by decide +kernel
theorem dX9_number_79 : decode cX9_number 79 = .ok (.putfield 75, 3) := by decide +kernel
theorem dX9_number_82 : decode cX9_number 82 = .ok (.aload_n 0, 1) := by decide +kernel
theorem dX9_number_83 : decode cX9_number 83 = .ok (.aload_n 0, 1) := by decide +kernel
theorem dX9_number_84 : decode cX9_number 84 = .ok (.getfield 75, 3) := by decide +kernel
theorem dX9_number_87 : decode cX9_number 87 = .ok (.invokevirtual 78, 3) := by decide +kernel
theorem dX9_number_90 : decode cX9_number 90 = .ok (.iload_n 3, 1) := by decide +kernel
theorem dX9_number_91 : decode cX9_number 91 = .ok (.if_icmp .ne 17, 3) := by decide +kernel
theorem dX9_number_94 : decode cX9_number 94 = .ok (.iload 4, 2) := by decide +kernel
theorem dX9_number_96 : decode cX9_number 96 = .ok (.iload_n 1, 1) := by decide +kernel
theorem dX9_number_97 : decode cX9_number 97 = .ok (.iload_n 2, 1) := by decide +kernel
theorem dX9_number_98 : decode cX9_number 98 = .ok (.invokestatic 63, 3) := by decide +kernel
theorem dX9_number_101 : decode cX9_number 101 = .ok (.ifCond .eq 7, 3) := by decide +kernel
theorem dX9_number_104 : decode cX9_number 104 = .ok (.iconst 1, 1) := by decide +kernel
theorem dX9_number_105 : decode cX9_number 105 = .ok (.goto 4, 3) := by decide +kernel
theorem dX9_number_108 : decode cX9_number 108 = .ok (.iconst 0, 1) := by decide +kernel
theorem dX9_number_109 : decode cX9_number 109 = .ok (.istore 5, 2) := by decide +kernel
theorem dX9_number_111 : decode cX9_number 111 = .ok (.aload_n 0, 1) := by decide +kernel
theorem dX9_number_112 : decode cX9_number 112 = .ok (.dup, 1) := by decide +kernel
theorem dX9_number_113 : decode cX9_number 113 = .ok (.getfield 75, 3) := by decide +kernel
theorem dX9_number_116 : decode cX9_number 116 = .ok (.iconst 1, 1) := by decide +kernel
theorem dX9_number_117 : decode cX9_number 117 = .ok (.iadd, 1) := by decide +kernel
theorem dX9_number_118 : decode cX9_number 118 = .ok (.putfield 75, 3) := by decide +kernel
theorem dX9_number_121 : decode cX9_number 121 = .ok (.iload 5, 2) := by decide +kernel
theorem dX9_number_123 : decode cX9_number 123 = .ok (.ifCond .eq 8, 3) := by decide +kernel
theorem dX9_number_126 : decode cX9_number 126 = .ok (.iload 4, 2) := by decide +kernel
theorem dX9_number_128 : decode cX9_number 128 = .ok (.goto 4, 3) := by decide +kernel
theorem dX9_number_131 : decode cX9_number 131 = .ok (.iconst (-1), 1) := by decide +kernel
theorem dX9_number_132 : decode cX9_number 132 = .ok (.ireturn, 1) := by decide +kernel
theorem dX9_begins_0 : decode cX9_begins 0 = .ok (.iconst 0, 1) := by decide +kernel
theorem dX9_begins_1 : decode cX9_begins 1 = .ok (.istore_n 1, 1) := by decide +kernel
theorem dX9_begins_2 : decode cX9_begins 2 = .ok (.iload_n 1, 1) := by decide +kernel
theorem dX9_begins_3 : decode cX9_begins 3 = .ok (.bipush 37, 2) := by decide +kernel
theorem dX9_begins_5 : decode cX9_begins 5 = .ok (.if_icmp .ge 16, 3) := by decide +kernel
theorem dX9_begins_8 : decode cX9_begins 8 = .ok (.aload_n 0, 1) := by decide +kernel
theorem dX9_begins_9 : decode cX9_begins 9 = .ok (.getfield 16, 3) := by decide +kernel
theorem dX9_begins_12 : decode cX9_begins 12 = .ok (.iload_n 1, 1) := by decide +kernel
theorem dX9_begins_13 : decode cX9_begins 13 = .ok (.iconst 0, 1) := by decide +kernel
theorem dX9_begins_14 : decode cX9_begins 14 = .ok (.iastore, 1) := by decide +kernel
theorem dX9_begins_15 : decode cX9_begins 15 = .ok (.iinc 1 1, 3) := by decide +kernel
theorem dX9_begins_18 : decode cX9_begins 18 = .ok (.goto (-16), 3) := by decide +kernel
theorem dX9_begins_21 : decode cX9_begins 21 = .ok (.aload_n 0, 1) := by decide +kernel
theorem dX9_begins_22 : decode cX9_begins 22 = .ok (.getfield 16, 3) := by decide +kernel
theorem dX9_begins_25 : decode cX9_begins 25 = .ok (.iconst 2, 1) := by decide +kernel
theorem dX9_begins_26 : decode cX9_begins 26 = .ok (.bipush 8, 2) := by decide +kernel
theorem dX9_begins_28 : decode cX9_begins 28 = .ok (.iastore, 1) := by decide +kernel
theorem dX9_begins_29 : decode cX9_begins 29 = .ok (.iconst 0, 1) := by decide +kernel
theorem dX9_begins_30 : decode cX9_begins 30 = .ok (.istore_n 1, 1) := by decide +kernel
theorem dX9_begins_31 : decode cX9_begins 31 = .ok (.iload_n 1, 1) := by decide +kernel
theorem dX9_begins_32 : decode cX9_begins 32 = .ok (.bipush 36, 2) := by decide +kernel
theorem dX9_begins_34 : decode cX9_begins 34 = .ok (.if_icmp .ge 16, 3) := by decide +kernel
theorem dX9_begins_37 : decode cX9_begins 37 = .ok (.aload_n 0, 1) := by decide +kernel
theorem dX9_begins_38 : decode cX9_begins 38 = .ok (.getfield 19, 3) := by decide +kernel
theorem dX9_begins_41 : decode cX9_begins 41 = .ok (.iload_n 1, 1) := by decide +kernel
theorem dX9_begins_42 : decode cX9_begins 42 = .ok (.iconst 0, 1) := by decide +kernel
theorem dX9_begins_43 : decode cX9_begins 43 = .ok (.iastore, 1) := by decide +kernel
theorem dX9_begins_44 : decode cX9_begins 44 = .ok (.iinc 1 1, 3) := by decide +kernel
theorem dX9_begins_47 : decode cX9_begins 47 = .ok (.goto (-16), 3) := by decide +kernel
theorem dX9_begins_50 : decode cX9_begins 50 = .ok (.aload_n 0, 1) := by decide +kernel
theorem dX9_begins_51 : decode cX9_begins 51 = .ok (.iconst 0, 1) := by decide +kernel
theorem dX9_begins_52 : decode cX9_begins 52 = .ok (.putfield 85, 3) := by decide +kernel
theorem dX9_begins_55 : decode cX9_begins 55 = .ok (.return_, 1) := by decide +kernel
theorem dX9_personOf_0 : decode cX9_personOf 0 = .ok (.aload_n 0, 1) := by decide +kernel
theorem dX9_personOf_1 : decode cX9_personOf 1 = .ok (.getfield 16, 3) := by decide +kernel
theorem dX9_personOf_4 : decode cX9_personOf 4 = .ok (.iconst 0, 1) := by decide +kernel
theorem dX9_personOf_5 : decode cX9_personOf 5 = .ok (.iaload, 1) := by decide +kernel
theorem dX9_personOf_6 : decode cX9_personOf 6 = .ok (.istore 4, 2) := by decide +kernel
theorem dX9_personOf_8 : decode cX9_personOf 8 = .ok (.aload_n 0, 1) := by decide +kernel
theorem dX9_personOf_9 : decode cX9_personOf 9 = .ok (.getfield 16, 3) := by decide +kernel
theorem dX9_personOf_12 : decode cX9_personOf 12 = .ok (.iconst 3, 1) := by decide +kernel
theorem dX9_personOf_13 : decode cX9_personOf 13 = .ok (.iload 4, 2) := by decide +kernel
theorem dX9_personOf_15 : decode cX9_personOf 15 = .ok (.iadd, 1) := by decide +kernel
theorem dX9_personOf_16 : decode cX9_personOf 16 = .ok (.iload_n 1, 1) := by decide +kernel
theorem dX9_personOf_17 : decode cX9_personOf 17 = .ok (.iastore, 1) := by decide +kernel
theorem dX9_personOf_18 : decode cX9_personOf 18 = .ok (.aload_n 0, 1) := by decide +kernel
theorem dX9_personOf_19 : decode cX9_personOf 19 = .ok (.getfield 16, 3) := by decide +kernel
theorem dX9_personOf_22 : decode cX9_personOf 22 = .ok (.bipush 9, 2) := by decide +kernel
theorem dX9_personOf_24 : decode cX9_personOf 24 = .ok (.iload 4, 2) := by decide +kernel
theorem dX9_personOf_26 : decode cX9_personOf 26 = .ok (.iadd, 1) := by decide +kernel
theorem dX9_personOf_27 : decode cX9_personOf 27 = .ok (.iload_n 1, 1) := by decide +kernel
theorem dX9_personOf_28 : decode cX9_personOf 28 = .ok (.iconst 1, 1) := by decide +kernel
theorem dX9_personOf_29 : decode cX9_personOf 29 = .ok (.if_icmp .ne 9, 3) := by decide +kernel
theorem dX9_personOf_32 : decode cX9_personOf 32 = .ok (.iconst 2, 1) := by decide +kernel
theorem dX9_personOf_33 : decode cX9_personOf 33 = .ok (.iload_n 2, 1) := by decide +kernel
theorem dX9_personOf_34 : decode cX9_personOf 34 = .ok (.imul, 1) := by decide +kernel
theorem dX9_personOf_35 : decode cX9_personOf 35 = .ok (.goto 4, 3) := by decide +kernel
theorem dX9_personOf_38 : decode cX9_personOf 38 = .ok (.iload_n 2, 1) := by decide +kernel
theorem dX9_personOf_39 : decode cX9_personOf 39 = .ok (.iastore, 1) := by decide +kernel
theorem dX9_personOf_40 : decode cX9_personOf 40 = .ok (.aload_n 0, 1) := by decide +kernel
theorem dX9_personOf_41 : decode cX9_personOf 41 = .ok (.getfield 16, 3) := by decide +kernel
theorem dX9_personOf_44 : decode cX9_personOf 44 = .ok (.bipush 15, 2) := by decide +kernel
theorem dX9_personOf_46 : decode cX9_personOf 46 = .ok (.iload 4, 2) := by decide +kernel
theorem dX9_personOf_48 : decode cX9_personOf 48 = .ok (.iadd, 1) := by decide +kernel
theorem dX9_personOf_49 : decode cX9_personOf 49 = .ok (.iload_n 3, 1) := by decide +kernel
theorem dX9_personOf_50 : decode cX9_personOf 50 = .ok (.iastore, 1) := by decide +kernel
theorem dX9_personOf_51 : decode cX9_personOf 51 = .ok (.aload_n 0, 1) := by decide +kernel
theorem dX9_personOf_52 : decode cX9_personOf 52 = .ok (.getfield 16, 3) := by decide +kernel
theorem dX9_personOf_55 : decode cX9_personOf 55 = .ok (.iconst 0, 1) := by decide +kernel
theorem dX9_personOf_56 : decode cX9_personOf 56 = .ok (.dup2, 1) := by decide +kernel
theorem dX9_personOf_57 : decode cX9_personOf 57 = .ok (.iaload, 1) := by decide +kernel
theorem dX9_personOf_58 : decode cX9_personOf 58 = .ok (.iconst 1, 1) := by decide +kernel
theorem dX9_personOf_59 : decode cX9_personOf 59 = .ok (.iadd, 1) := by decide +kernel
theorem dX9_personOf_60 : decode cX9_personOf 60 = .ok (.iastore, 1) := by decide +kernel
theorem dX9_personOf_61 : decode cX9_personOf 61 = .ok (.return_, 1) := by decide +kernel
theorem dX9_nameOf_0 : decode cX9_nameOf 0 = .ok (.aload_n 0, 1) := by decide +kernel
theorem dX9_nameOf_1 : decode cX9_nameOf 1 = .ok (.getfield 16, 3) := by decide +kernel
theorem dX9_nameOf_4 : decode cX9_nameOf 4 = .ok (.iconst 1, 1) := by decide +kernel
theorem dX9_nameOf_5 : decode cX9_nameOf 5 = .ok (.iaload, 1) := by decide +kernel
theorem dX9_nameOf_6 : decode cX9_nameOf 6 = .ok (.istore_n 3, 1) := by decide +kernel
theorem dX9_nameOf_7 : decode cX9_nameOf 7 = .ok (.aload_n 0, 1) := by decide +kernel
theorem dX9_nameOf_8 : decode cX9_nameOf 8 = .ok (.getfield 16, 3) := by decide +kernel
theorem dX9_nameOf_11 : decode cX9_nameOf 11 = .ok (.bipush 21, 2) := by decide +kernel
theorem dX9_nameOf_13 : decode cX9_nameOf 13 = .ok (.iload_n 3, 1) := by decide +kernel
theorem dX9_nameOf_14 : decode cX9_nameOf 14 = .ok (.iadd, 1) := by decide +kernel
theorem dX9_nameOf_15 : decode cX9_nameOf 15 = .ok (.iload_n 1, 1) := by decide +kernel
theorem dX9_nameOf_16 : decode cX9_nameOf 16 = .ok (.iastore, 1) := by decide +kernel
theorem dX9_nameOf_17 : decode cX9_nameOf 17 = .ok (.aload_n 0, 1) := by decide +kernel
theorem dX9_nameOf_18 : decode cX9_nameOf 18 = .ok (.getfield 16, 3) := by decide +kernel
theorem dX9_nameOf_21 : decode cX9_nameOf 21 = .ok (.bipush 29, 2) := by decide +kernel
theorem dX9_nameOf_23 : decode cX9_nameOf 23 = .ok (.iload_n 3, 1) := by decide +kernel
theorem dX9_nameOf_24 : decode cX9_nameOf 24 = .ok (.iadd, 1) := by decide +kernel
theorem dX9_nameOf_25 : decode cX9_nameOf 25 = .ok (.iload_n 2, 1) := by decide +kernel
theorem dX9_nameOf_26 : decode cX9_nameOf 26 = .ok (.iastore, 1) := by decide +kernel
theorem dX9_nameOf_27 : decode cX9_nameOf 27 = .ok (.aload_n 0, 1) := by decide +kernel
theorem dX9_nameOf_28 : decode cX9_nameOf 28 = .ok (.getfield 16, 3) := by decide +kernel
theorem dX9_nameOf_31 : decode cX9_nameOf 31 = .ok (.iconst 1, 1) := by decide +kernel
theorem dX9_nameOf_32 : decode cX9_nameOf 32 = .ok (.dup2, 1) := by decide +kernel
theorem dX9_nameOf_33 : decode cX9_nameOf 33 = .ok (.iaload, 1) := by decide +kernel
theorem dX9_nameOf_34 : decode cX9_nameOf 34 = .ok (.iconst 1, 1) := by decide +kernel
theorem dX9_nameOf_35 : decode cX9_nameOf 35 = .ok (.iadd, 1) := by decide +kernel
theorem dX9_nameOf_36 : decode cX9_nameOf 36 = .ok (.iastore, 1) := by decide +kernel
theorem dX9_nameOf_37 : decode cX9_nameOf 37 = .ok (.return_, 1) := by decide +kernel
theorem dX9_wordOf_0 : decode cX9_wordOf 0 = .ok (.aload_n 0, 1) := by decide +kernel
theorem dX9_wordOf_1 : decode cX9_wordOf 1 = .ok (.getfield 19, 3) := by decide +kernel
theorem dX9_wordOf_4 : decode cX9_wordOf 4 = .ok (.bipush 6, 2) := by decide +kernel
theorem dX9_wordOf_6 : decode cX9_wordOf 6 = .ok (.iload_n 1, 1) := by decide +kernel
theorem dX9_wordOf_7 : decode cX9_wordOf 7 = .ok (.imul, 1) := by decide +kernel
theorem dX9_wordOf_8 : decode cX9_wordOf 8 = .ok (.iload_n 2, 1) := by decide +kernel
theorem dX9_wordOf_9 : decode cX9_wordOf 9 = .ok (.iadd, 1) := by decide +kernel
theorem dX9_wordOf_10 : decode cX9_wordOf 10 = .ok (.dup2, 1) := by decide +kernel
theorem dX9_wordOf_11 : decode cX9_wordOf 11 = .ok (.iaload, 1) := by decide +kernel
theorem dX9_wordOf_12 : decode cX9_wordOf 12 = .ok (.iconst 1, 1) := by decide +kernel
theorem dX9_wordOf_13 : decode cX9_wordOf 13 = .ok (.iload_n 3, 1) := by decide +kernel
theorem dX9_wordOf_14 : decode cX9_wordOf 14 = .ok (.ishl, 1) := by decide +kernel
theorem dX9_wordOf_15 : decode cX9_wordOf 15 = .ok (.ixor, 1) := by decide +kernel
theorem dX9_wordOf_16 : decode cX9_wordOf 16 = .ok (.iastore, 1) := by decide +kernel
theorem dX9_wordOf_17 : decode cX9_wordOf 17 = .ok (.aload_n 0, 1) := by decide +kernel
theorem dX9_wordOf_18 : decode cX9_wordOf 18 = .ok (.dup, 1) := by decide +kernel
theorem dX9_wordOf_19 : decode cX9_wordOf 19 = .ok (.getfield 85, 3) := by decide +kernel
theorem dX9_wordOf_22 : decode cX9_wordOf 22 = .ok (.aload_n 0, 1) := by decide +kernel
theorem dX9_wordOf_23 : decode cX9_wordOf 23 = .ok (.getfield 19, 3) := by decide +kernel
theorem dX9_wordOf_26 : decode cX9_wordOf 26 = .ok (.bipush 6, 2) := by decide +kernel
theorem dX9_wordOf_28 : decode cX9_wordOf 28 = .ok (.iload_n 1, 1) := by decide +kernel
theorem dX9_wordOf_29 : decode cX9_wordOf 29 = .ok (.imul, 1) := by decide +kernel
theorem dX9_wordOf_30 : decode cX9_wordOf 30 = .ok (.iload_n 2, 1) := by decide +kernel
theorem dX9_wordOf_31 : decode cX9_wordOf 31 = .ok (.iadd, 1) := by decide +kernel
theorem dX9_wordOf_32 : decode cX9_wordOf 32 = .ok (.iaload, 1) := by decide +kernel
theorem dX9_wordOf_33 : decode cX9_wordOf 33 = .ok (.iload_n 3, 1) := by decide +kernel
theorem dX9_wordOf_34 : decode cX9_wordOf 34 = .ok (.ishr, 1) := by decide +kernel
theorem dX9_wordOf_35 : decode cX9_wordOf 35 = .ok (.iconst 1, 1) := by decide +kernel
theorem dX9_wordOf_36 : decode cX9_wordOf 36 = .ok (.iand, 1) := by decide +kernel
theorem dX9_wordOf_37 : decode cX9_wordOf 37 = .ok (.iconst 1, 1) := by decide +kernel
theorem dX9_wordOf_38 : decode cX9_wordOf 38 = .ok (.if_icmp .ne 7, 3) := by decide +kernel
theorem dX9_wordOf_41 : decode cX9_wordOf 41 = .ok (.iconst 1, 1) := by decide +kernel
theorem dX9_wordOf_42 : decode cX9_wordOf 42 = .ok (.goto 4, 3) := by decide +kernel
theorem dX9_wordOf_45 : decode cX9_wordOf 45 = .ok (.iconst (-1), 1) := by decide +kernel
theorem dX9_wordOf_46 : decode cX9_wordOf 46 = .ok (.iadd, 1) := by decide +kernel
theorem dX9_wordOf_47 : decode cX9_wordOf 47 = .ok (.putfield 85, 3) := by decide +kernel
theorem dX9_wordOf_50 : decode cX9_wordOf 50 = .ok (.return_, 1) := by decide +kernel
set_option maxRecDepth 20000 in
theorem ggX9_readsItem_X9_number : GoodIn wsX9_readsItem wsX9_number := goodIn_r _ [7, 8, 9, 10, 11, 6, 12, 13, 14, 15, 16, 17, 18, 19, 20, 34, 35, 36, 37, 38, 39, 40, 41, 42, 43, 44, 45, 46, 47, 48, 49, 50, 51, 52] (by decide +kernel) (by decide +kernel)
set_option maxRecDepth 20000 in
theorem gX9_readsItem_X9_number : GoodIn wsX9_readsItem (wsV RX9 88 RX9 yX9_number wsX9_number) := goodIn_app (goodIn_of _ (by decide +kernel)) ggX9_readsItem_X9_number
set_option maxRecDepth 20000 in
theorem ggX9_readsItem_X9_personOf : GoodIn wsX9_readsItem wsX9_personOf := goodIn_r _ [24, 1, 34, 35, 36, 37, 38, 39, 40, 41, 42, 43, 44, 45, 46, 47, 48, 49, 50, 51, 52] (by decide +kernel) (by decide +kernel)
set_option maxRecDepth 20000 in
theorem gX9_readsItem_X9_personOf : GoodIn wsX9_readsItem (wsV RX9 49 RX9 yX9_personOf wsX9_personOf) := goodIn_app (goodIn_of _ (by decide +kernel)) ggX9_readsItem_X9_personOf
set_option maxRecDepth 20000 in
theorem ggX9_readsItem_X9_nameOf : GoodIn wsX9_readsItem wsX9_nameOf := goodIn_r _ [28, 1, 34, 35, 36, 37, 38, 39, 40, 41, 42, 43, 44, 45, 46, 47, 48, 49, 50, 51, 52] (by decide +kernel) (by decide +kernel)
set_option maxRecDepth 20000 in
theorem gX9_readsItem_X9_nameOf : GoodIn wsX9_readsItem (wsV RX9 53 RX9 yX9_nameOf wsX9_nameOf) := goodIn_app (goodIn_of _ (by decide +kernel)) ggX9_readsItem_X9_nameOf
set_option maxRecDepth 20000 in
theorem ggX9_readsItem_X9_wordOf : GoodIn wsX9_readsItem wsX9_wordOf := goodIn_r _ [32, 33, 2, 34, 35, 36, 37, 38, 39, 40, 41, 42, 43, 44, 45, 46, 47, 48, 49, 50, 51, 52] (by decide +kernel) (by decide +kernel)
set_option maxRecDepth 20000 in
theorem gX9_readsItem_X9_wordOf : GoodIn wsX9_readsItem (wsV RX9 57 RX9 yX9_wordOf wsX9_wordOf) := goodIn_app (goodIn_of _ (by decide +kernel)) ggX9_readsItem_X9_wordOf
theorem dX9_readsItem_0 : decode cX9_readsItem 0 = .ok (.iload_n 1, 1) := by decide +kernel
theorem dX9_readsItem_1 : decode cX9_readsItem 1 = .ok (.lookupswitch 299 #[(99, 169), (110, 116), (112, 43), (113, 269)], 43) := by decide +kernel
theorem dX9_readsItem_44 : decode cX9_readsItem 44 = .ok (.aload_n 0, 1) := by decide +kernel
theorem dX9_readsItem_45 : decode cX9_readsItem 45 = .ok (.iconst 0, 1) := by decide +kernel
theorem dX9_readsItem_46 : decode cX9_readsItem 46 = .ok (.iconst 4, 1) := by decide +kernel
theorem dX9_readsItem_47 : decode cX9_readsItem 47 = .ok (.bipush 44, 2) := by decide +kernel
theorem dX9_readsItem_49 : decode cX9_readsItem 49 = .ok (.invokevirtual 88, 3) := by decide +kernel
theorem dX9_readsItem_52 : decode cX9_readsItem 52 = .ok (.istore_n 2, 1) := by decide +kernel
theorem dX9_readsItem_53 : decode cX9_readsItem 53 = .ok (.iload_n 2, 1) := by decide +kernel
theorem dX9_readsItem_54 : decode cX9_readsItem 54 = .ok (.ifCond .ge 7, 3) := by decide +kernel
theorem dX9_readsItem_57 : decode cX9_readsItem 57 = .ok (.iconst (-1), 1) := by decide +kernel
theorem dX9_readsItem_58 : decode cX9_readsItem 58 = .ok (.goto 11, 3) := by decide +kernel
theorem dX9_readsItem_61 : decode cX9_readsItem 61 = .ok (.aload_n 0, 1) := by decide +kernel
theorem dX9_readsItem_62 : decode cX9_readsItem 62 = .ok (.iconst 0, 1) := by decide +kernel
theorem dX9_readsItem_63 : decode cX9_readsItem 63 = .ok (.iconst 5, 1) := by decide +kernel
theorem dX9_readsItem_64 : decode cX9_readsItem 64 = .ok (.bipush 44, 2) := by decide +kernel
theorem dX9_readsItem_66 : decode cX9_readsItem 66 = .ok (.invokevirtual 88, 3) := by decide +kernel
theorem dX9_readsItem_69 : decode cX9_readsItem 69 = .ok (.istore_n 3, 1) := by decide +kernel
theorem dX9_readsItem_70 : decode cX9_readsItem 70 = .ok (.iload_n 3, 1) := by decide +kernel
theorem dX9_readsItem_71 : decode cX9_readsItem 71 = .ok (.ifCond .ge 7, 3) := by decide +kernel
theorem dX9_readsItem_74 : decode cX9_readsItem 74 = .ok (.iconst (-1), 1) := by decide +kernel
theorem dX9_readsItem_75 : decode cX9_readsItem 75 = .ok (.goto 12, 3) := by decide +kernel
theorem dX9_readsItem_78 : decode cX9_readsItem 78 = .ok (.aload_n 0, 1) := by decide +kernel
theorem dX9_readsItem_79 : decode cX9_readsItem 79 = .ok (.iconst 0, 1) := by decide +kernel
theorem dX9_readsItem_80 : decode cX9_readsItem 80 = .ok (.bipush 30, 2) := by decide +kernel
theorem dX9_readsItem_82 : decode cX9_readsItem 82 = .ok (.bipush 59, 2) := by decide +kernel
theorem dX9_readsItem_84 : decode cX9_readsItem 84 = .ok (.invokevirtual 88, 3) := by decide +kernel
theorem dX9_readsItem_87 : decode cX9_readsItem 87 = .ok (.istore 4, 2) := by decide +kernel
theorem dX9_readsItem_89 : decode cX9_readsItem 89 = .ok (.iload 4, 2) := by decide +kernel
theorem dX9_readsItem_91 : decode cX9_readsItem 91 = .ok (.ifCond .lt 14, 3) := by decide +kernel
theorem dX9_readsItem_94 : decode cX9_readsItem 94 = .ok (.aload_n 0, 1) := by decide +kernel
theorem dX9_readsItem_95 : decode cX9_readsItem 95 = .ok (.getfield 16, 3) := by decide +kernel
theorem dX9_readsItem_98 : decode cX9_readsItem 98 = .ok (.iconst 0, 1) := by decide +kernel
theorem dX9_readsItem_99 : decode cX9_readsItem 99 = .ok (.iaload, 1) := by decide +kernel
theorem dX9_readsItem_100 : decode cX9_readsItem 100 = .ok (.bipush 6, 2) := by decide +kernel
theorem dX9_readsItem_102 : decode cX9_readsItem 102 = .ok (.if_icmp .ne 5, 3) := by decide +kernel
theorem dX9_readsItem_105 : decode cX9_readsItem 105 = .ok (.iconst 0, 1) := by decide +kernel
theorem dX9_readsItem_106 : decode cX9_readsItem 106 = .ok (.ireturn, 1) := by decide +kernel
theorem dX9_readsItem_107 : decode cX9_readsItem 107 = .ok (.aload_n 0, 1) := by decide +kernel
theorem dX9_readsItem_108 : decode cX9_readsItem 108 = .ok (.iload_n 2, 1) := by decide +kernel
theorem dX9_readsItem_109 : decode cX9_readsItem 109 = .ok (.iload_n 3, 1) := by decide +kernel
theorem dX9_readsItem_110 : decode cX9_readsItem 110 = .ok (.iload 4, 2) := by decide +kernel
theorem dX9_readsItem_112 : decode cX9_readsItem 112 = .ok (.invokevirtual 49, 3) := by decide +kernel
theorem dX9_readsItem_115 : decode cX9_readsItem 115 = .ok (.iconst 1, 1) := by decide +kernel
theorem dX9_readsItem_116 : decode cX9_readsItem 116 = .ok (.ireturn, 1) := by decide +kernel
theorem dX9_readsItem_117 : decode cX9_readsItem 117 = .ok (.aload_n 0, 1) := by decide +kernel
theorem dX9_readsItem_118 : decode cX9_readsItem 118 = .ok (.iconst 0, 1) := by decide +kernel
theorem dX9_readsItem_119 : decode cX9_readsItem 119 = .ok (.bipush 20, 2) := by decide +kernel
theorem dX9_readsItem_121 : decode cX9_readsItem 121 = .ok (.bipush 44, 2) := by decide +kernel
theorem dX9_readsItem_123 : decode cX9_readsItem 123 = .ok (.invokevirtual 88, 3) := by decide +kernel
theorem dX9_readsItem_126 : decode cX9_readsItem 126 = .ok (.istore_n 2, 1) := by decide +kernel
theorem dX9_readsItem_127 : decode cX9_readsItem 127 = .ok (.iload_n 2, 1) := by decide +kernel
theorem dX9_readsItem_128 : decode cX9_readsItem 128 = .ok (.ifCond .ge 7, 3) := by decide +kernel
theorem dX9_readsItem_131 : decode cX9_readsItem 131 = .ok (.iconst (-1), 1) := by decide +kernel
theorem dX9_readsItem_132 : decode cX9_readsItem 132 = .ok (.goto 12, 3) := by decide +kernel
theorem dX9_readsItem_135 : decode cX9_readsItem 135 = .ok (.aload_n 0, 1) := by decide +kernel
theorem dX9_readsItem_136 : decode cX9_readsItem 136 = .ok (.iconst 0, 1) := by decide +kernel
theorem dX9_readsItem_137 : decode cX9_readsItem 137 = .ok (.bipush 9, 2) := by decide +kernel
theorem dX9_readsItem_139 : decode cX9_readsItem 139 = .ok (.bipush 59, 2) := by decide +kernel
theorem dX9_readsItem_141 : decode cX9_readsItem 141 = .ok (.invokevirtual 88, 3) := by decide +kernel
theorem dX9_readsItem_144 : decode cX9_readsItem 144 = .ok (.istore_n 3, 1) := by decide +kernel
theorem dX9_readsItem_145 : decode cX9_readsItem 145 = .ok (.iload_n 3, 1) := by decide +kernel
theorem dX9_readsItem_146 : decode cX9_readsItem 146 = .ok (.ifCond .lt 14, 3) := by decide +kernel
theorem dX9_readsItem_149 : decode cX9_readsItem 149 = .ok (.aload_n 0, 1) := by decide +kernel
theorem dX9_readsItem_150 : decode cX9_readsItem 150 = .ok (.getfield 16, 3) := by decide +kernel
theorem dX9_readsItem_153 : decode cX9_readsItem 153 = .ok (.iconst 1, 1) := by decide +kernel
theorem dX9_readsItem_154 : decode cX9_readsItem 154 = .ok (.iaload, 1) := by decide +kernel
theorem dX9_readsItem_155 : decode cX9_readsItem 155 = .ok (.bipush 8, 2) := by decide +kernel
theorem dX9_readsItem_157 : decode cX9_readsItem 157 = .ok (.if_icmp .ne 5, 3) := by decide +kernel
theorem dX9_readsItem_160 : decode cX9_readsItem 160 = .ok (.iconst 0, 1) := by decide +kernel
theorem dX9_readsItem_161 : decode cX9_readsItem 161 = .ok (.ireturn, 1) := by decide +kernel
theorem dX9_readsItem_162 : decode cX9_readsItem 162 = .ok (.aload_n 0, 1) := by decide +kernel
theorem dX9_readsItem_163 : decode cX9_readsItem 163 = .ok (.iload_n 2, 1) := by decide +kernel
theorem dX9_readsItem_164 : decode cX9_readsItem 164 = .ok (.iload_n 3, 1) := by decide +kernel
theorem dX9_readsItem_165 : decode cX9_readsItem 165 = .ok (.invokevirtual 53, 3) := by decide +kernel
theorem dX9_readsItem_168 : decode cX9_readsItem 168 = .ok (.iconst 1, 1) := by decide +kernel
theorem dX9_readsItem_169 : decode cX9_readsItem 169 = .ok (.ireturn, 1) := by decide +kernel
theorem dX9_readsItem_170 : decode cX9_readsItem 170 = .ok (.aload_n 0, 1) := by decide +kernel
theorem dX9_readsItem_171 : decode cX9_readsItem 171 = .ok (.iconst 0, 1) := by decide +kernel
theorem dX9_readsItem_172 : decode cX9_readsItem 172 = .ok (.aload_n 0, 1) := by decide +kernel
theorem dX9_readsItem_173 : decode cX9_readsItem 173 = .ok (.getfield 16, 3) := by decide +kernel
theorem dX9_readsItem_176 : decode cX9_readsItem 176 = .ok (.iconst 0, 1) := by decide +kernel
theorem dX9_readsItem_177 : decode cX9_readsItem 177 = .ok (.iaload, 1) := by decide +kernel
theorem dX9_readsItem_178 : decode cX9_readsItem 178 = .ok (.iconst 1, 1) := by decide +kernel
theorem dX9_readsItem_179 : decode cX9_readsItem 179 = .ok (.isub, 1) := by decide +kernel
theorem dX9_readsItem_180 : decode cX9_readsItem 180 = .ok (.bipush 44, 2) := by decide +kernel
theorem dX9_readsItem_182 : decode cX9_readsItem 182 = .ok (.invokevirtual 88, 3) := by decide +kernel
theorem dX9_readsItem_185 : decode cX9_readsItem 185 = .ok (.istore_n 2, 1) := by decide +kernel
theorem dX9_readsItem_186 : decode cX9_readsItem 186 = .ok (.iload_n 2, 1) := by decide +kernel
theorem dX9_readsItem_187 : decode cX9_readsItem 187 = .ok (.ifCond .ge 7, 3) := by decide +kernel
theorem dX9_readsItem_190 : decode cX9_readsItem 190 = .ok (.iconst (-1), 1) := by decide +kernel
theorem dX9_readsItem_191 : decode cX9_readsItem 191 = .ok (.goto 18, 3) := by decide +kernel
theorem dX9_readsItem_194 : decode cX9_readsItem 194 = .ok (.aload_n 0, 1) := by decide +kernel
theorem dX9_readsItem_195 : decode cX9_readsItem 195 = .ok (.iconst 0, 1) := by decide +kernel
theorem dX9_readsItem_196 : decode cX9_readsItem 196 = .ok (.aload_n 0, 1) := by decide +kernel
theorem dX9_readsItem_197 : decode cX9_readsItem 197 = .ok (.getfield 16, 3) := by decide +kernel
theorem dX9_readsItem_200 : decode cX9_readsItem 200 = .ok (.iconst 0, 1) := by decide +kernel
theorem dX9_readsItem_201 : decode cX9_readsItem 201 = .ok (.iaload, 1) := by decide +kernel
theorem dX9_readsItem_202 : decode cX9_readsItem 202 = .ok (.iconst 1, 1) := by decide +kernel
theorem dX9_readsItem_203 : decode cX9_readsItem 203 = .ok (.isub, 1) := by decide +kernel
theorem dX9_readsItem_204 : decode cX9_readsItem 204 = .ok (.bipush 44, 2) := by decide +kernel
theorem dX9_readsItem_206 : decode cX9_readsItem 206 = .ok (.invokevirtual 88, 3) := by decide +kernel
theorem dX9_readsItem_209 : decode cX9_readsItem 209 = .ok (.istore_n 3, 1) := by decide +kernel
theorem dX9_readsItem_210 : decode cX9_readsItem 210 = .ok (.iload_n 3, 1) := by decide +kernel
theorem dX9_readsItem_211 : decode cX9_readsItem 211 = .ok (.ifCond .ge 7, 3) := by decide +kernel
theorem dX9_readsItem_214 : decode cX9_readsItem 214 = .ok (.iconst (-1), 1) := by decide +kernel
theorem dX9_readsItem_215 : decode cX9_readsItem 215 = .ok (.goto 18, 3) := by decide +kernel
theorem dX9_readsItem_218 : decode cX9_readsItem 218 = .ok (.aload_n 0, 1) := by decide +kernel
theorem dX9_readsItem_219 : decode cX9_readsItem 219 = .ok (.iconst 0, 1) := by decide +kernel
theorem dX9_readsItem_220 : decode cX9_readsItem 220 = .ok (.aload_n 0, 1) := by decide +kernel
theorem dX9_readsItem_221 : decode cX9_readsItem 221 = .ok (.getfield 16, 3) := by decide +kernel
theorem dX9_readsItem_224 : decode cX9_readsItem 224 = .ok (.iconst 1, 1) := by decide +kernel
theorem dX9_readsItem_225 : decode cX9_readsItem 225 = .ok (.iaload, 1) := by decide +kernel
theorem dX9_readsItem_226 : decode cX9_readsItem 226 = .ok (.iconst 1, 1) := by decide +kernel
theorem dX9_readsItem_227 : decode cX9_readsItem 227 = .ok (.isub, 1) := by decide +kernel
theorem dX9_readsItem_228 : decode cX9_readsItem 228 = .ok (.bipush 59, 2) := by decide +kernel
theorem dX9_readsItem_230 : decode cX9_readsItem 230 = .ok (.invokevirtual 88, 3) := by decide +kernel
theorem dX9_readsItem_233 : decode cX9_readsItem 233 = .ok (.istore 4, 2) := by decide +kernel
theorem dX9_readsItem_235 : decode cX9_readsItem 235 = .ok (.iload 4, 2) := by decide +kernel
theorem dX9_readsItem_237 : decode cX9_readsItem 237 = .ok (.ifCond .lt 8, 3) := by decide +kernel
theorem dX9_readsItem_240 : decode cX9_readsItem 240 = .ok (.iload_n 2, 1) := by decide +kernel
theorem dX9_readsItem_241 : decode cX9_readsItem 241 = .ok (.iload_n 3, 1) := by decide +kernel
theorem dX9_readsItem_242 : decode cX9_readsItem 242 = .ok (.if_icmp .ne 5, 3) := by decide +kernel
theorem dX9_readsItem_245 : decode cX9_readsItem 245 = .ok (.iconst 0, 1) := by decide +kernel
theorem dX9_readsItem_246 : decode cX9_readsItem 246 = .ok (.ireturn, 1) := by decide +kernel
theorem dX9_readsItem_247 : decode cX9_readsItem 247 = .ok (.aload_n 0, 1) := by decide +kernel
theorem dX9_readsItem_248 : decode cX9_readsItem 248 = .ok (.iload_n 2, 1) := by decide +kernel
theorem dX9_readsItem_249 : decode cX9_readsItem 249 = .ok (.iload_n 3, 1) := by decide +kernel
theorem dX9_readsItem_250 : decode cX9_readsItem 250 = .ok (.iload 4, 2) := by decide +kernel
theorem dX9_readsItem_252 : decode cX9_readsItem 252 = .ok (.invokevirtual 57, 3) := by decide +kernel
theorem dX9_readsItem_255 : decode cX9_readsItem 255 = .ok (.aload_n 0, 1) := by decide +kernel
theorem dX9_readsItem_256 : decode cX9_readsItem 256 = .ok (.getfield 85, 3) := by decide +kernel
theorem dX9_readsItem_259 : decode cX9_readsItem 259 = .ok (.bipush 12, 2) := by decide +kernel
theorem dX9_readsItem_261 : decode cX9_readsItem 261 = .ok (.if_icmp .gt 7, 3) := by decide +kernel
theorem dX9_readsItem_264 : decode cX9_readsItem 264 = .ok (.iconst 1, 1) := by decide +kernel
theorem dX9_readsItem_265 : decode cX9_readsItem 265 = .ok (.goto 4, 3) := by decide +kernel
theorem dX9_readsItem_268 : decode cX9_readsItem 268 = .ok (.iconst 0, 1) := by decide +kernel
theorem dX9_readsItem_269 : decode cX9_readsItem 269 = .ok (.ireturn, 1) := by decide +kernel
theorem dX9_readsItem_270 : decode cX9_readsItem 270 = .ok (.aload_n 0, 1) := by decide +kernel
theorem dX9_readsItem_271 : decode cX9_readsItem 271 = .ok (.getfield 16, 3) := by decide +kernel
theorem dX9_readsItem_274 : decode cX9_readsItem 274 = .ok (.iconst 2, 1) := by decide +kernel
theorem dX9_readsItem_275 : decode cX9_readsItem 275 = .ok (.aload_n 0, 1) := by decide +kernel
theorem dX9_readsItem_276 : decode cX9_readsItem 276 = .ok (.iconst 1, 1) := by decide +kernel
theorem dX9_readsItem_277 : decode cX9_readsItem 277 = .ok (.bipush 20, 2) := by decide +kernel
theorem dX9_readsItem_279 : decode cX9_readsItem 279 = .ok (.bipush 59, 2) := by decide +kernel
theorem dX9_readsItem_281 : decode cX9_readsItem 281 = .ok (.invokevirtual 88, 3) := by decide +kernel
theorem dX9_readsItem_284 : decode cX9_readsItem 284 = .ok (.iastore, 1) := by decide +kernel
theorem dX9_readsItem_285 : decode cX9_readsItem 285 = .ok (.aload_n 0, 1) := by decide +kernel
theorem dX9_readsItem_286 : decode cX9_readsItem 286 = .ok (.getfield 16, 3) := by decide +kernel
theorem dX9_readsItem_289 : decode cX9_readsItem 289 = .ok (.iconst 2, 1) := by decide +kernel
theorem dX9_readsItem_290 : decode cX9_readsItem 290 = .ok (.iaload, 1) := by decide +kernel
theorem dX9_readsItem_291 : decode cX9_readsItem 291 = .ok (.ifCond .le 7, 3) := by decide +kernel
theorem dX9_readsItem_294 : decode cX9_readsItem 294 = .ok (.iconst 1, 1) := by decide +kernel
theorem dX9_readsItem_295 : decode cX9_readsItem 295 = .ok (.goto 4, 3) := by decide +kernel
theorem dX9_readsItem_298 : decode cX9_readsItem 298 = .ok (.iconst 0, 1) := by decide +kernel
theorem dX9_readsItem_299 : decode cX9_readsItem 299 = .ok (.ireturn, 1) := by decide +kernel
theorem dX9_readsItem_300 : decode cX9_readsItem 300 = .ok (.iconst 0, 1) := by decide +kernel
theorem dX9_readsItem_301 : decode cX9_readsItem 301 = .ok (.ireturn, 1) := by decide +kernel
set_option maxRecDepth 20000 in
theorem ggX9_readsAll_X9_begins : GoodIn wsX9_readsAll wsX9_begins := goodIn_r _ [8, 9, 10, 11, 42, 43, 44, 45, 46, 47, 48, 49, 50, 51, 52, 53, 54, 55, 56, 57, 58, 59, 60] (by decide +kernel) (by decide +kernel)
set_option maxRecDepth 20000 in
theorem gX9_readsAll_X9_begins : GoodIn wsX9_readsAll (wsV RX9 46 RX9 yX9_begins wsX9_begins) := goodIn_app (goodIn_of _ (by decide +kernel)) ggX9_readsAll_X9_begins
set_option maxRecDepth 20000 in
theorem ggX9_readsAll_X9_readsItem : GoodIn wsX9_readsAll wsX9_readsItem := goodIn_r _ [15, 9, 11, 16, 17, 18, 7, 19, 1, 20, 21, 22, 23, 2, 3, 24, 25, 26, 27, 28, 29, 30, 31, 32, 33, 34, 35, 36, 37, 38, 39, 40, 41, 10, 42, 43, 44, 45, 46, 47, 48, 49, 50, 51, 52, 53, 54, 55, 56, 57, 58, 59, 60] (by decide +kernel) (by decide +kernel)
set_option maxRecDepth 20000 in
theorem gX9_readsAll_X9_readsItem : GoodIn wsX9_readsAll (wsV RX9 92 RX9 yX9_readsItem wsX9_readsItem) := goodIn_app (goodIn_of _ (by decide +kernel)) ggX9_readsAll_X9_readsItem
theorem dX9_readsAll_0 : decode cX9_readsAll 0 = .ok (.aload_n 0, 1) := by decide +kernel
theorem dX9_readsAll_1 : decode cX9_readsAll 1 = .ok (.invokevirtual 46, 3) := by decide +kernel
theorem dX9_readsAll_4 : decode cX9_readsAll 4 = .ok (.aload_n 0, 1) := by decide +kernel
theorem dX9_readsAll_5 : decode cX9_readsAll 5 = .ok (.iconst 0, 1) := by decide +kernel
theorem dX9_readsAll_6 : decode cX9_readsAll 6 = .ok (.putfield 75, 3) := by decide +kernel
theorem dX9_readsAll_9 : decode cX9_readsAll 9 = .ok (.aload_n 0, 1) := by decide +kernel
theorem dX9_readsAll_10 : decode cX9_readsAll 10 = .ok (.getfield 75, 3) := by decide +kernel
theorem dX9_readsAll_13 : decode cX9_readsAll 13 = .ok (.aload_n 0, 1) := by decide +kernel
theorem dX9_readsAll_14 : decode cX9_readsAll 14 = .ok (.getfield 71, 3) := by decide +kernel
theorem dX9_readsAll_17 : decode cX9_readsAll 17 = .ok (.if_icmp .ge 36, 3) := by decide +kernel
theorem dX9_readsAll_20 : decode cX9_readsAll 20 = .ok (.aload_n 0, 1) := by decide +kernel
theorem dX9_readsAll_21 : decode cX9_readsAll 21 = .ok (.getfield 75, 3) := by decide +kernel
theorem dX9_readsAll_24 : decode cX9_readsAll 24 = .ok (.istore_n 1, 1) := by decide +kernel
theorem dX9_readsAll_25 : decode cX9_readsAll 25 = .ok (.aload_n 0, 1) := by decide +kernel
theorem dX9_readsAll_26 : decode cX9_readsAll 26 = .ok (.dup, 1) := by decide +kernel
theorem dX9_readsAll_27 : decode cX9_readsAll 27 = .ok (.getfield 75, 3) := by decide +kernel
theorem dX9_readsAll_30 : decode cX9_readsAll 30 = .ok (.iconst 1, 1) := by decide +kernel
theorem dX9_readsAll_31 : decode cX9_readsAll 31 = .ok (.iadd, 1) := by decide +kernel
theorem dX9_readsAll_32 : decode cX9_readsAll 32 = .ok (.putfield 75, 3) := by decide +kernel
theorem dX9_readsAll_35 : decode cX9_readsAll 35 = .ok (.aload_n 0, 1) := by decide +kernel
theorem dX9_readsAll_36 : decode cX9_readsAll 36 = .ok (.aload_n 0, 1) := by decide +kernel
theorem dX9_readsAll_37 : decode cX9_readsAll 37 = .ok (.getfield 7, 3) := by decide +kernel
theorem dX9_readsAll_40 : decode cX9_readsAll 40 = .ok (.iload_n 1, 1) := by decide +kernel
theorem dX9_readsAll_41 : decode cX9_readsAll 41 = .ok (.iaload, 1) := by decide +kernel
theorem dX9_readsAll_42 : decode cX9_readsAll 42 = .ok (.invokevirtual 92, 3) := by decide +kernel
theorem dX9_readsAll_45 : decode cX9_readsAll 45 = .ok (.ifCond .ne 5, 3) := by decide +kernel
theorem dX9_readsAll_48 : decode cX9_readsAll 48 = .ok (.iload_n 1, 1) := by decide +kernel
theorem dX9_readsAll_49 : decode cX9_readsAll 49 = .ok (.ireturn, 1) := by decide +kernel
theorem dX9_readsAll_50 : decode cX9_readsAll 50 = .ok (.goto (-41), 3) := by decide +kernel
theorem dX9_readsAll_53 : decode cX9_readsAll 53 = .ok (.bipush (-4), 2) := by decide +kernel
theorem dX9_readsAll_55 : decode cX9_readsAll 55 = .ok (.ireturn, 1) := by decide +kernel
set_option maxRecDepth 20000 in
theorem ggX9_fault_X9_readsAll : GoodIn wsX9_fault wsX9_readsAll := goodIn_r _ [5, 6, 7, 8, 9, 10, 11, 4, 12, 13, 14, 15, 16, 17, 18, 19, 20, 21, 22, 23, 24, 25, 26, 27, 28, 29, 30, 31, 32, 33, 34, 35, 36, 37, 38, 39, 40, 41, 42, 43, 44, 45, 46, 47, 48, 49, 50, 51, 52, 53, 54, 55, 56, 57, 58, 59, 60, 61, 62, 63, 64] (by decide +kernel) (by decide +kernel)
set_option maxRecDepth 20000 in
theorem gX9_fault_X9_readsAll : GoodIn wsX9_fault (wsV RX9 95 RX9 yX9_readsAll wsX9_readsAll) := goodIn_app (goodIn_of _ (by decide +kernel)) ggX9_fault_X9_readsAll
theorem dX9_fault_0 : decode cX9_fault 0 = .ok (.aload_n 0, 1) := by decide +kernel
theorem dX9_fault_1 : decode cX9_fault 1 = .ok (.invokevirtual 95, 3) := by decide +kernel
theorem dX9_fault_4 : decode cX9_fault 4 = .ok (.ireturn, 1) := by decide +kernel
set_option maxRecDepth 20000 in
theorem ggX9_lays_X9_in : GoodIn wsX9_lays wsX9_in := goodIn_r _ [11] (by decide +kernel) (by decide +kernel)
set_option maxRecDepth 20000 in
theorem gX9_lays_X9_in : GoodIn wsX9_lays (va_wsS RX9 63 yX9_in wsX9_in) := goodIn_app (goodIn_of _ (by decide +kernel)) ggX9_lays_X9_in
theorem dX9_lays_0 : decode cX9_lays 0 = .ok (.iconst 0, 1) := by decide +kernel
theorem dX9_lays_1 : decode cX9_lays 1 = .ok (.istore_n 1, 1) := by decide +kernel
theorem dX9_lays_2 : decode cX9_lays 2 = .ok (.iload_n 1, 1) := by decide +kernel
theorem dX9_lays_3 : decode cX9_lays 3 = .ok (.bipush 37, 2) := by decide +kernel
theorem dX9_lays_5 : decode cX9_lays 5 = .ok (.if_icmp .ge 21, 3) := by decide +kernel
theorem dX9_lays_8 : decode cX9_lays 8 = .ok (.aload_n 0, 1) := by decide +kernel
theorem dX9_lays_9 : decode cX9_lays 9 = .ok (.getfield 13, 3) := by decide +kernel
theorem dX9_lays_12 : decode cX9_lays 12 = .ok (.iload_n 1, 1) := by decide +kernel
theorem dX9_lays_13 : decode cX9_lays 13 = .ok (.aload_n 0, 1) := by decide +kernel
theorem dX9_lays_14 : decode cX9_lays 14 = .ok (.getfield 16, 3) := by decide +kernel
theorem dX9_lays_17 : decode cX9_lays 17 = .ok (.iload_n 1, 1) := by decide +kernel
theorem dX9_lays_18 : decode cX9_lays 18 = .ok (.iaload, 1) := by decide +kernel
theorem dX9_lays_19 : decode cX9_lays 19 = .ok (.iastore, 1) := by decide +kernel
theorem dX9_lays_20 : decode cX9_lays 20 = .ok (.iinc 1 1, 3) := by decide +kernel
theorem dX9_lays_23 : decode cX9_lays 23 = .ok (.goto (-21), 3) := by decide +kernel
theorem dX9_lays_26 : decode cX9_lays 26 = .ok (.iconst 0, 1) := by decide +kernel
theorem dX9_lays_27 : decode cX9_lays 27 = .ok (.istore_n 1, 1) := by decide +kernel
theorem dX9_lays_28 : decode cX9_lays 28 = .ok (.iload_n 1, 1) := by decide +kernel
theorem dX9_lays_29 : decode cX9_lays 29 = .ok (.bipush 86, 2) := by decide +kernel
theorem dX9_lays_31 : decode cX9_lays 31 = .ok (.if_icmp .ge 39, 3) := by decide +kernel
theorem dX9_lays_34 : decode cX9_lays 34 = .ok (.aload_n 0, 1) := by decide +kernel
theorem dX9_lays_35 : decode cX9_lays 35 = .ok (.getfield 22, 3) := by decide +kernel
theorem dX9_lays_38 : decode cX9_lays 38 = .ok (.iload_n 1, 1) := by decide +kernel
theorem dX9_lays_39 : decode cX9_lays 39 = .ok (.iload_n 1, 1) := by decide +kernel
theorem dX9_lays_40 : decode cX9_lays 40 = .ok (.bipush 48, 2) := by decide +kernel
theorem dX9_lays_42 : decode cX9_lays 42 = .ok (.bipush 83, 2) := by decide +kernel
theorem dX9_lays_44 : decode cX9_lays 44 = .ok (.invokestatic 63, 3) := by decide +kernel
theorem dX9_lays_47 : decode cX9_lays 47 = .ok (.ifCond .eq 15, 3) := by decide +kernel
theorem dX9_lays_50 : decode cX9_lays 50 = .ok (.aload_n 0, 1) := by decide +kernel
theorem dX9_lays_51 : decode cX9_lays 51 = .ok (.getfield 19, 3) := by decide +kernel
theorem dX9_lays_54 : decode cX9_lays 54 = .ok (.iload_n 1, 1) := by decide +kernel
theorem dX9_lays_55 : decode cX9_lays 55 = .ok (.bipush 48, 2) := by decide +kernel
theorem dX9_lays_57 : decode cX9_lays 57 = .ok (.isub, 1) := by decide +kernel
theorem dX9_lays_58 : decode cX9_lays 58 = .ok (.iaload, 1) := by decide +kernel
theorem dX9_lays_59 : decode cX9_lays 59 = .ok (.goto 4, 3) := by decide +kernel
theorem dX9_lays_62 : decode cX9_lays 62 = .ok (.iconst 0, 1) := by decide +kernel
theorem dX9_lays_63 : decode cX9_lays 63 = .ok (.iastore, 1) := by decide +kernel
theorem dX9_lays_64 : decode cX9_lays 64 = .ok (.iinc 1 1, 3) := by decide +kernel
theorem dX9_lays_67 : decode cX9_lays 67 = .ok (.goto (-39), 3) := by decide +kernel
theorem dX9_lays_70 : decode cX9_lays 70 = .ok (.aload_n 0, 1) := by decide +kernel
theorem dX9_lays_71 : decode cX9_lays 71 = .ok (.iconst 0, 1) := by decide +kernel
theorem dX9_lays_72 : decode cX9_lays 72 = .ok (.putfield 99, 3) := by decide +kernel
theorem dX9_lays_75 : decode cX9_lays 75 = .ok (.aload_n 0, 1) := by decide +kernel
theorem dX9_lays_76 : decode cX9_lays 76 = .ok (.iconst 0, 1) := by decide +kernel
theorem dX9_lays_77 : decode cX9_lays 77 = .ok (.putfield 102, 3) := by decide +kernel
theorem dX9_lays_80 : decode cX9_lays 80 = .ok (.aload_n 0, 1) := by decide +kernel
theorem dX9_lays_81 : decode cX9_lays 81 = .ok (.iconst 0, 1) := by decide +kernel
theorem dX9_lays_82 : decode cX9_lays 82 = .ok (.putfield 105, 3) := by decide +kernel
theorem dX9_lays_85 : decode cX9_lays 85 = .ok (.return_, 1) := by decide +kernel
set_option maxRecDepth 20000 in
theorem ggX9_lay_X9_readsAll : GoodIn wsX9_lay wsX9_readsAll := goodIn_r _ [7, 8, 9, 10, 11, 12, 13, 6, 14, 1, 15, 16, 17, 18, 19, 20, 21, 22, 23, 24, 25, 26, 27, 28, 29, 30, 31, 32, 33, 34, 35, 36, 37, 38, 39, 40, 41, 42, 43, 44, 45, 46, 55, 56, 57, 58, 59, 60, 61, 62, 63, 64, 65, 66, 67, 68, 69, 70, 71, 72, 73] (by decide +kernel) (by decide +kernel)
set_option maxRecDepth 20000 in
theorem gX9_lay_X9_readsAll : GoodIn wsX9_lay (wsV RX9 95 RX9 yX9_readsAll wsX9_readsAll) := goodIn_app (goodIn_of _ (by decide +kernel)) ggX9_lay_X9_readsAll
set_option maxRecDepth 20000 in
theorem ggX9_lay_X9_lays : GoodIn wsX9_lay wsX9_lays := goodIn_r _ [50, 2, 1, 51, 15, 52, 53, 54, 32, 33, 6, 34, 55, 56, 57, 58, 59, 60, 61, 62, 63, 64, 65, 66, 67, 68, 69, 70, 71, 72, 73] (by decide +kernel) (by decide +kernel)
